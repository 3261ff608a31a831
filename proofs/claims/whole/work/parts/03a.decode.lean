theorem dX0_init_0 : decode cX0_init 0 = .ok (.aload_n 0, 1) := by decide +kernel
theorem dX0_init_1 : decode cX0_init 1 = .ok (.invokespecial 3, 3) := by decide +kernel
theorem dX0_init_4 : decode cX0_init 4 = .ok (.aload_n 0, 1) := by decide +kernel
theorem dX0_init_5 : decode cX0_init 5 = .ok (.bipush 6, 2) := by decide +kernel
theorem dX0_init_7 : decode cX0_init 7 = .ok (.newarray .int, 2) := by decide +kernel
theorem dX0_init_9 : decode cX0_init 9 = .ok (.putfield 9, 3) := by decide +kernel
theorem dX0_init_12 : decode cX0_init 12 = .ok (.aload_n 0, 1) := by decide +kernel
theorem dX0_init_13 : decode cX0_init 13 = .ok (.bipush 6, 2) := by decide +kernel
theorem dX0_init_15 : decode cX0_init 15 = .ok (.newarray .int, 2) := by decide +kernel
theorem dX0_init_17 : decode cX0_init 17 = .ok (.putfield 15, 3) := by decide +kernel
theorem dX0_init_20 : decode cX0_init 20 = .ok (.aload_n 0, 1) := by decide +kernel
theorem dX0_init_21 : decode cX0_init 21 = .ok (.bipush 6, 2) := by decide +kernel
theorem dX0_init_23 : decode cX0_init 23 = .ok (.newarray .int, 2) := by decide +kernel
theorem dX0_init_25 : decode cX0_init 25 = .ok (.putfield 18, 3) := by decide +kernel
theorem dX0_init_28 : decode cX0_init 28 = .ok (.aload_n 0, 1) := by decide +kernel
theorem dX0_init_29 : decode cX0_init 29 = .ok (.iconst 4, 1) := by decide +kernel
theorem dX0_init_30 : decode cX0_init 30 = .ok (.newarray .int, 2) := by decide +kernel
theorem dX0_init_32 : decode cX0_init 32 = .ok (.putfield 21, 3) := by decide +kernel
theorem dX0_init_35 : decode cX0_init 35 = .ok (.aload_n 0, 1) := by decide +kernel
theorem dX0_init_36 : decode cX0_init 36 = .ok (.bipush 6, 2) := by decide +kernel
theorem dX0_init_38 : decode cX0_init 38 = .ok (.newarray .int, 2) := by decide +kernel
theorem dX0_init_40 : decode cX0_init 40 = .ok (.putfield 24, 3) := by decide +kernel
theorem dX0_init_43 : decode cX0_init 43 = .ok (.aload_n 0, 1) := by decide +kernel
theorem dX0_init_44 : decode cX0_init 44 = .ok (.iconst 0, 1) := by decide +kernel
theorem dX0_init_45 : decode cX0_init 45 = .ok (.putfield 27, 3) := by decide +kernel
theorem dX0_init_48 : decode cX0_init 48 = .ok (.aload_n 0, 1) := by decide +kernel
theorem dX0_init_49 : decode cX0_init 49 = .ok (.iconst 0, 1) := by decide +kernel
theorem dX0_init_50 : decode cX0_init 50 = .ok (.putfield 31, 3) := by decide +kernel
theorem dX0_init_53 : decode cX0_init 53 = .ok (.aload_n 0, 1) := by decide +kernel
theorem dX0_init_54 : decode cX0_init 54 = .ok (.iconst 0, 1) := by decide +kernel
theorem dX0_init_55 : decode cX0_init 55 = .ok (.putfield 34, 3) := by decide +kernel
theorem dX0_init_58 : decode cX0_init 58 = .ok (.return_, 1) := by decide +kernel
theorem dX0_begin_0 : decode cX0_begin 0 = .ok (.aload_n 0, 1) := by decide +kernel
theorem dX0_begin_1 : decode cX0_begin 1 = .ok (.aload_n 1, 1) := by decide +kernel
theorem dX0_begin_2 : decode cX0_begin 2 = .ok (.getfield 38, 3) := by decide +kernel
theorem dX0_begin_5 : decode cX0_begin 5 = .ok (.putfield 27, 3) := by decide +kernel
theorem dX0_begin_8 : decode cX0_begin 8 = .ok (.aload_n 0, 1) := by decide +kernel
theorem dX0_begin_9 : decode cX0_begin 9 = .ok (.iconst 0, 1) := by decide +kernel
theorem dX0_begin_10 : decode cX0_begin 10 = .ok (.putfield 31, 3) := by decide +kernel
theorem dX0_begin_13 : decode cX0_begin 13 = .ok (.aload_n 0, 1) := by decide +kernel
theorem dX0_begin_14 : decode cX0_begin 14 = .ok (.iconst 0, 1) := by decide +kernel
theorem dX0_begin_15 : decode cX0_begin 15 = .ok (.putfield 34, 3) := by decide +kernel
theorem dX0_begin_18 : decode cX0_begin 18 = .ok (.iconst 0, 1) := by decide +kernel
theorem dX0_begin_19 : decode cX0_begin 19 = .ok (.istore_n 2, 1) := by decide +kernel
theorem dX0_begin_20 : decode cX0_begin 20 = .ok (.iload_n 2, 1) := by decide +kernel
theorem dX0_begin_21 : decode cX0_begin 21 = .ok (.aload_n 0, 1) := by decide +kernel
theorem dX0_begin_22 : decode cX0_begin 22 = .ok (.getfield 27, 3) := by decide +kernel
theorem dX0_begin_25 : decode cX0_begin 25 = .ok (.if_icmp .ge 28, 3) := by decide +kernel
theorem dX0_begin_28 : decode cX0_begin 28 = .ok (.aload_n 0, 1) := by decide +kernel
theorem dX0_begin_29 : decode cX0_begin 29 = .ok (.getfield 9, 3) := by decide +kernel
theorem dX0_begin_32 : decode cX0_begin 32 = .ok (.iload_n 2, 1) := by decide +kernel
theorem dX0_begin_33 : decode cX0_begin 33 = .ok (.iconst 0, 1) := by decide +kernel
theorem dX0_begin_34 : decode cX0_begin 34 = .ok (.iastore, 1) := by decide +kernel
theorem dX0_begin_35 : decode cX0_begin 35 = .ok (.aload_n 0, 1) := by decide +kernel
theorem dX0_begin_36 : decode cX0_begin 36 = .ok (.getfield 15, 3) := by decide +kernel
theorem dX0_begin_39 : decode cX0_begin 39 = .ok (.iload_n 2, 1) := by decide +kernel
theorem dX0_begin_40 : decode cX0_begin 40 = .ok (.aload_n 1, 1) := by decide +kernel
theorem dX0_begin_41 : decode cX0_begin 41 = .ok (.getfield 41, 3) := by decide +kernel
theorem dX0_begin_44 : decode cX0_begin 44 = .ok (.iload_n 2, 1) := by decide +kernel
theorem dX0_begin_45 : decode cX0_begin 45 = .ok (.iaload, 1) := by decide +kernel
theorem dX0_begin_46 : decode cX0_begin 46 = .ok (.iastore, 1) := by decide +kernel
theorem dX0_begin_47 : decode cX0_begin 47 = .ok (.iinc 2 1, 3) := by decide +kernel
theorem dX0_begin_50 : decode cX0_begin 50 = .ok (.goto (-30), 3) := by decide +kernel
theorem dX0_begin_53 : decode cX0_begin 53 = .ok (.return_, 1) := by decide +kernel
theorem dX0_takeTermsFrom_0 : decode cX0_takeTermsFrom 0 = .ok (.aload_n 0, 1) := by decide +kernel
theorem dX0_takeTermsFrom_1 : decode cX0_takeTermsFrom 1 = .ok (.aload_n 1, 1) := by decide +kernel
theorem dX0_takeTermsFrom_2 : decode cX0_takeTermsFrom 2 = .ok (.getfield 27, 3) := by decide +kernel
theorem dX0_takeTermsFrom_5 : decode cX0_takeTermsFrom 5 = .ok (.putfield 27, 3) := by decide +kernel
theorem dX0_takeTermsFrom_8 : decode cX0_takeTermsFrom 8 = .ok (.aload_n 0, 1) := by decide +kernel
theorem dX0_takeTermsFrom_9 : decode cX0_takeTermsFrom 9 = .ok (.aload_n 1, 1) := by decide +kernel
theorem dX0_takeTermsFrom_10 : decode cX0_takeTermsFrom 10 = .ok (.getfield 34, 3) := by decide +kernel
theorem dX0_takeTermsFrom_13 : decode cX0_takeTermsFrom 13 = .ok (.putfield 34, 3) := by decide +kernel
theorem dX0_takeTermsFrom_16 : decode cX0_takeTermsFrom 16 = .ok (.iconst 0, 1) := by decide +kernel
theorem dX0_takeTermsFrom_17 : decode cX0_takeTermsFrom 17 = .ok (.istore_n 2, 1) := by decide +kernel
theorem dX0_takeTermsFrom_18 : decode cX0_takeTermsFrom 18 = .ok (.iload_n 2, 1) := by decide +kernel
theorem dX0_takeTermsFrom_19 : decode cX0_takeTermsFrom 19 = .ok (.aload_n 0, 1) := by decide +kernel
theorem dX0_takeTermsFrom_20 : decode cX0_takeTermsFrom 20 = .ok (.getfield 27, 3) := by decide +kernel
theorem dX0_takeTermsFrom_23 : decode cX0_takeTermsFrom 23 = .ok (.if_icmp .ge 21, 3) := by decide +kernel
theorem dX0_takeTermsFrom_26 : decode cX0_takeTermsFrom 26 = .ok (.aload_n 0, 1) := by decide +kernel
theorem dX0_takeTermsFrom_27 : decode cX0_takeTermsFrom 27 = .ok (.getfield 15, 3) := by decide +kernel
theorem dX0_takeTermsFrom_30 : decode cX0_takeTermsFrom 30 = .ok (.iload_n 2, 1) := by decide +kernel
theorem dX0_takeTermsFrom_31 : decode cX0_takeTermsFrom 31 = .ok (.aload_n 1, 1) := by decide +kernel
theorem dX0_takeTermsFrom_32 : decode cX0_takeTermsFrom 32 = .ok (.getfield 15, 3) := by decide +kernel
theorem dX0_takeTermsFrom_35 : decode cX0_takeTermsFrom 35 = .ok (.iload_n 2, 1) := by decide +kernel
theorem dX0_takeTermsFrom_36 : decode cX0_takeTermsFrom 36 = .ok (.iaload, 1) := by decide +kernel
theorem dX0_takeTermsFrom_37 : decode cX0_takeTermsFrom 37 = .ok (.iastore, 1) := by decide +kernel
theorem dX0_takeTermsFrom_38 : decode cX0_takeTermsFrom 38 = .ok (.iinc 2 1, 3) := by decide +kernel
theorem dX0_takeTermsFrom_41 : decode cX0_takeTermsFrom 41 = .ok (.goto (-23), 3) := by decide +kernel
theorem dX0_takeTermsFrom_44 : decode cX0_takeTermsFrom 44 = .ok (.return_, 1) := by decide +kernel
theorem dX0_live_0 : decode cX0_live 0 = .ok (.iload_n 1, 1) := by decide +kernel
theorem dX0_live_1 : decode cX0_live 1 = .ok (.ifCond .ne 27, 3) := by decide +kernel
theorem dX0_live_4 : decode cX0_live 4 = .ok (.aload_n 0, 1) := by decide +kernel
theorem dX0_live_5 : decode cX0_live 5 = .ok (.dup, 1) := by decide +kernel
theorem dX0_live_6 : decode cX0_live 6 = .ok (.getfield 31, 3) := by decide +kernel
theorem dX0_live_9 : decode cX0_live 9 = .ok (.iconst 1, 1) := by decide +kernel
theorem dX0_live_10 : decode cX0_live 10 = .ok (.iadd, 1) := by decide +kernel
theorem dX0_live_11 : decode cX0_live 11 = .ok (.putfield 31, 3) := by decide +kernel
theorem dX0_live_14 : decode cX0_live 14 = .ok (.aload_n 0, 1) := by decide +kernel
theorem dX0_live_15 : decode cX0_live 15 = .ok (.iconst 0, 1) := by decide +kernel
theorem dX0_live_16 : decode cX0_live 16 = .ok (.putfield 34, 3) := by decide +kernel
theorem dX0_live_19 : decode cX0_live 19 = .ok (.aload_n 0, 1) := by decide +kernel
theorem dX0_live_20 : decode cX0_live 20 = .ok (.aload_n 3, 1) := by decide +kernel
theorem dX0_live_21 : decode cX0_live 21 = .ok (.iload_n 2, 1) := by decide +kernel
theorem dX0_live_22 : decode cX0_live 22 = .ok (.invokevirtual 42, 3) := by decide +kernel
theorem dX0_live_25 : decode cX0_live 25 = .ok (.goto 56, 3) := by decide +kernel
theorem dX0_live_28 : decode cX0_live 28 = .ok (.iload_n 1, 1) := by decide +kernel
theorem dX0_live_29 : decode cX0_live 29 = .ok (.iconst 1, 1) := by decide +kernel
theorem dX0_live_30 : decode cX0_live 30 = .ok (.if_icmp .ne 11, 3) := by decide +kernel
theorem dX0_live_33 : decode cX0_live 33 = .ok (.aload_n 0, 1) := by decide +kernel
theorem dX0_live_34 : decode cX0_live 34 = .ok (.iconst 1, 1) := by decide +kernel
theorem dX0_live_35 : decode cX0_live 35 = .ok (.putfield 34, 3) := by decide +kernel
theorem dX0_live_38 : decode cX0_live 38 = .ok (.goto 43, 3) := by decide +kernel
theorem dX0_live_41 : decode cX0_live 41 = .ok (.iload_n 2, 1) := by decide +kernel
theorem dX0_live_42 : decode cX0_live 42 = .ok (.bipush 6, 2) := by decide +kernel
theorem dX0_live_44 : decode cX0_live 44 = .ok (.idiv, 1) := by decide +kernel
theorem dX0_live_45 : decode cX0_live 45 = .ok (.istore 4, 2) := by decide +kernel
theorem dX0_live_47 : decode cX0_live 47 = .ok (.iload_n 2, 1) := by decide +kernel
theorem dX0_live_48 : decode cX0_live 48 = .ok (.bipush 6, 2) := by decide +kernel
theorem dX0_live_50 : decode cX0_live 50 = .ok (.irem, 1) := by decide +kernel
theorem dX0_live_51 : decode cX0_live 51 = .ok (.istore 5, 2) := by decide +kernel
theorem dX0_live_53 : decode cX0_live 53 = .ok (.aload_n 0, 1) := by decide +kernel
theorem dX0_live_54 : decode cX0_live 54 = .ok (.getfield 15, 3) := by decide +kernel
theorem dX0_live_57 : decode cX0_live 57 = .ok (.iload 4, 2) := by decide +kernel
theorem dX0_live_59 : decode cX0_live 59 = .ok (.dup2, 1) := by decide +kernel
theorem dX0_live_60 : decode cX0_live 60 = .ok (.iaload, 1) := by decide +kernel
theorem dX0_live_61 : decode cX0_live 61 = .ok (.iconst 1, 1) := by decide +kernel
theorem dX0_live_62 : decode cX0_live 62 = .ok (.iload 5, 2) := by decide +kernel
theorem dX0_live_64 : decode cX0_live 64 = .ok (.ishl, 1) := by decide +kernel
theorem dX0_live_65 : decode cX0_live 65 = .ok (.ior, 1) := by decide +kernel
theorem dX0_live_66 : decode cX0_live 66 = .ok (.iastore, 1) := by decide +kernel
theorem dX0_live_67 : decode cX0_live 67 = .ok (.aload_n 0, 1) := by decide +kernel
theorem dX0_live_68 : decode cX0_live 68 = .ok (.getfield 15, 3) := by decide +kernel
theorem dX0_live_71 : decode cX0_live 71 = .ok (.iload 5, 2) := by decide +kernel
theorem dX0_live_73 : decode cX0_live 73 = .ok (.dup2, 1) := by decide +kernel
theorem dX0_live_74 : decode cX0_live 74 = .ok (.iaload, 1) := by decide +kernel
theorem dX0_live_75 : decode cX0_live 75 = .ok (.iconst 1, 1) := by decide +kernel
theorem dX0_live_76 : decode cX0_live 76 = .ok (.iload 4, 2) := by decide +kernel
theorem dX0_live_78 : decode cX0_live 78 = .ok (.ishl, 1) := by decide +kernel
theorem dX0_live_79 : decode cX0_live 79 = .ok (.ior, 1) := by decide +kernel
theorem dX0_live_80 : decode cX0_live 80 = .ok (.iastore, 1) := by decide +kernel
theorem dX0_live_81 : decode cX0_live 81 = .ok (.return_, 1) := by decide +kernel
theorem dX0_dealOut_0 : decode cX0_dealOut 0 = .ok (.iconst 0, 1) := by decide +kernel
theorem dX0_dealOut_1 : decode cX0_dealOut 1 = .ok (.istore_n 3, 1) := by decide +kernel
theorem dX0_dealOut_2 : decode cX0_dealOut 2 = .ok (.iload_n 3, 1) := by decide +kernel
theorem dX0_dealOut_3 : decode cX0_dealOut 3 = .ok (.aload_n 1, 1) := by decide +kernel
theorem dX0_dealOut_4 : decode cX0_dealOut 4 = .ok (.getfield 38, 3) := by decide +kernel
theorem dX0_dealOut_7 : decode cX0_dealOut 7 = .ok (.if_icmp .ge 27, 3) := by decide +kernel
theorem dX0_dealOut_10 : decode cX0_dealOut 10 = .ok (.aload_n 0, 1) := by decide +kernel
theorem dX0_dealOut_11 : decode cX0_dealOut 11 = .ok (.getfield 9, 3) := by decide +kernel
theorem dX0_dealOut_14 : decode cX0_dealOut 14 = .ok (.iload_n 3, 1) := by decide +kernel
theorem dX0_dealOut_15 : decode cX0_dealOut 15 = .ok (.iload_n 2, 1) := by decide +kernel
theorem dX0_dealOut_16 : decode cX0_dealOut 16 = .ok (.iconst 2, 1) := by decide +kernel
theorem dX0_dealOut_17 : decode cX0_dealOut 17 = .ok (.aload_n 1, 1) := by decide +kernel
theorem dX0_dealOut_18 : decode cX0_dealOut 18 = .ok (.getfield 46, 3) := by decide +kernel
theorem dX0_dealOut_21 : decode cX0_dealOut 21 = .ok (.iload_n 3, 1) := by decide +kernel
theorem dX0_dealOut_22 : decode cX0_dealOut 22 = .ok (.iaload, 1) := by decide +kernel
theorem dX0_dealOut_23 : decode cX0_dealOut 23 = .ok (.imul, 1) := by decide +kernel
theorem dX0_dealOut_24 : decode cX0_dealOut 24 = .ok (.ishr, 1) := by decide +kernel
theorem dX0_dealOut_25 : decode cX0_dealOut 25 = .ok (.iconst 4, 1) := by decide +kernel
theorem dX0_dealOut_26 : decode cX0_dealOut 26 = .ok (.irem, 1) := by decide +kernel
theorem dX0_dealOut_27 : decode cX0_dealOut 27 = .ok (.iastore, 1) := by decide +kernel
theorem dX0_dealOut_28 : decode cX0_dealOut 28 = .ok (.iinc 3 1, 3) := by decide +kernel
theorem dX0_dealOut_31 : decode cX0_dealOut 31 = .ok (.goto (-29), 3) := by decide +kernel
theorem dX0_dealOut_34 : decode cX0_dealOut 34 = .ok (.return_, 1) := by decide +kernel
theorem dX0_thinkOf_0 : decode cX0_thinkOf 0 = .ok (.aload_n 0, 1) := by decide +kernel
theorem dX0_thinkOf_1 : decode cX0_thinkOf 1 = .ok (.aload_n 1, 1) := by decide +kernel
theorem dX0_thinkOf_2 : decode cX0_thinkOf 2 = .ok (.iload_n 2, 1) := by decide +kernel
theorem dX0_thinkOf_3 : decode cX0_thinkOf 3 = .ok (.invokevirtual 42, 3) := by decide +kernel
theorem dX0_thinkOf_6 : decode cX0_thinkOf 6 = .ok (.aload_n 0, 1) := by decide +kernel
theorem dX0_thinkOf_7 : decode cX0_thinkOf 7 = .ok (.aload_n 1, 1) := by decide +kernel
theorem dX0_thinkOf_8 : decode cX0_thinkOf 8 = .ok (.invokevirtual 49, 3) := by decide +kernel
theorem dX0_thinkOf_11 : decode cX0_thinkOf 11 = .ok (.return_, 1) := by decide +kernel
theorem dX0_settle_0 : decode cX0_settle 0 = .ok (.aload_n 0, 1) := by decide +kernel
theorem dX0_settle_1 : decode cX0_settle 1 = .ok (.aload_n 1, 1) := by decide +kernel
theorem dX0_settle_2 : decode cX0_settle 2 = .ok (.invokevirtual 53, 3) := by decide +kernel
theorem dX0_settle_5 : decode cX0_settle 5 = .ok (.iconst 0, 1) := by decide +kernel
theorem dX0_settle_6 : decode cX0_settle 6 = .ok (.istore_n 2, 1) := by decide +kernel
theorem dX0_settle_7 : decode cX0_settle 7 = .ok (.iload_n 2, 1) := by decide +kernel
theorem dX0_settle_8 : decode cX0_settle 8 = .ok (.aload_n 1, 1) := by decide +kernel
theorem dX0_settle_9 : decode cX0_settle 9 = .ok (.getfield 38, 3) := by decide +kernel
theorem dX0_settle_12 : decode cX0_settle 12 = .ok (.if_icmp .ge 51, 3) := by decide +kernel
theorem dX0_settle_15 : decode cX0_settle 15 = .ok (.aload_n 0, 1) := by decide +kernel
theorem dX0_settle_16 : decode cX0_settle 16 = .ok (.getfield 15, 3) := by decide +kernel
theorem dX0_settle_19 : decode cX0_settle 19 = .ok (.iload_n 2, 1) := by decide +kernel
theorem dX0_settle_20 : decode cX0_settle 20 = .ok (.iaload, 1) := by decide +kernel
theorem dX0_settle_21 : decode cX0_settle 21 = .ok (.istore_n 3, 1) := by decide +kernel
theorem dX0_settle_22 : decode cX0_settle 22 = .ok (.aload_n 1, 1) := by decide +kernel
theorem dX0_settle_23 : decode cX0_settle 23 = .ok (.iload_n 2, 1) := by decide +kernel
theorem dX0_settle_24 : decode cX0_settle 24 = .ok (.iconst 2, 1) := by decide +kernel
theorem dX0_settle_25 : decode cX0_settle 25 = .ok (.invokevirtual 56, 3) := by decide +kernel
theorem dX0_settle_28 : decode cX0_settle 28 = .ok (.ifCond .ne 16, 3) := by decide +kernel
theorem dX0_settle_31 : decode cX0_settle 31 = .ok (.iload_n 3, 1) := by decide +kernel
theorem dX0_settle_32 : decode cX0_settle 32 = .ok (.aload_n 0, 1) := by decide +kernel
theorem dX0_settle_33 : decode cX0_settle 33 = .ok (.aload_n 0, 1) := by decide +kernel
theorem dX0_settle_34 : decode cX0_settle 34 = .ok (.getfield 18, 3) := by decide +kernel
theorem dX0_settle_37 : decode cX0_settle 37 = .ok (.iload_n 2, 1) := by decide +kernel
theorem dX0_settle_38 : decode cX0_settle 38 = .ok (.iaload, 1) := by decide +kernel
theorem dX0_settle_39 : decode cX0_settle 39 = .ok (.invokevirtual 60, 3) := by decide +kernel
theorem dX0_settle_42 : decode cX0_settle 42 = .ok (.ior, 1) := by decide +kernel
theorem dX0_settle_43 : decode cX0_settle 43 = .ok (.istore_n 3, 1) := by decide +kernel
theorem dX0_settle_44 : decode cX0_settle 44 = .ok (.aload_n 0, 1) := by decide +kernel
theorem dX0_settle_45 : decode cX0_settle 45 = .ok (.getfield 24, 3) := by decide +kernel
theorem dX0_settle_48 : decode cX0_settle 48 = .ok (.iload_n 2, 1) := by decide +kernel
theorem dX0_settle_49 : decode cX0_settle 49 = .ok (.iload_n 3, 1) := by decide +kernel
theorem dX0_settle_50 : decode cX0_settle 50 = .ok (.iconst 1, 1) := by decide +kernel
theorem dX0_settle_51 : decode cX0_settle 51 = .ok (.iload_n 2, 1) := by decide +kernel
theorem dX0_settle_52 : decode cX0_settle 52 = .ok (.ishl, 1) := by decide +kernel
theorem dX0_settle_53 : decode cX0_settle 53 = .ok (.iconst (-1), 1) := by decide +kernel
theorem dX0_settle_54 : decode cX0_settle 54 = .ok (.ixor, 1) := by decide +kernel
theorem dX0_settle_55 : decode cX0_settle 55 = .ok (.iand, 1) := by decide +kernel
theorem dX0_settle_56 : decode cX0_settle 56 = .ok (.iastore, 1) := by decide +kernel
theorem dX0_settle_57 : decode cX0_settle 57 = .ok (.iinc 2 1, 3) := by decide +kernel
theorem dX0_settle_60 : decode cX0_settle 60 = .ok (.goto (-53), 3) := by decide +kernel
theorem dX0_settle_63 : decode cX0_settle 63 = .ok (.return_, 1) := by decide +kernel
theorem dX0_learn_0 : decode cX0_learn 0 = .ok (.iconst 0, 1) := by decide +kernel
theorem dX0_learn_1 : decode cX0_learn 1 = .ok (.istore_n 2, 1) := by decide +kernel
theorem dX0_learn_2 : decode cX0_learn 2 = .ok (.iload_n 2, 1) := by decide +kernel
theorem dX0_learn_3 : decode cX0_learn 3 = .ok (.iconst 4, 1) := by decide +kernel
theorem dX0_learn_4 : decode cX0_learn 4 = .ok (.if_icmp .ge 16, 3) := by decide +kernel
theorem dX0_learn_7 : decode cX0_learn 7 = .ok (.aload_n 0, 1) := by decide +kernel
theorem dX0_learn_8 : decode cX0_learn 8 = .ok (.getfield 21, 3) := by decide +kernel
theorem dX0_learn_11 : decode cX0_learn 11 = .ok (.iload_n 2, 1) := by decide +kernel
theorem dX0_learn_12 : decode cX0_learn 12 = .ok (.iconst 0, 1) := by decide +kernel
theorem dX0_learn_13 : decode cX0_learn 13 = .ok (.iastore, 1) := by decide +kernel
theorem dX0_learn_14 : decode cX0_learn 14 = .ok (.iinc 2 1, 3) := by decide +kernel
theorem dX0_learn_17 : decode cX0_learn 17 = .ok (.goto (-15), 3) := by decide +kernel
theorem dX0_learn_20 : decode cX0_learn 20 = .ok (.iconst 0, 1) := by decide +kernel
theorem dX0_learn_21 : decode cX0_learn 21 = .ok (.istore_n 2, 1) := by decide +kernel
theorem dX0_learn_22 : decode cX0_learn 22 = .ok (.iload_n 2, 1) := by decide +kernel
theorem dX0_learn_23 : decode cX0_learn 23 = .ok (.aload_n 1, 1) := by decide +kernel
theorem dX0_learn_24 : decode cX0_learn 24 = .ok (.getfield 38, 3) := by decide +kernel
theorem dX0_learn_27 : decode cX0_learn 27 = .ok (.if_icmp .ge 85, 3) := by decide +kernel
theorem dX0_learn_30 : decode cX0_learn 30 = .ok (.aload_n 0, 1) := by decide +kernel
theorem dX0_learn_31 : decode cX0_learn 31 = .ok (.getfield 18, 3) := by decide +kernel
theorem dX0_learn_34 : decode cX0_learn 34 = .ok (.iload_n 2, 1) := by decide +kernel
theorem dX0_learn_35 : decode cX0_learn 35 = .ok (.aload_n 1, 1) := by decide +kernel
theorem dX0_learn_36 : decode cX0_learn 36 = .ok (.iload_n 2, 1) := by decide +kernel
theorem dX0_learn_37 : decode cX0_learn 37 = .ok (.aload_n 0, 1) := by decide +kernel
theorem dX0_learn_38 : decode cX0_learn 38 = .ok (.getfield 9, 3) := by decide +kernel
theorem dX0_learn_41 : decode cX0_learn 41 = .ok (.aload_n 0, 1) := by decide +kernel
theorem dX0_learn_42 : decode cX0_learn 42 = .ok (.getfield 34, 3) := by decide +kernel
theorem dX0_learn_45 : decode cX0_learn 45 = .ok (.invokevirtual 64, 3) := by decide +kernel
theorem dX0_learn_48 : decode cX0_learn 48 = .ok (.iastore, 1) := by decide +kernel
theorem dX0_learn_49 : decode cX0_learn 49 = .ok (.aload_n 0, 1) := by decide +kernel
theorem dX0_learn_50 : decode cX0_learn 50 = .ok (.getfield 34, 3) := by decide +kernel
theorem dX0_learn_53 : decode cX0_learn 53 = .ok (.ifCond .ne 15, 3) := by decide +kernel
theorem dX0_learn_56 : decode cX0_learn 56 = .ok (.aload_n 1, 1) := by decide +kernel
theorem dX0_learn_57 : decode cX0_learn 57 = .ok (.iload_n 2, 1) := by decide +kernel
theorem dX0_learn_58 : decode cX0_learn 58 = .ok (.iconst 4, 1) := by decide +kernel
theorem dX0_learn_59 : decode cX0_learn 59 = .ok (.invokevirtual 56, 3) := by decide +kernel
theorem dX0_learn_62 : decode cX0_learn 62 = .ok (.ifCond .eq 6, 3) := by decide +kernel
theorem dX0_learn_65 : decode cX0_learn 65 = .ok (.goto 41, 3) := by decide +kernel
theorem dX0_learn_68 : decode cX0_learn 68 = .ok (.iconst 0, 1) := by decide +kernel
theorem dX0_learn_69 : decode cX0_learn 69 = .ok (.istore_n 3, 1) := by decide +kernel
theorem dX0_learn_70 : decode cX0_learn 70 = .ok (.iload_n 3, 1) := by decide +kernel
theorem dX0_learn_71 : decode cX0_learn 71 = .ok (.iconst 4, 1) := by decide +kernel
theorem dX0_learn_72 : decode cX0_learn 72 = .ok (.if_icmp .ge 34, 3) := by decide +kernel
theorem dX0_learn_75 : decode cX0_learn 75 = .ok (.aload_n 0, 1) := by decide +kernel
theorem dX0_learn_76 : decode cX0_learn 76 = .ok (.getfield 18, 3) := by decide +kernel
theorem dX0_learn_79 : decode cX0_learn 79 = .ok (.iload_n 2, 1) := by decide +kernel
theorem dX0_learn_80 : decode cX0_learn 80 = .ok (.iaload, 1) := by decide +kernel
theorem dX0_learn_81 : decode cX0_learn 81 = .ok (.iload_n 3, 1) := by decide +kernel
theorem dX0_learn_82 : decode cX0_learn 82 = .ok (.invokestatic 68, 3) := by decide +kernel
theorem dX0_learn_85 : decode cX0_learn 85 = .ok (.ifCond .eq 15, 3) := by decide +kernel
theorem dX0_learn_88 : decode cX0_learn 88 = .ok (.aload_n 0, 1) := by decide +kernel
theorem dX0_learn_89 : decode cX0_learn 89 = .ok (.getfield 21, 3) := by decide +kernel
theorem dX0_learn_92 : decode cX0_learn 92 = .ok (.iload_n 3, 1) := by decide +kernel
theorem dX0_learn_93 : decode cX0_learn 93 = .ok (.dup2, 1) := by decide +kernel
theorem dX0_learn_94 : decode cX0_learn 94 = .ok (.iaload, 1) := by decide +kernel
theorem dX0_learn_95 : decode cX0_learn 95 = .ok (.iconst 1, 1) := by decide +kernel
theorem dX0_learn_96 : decode cX0_learn 96 = .ok (.iload_n 2, 1) := by decide +kernel
theorem dX0_learn_97 : decode cX0_learn 97 = .ok (.ishl, 1) := by decide +kernel
theorem dX0_learn_98 : decode cX0_learn 98 = .ok (.ior, 1) := by decide +kernel
theorem dX0_learn_99 : decode cX0_learn 99 = .ok (.iastore, 1) := by decide +kernel
theorem dX0_learn_100 : decode cX0_learn 100 = .ok (.iinc 3 1, 3) := by decide +kernel
theorem dX0_learn_103 : decode cX0_learn 103 = .ok (.goto (-33), 3) := by decide +kernel
theorem dX0_learn_106 : decode cX0_learn 106 = .ok (.iinc 2 1, 3) := by decide +kernel
theorem dX0_learn_109 : decode cX0_learn 109 = .ok (.goto (-87), 3) := by decide +kernel
theorem dX0_learn_112 : decode cX0_learn 112 = .ok (.return_, 1) := by decide +kernel
theorem dX0_hearersOfAny_0 : decode cX0_hearersOfAny 0 = .ok (.iconst 0, 1) := by decide +kernel
theorem dX0_hearersOfAny_1 : decode cX0_hearersOfAny 1 = .ok (.istore_n 2, 1) := by decide +kernel
theorem dX0_hearersOfAny_2 : decode cX0_hearersOfAny 2 = .ok (.iconst 0, 1) := by decide +kernel
theorem dX0_hearersOfAny_3 : decode cX0_hearersOfAny 3 = .ok (.istore_n 3, 1) := by decide +kernel
theorem dX0_hearersOfAny_4 : decode cX0_hearersOfAny 4 = .ok (.iload_n 3, 1) := by decide +kernel
theorem dX0_hearersOfAny_5 : decode cX0_hearersOfAny 5 = .ok (.iconst 4, 1) := by decide +kernel
theorem dX0_hearersOfAny_6 : decode cX0_hearersOfAny 6 = .ok (.if_icmp .ge 26, 3) := by decide +kernel
theorem dX0_hearersOfAny_9 : decode cX0_hearersOfAny 9 = .ok (.iload_n 1, 1) := by decide +kernel
theorem dX0_hearersOfAny_10 : decode cX0_hearersOfAny 10 = .ok (.iload_n 3, 1) := by decide +kernel
theorem dX0_hearersOfAny_11 : decode cX0_hearersOfAny 11 = .ok (.invokestatic 68, 3) := by decide +kernel
theorem dX0_hearersOfAny_14 : decode cX0_hearersOfAny 14 = .ok (.ifCond .eq 12, 3) := by decide +kernel
theorem dX0_hearersOfAny_17 : decode cX0_hearersOfAny 17 = .ok (.iload_n 2, 1) := by decide +kernel
theorem dX0_hearersOfAny_18 : decode cX0_hearersOfAny 18 = .ok (.aload_n 0, 1) := by decide +kernel
theorem dX0_hearersOfAny_19 : decode cX0_hearersOfAny 19 = .ok (.getfield 21, 3) := by decide +kernel
theorem dX0_hearersOfAny_22 : decode cX0_hearersOfAny 22 = .ok (.iload_n 3, 1) := by decide +kernel
theorem dX0_hearersOfAny_23 : decode cX0_hearersOfAny 23 = .ok (.iaload, 1) := by decide +kernel
theorem dX0_hearersOfAny_24 : decode cX0_hearersOfAny 24 = .ok (.ior, 1) := by decide +kernel
theorem dX0_hearersOfAny_25 : decode cX0_hearersOfAny 25 = .ok (.istore_n 2, 1) := by decide +kernel
theorem dX0_hearersOfAny_26 : decode cX0_hearersOfAny 26 = .ok (.iinc 3 1, 3) := by decide +kernel
theorem dX0_hearersOfAny_29 : decode cX0_hearersOfAny 29 = .ok (.goto (-25), 3) := by decide +kernel
theorem dX0_hearersOfAny_32 : decode cX0_hearersOfAny 32 = .ok (.iload_n 2, 1) := by decide +kernel
theorem dX0_hearersOfAny_33 : decode cX0_hearersOfAny 33 = .ok (.ireturn, 1) := by decide +kernel
theorem dX0_isHeardAs_0 : decode cX0_isHeardAs 0 = .ok (.iconst 0, 1) := by decide +kernel
theorem dX0_isHeardAs_1 : decode cX0_isHeardAs 1 = .ok (.istore_n 2, 1) := by decide +kernel
theorem dX0_isHeardAs_2 : decode cX0_isHeardAs 2 = .ok (.iload_n 2, 1) := by decide +kernel
theorem dX0_isHeardAs_3 : decode cX0_isHeardAs 3 = .ok (.aload_n 1, 1) := by decide +kernel
theorem dX0_isHeardAs_4 : decode cX0_isHeardAs 4 = .ok (.getfield 71, 3) := by decide +kernel
theorem dX0_isHeardAs_7 : decode cX0_isHeardAs 7 = .ok (.if_icmp .ge 31, 3) := by decide +kernel
theorem dX0_isHeardAs_10 : decode cX0_isHeardAs 10 = .ok (.iload_n 2, 1) := by decide +kernel
theorem dX0_isHeardAs_11 : decode cX0_isHeardAs 11 = .ok (.iconst 4, 1) := by decide +kernel
theorem dX0_isHeardAs_12 : decode cX0_isHeardAs 12 = .ok (.if_icmp .ge 26, 3) := by decide +kernel
theorem dX0_isHeardAs_15 : decode cX0_isHeardAs 15 = .ok (.aload_n 0, 1) := by decide +kernel
theorem dX0_isHeardAs_16 : decode cX0_isHeardAs 16 = .ok (.getfield 21, 3) := by decide +kernel
theorem dX0_isHeardAs_19 : decode cX0_isHeardAs 19 = .ok (.iload_n 2, 1) := by decide +kernel
theorem dX0_isHeardAs_20 : decode cX0_isHeardAs 20 = .ok (.iaload, 1) := by decide +kernel
theorem dX0_isHeardAs_21 : decode cX0_isHeardAs 21 = .ok (.aload_n 1, 1) := by decide +kernel
theorem dX0_isHeardAs_22 : decode cX0_isHeardAs 22 = .ok (.getfield 76, 3) := by decide +kernel
theorem dX0_isHeardAs_25 : decode cX0_isHeardAs 25 = .ok (.iload_n 2, 1) := by decide +kernel
theorem dX0_isHeardAs_26 : decode cX0_isHeardAs 26 = .ok (.iaload, 1) := by decide +kernel
theorem dX0_isHeardAs_27 : decode cX0_isHeardAs 27 = .ok (.if_icmp .eq 5, 3) := by decide +kernel
theorem dX0_isHeardAs_30 : decode cX0_isHeardAs 30 = .ok (.iconst 0, 1) := by decide +kernel
theorem dX0_isHeardAs_31 : decode cX0_isHeardAs 31 = .ok (.ireturn, 1) := by decide +kernel
theorem dX0_isHeardAs_32 : decode cX0_isHeardAs 32 = .ok (.iinc 2 1, 3) := by decide +kernel
theorem dX0_isHeardAs_35 : decode cX0_isHeardAs 35 = .ok (.goto (-33), 3) := by decide +kernel
theorem dX0_isHeardAs_38 : decode cX0_isHeardAs 38 = .ok (.iconst 1, 1) := by decide +kernel
theorem dX0_isHeardAs_39 : decode cX0_isHeardAs 39 = .ok (.ireturn, 1) := by decide +kernel
theorem dX0_signCount_0 : decode cX0_signCount 0 = .ok (.iconst 0, 1) := by decide +kernel
theorem dX0_signCount_1 : decode cX0_signCount 1 = .ok (.istore_n 1, 1) := by decide +kernel
theorem dX0_signCount_2 : decode cX0_signCount 2 = .ok (.iconst 0, 1) := by decide +kernel
theorem dX0_signCount_3 : decode cX0_signCount 3 = .ok (.istore_n 2, 1) := by decide +kernel
theorem dX0_signCount_4 : decode cX0_signCount 4 = .ok (.iload_n 2, 1) := by decide +kernel
theorem dX0_signCount_5 : decode cX0_signCount 5 = .ok (.aload_n 0, 1) := by decide +kernel
theorem dX0_signCount_6 : decode cX0_signCount 6 = .ok (.getfield 27, 3) := by decide +kernel
theorem dX0_signCount_9 : decode cX0_signCount 9 = .ok (.if_icmp .ge 21, 3) := by decide +kernel
theorem dX0_signCount_12 : decode cX0_signCount 12 = .ok (.iload_n 1, 1) := by decide +kernel
theorem dX0_signCount_13 : decode cX0_signCount 13 = .ok (.aload_n 0, 1) := by decide +kernel
theorem dX0_signCount_14 : decode cX0_signCount 14 = .ok (.getfield 15, 3) := by decide +kernel
theorem dX0_signCount_17 : decode cX0_signCount 17 = .ok (.iload_n 2, 1) := by decide +kernel
theorem dX0_signCount_18 : decode cX0_signCount 18 = .ok (.iaload, 1) := by decide +kernel
theorem dX0_signCount_19 : decode cX0_signCount 19 = .ok (.invokestatic 79, 3) := by decide +kernel
theorem dX0_signCount_22 : decode cX0_signCount 22 = .ok (.iadd, 1) := by decide +kernel
theorem dX0_signCount_23 : decode cX0_signCount 23 = .ok (.istore_n 1, 1) := by decide +kernel
theorem dX0_signCount_24 : decode cX0_signCount 24 = .ok (.iinc 2 1, 3) := by decide +kernel
theorem dX0_signCount_27 : decode cX0_signCount 27 = .ok (.goto (-23), 3) := by decide +kernel
theorem dX0_signCount_30 : decode cX0_signCount 30 = .ok (.iload_n 1, 1) := by decide +kernel
theorem dX0_signCount_31 : decode cX0_signCount 31 = .ok (.iconst 2, 1) := by decide +kernel
theorem dX0_signCount_32 : decode cX0_signCount 32 = .ok (.idiv, 1) := by decide +kernel
theorem dX0_signCount_33 : decode cX0_signCount 33 = .ok (.ireturn, 1) := by decide +kernel
theorem dX0_tellersOf_0 : decode cX0_tellersOf 0 = .ok (.iconst 0, 1) := by decide +kernel
theorem dX0_tellersOf_1 : decode cX0_tellersOf 1 = .ok (.istore_n 2, 1) := by decide +kernel
theorem dX0_tellersOf_2 : decode cX0_tellersOf 2 = .ok (.iconst 0, 1) := by decide +kernel
theorem dX0_tellersOf_3 : decode cX0_tellersOf 3 = .ok (.istore_n 3, 1) := by decide +kernel
theorem dX0_tellersOf_4 : decode cX0_tellersOf 4 = .ok (.iload_n 3, 1) := by decide +kernel
theorem dX0_tellersOf_5 : decode cX0_tellersOf 5 = .ok (.aload_n 0, 1) := by decide +kernel
theorem dX0_tellersOf_6 : decode cX0_tellersOf 6 = .ok (.getfield 27, 3) := by decide +kernel
theorem dX0_tellersOf_9 : decode cX0_tellersOf 9 = .ok (.if_icmp .ge 25, 3) := by decide +kernel
theorem dX0_tellersOf_12 : decode cX0_tellersOf 12 = .ok (.aload_n 0, 1) := by decide +kernel
theorem dX0_tellersOf_13 : decode cX0_tellersOf 13 = .ok (.getfield 24, 3) := by decide +kernel
theorem dX0_tellersOf_16 : decode cX0_tellersOf 16 = .ok (.iload_n 3, 1) := by decide +kernel
theorem dX0_tellersOf_17 : decode cX0_tellersOf 17 = .ok (.iaload, 1) := by decide +kernel
theorem dX0_tellersOf_18 : decode cX0_tellersOf 18 = .ok (.iload_n 1, 1) := by decide +kernel
theorem dX0_tellersOf_19 : decode cX0_tellersOf 19 = .ok (.invokestatic 68, 3) := by decide +kernel
theorem dX0_tellersOf_22 : decode cX0_tellersOf 22 = .ok (.ifCond .eq 6, 3) := by decide +kernel
theorem dX0_tellersOf_25 : decode cX0_tellersOf 25 = .ok (.iinc 2 1, 3) := by decide +kernel
theorem dX0_tellersOf_28 : decode cX0_tellersOf 28 = .ok (.iinc 3 1, 3) := by decide +kernel
theorem dX0_tellersOf_31 : decode cX0_tellersOf 31 = .ok (.goto (-27), 3) := by decide +kernel
theorem dX0_tellersOf_34 : decode cX0_tellersOf 34 = .ok (.iload_n 2, 1) := by decide +kernel
theorem dX0_tellersOf_35 : decode cX0_tellersOf 35 = .ok (.ireturn, 1) := by decide +kernel
theorem dX0_othersWhoKnow_0 : decode cX0_othersWhoKnow 0 = .ok (.iconst 0, 1) := by decide +kernel
theorem dX0_othersWhoKnow_1 : decode cX0_othersWhoKnow 1 = .ok (.istore_n 3, 1) := by decide +kernel
theorem dX0_othersWhoKnow_2 : decode cX0_othersWhoKnow 2 = .ok (.iconst 0, 1) := by decide +kernel
theorem dX0_othersWhoKnow_3 : decode cX0_othersWhoKnow 3 = .ok (.istore 4, 2) := by decide +kernel
theorem dX0_othersWhoKnow_5 : decode cX0_othersWhoKnow 5 = .ok (.iload 4, 2) := by decide +kernel
theorem dX0_othersWhoKnow_7 : decode cX0_othersWhoKnow 7 = .ok (.aload_n 0, 1) := by decide +kernel
theorem dX0_othersWhoKnow_8 : decode cX0_othersWhoKnow 8 = .ok (.getfield 27, 3) := by decide +kernel
theorem dX0_othersWhoKnow_11 : decode cX0_othersWhoKnow 11 = .ok (.if_icmp .ge 30, 3) := by decide +kernel
theorem dX0_othersWhoKnow_14 : decode cX0_othersWhoKnow 14 = .ok (.iload 4, 2) := by decide +kernel
theorem dX0_othersWhoKnow_16 : decode cX0_othersWhoKnow 16 = .ok (.iload_n 1, 1) := by decide +kernel
theorem dX0_othersWhoKnow_17 : decode cX0_othersWhoKnow 17 = .ok (.if_icmp .eq 18, 3) := by decide +kernel
theorem dX0_othersWhoKnow_20 : decode cX0_othersWhoKnow 20 = .ok (.aload_n 0, 1) := by decide +kernel
theorem dX0_othersWhoKnow_21 : decode cX0_othersWhoKnow 21 = .ok (.getfield 18, 3) := by decide +kernel
theorem dX0_othersWhoKnow_24 : decode cX0_othersWhoKnow 24 = .ok (.iload 4, 2) := by decide +kernel
theorem dX0_othersWhoKnow_26 : decode cX0_othersWhoKnow 26 = .ok (.iaload, 1) := by decide +kernel
theorem dX0_othersWhoKnow_27 : decode cX0_othersWhoKnow 27 = .ok (.iload_n 2, 1) := by decide +kernel
theorem dX0_othersWhoKnow_28 : decode cX0_othersWhoKnow 28 = .ok (.iand, 1) := by decide +kernel
theorem dX0_othersWhoKnow_29 : decode cX0_othersWhoKnow 29 = .ok (.ifCond .eq 6, 3) := by decide +kernel
theorem dX0_othersWhoKnow_32 : decode cX0_othersWhoKnow 32 = .ok (.iinc 3 1, 3) := by decide +kernel
theorem dX0_othersWhoKnow_35 : decode cX0_othersWhoKnow 35 = .ok (.iinc 4 1, 3) := by decide +kernel
theorem dX0_othersWhoKnow_38 : decode cX0_othersWhoKnow 38 = .ok (.goto (-33), 3) := by decide +kernel
theorem dX0_othersWhoKnow_41 : decode cX0_othersWhoKnow 41 = .ok (.iload_n 3, 1) := by decide +kernel
theorem dX0_othersWhoKnow_42 : decode cX0_othersWhoKnow 42 = .ok (.ireturn, 1) := by decide +kernel
theorem dX0_isCrew_0 : decode cX0_isCrew 0 = .ok (.iconst 0, 1) := by decide +kernel
theorem dX0_isCrew_1 : decode cX0_isCrew 1 = .ok (.istore_n 2, 1) := by decide +kernel
theorem dX0_isCrew_2 : decode cX0_isCrew 2 = .ok (.iload_n 2, 1) := by decide +kernel
theorem dX0_isCrew_3 : decode cX0_isCrew 3 = .ok (.aload_n 0, 1) := by decide +kernel
theorem dX0_isCrew_4 : decode cX0_isCrew 4 = .ok (.getfield 27, 3) := by decide +kernel
theorem dX0_isCrew_7 : decode cX0_isCrew 7 = .ok (.if_icmp .ge 38, 3) := by decide +kernel
theorem dX0_isCrew_10 : decode cX0_isCrew 10 = .ok (.iload_n 1, 1) := by decide +kernel
theorem dX0_isCrew_11 : decode cX0_isCrew 11 = .ok (.iload_n 2, 1) := by decide +kernel
theorem dX0_isCrew_12 : decode cX0_isCrew 12 = .ok (.invokestatic 68, 3) := by decide +kernel
theorem dX0_isCrew_15 : decode cX0_isCrew 15 = .ok (.ifCond .eq 24, 3) := by decide +kernel
theorem dX0_isCrew_18 : decode cX0_isCrew 18 = .ok (.iload_n 1, 1) := by decide +kernel
theorem dX0_isCrew_19 : decode cX0_isCrew 19 = .ok (.iconst 1, 1) := by decide +kernel
theorem dX0_isCrew_20 : decode cX0_isCrew 20 = .ok (.iload_n 2, 1) := by decide +kernel
theorem dX0_isCrew_21 : decode cX0_isCrew 21 = .ok (.ishl, 1) := by decide +kernel
theorem dX0_isCrew_22 : decode cX0_isCrew 22 = .ok (.iconst (-1), 1) := by decide +kernel
theorem dX0_isCrew_23 : decode cX0_isCrew 23 = .ok (.ixor, 1) := by decide +kernel
theorem dX0_isCrew_24 : decode cX0_isCrew 24 = .ok (.iand, 1) := by decide +kernel
theorem dX0_isCrew_25 : decode cX0_isCrew 25 = .ok (.aload_n 0, 1) := by decide +kernel
theorem dX0_isCrew_26 : decode cX0_isCrew 26 = .ok (.getfield 24, 3) := by decide +kernel
theorem dX0_isCrew_29 : decode cX0_isCrew 29 = .ok (.iload_n 2, 1) := by decide +kernel
theorem dX0_isCrew_30 : decode cX0_isCrew 30 = .ok (.iaload, 1) := by decide +kernel
theorem dX0_isCrew_31 : decode cX0_isCrew 31 = .ok (.iconst (-1), 1) := by decide +kernel
theorem dX0_isCrew_32 : decode cX0_isCrew 32 = .ok (.ixor, 1) := by decide +kernel
theorem dX0_isCrew_33 : decode cX0_isCrew 33 = .ok (.iand, 1) := by decide +kernel
theorem dX0_isCrew_34 : decode cX0_isCrew 34 = .ok (.ifCond .eq 5, 3) := by decide +kernel
theorem dX0_isCrew_37 : decode cX0_isCrew 37 = .ok (.iconst 0, 1) := by decide +kernel
theorem dX0_isCrew_38 : decode cX0_isCrew 38 = .ok (.ireturn, 1) := by decide +kernel
theorem dX0_isCrew_39 : decode cX0_isCrew 39 = .ok (.iinc 2 1, 3) := by decide +kernel
theorem dX0_isCrew_42 : decode cX0_isCrew 42 = .ok (.goto (-40), 3) := by decide +kernel
theorem dX0_isCrew_45 : decode cX0_isCrew 45 = .ok (.iconst 1, 1) := by decide +kernel
theorem dX0_isCrew_46 : decode cX0_isCrew 46 = .ok (.ireturn, 1) := by decide +kernel
theorem dX0_reached_0 : decode cX0_reached 0 = .ok (.iconst 1, 1) := by decide +kernel
theorem dX0_reached_1 : decode cX0_reached 1 = .ok (.iload_n 1, 1) := by decide +kernel
theorem dX0_reached_2 : decode cX0_reached 2 = .ok (.ishl, 1) := by decide +kernel
theorem dX0_reached_3 : decode cX0_reached 3 = .ok (.istore 4, 2) := by decide +kernel
theorem dX0_reached_5 : decode cX0_reached 5 = .ok (.iload 4, 2) := by decide +kernel
theorem dX0_reached_7 : decode cX0_reached 7 = .ok (.istore 5, 2) := by decide +kernel
theorem dX0_reached_9 : decode cX0_reached 9 = .ok (.iconst 0, 1) := by decide +kernel
theorem dX0_reached_10 : decode cX0_reached 10 = .ok (.istore 6, 2) := by decide +kernel
theorem dX0_reached_12 : decode cX0_reached 12 = .ok (.iload 6, 2) := by decide +kernel
theorem dX0_reached_14 : decode cX0_reached 14 = .ok (.iload_n 3, 1) := by decide +kernel
theorem dX0_reached_15 : decode cX0_reached 15 = .ok (.if_icmp .ge 75, 3) := by decide +kernel
theorem dX0_reached_18 : decode cX0_reached 18 = .ok (.iload 5, 2) := by decide +kernel
theorem dX0_reached_20 : decode cX0_reached 20 = .ok (.ifCond .eq 70, 3) := by decide +kernel
theorem dX0_reached_23 : decode cX0_reached 23 = .ok (.iconst 0, 1) := by decide +kernel
theorem dX0_reached_24 : decode cX0_reached 24 = .ok (.istore 7, 2) := by decide +kernel
theorem dX0_reached_26 : decode cX0_reached 26 = .ok (.iconst 0, 1) := by decide +kernel
theorem dX0_reached_27 : decode cX0_reached 27 = .ok (.istore 8, 2) := by decide +kernel
theorem dX0_reached_29 : decode cX0_reached 29 = .ok (.iload 8, 2) := by decide +kernel
theorem dX0_reached_31 : decode cX0_reached 31 = .ok (.aload_n 0, 1) := by decide +kernel
theorem dX0_reached_32 : decode cX0_reached 32 = .ok (.getfield 27, 3) := by decide +kernel
theorem dX0_reached_35 : decode cX0_reached 35 = .ok (.if_icmp .ge 31, 3) := by decide +kernel
theorem dX0_reached_38 : decode cX0_reached 38 = .ok (.iload 5, 2) := by decide +kernel
theorem dX0_reached_40 : decode cX0_reached 40 = .ok (.iload 8, 2) := by decide +kernel
theorem dX0_reached_42 : decode cX0_reached 42 = .ok (.invokestatic 68, 3) := by decide +kernel
theorem dX0_reached_45 : decode cX0_reached 45 = .ok (.ifCond .eq 15, 3) := by decide +kernel
theorem dX0_reached_48 : decode cX0_reached 48 = .ok (.iload 7, 2) := by decide +kernel
theorem dX0_reached_50 : decode cX0_reached 50 = .ok (.aload_n 0, 1) := by decide +kernel
theorem dX0_reached_51 : decode cX0_reached 51 = .ok (.getfield 24, 3) := by decide +kernel
theorem dX0_reached_54 : decode cX0_reached 54 = .ok (.iload 8, 2) := by decide +kernel
theorem dX0_reached_56 : decode cX0_reached 56 = .ok (.iaload, 1) := by decide +kernel
theorem dX0_reached_57 : decode cX0_reached 57 = .ok (.ior, 1) := by decide +kernel
theorem dX0_reached_58 : decode cX0_reached 58 = .ok (.istore 7, 2) := by decide +kernel
theorem dX0_reached_60 : decode cX0_reached 60 = .ok (.iinc 8 1, 3) := by decide +kernel
theorem dX0_reached_63 : decode cX0_reached 63 = .ok (.goto (-34), 3) := by decide +kernel
theorem dX0_reached_66 : decode cX0_reached 66 = .ok (.iload 7, 2) := by decide +kernel
theorem dX0_reached_68 : decode cX0_reached 68 = .ok (.iload 4, 2) := by decide +kernel
theorem dX0_reached_70 : decode cX0_reached 70 = .ok (.iconst (-1), 1) := by decide +kernel
theorem dX0_reached_71 : decode cX0_reached 71 = .ok (.ixor, 1) := by decide +kernel
theorem dX0_reached_72 : decode cX0_reached 72 = .ok (.iand, 1) := by decide +kernel
theorem dX0_reached_73 : decode cX0_reached 73 = .ok (.iload_n 2, 1) := by decide +kernel
theorem dX0_reached_74 : decode cX0_reached 74 = .ok (.iand, 1) := by decide +kernel
theorem dX0_reached_75 : decode cX0_reached 75 = .ok (.istore 5, 2) := by decide +kernel
theorem dX0_reached_77 : decode cX0_reached 77 = .ok (.iload 4, 2) := by decide +kernel
theorem dX0_reached_79 : decode cX0_reached 79 = .ok (.iload 7, 2) := by decide +kernel
theorem dX0_reached_81 : decode cX0_reached 81 = .ok (.ior, 1) := by decide +kernel
theorem dX0_reached_82 : decode cX0_reached 82 = .ok (.istore 4, 2) := by decide +kernel
theorem dX0_reached_84 : decode cX0_reached 84 = .ok (.iinc 6 1, 3) := by decide +kernel
theorem dX0_reached_87 : decode cX0_reached 87 = .ok (.goto (-75), 3) := by decide +kernel
theorem dX0_reached_90 : decode cX0_reached 90 = .ok (.iload 4, 2) := by decide +kernel
theorem dX0_reached_92 : decode cX0_reached 92 = .ok (.ireturn, 1) := by decide +kernel
theorem dX0_reaching_0 : decode cX0_reaching 0 = .ok (.iconst 1, 1) := by decide +kernel
theorem dX0_reaching_1 : decode cX0_reaching 1 = .ok (.iload_n 1, 1) := by decide +kernel
theorem dX0_reaching_2 : decode cX0_reaching 2 = .ok (.ishl, 1) := by decide +kernel
theorem dX0_reaching_3 : decode cX0_reaching 3 = .ok (.istore_n 2, 1) := by decide +kernel
theorem dX0_reaching_4 : decode cX0_reaching 4 = .ok (.iconst 0, 1) := by decide +kernel
theorem dX0_reaching_5 : decode cX0_reaching 5 = .ok (.istore_n 3, 1) := by decide +kernel
theorem dX0_reaching_6 : decode cX0_reaching 6 = .ok (.iload_n 3, 1) := by decide +kernel
theorem dX0_reaching_7 : decode cX0_reaching 7 = .ok (.aload_n 0, 1) := by decide +kernel
theorem dX0_reaching_8 : decode cX0_reaching 8 = .ok (.getfield 27, 3) := by decide +kernel
theorem dX0_reaching_11 : decode cX0_reaching 11 = .ok (.if_icmp .ge 46, 3) := by decide +kernel
theorem dX0_reaching_14 : decode cX0_reaching 14 = .ok (.iconst 0, 1) := by decide +kernel
theorem dX0_reaching_15 : decode cX0_reaching 15 = .ok (.istore 4, 2) := by decide +kernel
theorem dX0_reaching_17 : decode cX0_reaching 17 = .ok (.iload 4, 2) := by decide +kernel
theorem dX0_reaching_19 : decode cX0_reaching 19 = .ok (.aload_n 0, 1) := by decide +kernel
theorem dX0_reaching_20 : decode cX0_reaching 20 = .ok (.getfield 27, 3) := by decide +kernel
theorem dX0_reaching_23 : decode cX0_reaching 23 = .ok (.if_icmp .ge 28, 3) := by decide +kernel
theorem dX0_reaching_26 : decode cX0_reaching 26 = .ok (.aload_n 0, 1) := by decide +kernel
theorem dX0_reaching_27 : decode cX0_reaching 27 = .ok (.getfield 24, 3) := by decide +kernel
theorem dX0_reaching_30 : decode cX0_reaching 30 = .ok (.iload 4, 2) := by decide +kernel
theorem dX0_reaching_32 : decode cX0_reaching 32 = .ok (.iaload, 1) := by decide +kernel
theorem dX0_reaching_33 : decode cX0_reaching 33 = .ok (.iload_n 2, 1) := by decide +kernel
theorem dX0_reaching_34 : decode cX0_reaching 34 = .ok (.iand, 1) := by decide +kernel
theorem dX0_reaching_35 : decode cX0_reaching 35 = .ok (.ifCond .eq 10, 3) := by decide +kernel
theorem dX0_reaching_38 : decode cX0_reaching 38 = .ok (.iload_n 2, 1) := by decide +kernel
theorem dX0_reaching_39 : decode cX0_reaching 39 = .ok (.iconst 1, 1) := by decide +kernel
theorem dX0_reaching_40 : decode cX0_reaching 40 = .ok (.iload 4, 2) := by decide +kernel
theorem dX0_reaching_42 : decode cX0_reaching 42 = .ok (.ishl, 1) := by decide +kernel
theorem dX0_reaching_43 : decode cX0_reaching 43 = .ok (.ior, 1) := by decide +kernel
theorem dX0_reaching_44 : decode cX0_reaching 44 = .ok (.istore_n 2, 1) := by decide +kernel
theorem dX0_reaching_45 : decode cX0_reaching 45 = .ok (.iinc 4 1, 3) := by decide +kernel
theorem dX0_reaching_48 : decode cX0_reaching 48 = .ok (.goto (-31), 3) := by decide +kernel
theorem dX0_reaching_51 : decode cX0_reaching 51 = .ok (.iinc 3 1, 3) := by decide +kernel
theorem dX0_reaching_54 : decode cX0_reaching 54 = .ok (.goto (-48), 3) := by decide +kernel
theorem dX0_reaching_57 : decode cX0_reaching 57 = .ok (.iload_n 2, 1) := by decide +kernel
theorem dX0_reaching_58 : decode cX0_reaching 58 = .ok (.ireturn, 1) := by decide +kernel
theorem dX0_goes_0 : decode cX0_goes 0 = .ok (.aload_n 0, 1) := by decide +kernel
theorem dX0_goes_1 : decode cX0_goes 1 = .ok (.iload_n 1, 1) := by decide +kernel
theorem dX0_goes_2 : decode cX0_goes 2 = .ok (.iload_n 3, 1) := by decide +kernel
theorem dX0_goes_3 : decode cX0_goes 3 = .ok (.bipush 6, 2) := by decide +kernel
theorem dX0_goes_5 : decode cX0_goes 5 = .ok (.invokevirtual 84, 3) := by decide +kernel
theorem dX0_goes_8 : decode cX0_goes 8 = .ok (.iload_n 2, 1) := by decide +kernel
theorem dX0_goes_9 : decode cX0_goes 9 = .ok (.invokestatic 68, 3) := by decide +kernel
theorem dX0_goes_12 : decode cX0_goes 12 = .ok (.ireturn, 1) := by decide +kernel
theorem dX0_fewestMouths_0 : decode cX0_fewestMouths 0 = .ok (.iconst 0, 1) := by decide +kernel
theorem dX0_fewestMouths_1 : decode cX0_fewestMouths 1 = .ok (.istore_n 3, 1) := by decide +kernel
theorem dX0_fewestMouths_2 : decode cX0_fewestMouths 2 = .ok (.iload_n 3, 1) := by decide +kernel
theorem dX0_fewestMouths_3 : decode cX0_fewestMouths 3 = .ok (.iconst 4, 1) := by decide +kernel
theorem dX0_fewestMouths_4 : decode cX0_fewestMouths 4 = .ok (.if_icmp .gt 28, 3) := by decide +kernel
theorem dX0_fewestMouths_7 : decode cX0_fewestMouths 7 = .ok (.aload_n 0, 1) := by decide +kernel
theorem dX0_fewestMouths_8 : decode cX0_fewestMouths 8 = .ok (.iload_n 1, 1) := by decide +kernel
theorem dX0_fewestMouths_9 : decode cX0_fewestMouths 9 = .ok (.bipush 63, 2) := by decide +kernel
theorem dX0_fewestMouths_11 : decode cX0_fewestMouths 11 = .ok (.iload_n 3, 1) := by decide +kernel
theorem dX0_fewestMouths_12 : decode cX0_fewestMouths 12 = .ok (.iconst 1, 1) := by decide +kernel
theorem dX0_fewestMouths_13 : decode cX0_fewestMouths 13 = .ok (.iadd, 1) := by decide +kernel
theorem dX0_fewestMouths_14 : decode cX0_fewestMouths 14 = .ok (.invokevirtual 84, 3) := by decide +kernel
theorem dX0_fewestMouths_17 : decode cX0_fewestMouths 17 = .ok (.iload_n 2, 1) := by decide +kernel
theorem dX0_fewestMouths_18 : decode cX0_fewestMouths 18 = .ok (.invokestatic 68, 3) := by decide +kernel
theorem dX0_fewestMouths_21 : decode cX0_fewestMouths 21 = .ok (.ifCond .eq 5, 3) := by decide +kernel
theorem dX0_fewestMouths_24 : decode cX0_fewestMouths 24 = .ok (.iload_n 3, 1) := by decide +kernel
theorem dX0_fewestMouths_25 : decode cX0_fewestMouths 25 = .ok (.ireturn, 1) := by decide +kernel
theorem dX0_fewestMouths_26 : decode cX0_fewestMouths 26 = .ok (.iinc 3 1, 3) := by decide +kernel
theorem dX0_fewestMouths_29 : decode cX0_fewestMouths 29 = .ok (.goto (-27), 3) := by decide +kernel
theorem dX0_fewestMouths_32 : decode cX0_fewestMouths 32 = .ok (.bipush (-9), 2) := by decide +kernel
theorem dX0_fewestMouths_34 : decode cX0_fewestMouths 34 = .ok (.ireturn, 1) := by decide +kernel
theorem dX1_init_0 : decode cX1_init 0 = .ok (.aload_n 0, 1) := by decide +kernel
theorem dX1_init_1 : decode cX1_init 1 = .ok (.invokespecial 3, 3) := by decide +kernel
theorem dX1_init_4 : decode cX1_init 4 = .ok (.aload_n 0, 1) := by decide +kernel
theorem dX1_init_5 : decode cX1_init 5 = .ok (.bipush 40, 2) := by decide +kernel
theorem dX1_init_7 : decode cX1_init 7 = .ok (.newarray .int, 2) := by decide +kernel
theorem dX1_init_9 : decode cX1_init 9 = .ok (.putfield 9, 3) := by decide +kernel
theorem dX1_init_12 : decode cX1_init 12 = .ok (.aload_n 0, 1) := by decide +kernel
theorem dX1_init_13 : decode cX1_init 13 = .ok (.bipush 40, 2) := by decide +kernel
theorem dX1_init_15 : decode cX1_init 15 = .ok (.newarray .int, 2) := by decide +kernel
theorem dX1_init_17 : decode cX1_init 17 = .ok (.putfield 15, 3) := by decide +kernel
theorem dX1_init_20 : decode cX1_init 20 = .ok (.aload_n 0, 1) := by decide +kernel
theorem dX1_init_21 : decode cX1_init 21 = .ok (.iconst 0, 1) := by decide +kernel
theorem dX1_init_22 : decode cX1_init 22 = .ok (.putfield 18, 3) := by decide +kernel
theorem dX1_init_25 : decode cX1_init 25 = .ok (.return_, 1) := by decide +kernel
theorem dX1_add_0 : decode cX1_add 0 = .ok (.aload_n 0, 1) := by decide +kernel
theorem dX1_add_1 : decode cX1_add 1 = .ok (.getfield 18, 3) := by decide +kernel
theorem dX1_add_4 : decode cX1_add 4 = .ok (.bipush 40, 2) := by decide +kernel
theorem dX1_add_6 : decode cX1_add 6 = .ok (.if_icmp .lt 4, 3) := by decide +kernel
theorem dX1_add_9 : decode cX1_add 9 = .ok (.return_, 1) := by decide +kernel
theorem dX1_add_10 : decode cX1_add 10 = .ok (.aload_n 0, 1) := by decide +kernel
theorem dX1_add_11 : decode cX1_add 11 = .ok (.getfield 9, 3) := by decide +kernel
theorem dX1_add_14 : decode cX1_add 14 = .ok (.aload_n 0, 1) := by decide +kernel
theorem dX1_add_15 : decode cX1_add 15 = .ok (.getfield 18, 3) := by decide +kernel
theorem dX1_add_18 : decode cX1_add 18 = .ok (.iload_n 1, 1) := by decide +kernel
theorem dX1_add_19 : decode cX1_add 19 = .ok (.iastore, 1) := by decide +kernel
theorem dX1_add_20 : decode cX1_add 20 = .ok (.aload_n 0, 1) := by decide +kernel
theorem dX1_add_21 : decode cX1_add 21 = .ok (.getfield 15, 3) := by decide +kernel
theorem dX1_add_24 : decode cX1_add 24 = .ok (.aload_n 0, 1) := by decide +kernel
theorem dX1_add_25 : decode cX1_add 25 = .ok (.getfield 18, 3) := by decide +kernel
theorem dX1_add_28 : decode cX1_add 28 = .ok (.iload_n 2, 1) := by decide +kernel
theorem dX1_add_29 : decode cX1_add 29 = .ok (.iastore, 1) := by decide +kernel
theorem dX1_add_30 : decode cX1_add 30 = .ok (.aload_n 0, 1) := by decide +kernel
theorem dX1_add_31 : decode cX1_add 31 = .ok (.dup, 1) := by decide +kernel
theorem dX1_add_32 : decode cX1_add 32 = .ok (.getfield 18, 3) := by decide +kernel
theorem dX1_add_35 : decode cX1_add 35 = .ok (.iconst 1, 1) := by decide +kernel
theorem dX1_add_36 : decode cX1_add 36 = .ok (.iadd, 1) := by decide +kernel
theorem dX1_add_37 : decode cX1_add 37 = .ok (.putfield 18, 3) := by decide +kernel
theorem dX1_add_40 : decode cX1_add 40 = .ok (.return_, 1) := by decide +kernel
theorem dX1_takeFrom_0 : decode cX1_takeFrom 0 = .ok (.iconst 0, 1) := by decide +kernel
theorem dX1_takeFrom_1 : decode cX1_takeFrom 1 = .ok (.istore_n 2, 1) := by decide +kernel
theorem dX1_takeFrom_2 : decode cX1_takeFrom 2 = .ok (.iload_n 2, 1) := by decide +kernel
theorem dX1_takeFrom_3 : decode cX1_takeFrom 3 = .ok (.aload_n 1, 1) := by decide +kernel
theorem dX1_takeFrom_4 : decode cX1_takeFrom 4 = .ok (.getfield 18, 3) := by decide +kernel
theorem dX1_takeFrom_7 : decode cX1_takeFrom 7 = .ok (.if_icmp .ge 33, 3) := by decide +kernel
theorem dX1_takeFrom_10 : decode cX1_takeFrom 10 = .ok (.aload_n 0, 1) := by decide +kernel
theorem dX1_takeFrom_11 : decode cX1_takeFrom 11 = .ok (.getfield 9, 3) := by decide +kernel
theorem dX1_takeFrom_14 : decode cX1_takeFrom 14 = .ok (.iload_n 2, 1) := by decide +kernel
theorem dX1_takeFrom_15 : decode cX1_takeFrom 15 = .ok (.aload_n 1, 1) := by decide +kernel
theorem dX1_takeFrom_16 : decode cX1_takeFrom 16 = .ok (.getfield 9, 3) := by decide +kernel
theorem dX1_takeFrom_19 : decode cX1_takeFrom 19 = .ok (.iload_n 2, 1) := by decide +kernel
theorem dX1_takeFrom_20 : decode cX1_takeFrom 20 = .ok (.iaload, 1) := by decide +kernel
theorem dX1_takeFrom_21 : decode cX1_takeFrom 21 = .ok (.iastore, 1) := by decide +kernel
theorem dX1_takeFrom_22 : decode cX1_takeFrom 22 = .ok (.aload_n 0, 1) := by decide +kernel
theorem dX1_takeFrom_23 : decode cX1_takeFrom 23 = .ok (.getfield 15, 3) := by decide +kernel
theorem dX1_takeFrom_26 : decode cX1_takeFrom 26 = .ok (.iload_n 2, 1) := by decide +kernel
theorem dX1_takeFrom_27 : decode cX1_takeFrom 27 = .ok (.aload_n 1, 1) := by decide +kernel
theorem dX1_takeFrom_28 : decode cX1_takeFrom 28 = .ok (.getfield 15, 3) := by decide +kernel
theorem dX1_takeFrom_31 : decode cX1_takeFrom 31 = .ok (.iload_n 2, 1) := by decide +kernel
theorem dX1_takeFrom_32 : decode cX1_takeFrom 32 = .ok (.iaload, 1) := by decide +kernel
theorem dX1_takeFrom_33 : decode cX1_takeFrom 33 = .ok (.iastore, 1) := by decide +kernel
theorem dX1_takeFrom_34 : decode cX1_takeFrom 34 = .ok (.iinc 2 1, 3) := by decide +kernel
theorem dX1_takeFrom_37 : decode cX1_takeFrom 37 = .ok (.goto (-35), 3) := by decide +kernel
theorem dX1_takeFrom_40 : decode cX1_takeFrom 40 = .ok (.aload_n 0, 1) := by decide +kernel
theorem dX1_takeFrom_41 : decode cX1_takeFrom 41 = .ok (.aload_n 1, 1) := by decide +kernel
theorem dX1_takeFrom_42 : decode cX1_takeFrom 42 = .ok (.getfield 18, 3) := by decide +kernel
theorem dX1_takeFrom_45 : decode cX1_takeFrom 45 = .ok (.putfield 18, 3) := by decide +kernel
theorem dX1_takeFrom_48 : decode cX1_takeFrom 48 = .ok (.return_, 1) := by decide +kernel
theorem dX2_init_0 : decode cX2_init 0 = .ok (.aload_n 0, 1) := by decide +kernel
theorem dX2_init_1 : decode cX2_init 1 = .ok (.invokespecial 3, 3) := by decide +kernel
theorem dX2_init_4 : decode cX2_init 4 = .ok (.aload_n 0, 1) := by decide +kernel
theorem dX2_init_5 : decode cX2_init 5 = .ok (.bipush 6, 2) := by decide +kernel
theorem dX2_init_7 : decode cX2_init 7 = .ok (.newarray .int, 2) := by decide +kernel
theorem dX2_init_9 : decode cX2_init 9 = .ok (.putfield 9, 3) := by decide +kernel
theorem dX2_init_12 : decode cX2_init 12 = .ok (.aload_n 0, 1) := by decide +kernel
theorem dX2_init_13 : decode cX2_init 13 = .ok (.bipush 6, 2) := by decide +kernel
theorem dX2_init_15 : decode cX2_init 15 = .ok (.newarray .int, 2) := by decide +kernel
theorem dX2_init_17 : decode cX2_init 17 = .ok (.putfield 15, 3) := by decide +kernel
theorem dX2_init_20 : decode cX2_init 20 = .ok (.aload_n 0, 1) := by decide +kernel
theorem dX2_init_21 : decode cX2_init 21 = .ok (.bipush 6, 2) := by decide +kernel
theorem dX2_init_23 : decode cX2_init 23 = .ok (.newarray .int, 2) := by decide +kernel
theorem dX2_init_25 : decode cX2_init 25 = .ok (.putfield 18, 3) := by decide +kernel
theorem dX2_init_28 : decode cX2_init 28 = .ok (.aload_n 0, 1) := by decide +kernel
theorem dX2_init_29 : decode cX2_init 29 = .ok (.bipush 6, 2) := by decide +kernel
theorem dX2_init_31 : decode cX2_init 31 = .ok (.newarray .int, 2) := by decide +kernel
theorem dX2_init_33 : decode cX2_init 33 = .ok (.putfield 21, 3) := by decide +kernel
theorem dX2_init_36 : decode cX2_init 36 = .ok (.aload_n 0, 1) := by decide +kernel
theorem dX2_init_37 : decode cX2_init 37 = .ok (.bipush 6, 2) := by decide +kernel
theorem dX2_init_39 : decode cX2_init 39 = .ok (.newarray .int, 2) := by decide +kernel
theorem dX2_init_41 : decode cX2_init 41 = .ok (.putfield 24, 3) := by decide +kernel
theorem dX2_init_44 : decode cX2_init 44 = .ok (.aload_n 0, 1) := by decide +kernel
theorem dX2_init_45 : decode cX2_init 45 = .ok (.bipush 6, 2) := by decide +kernel
theorem dX2_init_47 : decode cX2_init 47 = .ok (.newarray .int, 2) := by decide +kernel
theorem dX2_init_49 : decode cX2_init 49 = .ok (.putfield 27, 3) := by decide +kernel
theorem dX2_init_52 : decode cX2_init 52 = .ok (.aload_n 0, 1) := by decide +kernel
theorem dX2_init_53 : decode cX2_init 53 = .ok (.bipush 6, 2) := by decide +kernel
theorem dX2_init_55 : decode cX2_init 55 = .ok (.newarray .int, 2) := by decide +kernel
theorem dX2_init_57 : decode cX2_init 57 = .ok (.putfield 30, 3) := by decide +kernel
theorem dX2_init_60 : decode cX2_init 60 = .ok (.aload_n 0, 1) := by decide +kernel
theorem dX2_init_61 : decode cX2_init 61 = .ok (.iconst 0, 1) := by decide +kernel
theorem dX2_init_62 : decode cX2_init 62 = .ok (.putfield 33, 3) := by decide +kernel
theorem dX2_init_65 : decode cX2_init 65 = .ok (.aload_n 0, 1) := by decide +kernel
theorem dX2_init_66 : decode cX2_init 66 = .ok (.iconst 0, 1) := by decide +kernel
theorem dX2_init_67 : decode cX2_init 67 = .ok (.putfield 37, 3) := by decide +kernel
theorem dX2_init_70 : decode cX2_init 70 = .ok (.return_, 1) := by decide +kernel
theorem dX2_read_0 : decode cX2_read 0 = .ok (.aload_n 0, 1) := by decide +kernel
theorem dX2_read_1 : decode cX2_read 1 = .ok (.invokevirtual 40, 3) := by decide +kernel
theorem dX2_read_4 : decode cX2_read 4 = .ok (.iconst 0, 1) := by decide +kernel
theorem dX2_read_5 : decode cX2_read 5 = .ok (.istore_n 2, 1) := by decide +kernel
theorem dX2_read_6 : decode cX2_read 6 = .ok (.iconst 0, 1) := by decide +kernel
theorem dX2_read_7 : decode cX2_read 7 = .ok (.istore_n 3, 1) := by decide +kernel
theorem dX2_read_8 : decode cX2_read 8 = .ok (.iload_n 3, 1) := by decide +kernel
theorem dX2_read_9 : decode cX2_read 9 = .ok (.aload_n 1, 1) := by decide +kernel
theorem dX2_read_10 : decode cX2_read 10 = .ok (.getfield 43, 3) := by decide +kernel
theorem dX2_read_13 : decode cX2_read 13 = .ok (.if_icmp .ge 129, 3) := by decide +kernel
theorem dX2_read_16 : decode cX2_read 16 = .ok (.aload_n 1, 1) := by decide +kernel
theorem dX2_read_17 : decode cX2_read 17 = .ok (.getfield 48, 3) := by decide +kernel
theorem dX2_read_20 : decode cX2_read 20 = .ok (.iload_n 3, 1) := by decide +kernel
theorem dX2_read_21 : decode cX2_read 21 = .ok (.baload, 1) := by decide +kernel
theorem dX2_read_22 : decode cX2_read 22 = .ok (.istore 4, 2) := by decide +kernel
theorem dX2_read_24 : decode cX2_read 24 = .ok (.iload 4, 2) := by decide +kernel
theorem dX2_read_26 : decode cX2_read 26 = .ok (.bipush 32, 2) := by decide +kernel
theorem dX2_read_28 : decode cX2_read 28 = .ok (.if_icmp .ne 6, 3) := by decide +kernel
theorem dX2_read_31 : decode cX2_read 31 = .ok (.goto 105, 3) := by decide +kernel
theorem dX2_read_34 : decode cX2_read 34 = .ok (.iload 4, 2) := by decide +kernel
theorem dX2_read_36 : decode cX2_read 36 = .ok (.invokestatic 52, 3) := by decide +kernel
theorem dX2_read_39 : decode cX2_read 39 = .ok (.istore 5, 2) := by decide +kernel
theorem dX2_read_41 : decode cX2_read 41 = .ok (.iload 5, 2) := by decide +kernel
theorem dX2_read_43 : decode cX2_read 43 = .ok (.bipush (-9), 2) := by decide +kernel
theorem dX2_read_45 : decode cX2_read 45 = .ok (.if_icmp .eq 27, 3) := by decide +kernel
theorem dX2_read_48 : decode cX2_read 48 = .ok (.iload_n 2, 1) := by decide +kernel
theorem dX2_read_49 : decode cX2_read 49 = .ok (.ifCond .ne 12, 3) := by decide +kernel
theorem dX2_read_52 : decode cX2_read 52 = .ok (.aload_n 0, 1) := by decide +kernel
theorem dX2_read_53 : decode cX2_read 53 = .ok (.getfield 37, 3) := by decide +kernel
theorem dX2_read_56 : decode cX2_read 56 = .ok (.bipush 6, 2) := by decide +kernel
theorem dX2_read_58 : decode cX2_read 58 = .ok (.if_icmp .lt 5, 3) := by decide +kernel
theorem dX2_read_61 : decode cX2_read 61 = .ok (.iload_n 3, 1) := by decide +kernel
theorem dX2_read_62 : decode cX2_read 62 = .ok (.ireturn, 1) := by decide +kernel
theorem dX2_read_63 : decode cX2_read 63 = .ok (.aload_n 0, 1) := by decide +kernel
theorem dX2_read_64 : decode cX2_read 64 = .ok (.iload 5, 2) := by decide +kernel
theorem dX2_read_66 : decode cX2_read 66 = .ok (.invokevirtual 56, 3) := by decide +kernel
theorem dX2_read_69 : decode cX2_read 69 = .ok (.goto 67, 3) := by decide +kernel
theorem dX2_read_72 : decode cX2_read 72 = .ok (.iload 4, 2) := by decide +kernel
theorem dX2_read_74 : decode cX2_read 74 = .ok (.bipush 97, 2) := by decide +kernel
theorem dX2_read_76 : decode cX2_read 76 = .ok (.if_icmp .eq 10, 3) := by decide +kernel
theorem dX2_read_79 : decode cX2_read 79 = .ok (.iload 4, 2) := by decide +kernel
theorem dX2_read_81 : decode cX2_read 81 = .ok (.bipush 103, 2) := by decide +kernel
theorem dX2_read_83 : decode cX2_read 83 = .ok (.if_icmp .ne 10, 3) := by decide +kernel
theorem dX2_read_86 : decode cX2_read 86 = .ok (.aload_n 0, 1) := by decide +kernel
theorem dX2_read_87 : decode cX2_read 87 = .ok (.getfield 37, 3) := by decide +kernel
theorem dX2_read_90 : decode cX2_read 90 = .ok (.ifCond .ne 5, 3) := by decide +kernel
theorem dX2_read_93 : decode cX2_read 93 = .ok (.iload_n 3, 1) := by decide +kernel
theorem dX2_read_94 : decode cX2_read 94 = .ok (.ireturn, 1) := by decide +kernel
theorem dX2_read_95 : decode cX2_read 95 = .ok (.aload_n 0, 1) := by decide +kernel
theorem dX2_read_96 : decode cX2_read 96 = .ok (.aload_n 1, 1) := by decide +kernel
theorem dX2_read_97 : decode cX2_read 97 = .ok (.iload_n 3, 1) := by decide +kernel
theorem dX2_read_98 : decode cX2_read 98 = .ok (.iload 4, 2) := by decide +kernel
theorem dX2_read_100 : decode cX2_read 100 = .ok (.bipush 97, 2) := by decide +kernel
theorem dX2_read_102 : decode cX2_read 102 = .ok (.if_icmp .ne 10, 3) := by decide +kernel
theorem dX2_read_105 : decode cX2_read 105 = .ok (.aload_n 0, 1) := by decide +kernel
theorem dX2_read_106 : decode cX2_read 106 = .ok (.getfield 18, 3) := by decide +kernel
theorem dX2_read_109 : decode cX2_read 109 = .ok (.goto 7, 3) := by decide +kernel
theorem dX2_read_112 : decode cX2_read 112 = .ok (.aload_n 0, 1) := by decide +kernel
theorem dX2_read_113 : decode cX2_read 113 = .ok (.getfield 21, 3) := by decide +kernel
theorem dX2_read_116 : decode cX2_read 116 = .ok (.invokevirtual 60, 3) := by decide +kernel
theorem dX2_read_119 : decode cX2_read 119 = .ok (.istore 6, 2) := by decide +kernel
theorem dX2_read_121 : decode cX2_read 121 = .ok (.iload 6, 2) := by decide +kernel
theorem dX2_read_123 : decode cX2_read 123 = .ok (.bipush (-9), 2) := by decide +kernel
theorem dX2_read_125 : decode cX2_read 125 = .ok (.if_icmp .eq 6, 3) := by decide +kernel
theorem dX2_read_128 : decode cX2_read 128 = .ok (.iload 6, 2) := by decide +kernel
theorem dX2_read_130 : decode cX2_read 130 = .ok (.ireturn, 1) := by decide +kernel
theorem dX2_read_131 : decode cX2_read 131 = .ok (.iconst 1, 1) := by decide +kernel
theorem dX2_read_132 : decode cX2_read 132 = .ok (.istore_n 2, 1) := by decide +kernel
theorem dX2_read_133 : decode cX2_read 133 = .ok (.iinc 3 2, 3) := by decide +kernel
theorem dX2_read_136 : decode cX2_read 136 = .ok (.iinc 3 1, 3) := by decide +kernel
theorem dX2_read_139 : decode cX2_read 139 = .ok (.goto (-131), 3) := by decide +kernel
theorem dX2_read_142 : decode cX2_read 142 = .ok (.aload_n 0, 1) := by decide +kernel
theorem dX2_read_143 : decode cX2_read 143 = .ok (.getfield 37, 3) := by decide +kernel
theorem dX2_read_146 : decode cX2_read 146 = .ok (.ifCond .ne 8, 3) := by decide +kernel
theorem dX2_read_149 : decode cX2_read 149 = .ok (.aload_n 1, 1) := by decide +kernel
theorem dX2_read_150 : decode cX2_read 150 = .ok (.getfield 43, 3) := by decide +kernel
theorem dX2_read_153 : decode cX2_read 153 = .ok (.ireturn, 1) := by decide +kernel
theorem dX2_read_154 : decode cX2_read 154 = .ok (.aload_n 0, 1) := by decide +kernel
theorem dX2_read_155 : decode cX2_read 155 = .ok (.invokevirtual 64, 3) := by decide +kernel
theorem dX2_read_158 : decode cX2_read 158 = .ok (.bipush (-9), 2) := by decide +kernel
theorem dX2_read_160 : decode cX2_read 160 = .ok (.ireturn, 1) := by decide +kernel
theorem dX2_begin_0 : decode cX2_begin 0 = .ok (.aload_n 0, 1) := by decide +kernel
theorem dX2_begin_1 : decode cX2_begin 1 = .ok (.iconst 0, 1) := by decide +kernel
theorem dX2_begin_2 : decode cX2_begin 2 = .ok (.putfield 37, 3) := by decide +kernel
theorem dX2_begin_5 : decode cX2_begin 5 = .ok (.iconst 0, 1) := by decide +kernel
theorem dX2_begin_6 : decode cX2_begin 6 = .ok (.istore_n 1, 1) := by decide +kernel
theorem dX2_begin_7 : decode cX2_begin 7 = .ok (.iload_n 1, 1) := by decide +kernel
theorem dX2_begin_8 : decode cX2_begin 8 = .ok (.bipush 6, 2) := by decide +kernel
theorem dX2_begin_10 : decode cX2_begin 10 = .ok (.if_icmp .ge 16, 3) := by decide +kernel
theorem dX2_begin_13 : decode cX2_begin 13 = .ok (.aload_n 0, 1) := by decide +kernel
theorem dX2_begin_14 : decode cX2_begin 14 = .ok (.getfield 15, 3) := by decide +kernel
theorem dX2_begin_17 : decode cX2_begin 17 = .ok (.iload_n 1, 1) := by decide +kernel
theorem dX2_begin_18 : decode cX2_begin 18 = .ok (.iconst 0, 1) := by decide +kernel
theorem dX2_begin_19 : decode cX2_begin 19 = .ok (.iastore, 1) := by decide +kernel
theorem dX2_begin_20 : decode cX2_begin 20 = .ok (.iinc 1 1, 3) := by decide +kernel
theorem dX2_begin_23 : decode cX2_begin 23 = .ok (.goto (-16), 3) := by decide +kernel
theorem dX2_begin_26 : decode cX2_begin 26 = .ok (.iconst 0, 1) := by decide +kernel
theorem dX2_begin_27 : decode cX2_begin 27 = .ok (.istore_n 1, 1) := by decide +kernel
theorem dX2_begin_28 : decode cX2_begin 28 = .ok (.iload_n 1, 1) := by decide +kernel
theorem dX2_begin_29 : decode cX2_begin 29 = .ok (.bipush 6, 2) := by decide +kernel
theorem dX2_begin_31 : decode cX2_begin 31 = .ok (.if_icmp .ge 23, 3) := by decide +kernel
theorem dX2_begin_34 : decode cX2_begin 34 = .ok (.aload_n 0, 1) := by decide +kernel
theorem dX2_begin_35 : decode cX2_begin 35 = .ok (.getfield 18, 3) := by decide +kernel
theorem dX2_begin_38 : decode cX2_begin 38 = .ok (.iload_n 1, 1) := by decide +kernel
theorem dX2_begin_39 : decode cX2_begin 39 = .ok (.iconst 0, 1) := by decide +kernel
theorem dX2_begin_40 : decode cX2_begin 40 = .ok (.iastore, 1) := by decide +kernel
theorem dX2_begin_41 : decode cX2_begin 41 = .ok (.aload_n 0, 1) := by decide +kernel
theorem dX2_begin_42 : decode cX2_begin 42 = .ok (.getfield 21, 3) := by decide +kernel
theorem dX2_begin_45 : decode cX2_begin 45 = .ok (.iload_n 1, 1) := by decide +kernel
theorem dX2_begin_46 : decode cX2_begin 46 = .ok (.iconst 0, 1) := by decide +kernel
theorem dX2_begin_47 : decode cX2_begin 47 = .ok (.iastore, 1) := by decide +kernel
theorem dX2_begin_48 : decode cX2_begin 48 = .ok (.iinc 1 1, 3) := by decide +kernel
theorem dX2_begin_51 : decode cX2_begin 51 = .ok (.goto (-23), 3) := by decide +kernel
theorem dX2_begin_54 : decode cX2_begin 54 = .ok (.return_, 1) := by decide +kernel
theorem dX2_kindOf_0 : decode cX2_kindOf 0 = .ok (.iconst 0, 1) := by decide +kernel
theorem dX2_kindOf_1 : decode cX2_kindOf 1 = .ok (.istore_n 1, 1) := by decide +kernel
theorem dX2_kindOf_2 : decode cX2_kindOf 2 = .ok (.iload_n 1, 1) := by decide +kernel
theorem dX2_kindOf_3 : decode cX2_kindOf 3 = .ok (.bipush 6, 2) := by decide +kernel
theorem dX2_kindOf_5 : decode cX2_kindOf 5 = .ok (.if_icmp .ge 20, 3) := by decide +kernel
theorem dX2_kindOf_8 : decode cX2_kindOf 8 = .ok (.getstatic 67, 3) := by decide +kernel
theorem dX2_kindOf_11 : decode cX2_kindOf 11 = .ok (.iload_n 1, 1) := by decide +kernel
theorem dX2_kindOf_12 : decode cX2_kindOf 12 = .ok (.caload, 1) := by decide +kernel
theorem dX2_kindOf_13 : decode cX2_kindOf 13 = .ok (.iload_n 0, 1) := by decide +kernel
theorem dX2_kindOf_14 : decode cX2_kindOf 14 = .ok (.if_icmp .ne 5, 3) := by decide +kernel
theorem dX2_kindOf_17 : decode cX2_kindOf 17 = .ok (.iload_n 1, 1) := by decide +kernel
theorem dX2_kindOf_18 : decode cX2_kindOf 18 = .ok (.ireturn, 1) := by decide +kernel
theorem dX2_kindOf_19 : decode cX2_kindOf 19 = .ok (.iinc 1 1, 3) := by decide +kernel
theorem dX2_kindOf_22 : decode cX2_kindOf 22 = .ok (.goto (-20), 3) := by decide +kernel
theorem dX2_kindOf_25 : decode cX2_kindOf 25 = .ok (.bipush (-9), 2) := by decide +kernel
theorem dX2_kindOf_27 : decode cX2_kindOf 27 = .ok (.ireturn, 1) := by decide +kernel
theorem dX2_addPerson_0 : decode cX2_addPerson 0 = .ok (.aload_n 0, 1) := by decide +kernel
theorem dX2_addPerson_1 : decode cX2_addPerson 1 = .ok (.getfield 9, 3) := by decide +kernel
theorem dX2_addPerson_4 : decode cX2_addPerson 4 = .ok (.aload_n 0, 1) := by decide +kernel
theorem dX2_addPerson_5 : decode cX2_addPerson 5 = .ok (.getfield 37, 3) := by decide +kernel
theorem dX2_addPerson_8 : decode cX2_addPerson 8 = .ok (.iload_n 1, 1) := by decide +kernel
theorem dX2_addPerson_9 : decode cX2_addPerson 9 = .ok (.iastore, 1) := by decide +kernel
theorem dX2_addPerson_10 : decode cX2_addPerson 10 = .ok (.iload_n 1, 1) := by decide +kernel
theorem dX2_addPerson_11 : decode cX2_addPerson 11 = .ok (.istore_n 2, 1) := by decide +kernel
theorem dX2_addPerson_12 : decode cX2_addPerson 12 = .ok (.iconst 0, 1) := by decide +kernel
theorem dX2_addPerson_13 : decode cX2_addPerson 13 = .ok (.istore_n 3, 1) := by decide +kernel
theorem dX2_addPerson_14 : decode cX2_addPerson 14 = .ok (.iload_n 3, 1) := by decide +kernel
theorem dX2_addPerson_15 : decode cX2_addPerson 15 = .ok (.bipush 6, 2) := by decide +kernel
theorem dX2_addPerson_17 : decode cX2_addPerson 17 = .ok (.if_icmp .ge 34, 3) := by decide +kernel
theorem dX2_addPerson_20 : decode cX2_addPerson 20 = .ok (.iload_n 2, 1) := by decide +kernel
theorem dX2_addPerson_21 : decode cX2_addPerson 21 = .ok (.ifCond .lt 30, 3) := by decide +kernel
theorem dX2_addPerson_24 : decode cX2_addPerson 24 = .ok (.aload_n 0, 1) := by decide +kernel
theorem dX2_addPerson_25 : decode cX2_addPerson 25 = .ok (.getfield 15, 3) := by decide +kernel
theorem dX2_addPerson_28 : decode cX2_addPerson 28 = .ok (.iload_n 2, 1) := by decide +kernel
theorem dX2_addPerson_29 : decode cX2_addPerson 29 = .ok (.dup2, 1) := by decide +kernel
theorem dX2_addPerson_30 : decode cX2_addPerson 30 = .ok (.iaload, 1) := by decide +kernel
theorem dX2_addPerson_31 : decode cX2_addPerson 31 = .ok (.iconst 1, 1) := by decide +kernel
theorem dX2_addPerson_32 : decode cX2_addPerson 32 = .ok (.aload_n 0, 1) := by decide +kernel
theorem dX2_addPerson_33 : decode cX2_addPerson 33 = .ok (.getfield 37, 3) := by decide +kernel
theorem dX2_addPerson_36 : decode cX2_addPerson 36 = .ok (.ishl, 1) := by decide +kernel
theorem dX2_addPerson_37 : decode cX2_addPerson 37 = .ok (.ior, 1) := by decide +kernel
theorem dX2_addPerson_38 : decode cX2_addPerson 38 = .ok (.iastore, 1) := by decide +kernel
theorem dX2_addPerson_39 : decode cX2_addPerson 39 = .ok (.getstatic 71, 3) := by decide +kernel
theorem dX2_addPerson_42 : decode cX2_addPerson 42 = .ok (.iload_n 2, 1) := by decide +kernel
theorem dX2_addPerson_43 : decode cX2_addPerson 43 = .ok (.iaload, 1) := by decide +kernel
theorem dX2_addPerson_44 : decode cX2_addPerson 44 = .ok (.istore_n 2, 1) := by decide +kernel
theorem dX2_addPerson_45 : decode cX2_addPerson 45 = .ok (.iinc 3 1, 3) := by decide +kernel
theorem dX2_addPerson_48 : decode cX2_addPerson 48 = .ok (.goto (-34), 3) := by decide +kernel
theorem dX2_addPerson_51 : decode cX2_addPerson 51 = .ok (.aload_n 0, 1) := by decide +kernel
theorem dX2_addPerson_52 : decode cX2_addPerson 52 = .ok (.dup, 1) := by decide +kernel
theorem dX2_addPerson_53 : decode cX2_addPerson 53 = .ok (.getfield 37, 3) := by decide +kernel
theorem dX2_addPerson_56 : decode cX2_addPerson 56 = .ok (.iconst 1, 1) := by decide +kernel
theorem dX2_addPerson_57 : decode cX2_addPerson 57 = .ok (.iadd, 1) := by decide +kernel
theorem dX2_addPerson_58 : decode cX2_addPerson 58 = .ok (.putfield 37, 3) := by decide +kernel
theorem dX2_addPerson_61 : decode cX2_addPerson 61 = .ok (.return_, 1) := by decide +kernel
theorem dX2_readTie_0 : decode cX2_readTie 0 = .ok (.iload_n 2, 1) := by decide +kernel
theorem dX2_readTie_1 : decode cX2_readTie 1 = .ok (.iconst 1, 1) := by decide +kernel
theorem dX2_readTie_2 : decode cX2_readTie 2 = .ok (.iadd, 1) := by decide +kernel
theorem dX2_readTie_3 : decode cX2_readTie 3 = .ok (.aload_n 1, 1) := by decide +kernel
theorem dX2_readTie_4 : decode cX2_readTie 4 = .ok (.getfield 43, 3) := by decide +kernel
theorem dX2_readTie_7 : decode cX2_readTie 7 = .ok (.if_icmp .lt 8, 3) := by decide +kernel
theorem dX2_readTie_10 : decode cX2_readTie 10 = .ok (.aload_n 1, 1) := by decide +kernel
theorem dX2_readTie_11 : decode cX2_readTie 11 = .ok (.getfield 43, 3) := by decide +kernel
theorem dX2_readTie_14 : decode cX2_readTie 14 = .ok (.ireturn, 1) := by decide +kernel
theorem dX2_readTie_15 : decode cX2_readTie 15 = .ok (.aload_n 1, 1) := by decide +kernel
theorem dX2_readTie_16 : decode cX2_readTie 16 = .ok (.getfield 48, 3) := by decide +kernel
theorem dX2_readTie_19 : decode cX2_readTie 19 = .ok (.iload_n 2, 1) := by decide +kernel
theorem dX2_readTie_20 : decode cX2_readTie 20 = .ok (.iconst 1, 1) := by decide +kernel
theorem dX2_readTie_21 : decode cX2_readTie 21 = .ok (.iadd, 1) := by decide +kernel
theorem dX2_readTie_22 : decode cX2_readTie 22 = .ok (.baload, 1) := by decide +kernel
theorem dX2_readTie_23 : decode cX2_readTie 23 = .ok (.bipush 48, 2) := by decide +kernel
theorem dX2_readTie_25 : decode cX2_readTie 25 = .ok (.isub, 1) := by decide +kernel
theorem dX2_readTie_26 : decode cX2_readTie 26 = .ok (.istore 4, 2) := by decide +kernel
theorem dX2_readTie_28 : decode cX2_readTie 28 = .ok (.aload_n 0, 1) := by decide +kernel
theorem dX2_readTie_29 : decode cX2_readTie 29 = .ok (.iload 4, 2) := by decide +kernel
theorem dX2_readTie_31 : decode cX2_readTie 31 = .ok (.invokevirtual 74, 3) := by decide +kernel
theorem dX2_readTie_34 : decode cX2_readTie 34 = .ok (.ifCond .ne 7, 3) := by decide +kernel
theorem dX2_readTie_37 : decode cX2_readTie 37 = .ok (.iload_n 2, 1) := by decide +kernel
theorem dX2_readTie_38 : decode cX2_readTie 38 = .ok (.iconst 1, 1) := by decide +kernel
theorem dX2_readTie_39 : decode cX2_readTie 39 = .ok (.iadd, 1) := by decide +kernel
theorem dX2_readTie_40 : decode cX2_readTie 40 = .ok (.ireturn, 1) := by decide +kernel
theorem dX2_readTie_41 : decode cX2_readTie 41 = .ok (.iload_n 2, 1) := by decide +kernel
theorem dX2_readTie_42 : decode cX2_readTie 42 = .ok (.iconst 2, 1) := by decide +kernel
theorem dX2_readTie_43 : decode cX2_readTie 43 = .ok (.iadd, 1) := by decide +kernel
theorem dX2_readTie_44 : decode cX2_readTie 44 = .ok (.aload_n 1, 1) := by decide +kernel
theorem dX2_readTie_45 : decode cX2_readTie 45 = .ok (.getfield 43, 3) := by decide +kernel
theorem dX2_readTie_48 : decode cX2_readTie 48 = .ok (.if_icmp .lt 8, 3) := by decide +kernel
theorem dX2_readTie_51 : decode cX2_readTie 51 = .ok (.aload_n 1, 1) := by decide +kernel
theorem dX2_readTie_52 : decode cX2_readTie 52 = .ok (.getfield 43, 3) := by decide +kernel
theorem dX2_readTie_55 : decode cX2_readTie 55 = .ok (.ireturn, 1) := by decide +kernel
theorem dX2_readTie_56 : decode cX2_readTie 56 = .ok (.aload_n 1, 1) := by decide +kernel
theorem dX2_readTie_57 : decode cX2_readTie 57 = .ok (.getfield 48, 3) := by decide +kernel
theorem dX2_readTie_60 : decode cX2_readTie 60 = .ok (.iload_n 2, 1) := by decide +kernel
theorem dX2_readTie_61 : decode cX2_readTie 61 = .ok (.iconst 2, 1) := by decide +kernel
theorem dX2_readTie_62 : decode cX2_readTie 62 = .ok (.iadd, 1) := by decide +kernel
theorem dX2_readTie_63 : decode cX2_readTie 63 = .ok (.baload, 1) := by decide +kernel
theorem dX2_readTie_64 : decode cX2_readTie 64 = .ok (.bipush 48, 2) := by decide +kernel
theorem dX2_readTie_66 : decode cX2_readTie 66 = .ok (.isub, 1) := by decide +kernel
theorem dX2_readTie_67 : decode cX2_readTie 67 = .ok (.istore 5, 2) := by decide +kernel
theorem dX2_readTie_69 : decode cX2_readTie 69 = .ok (.aload_n 0, 1) := by decide +kernel
theorem dX2_readTie_70 : decode cX2_readTie 70 = .ok (.iload 5, 2) := by decide +kernel
theorem dX2_readTie_72 : decode cX2_readTie 72 = .ok (.invokevirtual 74, 3) := by decide +kernel
theorem dX2_readTie_75 : decode cX2_readTie 75 = .ok (.ifCond .eq 22, 3) := by decide +kernel
theorem dX2_readTie_78 : decode cX2_readTie 78 = .ok (.iload 5, 2) := by decide +kernel
theorem dX2_readTie_80 : decode cX2_readTie 80 = .ok (.iload 4, 2) := by decide +kernel
theorem dX2_readTie_82 : decode cX2_readTie 82 = .ok (.if_icmp .eq 15, 3) := by decide +kernel
theorem dX2_readTie_85 : decode cX2_readTie 85 = .ok (.aload_n 3, 1) := by decide +kernel
theorem dX2_readTie_86 : decode cX2_readTie 86 = .ok (.iload 4, 2) := by decide +kernel
theorem dX2_readTie_88 : decode cX2_readTie 88 = .ok (.iaload, 1) := by decide +kernel
theorem dX2_readTie_89 : decode cX2_readTie 89 = .ok (.iload 5, 2) := by decide +kernel
theorem dX2_readTie_91 : decode cX2_readTie 91 = .ok (.invokestatic 78, 3) := by decide +kernel
theorem dX2_readTie_94 : decode cX2_readTie 94 = .ok (.ifCond .eq 7, 3) := by decide +kernel
theorem dX2_readTie_97 : decode cX2_readTie 97 = .ok (.iload_n 2, 1) := by decide +kernel
theorem dX2_readTie_98 : decode cX2_readTie 98 = .ok (.iconst 2, 1) := by decide +kernel
theorem dX2_readTie_99 : decode cX2_readTie 99 = .ok (.iadd, 1) := by decide +kernel
theorem dX2_readTie_100 : decode cX2_readTie 100 = .ok (.ireturn, 1) := by decide +kernel
theorem dX2_readTie_101 : decode cX2_readTie 101 = .ok (.aload_n 3, 1) := by decide +kernel
theorem dX2_readTie_102 : decode cX2_readTie 102 = .ok (.iload 4, 2) := by decide +kernel
theorem dX2_readTie_104 : decode cX2_readTie 104 = .ok (.dup2, 1) := by decide +kernel
theorem dX2_readTie_105 : decode cX2_readTie 105 = .ok (.iaload, 1) := by decide +kernel
theorem dX2_readTie_106 : decode cX2_readTie 106 = .ok (.iconst 1, 1) := by decide +kernel
theorem dX2_readTie_107 : decode cX2_readTie 107 = .ok (.iload 5, 2) := by decide +kernel
theorem dX2_readTie_109 : decode cX2_readTie 109 = .ok (.ishl, 1) := by decide +kernel
theorem dX2_readTie_110 : decode cX2_readTie 110 = .ok (.ior, 1) := by decide +kernel
theorem dX2_readTie_111 : decode cX2_readTie 111 = .ok (.iastore, 1) := by decide +kernel
theorem dX2_readTie_112 : decode cX2_readTie 112 = .ok (.aload_n 3, 1) := by decide +kernel
theorem dX2_readTie_113 : decode cX2_readTie 113 = .ok (.iload 5, 2) := by decide +kernel
theorem dX2_readTie_115 : decode cX2_readTie 115 = .ok (.dup2, 1) := by decide +kernel
theorem dX2_readTie_116 : decode cX2_readTie 116 = .ok (.iaload, 1) := by decide +kernel
theorem dX2_readTie_117 : decode cX2_readTie 117 = .ok (.iconst 1, 1) := by decide +kernel
theorem dX2_readTie_118 : decode cX2_readTie 118 = .ok (.iload 4, 2) := by decide +kernel
theorem dX2_readTie_120 : decode cX2_readTie 120 = .ok (.ishl, 1) := by decide +kernel
theorem dX2_readTie_121 : decode cX2_readTie 121 = .ok (.ior, 1) := by decide +kernel
theorem dX2_readTie_122 : decode cX2_readTie 122 = .ok (.iastore, 1) := by decide +kernel
theorem dX2_readTie_123 : decode cX2_readTie 123 = .ok (.bipush (-9), 2) := by decide +kernel
theorem dX2_readTie_125 : decode cX2_readTie 125 = .ok (.ireturn, 1) := by decide +kernel
theorem dX2_joinHouses_0 : decode cX2_joinHouses 0 = .ok (.iconst 0, 1) := by decide +kernel
theorem dX2_joinHouses_1 : decode cX2_joinHouses 1 = .ok (.istore_n 1, 1) := by decide +kernel
theorem dX2_joinHouses_2 : decode cX2_joinHouses 2 = .ok (.iload_n 1, 1) := by decide +kernel
theorem dX2_joinHouses_3 : decode cX2_joinHouses 3 = .ok (.aload_n 0, 1) := by decide +kernel
theorem dX2_joinHouses_4 : decode cX2_joinHouses 4 = .ok (.getfield 37, 3) := by decide +kernel
theorem dX2_joinHouses_7 : decode cX2_joinHouses 7 = .ok (.if_icmp .ge 25, 3) := by decide +kernel
theorem dX2_joinHouses_10 : decode cX2_joinHouses 10 = .ok (.aload_n 0, 1) := by decide +kernel
theorem dX2_joinHouses_11 : decode cX2_joinHouses 11 = .ok (.getfield 24, 3) := by decide +kernel
theorem dX2_joinHouses_14 : decode cX2_joinHouses 14 = .ok (.iload_n 1, 1) := by decide +kernel
theorem dX2_joinHouses_15 : decode cX2_joinHouses 15 = .ok (.aload_n 0, 1) := by decide +kernel
theorem dX2_joinHouses_16 : decode cX2_joinHouses 16 = .ok (.getfield 18, 3) := by decide +kernel
theorem dX2_joinHouses_19 : decode cX2_joinHouses 19 = .ok (.iload_n 1, 1) := by decide +kernel
theorem dX2_joinHouses_20 : decode cX2_joinHouses 20 = .ok (.iaload, 1) := by decide +kernel
theorem dX2_joinHouses_21 : decode cX2_joinHouses 21 = .ok (.iconst 1, 1) := by decide +kernel
theorem dX2_joinHouses_22 : decode cX2_joinHouses 22 = .ok (.iload_n 1, 1) := by decide +kernel
theorem dX2_joinHouses_23 : decode cX2_joinHouses 23 = .ok (.ishl, 1) := by decide +kernel
theorem dX2_joinHouses_24 : decode cX2_joinHouses 24 = .ok (.ior, 1) := by decide +kernel
theorem dX2_joinHouses_25 : decode cX2_joinHouses 25 = .ok (.iastore, 1) := by decide +kernel
theorem dX2_joinHouses_26 : decode cX2_joinHouses 26 = .ok (.iinc 1 1, 3) := by decide +kernel
theorem dX2_joinHouses_29 : decode cX2_joinHouses 29 = .ok (.goto (-27), 3) := by decide +kernel
theorem dX2_joinHouses_32 : decode cX2_joinHouses 32 = .ok (.iconst 0, 1) := by decide +kernel
theorem dX2_joinHouses_33 : decode cX2_joinHouses 33 = .ok (.istore_n 1, 1) := by decide +kernel
theorem dX2_joinHouses_34 : decode cX2_joinHouses 34 = .ok (.iload_n 1, 1) := by decide +kernel
theorem dX2_joinHouses_35 : decode cX2_joinHouses 35 = .ok (.aload_n 0, 1) := by decide +kernel
theorem dX2_joinHouses_36 : decode cX2_joinHouses 36 = .ok (.getfield 37, 3) := by decide +kernel
theorem dX2_joinHouses_39 : decode cX2_joinHouses 39 = .ok (.if_icmp .ge 69, 3) := by decide +kernel
theorem dX2_joinHouses_42 : decode cX2_joinHouses 42 = .ok (.iconst 0, 1) := by decide +kernel
theorem dX2_joinHouses_43 : decode cX2_joinHouses 43 = .ok (.istore_n 2, 1) := by decide +kernel
theorem dX2_joinHouses_44 : decode cX2_joinHouses 44 = .ok (.iload_n 2, 1) := by decide +kernel
theorem dX2_joinHouses_45 : decode cX2_joinHouses 45 = .ok (.aload_n 0, 1) := by decide +kernel
theorem dX2_joinHouses_46 : decode cX2_joinHouses 46 = .ok (.getfield 37, 3) := by decide +kernel
theorem dX2_joinHouses_49 : decode cX2_joinHouses 49 = .ok (.if_icmp .ge 53, 3) := by decide +kernel
theorem dX2_joinHouses_52 : decode cX2_joinHouses 52 = .ok (.iconst 0, 1) := by decide +kernel
theorem dX2_joinHouses_53 : decode cX2_joinHouses 53 = .ok (.istore_n 3, 1) := by decide +kernel
theorem dX2_joinHouses_54 : decode cX2_joinHouses 54 = .ok (.iload_n 3, 1) := by decide +kernel
theorem dX2_joinHouses_55 : decode cX2_joinHouses 55 = .ok (.aload_n 0, 1) := by decide +kernel
theorem dX2_joinHouses_56 : decode cX2_joinHouses 56 = .ok (.getfield 37, 3) := by decide +kernel
theorem dX2_joinHouses_59 : decode cX2_joinHouses 59 = .ok (.if_icmp .ge 37, 3) := by decide +kernel
theorem dX2_joinHouses_62 : decode cX2_joinHouses 62 = .ok (.aload_n 0, 1) := by decide +kernel
theorem dX2_joinHouses_63 : decode cX2_joinHouses 63 = .ok (.getfield 24, 3) := by decide +kernel
theorem dX2_joinHouses_66 : decode cX2_joinHouses 66 = .ok (.iload_n 2, 1) := by decide +kernel
theorem dX2_joinHouses_67 : decode cX2_joinHouses 67 = .ok (.iaload, 1) := by decide +kernel
theorem dX2_joinHouses_68 : decode cX2_joinHouses 68 = .ok (.iload_n 3, 1) := by decide +kernel
theorem dX2_joinHouses_69 : decode cX2_joinHouses 69 = .ok (.invokestatic 78, 3) := by decide +kernel
theorem dX2_joinHouses_72 : decode cX2_joinHouses 72 = .ok (.ifCond .eq 18, 3) := by decide +kernel
theorem dX2_joinHouses_75 : decode cX2_joinHouses 75 = .ok (.aload_n 0, 1) := by decide +kernel
theorem dX2_joinHouses_76 : decode cX2_joinHouses 76 = .ok (.getfield 24, 3) := by decide +kernel
theorem dX2_joinHouses_79 : decode cX2_joinHouses 79 = .ok (.iload_n 2, 1) := by decide +kernel
theorem dX2_joinHouses_80 : decode cX2_joinHouses 80 = .ok (.dup2, 1) := by decide +kernel
theorem dX2_joinHouses_81 : decode cX2_joinHouses 81 = .ok (.iaload, 1) := by decide +kernel
theorem dX2_joinHouses_82 : decode cX2_joinHouses 82 = .ok (.aload_n 0, 1) := by decide +kernel
theorem dX2_joinHouses_83 : decode cX2_joinHouses 83 = .ok (.getfield 24, 3) := by decide +kernel
theorem dX2_joinHouses_86 : decode cX2_joinHouses 86 = .ok (.iload_n 3, 1) := by decide +kernel
theorem dX2_joinHouses_87 : decode cX2_joinHouses 87 = .ok (.iaload, 1) := by decide +kernel
theorem dX2_joinHouses_88 : decode cX2_joinHouses 88 = .ok (.ior, 1) := by decide +kernel
theorem dX2_joinHouses_89 : decode cX2_joinHouses 89 = .ok (.iastore, 1) := by decide +kernel
theorem dX2_joinHouses_90 : decode cX2_joinHouses 90 = .ok (.iinc 3 1, 3) := by decide +kernel
theorem dX2_joinHouses_93 : decode cX2_joinHouses 93 = .ok (.goto (-39), 3) := by decide +kernel
theorem dX2_joinHouses_96 : decode cX2_joinHouses 96 = .ok (.iinc 2 1, 3) := by decide +kernel
theorem dX2_joinHouses_99 : decode cX2_joinHouses 99 = .ok (.goto (-55), 3) := by decide +kernel
theorem dX2_joinHouses_102 : decode cX2_joinHouses 102 = .ok (.iinc 1 1, 3) := by decide +kernel
theorem dX2_joinHouses_105 : decode cX2_joinHouses 105 = .ok (.goto (-71), 3) := by decide +kernel
theorem dX2_joinHouses_108 : decode cX2_joinHouses 108 = .ok (.aload_n 0, 1) := by decide +kernel
theorem dX2_joinHouses_109 : decode cX2_joinHouses 109 = .ok (.iconst 0, 1) := by decide +kernel
theorem dX2_joinHouses_110 : decode cX2_joinHouses 110 = .ok (.putfield 33, 3) := by decide +kernel
theorem dX2_joinHouses_113 : decode cX2_joinHouses 113 = .ok (.iconst 0, 1) := by decide +kernel
theorem dX2_joinHouses_114 : decode cX2_joinHouses 114 = .ok (.istore_n 1, 1) := by decide +kernel
theorem dX2_joinHouses_115 : decode cX2_joinHouses 115 = .ok (.iload_n 1, 1) := by decide +kernel
theorem dX2_joinHouses_116 : decode cX2_joinHouses 116 = .ok (.aload_n 0, 1) := by decide +kernel
theorem dX2_joinHouses_117 : decode cX2_joinHouses 117 = .ok (.getfield 37, 3) := by decide +kernel
theorem dX2_joinHouses_120 : decode cX2_joinHouses 120 = .ok (.if_icmp .ge 66, 3) := by decide +kernel
theorem dX2_joinHouses_123 : decode cX2_joinHouses 123 = .ok (.aload_n 0, 1) := by decide +kernel
theorem dX2_joinHouses_124 : decode cX2_joinHouses 124 = .ok (.getfield 27, 3) := by decide +kernel
theorem dX2_joinHouses_127 : decode cX2_joinHouses 127 = .ok (.iload_n 1, 1) := by decide +kernel
theorem dX2_joinHouses_128 : decode cX2_joinHouses 128 = .ok (.aload_n 0, 1) := by decide +kernel
theorem dX2_joinHouses_129 : decode cX2_joinHouses 129 = .ok (.getfield 24, 3) := by decide +kernel
theorem dX2_joinHouses_132 : decode cX2_joinHouses 132 = .ok (.iload_n 1, 1) := by decide +kernel
theorem dX2_joinHouses_133 : decode cX2_joinHouses 133 = .ok (.iaload, 1) := by decide +kernel
theorem dX2_joinHouses_134 : decode cX2_joinHouses 134 = .ok (.iload_n 1, 1) := by decide +kernel
theorem dX2_joinHouses_135 : decode cX2_joinHouses 135 = .ok (.invokestatic 82, 3) := by decide +kernel
theorem dX2_joinHouses_138 : decode cX2_joinHouses 138 = .ok (.iastore, 1) := by decide +kernel
theorem dX2_joinHouses_139 : decode cX2_joinHouses 139 = .ok (.aload_n 0, 1) := by decide +kernel
theorem dX2_joinHouses_140 : decode cX2_joinHouses 140 = .ok (.getfield 30, 3) := by decide +kernel
theorem dX2_joinHouses_143 : decode cX2_joinHouses 143 = .ok (.iload_n 1, 1) := by decide +kernel
theorem dX2_joinHouses_144 : decode cX2_joinHouses 144 = .ok (.aload_n 0, 1) := by decide +kernel
theorem dX2_joinHouses_145 : decode cX2_joinHouses 145 = .ok (.getfield 27, 3) := by decide +kernel
theorem dX2_joinHouses_148 : decode cX2_joinHouses 148 = .ok (.iload_n 1, 1) := by decide +kernel
theorem dX2_joinHouses_149 : decode cX2_joinHouses 149 = .ok (.iaload, 1) := by decide +kernel
theorem dX2_joinHouses_150 : decode cX2_joinHouses 150 = .ok (.iload_n 1, 1) := by decide +kernel
theorem dX2_joinHouses_151 : decode cX2_joinHouses 151 = .ok (.if_icmp .ne 17, 3) := by decide +kernel
theorem dX2_joinHouses_154 : decode cX2_joinHouses 154 = .ok (.aload_n 0, 1) := by decide +kernel
theorem dX2_joinHouses_155 : decode cX2_joinHouses 155 = .ok (.dup, 1) := by decide +kernel
theorem dX2_joinHouses_156 : decode cX2_joinHouses 156 = .ok (.getfield 33, 3) := by decide +kernel
theorem dX2_joinHouses_159 : decode cX2_joinHouses 159 = .ok (.dup_x1, 1) := by decide +kernel
theorem dX2_joinHouses_160 : decode cX2_joinHouses 160 = .ok (.iconst 1, 1) := by decide +kernel
theorem dX2_joinHouses_161 : decode cX2_joinHouses 161 = .ok (.iadd, 1) := by decide +kernel
theorem dX2_joinHouses_162 : decode cX2_joinHouses 162 = .ok (.putfield 33, 3) := by decide +kernel
theorem dX2_joinHouses_165 : decode cX2_joinHouses 165 = .ok (.goto 14, 3) := by decide +kernel
theorem dX2_joinHouses_168 : decode cX2_joinHouses 168 = .ok (.aload_n 0, 1) := by decide +kernel
theorem dX2_joinHouses_169 : decode cX2_joinHouses 169 = .ok (.getfield 30, 3) := by decide +kernel
theorem dX2_joinHouses_172 : decode cX2_joinHouses 172 = .ok (.aload_n 0, 1) := by decide +kernel
theorem dX2_joinHouses_173 : decode cX2_joinHouses 173 = .ok (.getfield 27, 3) := by decide +kernel
theorem dX2_joinHouses_176 : decode cX2_joinHouses 176 = .ok (.iload_n 1, 1) := by decide +kernel
theorem dX2_joinHouses_177 : decode cX2_joinHouses 177 = .ok (.iaload, 1) := by decide +kernel
theorem dX2_joinHouses_178 : decode cX2_joinHouses 178 = .ok (.iaload, 1) := by decide +kernel
theorem dX2_joinHouses_179 : decode cX2_joinHouses 179 = .ok (.iastore, 1) := by decide +kernel
theorem dX2_joinHouses_180 : decode cX2_joinHouses 180 = .ok (.iinc 1 1, 3) := by decide +kernel
theorem dX2_joinHouses_183 : decode cX2_joinHouses 183 = .ok (.goto (-68), 3) := by decide +kernel
theorem dX2_joinHouses_186 : decode cX2_joinHouses 186 = .ok (.return_, 1) := by decide +kernel
theorem dX2_leastOf_0 : decode cX2_leastOf 0 = .ok (.iconst 0, 1) := by decide +kernel
theorem dX2_leastOf_1 : decode cX2_leastOf 1 = .ok (.istore_n 2, 1) := by decide +kernel
theorem dX2_leastOf_2 : decode cX2_leastOf 2 = .ok (.iload_n 2, 1) := by decide +kernel
theorem dX2_leastOf_3 : decode cX2_leastOf 3 = .ok (.iload_n 1, 1) := by decide +kernel
theorem dX2_leastOf_4 : decode cX2_leastOf 4 = .ok (.if_icmp .ge 19, 3) := by decide +kernel
theorem dX2_leastOf_7 : decode cX2_leastOf 7 = .ok (.iload_n 0, 1) := by decide +kernel
theorem dX2_leastOf_8 : decode cX2_leastOf 8 = .ok (.iload_n 2, 1) := by decide +kernel
theorem dX2_leastOf_9 : decode cX2_leastOf 9 = .ok (.invokestatic 78, 3) := by decide +kernel
theorem dX2_leastOf_12 : decode cX2_leastOf 12 = .ok (.ifCond .eq 5, 3) := by decide +kernel
theorem dX2_leastOf_15 : decode cX2_leastOf 15 = .ok (.iload_n 2, 1) := by decide +kernel
theorem dX2_leastOf_16 : decode cX2_leastOf 16 = .ok (.ireturn, 1) := by decide +kernel
theorem dX2_leastOf_17 : decode cX2_leastOf 17 = .ok (.iinc 2 1, 3) := by decide +kernel
theorem dX2_leastOf_20 : decode cX2_leastOf 20 = .ok (.goto (-18), 3) := by decide +kernel
theorem dX2_leastOf_23 : decode cX2_leastOf 23 = .ok (.iload_n 1, 1) := by decide +kernel
theorem dX2_leastOf_24 : decode cX2_leastOf 24 = .ok (.ireturn, 1) := by decide +kernel
theorem dX2_has_0 : decode cX2_has 0 = .ok (.iload_n 1, 1) := by decide +kernel
theorem dX2_has_1 : decode cX2_has 1 = .ok (.ifCond .lt 15, 3) := by decide +kernel
theorem dX2_has_4 : decode cX2_has 4 = .ok (.iload_n 1, 1) := by decide +kernel
theorem dX2_has_5 : decode cX2_has 5 = .ok (.aload_n 0, 1) := by decide +kernel
theorem dX2_has_6 : decode cX2_has 6 = .ok (.getfield 37, 3) := by decide +kernel
theorem dX2_has_9 : decode cX2_has 9 = .ok (.if_icmp .ge 7, 3) := by decide +kernel
theorem dX2_has_12 : decode cX2_has 12 = .ok (.iconst 1, 1) := by decide +kernel
theorem dX2_has_13 : decode cX2_has 13 = .ok (.goto 4, 3) := by decide +kernel
theorem dX2_has_16 : decode cX2_has 16 = .ok (.iconst 0, 1) := by decide +kernel
theorem dX2_has_17 : decode cX2_has 17 = .ok (.ireturn, 1) := by decide +kernel
theorem dX2_is_0 : decode cX2_is 0 = .ok (.aload_n 0, 1) := by decide +kernel
theorem dX2_is_1 : decode cX2_is 1 = .ok (.getfield 15, 3) := by decide +kernel
theorem dX2_is_4 : decode cX2_is 4 = .ok (.iload_n 2, 1) := by decide +kernel
theorem dX2_is_5 : decode cX2_is 5 = .ok (.iaload, 1) := by decide +kernel
theorem dX2_is_6 : decode cX2_is 6 = .ok (.iload_n 1, 1) := by decide +kernel
theorem dX2_is_7 : decode cX2_is 7 = .ok (.invokestatic 78, 3) := by decide +kernel
theorem dX2_is_10 : decode cX2_is 10 = .ok (.ireturn, 1) := by decide +kernel
theorem dX2_everybody_0 : decode cX2_everybody 0 = .ok (.iconst 1, 1) := by decide +kernel
theorem dX2_everybody_1 : decode cX2_everybody 1 = .ok (.aload_n 0, 1) := by decide +kernel
theorem dX2_everybody_2 : decode cX2_everybody 2 = .ok (.getfield 37, 3) := by decide +kernel
theorem dX2_everybody_5 : decode cX2_everybody 5 = .ok (.ishl, 1) := by decide +kernel
theorem dX2_everybody_6 : decode cX2_everybody 6 = .ok (.iconst 1, 1) := by decide +kernel
theorem dX2_everybody_7 : decode cX2_everybody 7 = .ok (.isub, 1) := by decide +kernel
theorem dX2_everybody_8 : decode cX2_everybody 8 = .ok (.ireturn, 1) := by decide +kernel
theorem dX2_isSet_0 : decode cX2_isSet 0 = .ok (.iload_n 1, 1) := by decide +kernel
theorem dX2_isSet_1 : decode cX2_isSet 1 = .ok (.ifCond .lt 15, 3) := by decide +kernel
theorem dX2_isSet_4 : decode cX2_isSet 4 = .ok (.iload_n 1, 1) := by decide +kernel
theorem dX2_isSet_5 : decode cX2_isSet 5 = .ok (.aload_n 0, 1) := by decide +kernel
theorem dX2_isSet_6 : decode cX2_isSet 6 = .ok (.invokevirtual 86, 3) := by decide +kernel
theorem dX2_isSet_9 : decode cX2_isSet 9 = .ok (.if_icmp .gt 7, 3) := by decide +kernel
theorem dX2_isSet_12 : decode cX2_isSet 12 = .ok (.iconst 1, 1) := by decide +kernel
theorem dX2_isSet_13 : decode cX2_isSet 13 = .ok (.goto 4, 3) := by decide +kernel
theorem dX2_isSet_16 : decode cX2_isSet 16 = .ok (.iconst 0, 1) := by decide +kernel
theorem dX2_isSet_17 : decode cX2_isSet 17 = .ok (.ireturn, 1) := by decide +kernel
theorem dX2_agrees_0 : decode cX2_agrees 0 = .ok (.iconst 0, 1) := by decide +kernel
theorem dX2_agrees_1 : decode cX2_agrees 1 = .ok (.istore_n 3, 1) := by decide +kernel
theorem dX2_agrees_2 : decode cX2_agrees 2 = .ok (.iload_n 3, 1) := by decide +kernel
theorem dX2_agrees_3 : decode cX2_agrees 3 = .ok (.aload_n 0, 1) := by decide +kernel
theorem dX2_agrees_4 : decode cX2_agrees 4 = .ok (.getfield 37, 3) := by decide +kernel
theorem dX2_agrees_7 : decode cX2_agrees 7 = .ok (.if_icmp .ge 29, 3) := by decide +kernel
theorem dX2_agrees_10 : decode cX2_agrees 10 = .ok (.aload_n 1, 1) := by decide +kernel
theorem dX2_agrees_11 : decode cX2_agrees 11 = .ok (.iload_n 2, 1) := by decide +kernel
theorem dX2_agrees_12 : decode cX2_agrees 12 = .ok (.iload_n 3, 1) := by decide +kernel
theorem dX2_agrees_13 : decode cX2_agrees 13 = .ok (.iadd, 1) := by decide +kernel
theorem dX2_agrees_14 : decode cX2_agrees 14 = .ok (.iaload, 1) := by decide +kernel
theorem dX2_agrees_15 : decode cX2_agrees 15 = .ok (.aload_n 1, 1) := by decide +kernel
theorem dX2_agrees_16 : decode cX2_agrees 16 = .ok (.iload_n 2, 1) := by decide +kernel
theorem dX2_agrees_17 : decode cX2_agrees 17 = .ok (.aload_n 0, 1) := by decide +kernel
theorem dX2_agrees_18 : decode cX2_agrees 18 = .ok (.getfield 27, 3) := by decide +kernel
theorem dX2_agrees_21 : decode cX2_agrees 21 = .ok (.iload_n 3, 1) := by decide +kernel
theorem dX2_agrees_22 : decode cX2_agrees 22 = .ok (.iaload, 1) := by decide +kernel
theorem dX2_agrees_23 : decode cX2_agrees 23 = .ok (.iadd, 1) := by decide +kernel
theorem dX2_agrees_24 : decode cX2_agrees 24 = .ok (.iaload, 1) := by decide +kernel
theorem dX2_agrees_25 : decode cX2_agrees 25 = .ok (.if_icmp .eq 5, 3) := by decide +kernel
theorem dX2_agrees_28 : decode cX2_agrees 28 = .ok (.iconst 0, 1) := by decide +kernel
theorem dX2_agrees_29 : decode cX2_agrees 29 = .ok (.ireturn, 1) := by decide +kernel
theorem dX2_agrees_30 : decode cX2_agrees 30 = .ok (.iinc 3 1, 3) := by decide +kernel
theorem dX2_agrees_33 : decode cX2_agrees 33 = .ok (.goto (-31), 3) := by decide +kernel
theorem dX2_agrees_36 : decode cX2_agrees 36 = .ok (.iconst 1, 1) := by decide +kernel
theorem dX2_agrees_37 : decode cX2_agrees 37 = .ok (.ireturn, 1) := by decide +kernel
theorem dX2_dealNumber_0 : decode cX2_dealNumber 0 = .ok (.iconst 0, 1) := by decide +kernel
theorem dX2_dealNumber_1 : decode cX2_dealNumber 1 = .ok (.istore_n 2, 1) := by decide +kernel
theorem dX2_dealNumber_2 : decode cX2_dealNumber 2 = .ok (.iconst 0, 1) := by decide +kernel
theorem dX2_dealNumber_3 : decode cX2_dealNumber 3 = .ok (.istore_n 3, 1) := by decide +kernel
theorem dX2_dealNumber_4 : decode cX2_dealNumber 4 = .ok (.iload_n 3, 1) := by decide +kernel
theorem dX2_dealNumber_5 : decode cX2_dealNumber 5 = .ok (.aload_n 0, 1) := by decide +kernel
theorem dX2_dealNumber_6 : decode cX2_dealNumber 6 = .ok (.getfield 37, 3) := by decide +kernel
theorem dX2_dealNumber_9 : decode cX2_dealNumber 9 = .ok (.if_icmp .ge 24, 3) := by decide +kernel
theorem dX2_dealNumber_12 : decode cX2_dealNumber 12 = .ok (.iload_n 2, 1) := by decide +kernel
theorem dX2_dealNumber_13 : decode cX2_dealNumber 13 = .ok (.aload_n 1, 1) := by decide +kernel
theorem dX2_dealNumber_14 : decode cX2_dealNumber 14 = .ok (.iload_n 3, 1) := by decide +kernel
theorem dX2_dealNumber_15 : decode cX2_dealNumber 15 = .ok (.iaload, 1) := by decide +kernel
theorem dX2_dealNumber_16 : decode cX2_dealNumber 16 = .ok (.iconst 2, 1) := by decide +kernel
theorem dX2_dealNumber_17 : decode cX2_dealNumber 17 = .ok (.aload_n 0, 1) := by decide +kernel
theorem dX2_dealNumber_18 : decode cX2_dealNumber 18 = .ok (.getfield 30, 3) := by decide +kernel
theorem dX2_dealNumber_21 : decode cX2_dealNumber 21 = .ok (.iload_n 3, 1) := by decide +kernel
theorem dX2_dealNumber_22 : decode cX2_dealNumber 22 = .ok (.iaload, 1) := by decide +kernel
theorem dX2_dealNumber_23 : decode cX2_dealNumber 23 = .ok (.imul, 1) := by decide +kernel
theorem dX2_dealNumber_24 : decode cX2_dealNumber 24 = .ok (.ishl, 1) := by decide +kernel
theorem dX2_dealNumber_25 : decode cX2_dealNumber 25 = .ok (.ior, 1) := by decide +kernel
theorem dX2_dealNumber_26 : decode cX2_dealNumber 26 = .ok (.istore_n 2, 1) := by decide +kernel
theorem dX2_dealNumber_27 : decode cX2_dealNumber 27 = .ok (.iinc 3 1, 3) := by decide +kernel
theorem dX2_dealNumber_30 : decode cX2_dealNumber 30 = .ok (.goto (-26), 3) := by decide +kernel
theorem dX2_dealNumber_33 : decode cX2_dealNumber 33 = .ok (.iload_n 2, 1) := by decide +kernel
theorem dX2_dealNumber_34 : decode cX2_dealNumber 34 = .ok (.ireturn, 1) := by decide +kernel
theorem dX2_deals_0 : decode cX2_deals 0 = .ok (.iconst 1, 1) := by decide +kernel
theorem dX2_deals_1 : decode cX2_deals 1 = .ok (.iconst 2, 1) := by decide +kernel
theorem dX2_deals_2 : decode cX2_deals 2 = .ok (.aload_n 0, 1) := by decide +kernel
theorem dX2_deals_3 : decode cX2_deals 3 = .ok (.getfield 33, 3) := by decide +kernel
theorem dX2_deals_6 : decode cX2_deals 6 = .ok (.imul, 1) := by decide +kernel
theorem dX2_deals_7 : decode cX2_deals 7 = .ok (.ishl, 1) := by decide +kernel
theorem dX2_deals_8 : decode cX2_deals 8 = .ok (.ireturn, 1) := by decide +kernel
theorem dX2_dealsUpToTurning_0 : decode cX2_dealsUpToTurning 0 = .ok (.aload_n 0, 1) := by decide +kernel
theorem dX2_dealsUpToTurning_1 : decode cX2_dealsUpToTurning 1 = .ok (.invokevirtual 90, 3) := by decide +kernel
theorem dX2_dealsUpToTurning_4 : decode cX2_dealsUpToTurning 4 = .ok (.iconst 4, 1) := by decide +kernel
theorem dX2_dealsUpToTurning_5 : decode cX2_dealsUpToTurning 5 = .ok (.idiv, 1) := by decide +kernel
theorem dX2_dealsUpToTurning_6 : decode cX2_dealsUpToTurning 6 = .ok (.ireturn, 1) := by decide +kernel
theorem dX2_knownBy_0 : decode cX2_knownBy 0 = .ok (.iconst 1, 1) := by decide +kernel
theorem dX2_knownBy_1 : decode cX2_knownBy 1 = .ok (.aload_n 2, 1) := by decide +kernel
theorem dX2_knownBy_2 : decode cX2_knownBy 2 = .ok (.iload_n 1, 1) := by decide +kernel
theorem dX2_knownBy_3 : decode cX2_knownBy 3 = .ok (.iaload, 1) := by decide +kernel
theorem dX2_knownBy_4 : decode cX2_knownBy 4 = .ok (.ishl, 1) := by decide +kernel
theorem dX2_knownBy_5 : decode cX2_knownBy 5 = .ok (.istore 4, 2) := by decide +kernel
theorem dX2_knownBy_7 : decode cX2_knownBy 7 = .ok (.iload_n 3, 1) := by decide +kernel
theorem dX2_knownBy_8 : decode cX2_knownBy 8 = .ok (.ifCond .eq 38, 3) := by decide +kernel
theorem dX2_knownBy_11 : decode cX2_knownBy 11 = .ok (.aload_n 0, 1) := by decide +kernel
theorem dX2_knownBy_12 : decode cX2_knownBy 12 = .ok (.iload_n 1, 1) := by decide +kernel
theorem dX2_knownBy_13 : decode cX2_knownBy 13 = .ok (.iconst 1, 1) := by decide +kernel
theorem dX2_knownBy_14 : decode cX2_knownBy 14 = .ok (.invokevirtual 93, 3) := by decide +kernel
theorem dX2_knownBy_17 : decode cX2_knownBy 17 = .ok (.ifCond .eq 29, 3) := by decide +kernel
theorem dX2_knownBy_20 : decode cX2_knownBy 20 = .ok (.iload 4, 2) := by decide +kernel
theorem dX2_knownBy_22 : decode cX2_knownBy 22 = .ok (.iconst 1, 1) := by decide +kernel
theorem dX2_knownBy_23 : decode cX2_knownBy 23 = .ok (.aload_n 2, 1) := by decide +kernel
theorem dX2_knownBy_24 : decode cX2_knownBy 24 = .ok (.iload_n 1, 1) := by decide +kernel
theorem dX2_knownBy_25 : decode cX2_knownBy 25 = .ok (.iconst 1, 1) := by decide +kernel
theorem dX2_knownBy_26 : decode cX2_knownBy 26 = .ok (.iadd, 1) := by decide +kernel
theorem dX2_knownBy_27 : decode cX2_knownBy 27 = .ok (.aload_n 0, 1) := by decide +kernel
theorem dX2_knownBy_28 : decode cX2_knownBy 28 = .ok (.getfield 37, 3) := by decide +kernel
theorem dX2_knownBy_31 : decode cX2_knownBy 31 = .ok (.if_icmp .ge 9, 3) := by decide +kernel
theorem dX2_knownBy_34 : decode cX2_knownBy 34 = .ok (.iload_n 1, 1) := by decide +kernel
theorem dX2_knownBy_35 : decode cX2_knownBy 35 = .ok (.iconst 1, 1) := by decide +kernel
theorem dX2_knownBy_36 : decode cX2_knownBy 36 = .ok (.iadd, 1) := by decide +kernel
theorem dX2_knownBy_37 : decode cX2_knownBy 37 = .ok (.goto 4, 3) := by decide +kernel
theorem dX2_knownBy_40 : decode cX2_knownBy 40 = .ok (.iconst 0, 1) := by decide +kernel
theorem dX2_knownBy_41 : decode cX2_knownBy 41 = .ok (.iaload, 1) := by decide +kernel
theorem dX2_knownBy_42 : decode cX2_knownBy 42 = .ok (.ishl, 1) := by decide +kernel
theorem dX2_knownBy_43 : decode cX2_knownBy 43 = .ok (.ior, 1) := by decide +kernel
theorem dX2_knownBy_44 : decode cX2_knownBy 44 = .ok (.istore 4, 2) := by decide +kernel
theorem dX2_knownBy_46 : decode cX2_knownBy 46 = .ok (.aload_n 0, 1) := by decide +kernel
theorem dX2_knownBy_47 : decode cX2_knownBy 47 = .ok (.iload_n 1, 1) := by decide +kernel
theorem dX2_knownBy_48 : decode cX2_knownBy 48 = .ok (.iconst 3, 1) := by decide +kernel
theorem dX2_knownBy_49 : decode cX2_knownBy 49 = .ok (.invokevirtual 93, 3) := by decide +kernel
theorem dX2_knownBy_52 : decode cX2_knownBy 52 = .ok (.ifCond .eq 17, 3) := by decide +kernel
theorem dX2_knownBy_55 : decode cX2_knownBy 55 = .ok (.iload 4, 2) := by decide +kernel
theorem dX2_knownBy_57 : decode cX2_knownBy 57 = .ok (.iconst 1, 1) := by decide +kernel
theorem dX2_knownBy_58 : decode cX2_knownBy 58 = .ok (.aload_n 2, 1) := by decide +kernel
theorem dX2_knownBy_59 : decode cX2_knownBy 59 = .ok (.iload_n 1, 1) := by decide +kernel
theorem dX2_knownBy_60 : decode cX2_knownBy 60 = .ok (.iaload, 1) := by decide +kernel
theorem dX2_knownBy_61 : decode cX2_knownBy 61 = .ok (.iconst 1, 1) := by decide +kernel
theorem dX2_knownBy_62 : decode cX2_knownBy 62 = .ok (.iadd, 1) := by decide +kernel
theorem dX2_knownBy_63 : decode cX2_knownBy 63 = .ok (.iconst 4, 1) := by decide +kernel
theorem dX2_knownBy_64 : decode cX2_knownBy 64 = .ok (.irem, 1) := by decide +kernel
theorem dX2_knownBy_65 : decode cX2_knownBy 65 = .ok (.ishl, 1) := by decide +kernel
theorem dX2_knownBy_66 : decode cX2_knownBy 66 = .ok (.ior, 1) := by decide +kernel
theorem dX2_knownBy_67 : decode cX2_knownBy 67 = .ok (.istore 4, 2) := by decide +kernel
theorem dX2_knownBy_69 : decode cX2_knownBy 69 = .ok (.aload_n 0, 1) := by decide +kernel
theorem dX2_knownBy_70 : decode cX2_knownBy 70 = .ok (.iload_n 1, 1) := by decide +kernel
theorem dX2_knownBy_71 : decode cX2_knownBy 71 = .ok (.iconst 5, 1) := by decide +kernel
theorem dX2_knownBy_72 : decode cX2_knownBy 72 = .ok (.invokevirtual 93, 3) := by decide +kernel
theorem dX2_knownBy_75 : decode cX2_knownBy 75 = .ok (.ifCond .eq 28, 3) := by decide +kernel
theorem dX2_knownBy_78 : decode cX2_knownBy 78 = .ok (.iload 4, 2) := by decide +kernel
theorem dX2_knownBy_80 : decode cX2_knownBy 80 = .ok (.iconst 1, 1) := by decide +kernel
theorem dX2_knownBy_81 : decode cX2_knownBy 81 = .ok (.aload_n 2, 1) := by decide +kernel
theorem dX2_knownBy_82 : decode cX2_knownBy 82 = .ok (.iload_n 1, 1) := by decide +kernel
theorem dX2_knownBy_83 : decode cX2_knownBy 83 = .ok (.ifCond .le 9, 3) := by decide +kernel
theorem dX2_knownBy_86 : decode cX2_knownBy 86 = .ok (.iload_n 1, 1) := by decide +kernel
theorem dX2_knownBy_87 : decode cX2_knownBy 87 = .ok (.iconst 1, 1) := by decide +kernel
theorem dX2_knownBy_88 : decode cX2_knownBy 88 = .ok (.isub, 1) := by decide +kernel
theorem dX2_knownBy_89 : decode cX2_knownBy 89 = .ok (.goto 9, 3) := by decide +kernel
theorem dX2_knownBy_92 : decode cX2_knownBy 92 = .ok (.aload_n 0, 1) := by decide +kernel
theorem dX2_knownBy_93 : decode cX2_knownBy 93 = .ok (.getfield 37, 3) := by decide +kernel
theorem dX2_knownBy_96 : decode cX2_knownBy 96 = .ok (.iconst 1, 1) := by decide +kernel
theorem dX2_knownBy_97 : decode cX2_knownBy 97 = .ok (.isub, 1) := by decide +kernel
theorem dX2_knownBy_98 : decode cX2_knownBy 98 = .ok (.iaload, 1) := by decide +kernel
theorem dX2_knownBy_99 : decode cX2_knownBy 99 = .ok (.ishl, 1) := by decide +kernel
theorem dX2_knownBy_100 : decode cX2_knownBy 100 = .ok (.ior, 1) := by decide +kernel
theorem dX2_knownBy_101 : decode cX2_knownBy 101 = .ok (.istore 4, 2) := by decide +kernel
theorem dX2_knownBy_103 : decode cX2_knownBy 103 = .ok (.iload 4, 2) := by decide +kernel
theorem dX2_knownBy_105 : decode cX2_knownBy 105 = .ok (.ireturn, 1) := by decide +kernel
theorem dX2_gainOf_0 : decode cX2_gainOf 0 = .ok (.aload_n 0, 1) := by decide +kernel
theorem dX2_gainOf_1 : decode cX2_gainOf 1 = .ok (.iload_n 1, 1) := by decide +kernel
theorem dX2_gainOf_2 : decode cX2_gainOf 2 = .ok (.aload_n 2, 1) := by decide +kernel
theorem dX2_gainOf_3 : decode cX2_gainOf 3 = .ok (.iconst 1, 1) := by decide +kernel
theorem dX2_gainOf_4 : decode cX2_gainOf 4 = .ok (.invokevirtual 96, 3) := by decide +kernel
theorem dX2_gainOf_7 : decode cX2_gainOf 7 = .ok (.invokestatic 100, 3) := by decide +kernel
theorem dX2_gainOf_10 : decode cX2_gainOf 10 = .ok (.istore_n 3, 1) := by decide +kernel
theorem dX2_gainOf_11 : decode cX2_gainOf 11 = .ok (.iload_n 3, 1) := by decide +kernel
theorem dX2_gainOf_12 : decode cX2_gainOf 12 = .ok (.aload_n 0, 1) := by decide +kernel
theorem dX2_gainOf_13 : decode cX2_gainOf 13 = .ok (.iload_n 1, 1) := by decide +kernel
theorem dX2_gainOf_14 : decode cX2_gainOf 14 = .ok (.aload_n 2, 1) := by decide +kernel
theorem dX2_gainOf_15 : decode cX2_gainOf 15 = .ok (.iconst 0, 1) := by decide +kernel
theorem dX2_gainOf_16 : decode cX2_gainOf 16 = .ok (.invokevirtual 96, 3) := by decide +kernel
theorem dX2_gainOf_19 : decode cX2_gainOf 19 = .ok (.invokestatic 100, 3) := by decide +kernel
theorem dX2_gainOf_22 : decode cX2_gainOf 22 = .ok (.isub, 1) := by decide +kernel
theorem dX2_gainOf_23 : decode cX2_gainOf 23 = .ok (.ireturn, 1) := by decide +kernel
theorem dX3_init_0 : decode cX3_init 0 = .ok (.aload_n 0, 1) := by decide +kernel
theorem dX3_init_1 : decode cX3_init 1 = .ok (.invokespecial 3, 3) := by decide +kernel
theorem dX3_init_4 : decode cX3_init 4 = .ok (.aload_n 0, 1) := by decide +kernel
theorem dX3_init_5 : decode cX3_init 5 = .ok (.bipush 40, 2) := by decide +kernel
theorem dX3_init_7 : decode cX3_init 7 = .ok (.newarray .int, 2) := by decide +kernel
theorem dX3_init_9 : decode cX3_init 9 = .ok (.putfield 9, 3) := by decide +kernel
theorem dX3_init_12 : decode cX3_init 12 = .ok (.aload_n 0, 1) := by decide +kernel
theorem dX3_init_13 : decode cX3_init 13 = .ok (.iconst (-1), 1) := by decide +kernel
theorem dX3_init_14 : decode cX3_init 14 = .ok (.putfield 15, 3) := by decide +kernel
theorem dX3_init_17 : decode cX3_init 17 = .ok (.return_, 1) := by decide +kernel
theorem dX3_begin_0 : decode cX3_begin 0 = .ok (.aload_n 0, 1) := by decide +kernel
theorem dX3_begin_1 : decode cX3_begin 1 = .ok (.iload_n 1, 1) := by decide +kernel
theorem dX3_begin_2 : decode cX3_begin 2 = .ok (.putfield 15, 3) := by decide +kernel
theorem dX3_begin_5 : decode cX3_begin 5 = .ok (.iconst 0, 1) := by decide +kernel
theorem dX3_begin_6 : decode cX3_begin 6 = .ok (.istore_n 2, 1) := by decide +kernel
theorem dX3_begin_7 : decode cX3_begin 7 = .ok (.iload_n 2, 1) := by decide +kernel
theorem dX3_begin_8 : decode cX3_begin 8 = .ok (.iload_n 1, 1) := by decide +kernel
theorem dX3_begin_9 : decode cX3_begin 9 = .ok (.if_icmp .ge 16, 3) := by decide +kernel
theorem dX3_begin_12 : decode cX3_begin 12 = .ok (.aload_n 0, 1) := by decide +kernel
theorem dX3_begin_13 : decode cX3_begin 13 = .ok (.getfield 9, 3) := by decide +kernel
theorem dX3_begin_16 : decode cX3_begin 16 = .ok (.iload_n 2, 1) := by decide +kernel
theorem dX3_begin_17 : decode cX3_begin 17 = .ok (.iconst 0, 1) := by decide +kernel
theorem dX3_begin_18 : decode cX3_begin 18 = .ok (.iastore, 1) := by decide +kernel
theorem dX3_begin_19 : decode cX3_begin 19 = .ok (.iinc 2 1, 3) := by decide +kernel
theorem dX3_begin_22 : decode cX3_begin 22 = .ok (.goto (-15), 3) := by decide +kernel
theorem dX3_begin_25 : decode cX3_begin 25 = .ok (.return_, 1) := by decide +kernel
theorem dX3_has_0 : decode cX3_has 0 = .ok (.iload_n 1, 1) := by decide +kernel
theorem dX3_has_1 : decode cX3_has 1 = .ok (.ifCond .lt 15, 3) := by decide +kernel
theorem dX3_has_4 : decode cX3_has 4 = .ok (.iload_n 1, 1) := by decide +kernel
theorem dX3_has_5 : decode cX3_has 5 = .ok (.aload_n 0, 1) := by decide +kernel
theorem dX3_has_6 : decode cX3_has 6 = .ok (.getfield 15, 3) := by decide +kernel
theorem dX3_has_9 : decode cX3_has 9 = .ok (.if_icmp .ge 7, 3) := by decide +kernel
theorem dX3_has_12 : decode cX3_has 12 = .ok (.iconst 1, 1) := by decide +kernel
theorem dX3_has_13 : decode cX3_has 13 = .ok (.goto 4, 3) := by decide +kernel
theorem dX3_has_16 : decode cX3_has 16 = .ok (.iconst 0, 1) := by decide +kernel
theorem dX3_has_17 : decode cX3_has 17 = .ok (.ireturn, 1) := by decide +kernel
theorem dX3_hasFrom_0 : decode cX3_hasFrom 0 = .ok (.iload_n 1, 1) := by decide +kernel
theorem dX3_hasFrom_1 : decode cX3_hasFrom 1 = .ok (.ifCond .lt 17, 3) := by decide +kernel
theorem dX3_hasFrom_4 : decode cX3_hasFrom 4 = .ok (.iload_n 1, 1) := by decide +kernel
theorem dX3_hasFrom_5 : decode cX3_hasFrom 5 = .ok (.aload_n 0, 1) := by decide +kernel
theorem dX3_hasFrom_6 : decode cX3_hasFrom 6 = .ok (.getfield 15, 3) := by decide +kernel
theorem dX3_hasFrom_9 : decode cX3_hasFrom 9 = .ok (.iload_n 2, 1) := by decide +kernel
theorem dX3_hasFrom_10 : decode cX3_hasFrom 10 = .ok (.isub, 1) := by decide +kernel
theorem dX3_hasFrom_11 : decode cX3_hasFrom 11 = .ok (.if_icmp .gt 7, 3) := by decide +kernel
theorem dX3_hasFrom_14 : decode cX3_hasFrom 14 = .ok (.iconst 1, 1) := by decide +kernel
theorem dX3_hasFrom_15 : decode cX3_hasFrom 15 = .ok (.goto 4, 3) := by decide +kernel
theorem dX3_hasFrom_18 : decode cX3_hasFrom 18 = .ok (.iconst 0, 1) := by decide +kernel
theorem dX3_hasFrom_19 : decode cX3_hasFrom 19 = .ok (.ireturn, 1) := by decide +kernel
theorem dX3_sum_0 : decode cX3_sum 0 = .ok (.lconst 0, 1) := by decide +kernel
theorem dX3_sum_1 : decode cX3_sum 1 = .ok (.lstore_n 1, 1) := by decide +kernel
theorem dX3_sum_2 : decode cX3_sum 2 = .ok (.iconst 0, 1) := by decide +kernel
theorem dX3_sum_3 : decode cX3_sum 3 = .ok (.istore_n 3, 1) := by decide +kernel
theorem dX3_sum_4 : decode cX3_sum 4 = .ok (.iload_n 3, 1) := by decide +kernel
theorem dX3_sum_5 : decode cX3_sum 5 = .ok (.aload_n 0, 1) := by decide +kernel
theorem dX3_sum_6 : decode cX3_sum 6 = .ok (.getfield 15, 3) := by decide +kernel
theorem dX3_sum_9 : decode cX3_sum 9 = .ok (.if_icmp .ge 19, 3) := by decide +kernel
theorem dX3_sum_12 : decode cX3_sum 12 = .ok (.lload_n 1, 1) := by decide +kernel
theorem dX3_sum_13 : decode cX3_sum 13 = .ok (.aload_n 0, 1) := by decide +kernel
theorem dX3_sum_14 : decode cX3_sum 14 = .ok (.getfield 9, 3) := by decide +kernel
theorem dX3_sum_17 : decode cX3_sum 17 = .ok (.iload_n 3, 1) := by decide +kernel
theorem dX3_sum_18 : decode cX3_sum 18 = .ok (.iaload, 1) := by decide +kernel
theorem dX3_sum_19 : decode cX3_sum 19 = .ok (.i2l, 1) := by decide +kernel
theorem dX3_sum_20 : decode cX3_sum 20 = .ok (.ladd, 1) := by decide +kernel
theorem dX3_sum_21 : decode cX3_sum 21 = .ok (.lstore_n 1, 1) := by decide +kernel
theorem dX3_sum_22 : decode cX3_sum 22 = .ok (.iinc 3 1, 3) := by decide +kernel
theorem dX3_sum_25 : decode cX3_sum 25 = .ok (.goto (-21), 3) := by decide +kernel
theorem dX3_sum_28 : decode cX3_sum 28 = .ok (.lload_n 1, 1) := by decide +kernel
theorem dX3_sum_29 : decode cX3_sum 29 = .ok (.lreturn, 1) := by decide +kernel
theorem dX3_allBelow_0 : decode cX3_allBelow 0 = .ok (.iconst 0, 1) := by decide +kernel
theorem dX3_allBelow_1 : decode cX3_allBelow 1 = .ok (.istore_n 2, 1) := by decide +kernel
theorem dX3_allBelow_2 : decode cX3_allBelow 2 = .ok (.iload_n 2, 1) := by decide +kernel
theorem dX3_allBelow_3 : decode cX3_allBelow 3 = .ok (.aload_n 0, 1) := by decide +kernel
theorem dX3_allBelow_4 : decode cX3_allBelow 4 = .ok (.getfield 15, 3) := by decide +kernel
theorem dX3_allBelow_7 : decode cX3_allBelow 7 = .ok (.if_icmp .ge 30, 3) := by decide +kernel
theorem dX3_allBelow_10 : decode cX3_allBelow 10 = .ok (.aload_n 0, 1) := by decide +kernel
theorem dX3_allBelow_11 : decode cX3_allBelow 11 = .ok (.getfield 9, 3) := by decide +kernel
theorem dX3_allBelow_14 : decode cX3_allBelow 14 = .ok (.iload_n 2, 1) := by decide +kernel
theorem dX3_allBelow_15 : decode cX3_allBelow 15 = .ok (.iaload, 1) := by decide +kernel
theorem dX3_allBelow_16 : decode cX3_allBelow 16 = .ok (.ifCond .lt 13, 3) := by decide +kernel
theorem dX3_allBelow_19 : decode cX3_allBelow 19 = .ok (.aload_n 0, 1) := by decide +kernel
theorem dX3_allBelow_20 : decode cX3_allBelow 20 = .ok (.getfield 9, 3) := by decide +kernel
theorem dX3_allBelow_23 : decode cX3_allBelow 23 = .ok (.iload_n 2, 1) := by decide +kernel
theorem dX3_allBelow_24 : decode cX3_allBelow 24 = .ok (.iaload, 1) := by decide +kernel
theorem dX3_allBelow_25 : decode cX3_allBelow 25 = .ok (.iload_n 1, 1) := by decide +kernel
theorem dX3_allBelow_26 : decode cX3_allBelow 26 = .ok (.if_icmp .lt 5, 3) := by decide +kernel
theorem dX3_allBelow_29 : decode cX3_allBelow 29 = .ok (.iconst 0, 1) := by decide +kernel
theorem dX3_allBelow_30 : decode cX3_allBelow 30 = .ok (.ireturn, 1) := by decide +kernel
theorem dX3_allBelow_31 : decode cX3_allBelow 31 = .ok (.iinc 2 1, 3) := by decide +kernel
theorem dX3_allBelow_34 : decode cX3_allBelow 34 = .ok (.goto (-32), 3) := by decide +kernel
theorem dX3_allBelow_37 : decode cX3_allBelow 37 = .ok (.iconst 1, 1) := by decide +kernel
theorem dX3_allBelow_38 : decode cX3_allBelow 38 = .ok (.ireturn, 1) := by decide +kernel
theorem dX3_alwaysAlike_0 : decode cX3_alwaysAlike 0 = .ok (.iconst 0, 1) := by decide +kernel
theorem dX3_alwaysAlike_1 : decode cX3_alwaysAlike 1 = .ok (.istore 5, 2) := by decide +kernel
theorem dX3_alwaysAlike_3 : decode cX3_alwaysAlike 3 = .ok (.iload 5, 2) := by decide +kernel
theorem dX3_alwaysAlike_5 : decode cX3_alwaysAlike 5 = .ok (.iload 4, 2) := by decide +kernel
theorem dX3_alwaysAlike_7 : decode cX3_alwaysAlike 7 = .ok (.if_icmp .ge 36, 3) := by decide +kernel
theorem dX3_alwaysAlike_10 : decode cX3_alwaysAlike 10 = .ok (.aload_n 0, 1) := by decide +kernel
theorem dX3_alwaysAlike_11 : decode cX3_alwaysAlike 11 = .ok (.getfield 9, 3) := by decide +kernel
theorem dX3_alwaysAlike_14 : decode cX3_alwaysAlike 14 = .ok (.iload 5, 2) := by decide +kernel
theorem dX3_alwaysAlike_16 : decode cX3_alwaysAlike 16 = .ok (.iload_n 3, 1) := by decide +kernel
theorem dX3_alwaysAlike_17 : decode cX3_alwaysAlike 17 = .ok (.imul, 1) := by decide +kernel
theorem dX3_alwaysAlike_18 : decode cX3_alwaysAlike 18 = .ok (.iload_n 1, 1) := by decide +kernel
theorem dX3_alwaysAlike_19 : decode cX3_alwaysAlike 19 = .ok (.iadd, 1) := by decide +kernel
theorem dX3_alwaysAlike_20 : decode cX3_alwaysAlike 20 = .ok (.iaload, 1) := by decide +kernel
theorem dX3_alwaysAlike_21 : decode cX3_alwaysAlike 21 = .ok (.aload_n 0, 1) := by decide +kernel
theorem dX3_alwaysAlike_22 : decode cX3_alwaysAlike 22 = .ok (.getfield 9, 3) := by decide +kernel
theorem dX3_alwaysAlike_25 : decode cX3_alwaysAlike 25 = .ok (.iload 5, 2) := by decide +kernel
theorem dX3_alwaysAlike_27 : decode cX3_alwaysAlike 27 = .ok (.iload_n 3, 1) := by decide +kernel
theorem dX3_alwaysAlike_28 : decode cX3_alwaysAlike 28 = .ok (.imul, 1) := by decide +kernel
theorem dX3_alwaysAlike_29 : decode cX3_alwaysAlike 29 = .ok (.iload_n 2, 1) := by decide +kernel
theorem dX3_alwaysAlike_30 : decode cX3_alwaysAlike 30 = .ok (.iadd, 1) := by decide +kernel
theorem dX3_alwaysAlike_31 : decode cX3_alwaysAlike 31 = .ok (.iaload, 1) := by decide +kernel
theorem dX3_alwaysAlike_32 : decode cX3_alwaysAlike 32 = .ok (.if_icmp .eq 5, 3) := by decide +kernel
theorem dX3_alwaysAlike_35 : decode cX3_alwaysAlike 35 = .ok (.iconst 0, 1) := by decide +kernel
theorem dX3_alwaysAlike_36 : decode cX3_alwaysAlike 36 = .ok (.ireturn, 1) := by decide +kernel
theorem dX3_alwaysAlike_37 : decode cX3_alwaysAlike 37 = .ok (.iinc 5 1, 3) := by decide +kernel
theorem dX3_alwaysAlike_40 : decode cX3_alwaysAlike 40 = .ok (.goto (-37), 3) := by decide +kernel
theorem dX3_alwaysAlike_43 : decode cX3_alwaysAlike 43 = .ok (.iconst 1, 1) := by decide +kernel
theorem dX3_alwaysAlike_44 : decode cX3_alwaysAlike 44 = .ok (.ireturn, 1) := by decide +kernel
theorem dX3_obeys_0 : decode cX3_obeys 0 = .ok (.iconst 0, 1) := by decide +kernel
theorem dX3_obeys_1 : decode cX3_obeys 1 = .ok (.istore 5, 2) := by decide +kernel
theorem dX3_obeys_3 : decode cX3_obeys 3 = .ok (.iconst 0, 1) := by decide +kernel
theorem dX3_obeys_4 : decode cX3_obeys 4 = .ok (.istore 6, 2) := by decide +kernel
theorem dX3_obeys_6 : decode cX3_obeys 6 = .ok (.iload 6, 2) := by decide +kernel
theorem dX3_obeys_8 : decode cX3_obeys 8 = .ok (.iload_n 3, 1) := by decide +kernel
theorem dX3_obeys_9 : decode cX3_obeys 9 = .ok (.if_icmp .ge 64, 3) := by decide +kernel
theorem dX3_obeys_12 : decode cX3_obeys 12 = .ok (.iload 6, 2) := by decide +kernel
theorem dX3_obeys_14 : decode cX3_obeys 14 = .ok (.iload_n 2, 1) := by decide +kernel
theorem dX3_obeys_15 : decode cX3_obeys 15 = .ok (.imul, 1) := by decide +kernel
theorem dX3_obeys_16 : decode cX3_obeys 16 = .ok (.iload_n 1, 1) := by decide +kernel
theorem dX3_obeys_17 : decode cX3_obeys 17 = .ok (.iadd, 1) := by decide +kernel
theorem dX3_obeys_18 : decode cX3_obeys 18 = .ok (.istore 7, 2) := by decide +kernel
theorem dX3_obeys_20 : decode cX3_obeys 20 = .ok (.iload 6, 2) := by decide +kernel
theorem dX3_obeys_22 : decode cX3_obeys 22 = .ok (.ifCond .le 31, 3) := by decide +kernel
theorem dX3_obeys_25 : decode cX3_obeys 25 = .ok (.aload_n 0, 1) := by decide +kernel
theorem dX3_obeys_26 : decode cX3_obeys 26 = .ok (.getfield 9, 3) := by decide +kernel
theorem dX3_obeys_29 : decode cX3_obeys 29 = .ok (.iload 7, 2) := by decide +kernel
theorem dX3_obeys_31 : decode cX3_obeys 31 = .ok (.iload_n 2, 1) := by decide +kernel
theorem dX3_obeys_32 : decode cX3_obeys 32 = .ok (.isub, 1) := by decide +kernel
theorem dX3_obeys_33 : decode cX3_obeys 33 = .ok (.iaload, 1) := by decide +kernel
theorem dX3_obeys_34 : decode cX3_obeys 34 = .ok (.aload_n 0, 1) := by decide +kernel
theorem dX3_obeys_35 : decode cX3_obeys 35 = .ok (.getfield 9, 3) := by decide +kernel
theorem dX3_obeys_38 : decode cX3_obeys 38 = .ok (.iload 7, 2) := by decide +kernel
theorem dX3_obeys_40 : decode cX3_obeys 40 = .ok (.iaload, 1) := by decide +kernel
theorem dX3_obeys_41 : decode cX3_obeys 41 = .ok (.iload 5, 2) := by decide +kernel
theorem dX3_obeys_43 : decode cX3_obeys 43 = .ok (.iload 4, 2) := by decide +kernel
theorem dX3_obeys_45 : decode cX3_obeys 45 = .ok (.invokestatic 19, 3) := by decide +kernel
theorem dX3_obeys_48 : decode cX3_obeys 48 = .ok (.ifCond .ne 5, 3) := by decide +kernel
theorem dX3_obeys_51 : decode cX3_obeys 51 = .ok (.iconst 0, 1) := by decide +kernel
theorem dX3_obeys_52 : decode cX3_obeys 52 = .ok (.ireturn, 1) := by decide +kernel
theorem dX3_obeys_53 : decode cX3_obeys 53 = .ok (.iload 5, 2) := by decide +kernel
theorem dX3_obeys_55 : decode cX3_obeys 55 = .ok (.iconst 1, 1) := by decide +kernel
theorem dX3_obeys_56 : decode cX3_obeys 56 = .ok (.aload_n 0, 1) := by decide +kernel
theorem dX3_obeys_57 : decode cX3_obeys 57 = .ok (.getfield 9, 3) := by decide +kernel
theorem dX3_obeys_60 : decode cX3_obeys 60 = .ok (.iload 7, 2) := by decide +kernel
theorem dX3_obeys_62 : decode cX3_obeys 62 = .ok (.iaload, 1) := by decide +kernel
theorem dX3_obeys_63 : decode cX3_obeys 63 = .ok (.ishl, 1) := by decide +kernel
theorem dX3_obeys_64 : decode cX3_obeys 64 = .ok (.ior, 1) := by decide +kernel
theorem dX3_obeys_65 : decode cX3_obeys 65 = .ok (.istore 5, 2) := by decide +kernel
theorem dX3_obeys_67 : decode cX3_obeys 67 = .ok (.iinc 6 1, 3) := by decide +kernel
theorem dX3_obeys_70 : decode cX3_obeys 70 = .ok (.goto (-64), 3) := by decide +kernel
theorem dX3_obeys_73 : decode cX3_obeys 73 = .ok (.iconst 1, 1) := by decide +kernel
theorem dX3_obeys_74 : decode cX3_obeys 74 = .ok (.ireturn, 1) := by decide +kernel
theorem dX3_follows_0 : decode cX3_follows 0 = .ok (.iload_n 3, 1) := by decide +kernel
theorem dX3_follows_1 : decode cX3_follows 1 = .ok (.tableswitch 64 0 2 #[27, 38, 53], 27) := by decide +kernel
theorem dX3_follows_28 : decode cX3_follows 28 = .ok (.iload_n 1, 1) := by decide +kernel
theorem dX3_follows_29 : decode cX3_follows 29 = .ok (.iload_n 0, 1) := by decide +kernel
theorem dX3_follows_30 : decode cX3_follows 30 = .ok (.if_icmp .ne 7, 3) := by decide +kernel
theorem dX3_follows_33 : decode cX3_follows 33 = .ok (.iconst 1, 1) := by decide +kernel
theorem dX3_follows_34 : decode cX3_follows 34 = .ok (.goto 4, 3) := by decide +kernel
theorem dX3_follows_37 : decode cX3_follows 37 = .ok (.iconst 0, 1) := by decide +kernel
theorem dX3_follows_38 : decode cX3_follows 38 = .ok (.ireturn, 1) := by decide +kernel
theorem dX3_follows_39 : decode cX3_follows 39 = .ok (.iload_n 1, 1) := by decide +kernel
theorem dX3_follows_40 : decode cX3_follows 40 = .ok (.iload_n 0, 1) := by decide +kernel
theorem dX3_follows_41 : decode cX3_follows 41 = .ok (.iconst 1, 1) := by decide +kernel
theorem dX3_follows_42 : decode cX3_follows 42 = .ok (.iadd, 1) := by decide +kernel
theorem dX3_follows_43 : decode cX3_follows 43 = .ok (.iconst 4, 1) := by decide +kernel
theorem dX3_follows_44 : decode cX3_follows 44 = .ok (.irem, 1) := by decide +kernel
theorem dX3_follows_45 : decode cX3_follows 45 = .ok (.if_icmp .ne 7, 3) := by decide +kernel
theorem dX3_follows_48 : decode cX3_follows 48 = .ok (.iconst 1, 1) := by decide +kernel
theorem dX3_follows_49 : decode cX3_follows 49 = .ok (.goto 4, 3) := by decide +kernel
theorem dX3_follows_52 : decode cX3_follows 52 = .ok (.iconst 0, 1) := by decide +kernel
theorem dX3_follows_53 : decode cX3_follows 53 = .ok (.ireturn, 1) := by decide +kernel
theorem dX3_follows_54 : decode cX3_follows 54 = .ok (.iload_n 1, 1) := by decide +kernel
theorem dX3_follows_55 : decode cX3_follows 55 = .ok (.iload_n 0, 1) := by decide +kernel
theorem dX3_follows_56 : decode cX3_follows 56 = .ok (.if_icmp .eq 7, 3) := by decide +kernel
theorem dX3_follows_59 : decode cX3_follows 59 = .ok (.iconst 1, 1) := by decide +kernel
theorem dX3_follows_60 : decode cX3_follows 60 = .ok (.goto 4, 3) := by decide +kernel
theorem dX3_follows_63 : decode cX3_follows 63 = .ok (.iconst 0, 1) := by decide +kernel
theorem dX3_follows_64 : decode cX3_follows 64 = .ok (.ireturn, 1) := by decide +kernel
theorem dX3_follows_65 : decode cX3_follows 65 = .ok (.iload_n 2, 1) := by decide +kernel
theorem dX3_follows_66 : decode cX3_follows 66 = .ok (.iload_n 1, 1) := by decide +kernel
theorem dX3_follows_67 : decode cX3_follows 67 = .ok (.invokestatic 23, 3) := by decide +kernel
theorem dX3_follows_70 : decode cX3_follows 70 = .ok (.ifCond .ne 7, 3) := by decide +kernel
theorem dX3_follows_73 : decode cX3_follows 73 = .ok (.iconst 1, 1) := by decide +kernel
theorem dX3_follows_74 : decode cX3_follows 74 = .ok (.goto 4, 3) := by decide +kernel
theorem dX3_follows_77 : decode cX3_follows 77 = .ok (.iconst 0, 1) := by decide +kernel
theorem dX3_follows_78 : decode cX3_follows 78 = .ok (.ireturn, 1) := by decide +kernel
theorem dX3_mixInto_0 : decode cX3_mixInto 0 = .ok (.ldc2_w 27, 3) := by decide +kernel
theorem dX3_mixInto_3 : decode cX3_mixInto 3 = .ok (.lload_n 1, 1) := by decide +kernel
theorem dX3_mixInto_4 : decode cX3_mixInto 4 = .ok (.lmul, 1) := by decide +kernel
theorem dX3_mixInto_5 : decode cX3_mixInto 5 = .ok (.aload_n 0, 1) := by decide +kernel
theorem dX3_mixInto_6 : decode cX3_mixInto 6 = .ok (.getfield 15, 3) := by decide +kernel
theorem dX3_mixInto_9 : decode cX3_mixInto 9 = .ok (.i2l, 1) := by decide +kernel
theorem dX3_mixInto_10 : decode cX3_mixInto 10 = .ok (.ladd, 1) := by decide +kernel
theorem dX3_mixInto_11 : decode cX3_mixInto 11 = .ok (.lstore_n 1, 1) := by decide +kernel
theorem dX3_mixInto_12 : decode cX3_mixInto 12 = .ok (.iconst 0, 1) := by decide +kernel
theorem dX3_mixInto_13 : decode cX3_mixInto 13 = .ok (.istore_n 3, 1) := by decide +kernel
theorem dX3_mixInto_14 : decode cX3_mixInto 14 = .ok (.iload_n 3, 1) := by decide +kernel
theorem dX3_mixInto_15 : decode cX3_mixInto 15 = .ok (.aload_n 0, 1) := by decide +kernel
theorem dX3_mixInto_16 : decode cX3_mixInto 16 = .ok (.getfield 15, 3) := by decide +kernel
theorem dX3_mixInto_19 : decode cX3_mixInto 19 = .ok (.if_icmp .ge 23, 3) := by decide +kernel
theorem dX3_mixInto_22 : decode cX3_mixInto 22 = .ok (.ldc2_w 27, 3) := by decide +kernel
theorem dX3_mixInto_25 : decode cX3_mixInto 25 = .ok (.lload_n 1, 1) := by decide +kernel
theorem dX3_mixInto_26 : decode cX3_mixInto 26 = .ok (.lmul, 1) := by decide +kernel
theorem dX3_mixInto_27 : decode cX3_mixInto 27 = .ok (.aload_n 0, 1) := by decide +kernel
theorem dX3_mixInto_28 : decode cX3_mixInto 28 = .ok (.getfield 9, 3) := by decide +kernel
theorem dX3_mixInto_31 : decode cX3_mixInto 31 = .ok (.iload_n 3, 1) := by decide +kernel
theorem dX3_mixInto_32 : decode cX3_mixInto 32 = .ok (.iaload, 1) := by decide +kernel
theorem dX3_mixInto_33 : decode cX3_mixInto 33 = .ok (.i2l, 1) := by decide +kernel
theorem dX3_mixInto_34 : decode cX3_mixInto 34 = .ok (.ladd, 1) := by decide +kernel
theorem dX3_mixInto_35 : decode cX3_mixInto 35 = .ok (.lstore_n 1, 1) := by decide +kernel
theorem dX3_mixInto_36 : decode cX3_mixInto 36 = .ok (.iinc 3 1, 3) := by decide +kernel
theorem dX3_mixInto_39 : decode cX3_mixInto 39 = .ok (.goto (-25), 3) := by decide +kernel
theorem dX3_mixInto_42 : decode cX3_mixInto 42 = .ok (.lload_n 1, 1) := by decide +kernel
