theorem dX0_init_0 : decode cX0_init 0 = .ok (.aload_n 0, 1) := by decide +kernel
theorem dX0_init_1 : decode cX0_init 1 = .ok (.invokespecial 3, 3) := by decide +kernel
theorem dX0_init_4 : decode cX0_init 4 = .ok (.aload_n 0, 1) := by decide +kernel
theorem dX0_init_5 : decode cX0_init 5 = .ok (.bipush 15, 2) := by decide +kernel
theorem dX0_init_7 : decode cX0_init 7 = .ok (.newarray .int, 2) := by decide +kernel
theorem dX0_init_9 : decode cX0_init 9 = .ok (.putfield 9, 3) := by decide +kernel
theorem dX0_init_12 : decode cX0_init 12 = .ok (.aload_n 0, 1) := by decide +kernel
theorem dX0_init_13 : decode cX0_init 13 = .ok (.bipush 15, 2) := by decide +kernel
theorem dX0_init_15 : decode cX0_init 15 = .ok (.newarray .int, 2) := by decide +kernel
theorem dX0_init_17 : decode cX0_init 17 = .ok (.putfield 15, 3) := by decide +kernel
theorem dX0_init_20 : decode cX0_init 20 = .ok (.return_, 1) := by decide +kernel
theorem dX0_add_0 : decode cX0_add 0 = .ok (.aload_n 0, 1) := by decide +kernel
theorem dX0_add_1 : decode cX0_add 1 = .ok (.getfield 18, 3) := by decide +kernel
theorem dX0_add_4 : decode cX0_add 4 = .ok (.bipush 15, 2) := by decide +kernel
theorem dX0_add_6 : decode cX0_add 6 = .ok (.if_icmp .ge 33, 3) := by decide +kernel
theorem dX0_add_9 : decode cX0_add 9 = .ok (.aload_n 0, 1) := by decide +kernel
theorem dX0_add_10 : decode cX0_add 10 = .ok (.getfield 9, 3) := by decide +kernel
theorem dX0_add_13 : decode cX0_add 13 = .ok (.aload_n 0, 1) := by decide +kernel
theorem dX0_add_14 : decode cX0_add 14 = .ok (.getfield 18, 3) := by decide +kernel
theorem dX0_add_17 : decode cX0_add 17 = .ok (.iload_n 1, 1) := by decide +kernel
theorem dX0_add_18 : decode cX0_add 18 = .ok (.iastore, 1) := by decide +kernel
theorem dX0_add_19 : decode cX0_add 19 = .ok (.aload_n 0, 1) := by decide +kernel
theorem dX0_add_20 : decode cX0_add 20 = .ok (.getfield 15, 3) := by decide +kernel
theorem dX0_add_23 : decode cX0_add 23 = .ok (.aload_n 0, 1) := by decide +kernel
theorem dX0_add_24 : decode cX0_add 24 = .ok (.getfield 18, 3) := by decide +kernel
theorem dX0_add_27 : decode cX0_add 27 = .ok (.iload_n 2, 1) := by decide +kernel
theorem dX0_add_28 : decode cX0_add 28 = .ok (.iastore, 1) := by decide +kernel
theorem dX0_add_29 : decode cX0_add 29 = .ok (.aload_n 0, 1) := by decide +kernel
theorem dX0_add_30 : decode cX0_add 30 = .ok (.dup, 1) := by decide +kernel
theorem dX0_add_31 : decode cX0_add 31 = .ok (.getfield 18, 3) := by decide +kernel
theorem dX0_add_34 : decode cX0_add 34 = .ok (.iconst 1, 1) := by decide +kernel
theorem dX0_add_35 : decode cX0_add 35 = .ok (.iadd, 1) := by decide +kernel
theorem dX0_add_36 : decode cX0_add 36 = .ok (.putfield 18, 3) := by decide +kernel
theorem dX0_add_39 : decode cX0_add 39 = .ok (.return_, 1) := by decide +kernel
theorem dX0_firstWrong_0 : decode cX0_firstWrong 0 = .ok (.iconst 0, 1) := by decide +kernel
theorem dX0_firstWrong_1 : decode cX0_firstWrong 1 = .ok (.istore_n 2, 1) := by decide +kernel
theorem dX0_firstWrong_2 : decode cX0_firstWrong 2 = .ok (.iload_n 2, 1) := by decide +kernel
theorem dX0_firstWrong_3 : decode cX0_firstWrong 3 = .ok (.aload_n 0, 1) := by decide +kernel
theorem dX0_firstWrong_4 : decode cX0_firstWrong 4 = .ok (.getfield 18, 3) := by decide +kernel
theorem dX0_firstWrong_7 : decode cX0_firstWrong 7 = .ok (.if_icmp .ge 31, 3) := by decide +kernel
theorem dX0_firstWrong_10 : decode cX0_firstWrong 10 = .ok (.aload_n 1, 1) := by decide +kernel
theorem dX0_firstWrong_11 : decode cX0_firstWrong 11 = .ok (.getfield 22, 3) := by decide +kernel
theorem dX0_firstWrong_14 : decode cX0_firstWrong 14 = .ok (.aload_n 0, 1) := by decide +kernel
theorem dX0_firstWrong_15 : decode cX0_firstWrong 15 = .ok (.getfield 9, 3) := by decide +kernel
theorem dX0_firstWrong_18 : decode cX0_firstWrong 18 = .ok (.iload_n 2, 1) := by decide +kernel
theorem dX0_firstWrong_19 : decode cX0_firstWrong 19 = .ok (.iaload, 1) := by decide +kernel
theorem dX0_firstWrong_20 : decode cX0_firstWrong 20 = .ok (.iaload, 1) := by decide +kernel
theorem dX0_firstWrong_21 : decode cX0_firstWrong 21 = .ok (.aload_n 0, 1) := by decide +kernel
theorem dX0_firstWrong_22 : decode cX0_firstWrong 22 = .ok (.getfield 15, 3) := by decide +kernel
theorem dX0_firstWrong_25 : decode cX0_firstWrong 25 = .ok (.iload_n 2, 1) := by decide +kernel
theorem dX0_firstWrong_26 : decode cX0_firstWrong 26 = .ok (.iaload, 1) := by decide +kernel
theorem dX0_firstWrong_27 : decode cX0_firstWrong 27 = .ok (.if_icmp .eq 5, 3) := by decide +kernel
theorem dX0_firstWrong_30 : decode cX0_firstWrong 30 = .ok (.iload_n 2, 1) := by decide +kernel
theorem dX0_firstWrong_31 : decode cX0_firstWrong 31 = .ok (.ireturn, 1) := by decide +kernel
theorem dX0_firstWrong_32 : decode cX0_firstWrong 32 = .ok (.iinc 2 1, 3) := by decide +kernel
theorem dX0_firstWrong_35 : decode cX0_firstWrong 35 = .ok (.goto (-33), 3) := by decide +kernel
theorem dX0_firstWrong_38 : decode cX0_firstWrong 38 = .ok (.iconst (-1), 1) := by decide +kernel
theorem dX0_firstWrong_39 : decode cX0_firstWrong 39 = .ok (.ireturn, 1) := by decide +kernel
theorem dX1_init_0 : decode cX1_init 0 = .ok (.aload_n 0, 1) := by decide +kernel
theorem dX1_init_1 : decode cX1_init 1 = .ok (.invokespecial 3, 3) := by decide +kernel
theorem dX1_init_4 : decode cX1_init 4 = .ok (.aload_n 0, 1) := by decide +kernel
theorem dX1_init_5 : decode cX1_init 5 = .ok (.bipush 8, 2) := by decide +kernel
theorem dX1_init_7 : decode cX1_init 7 = .ok (.newarray .int, 2) := by decide +kernel
theorem dX1_init_9 : decode cX1_init 9 = .ok (.putfield 9, 3) := by decide +kernel
theorem dX1_init_12 : decode cX1_init 12 = .ok (.return_, 1) := by decide +kernel
theorem dX1_copyFrom_0 : decode cX1_copyFrom 0 = .ok (.aload_n 0, 1) := by decide +kernel
theorem dX1_copyFrom_1 : decode cX1_copyFrom 1 = .ok (.aload_n 1, 1) := by decide +kernel
theorem dX1_copyFrom_2 : decode cX1_copyFrom 2 = .ok (.getfield 15, 3) := by decide +kernel
theorem dX1_copyFrom_5 : decode cX1_copyFrom 5 = .ok (.putfield 15, 3) := by decide +kernel
theorem dX1_copyFrom_8 : decode cX1_copyFrom 8 = .ok (.aload_n 1, 1) := by decide +kernel
theorem dX1_copyFrom_9 : decode cX1_copyFrom 9 = .ok (.getfield 9, 3) := by decide +kernel
theorem dX1_copyFrom_12 : decode cX1_copyFrom 12 = .ok (.iconst 0, 1) := by decide +kernel
theorem dX1_copyFrom_13 : decode cX1_copyFrom 13 = .ok (.aload_n 0, 1) := by decide +kernel
theorem dX1_copyFrom_14 : decode cX1_copyFrom 14 = .ok (.getfield 9, 3) := by decide +kernel
theorem dX1_copyFrom_17 : decode cX1_copyFrom 17 = .ok (.iconst 0, 1) := by decide +kernel
theorem dX1_copyFrom_18 : decode cX1_copyFrom 18 = .ok (.bipush 8, 2) := by decide +kernel
theorem dX1_copyFrom_20 : decode cX1_copyFrom 20 = .ok (.invokestatic 19, 3) := by decide +kernel
theorem dX1_copyFrom_23 : decode cX1_copyFrom 23 = .ok (.return_, 1) := by decide +kernel
theorem dX1_add_0 : decode cX1_add 0 = .ok (.aload_n 0, 1) := by decide +kernel
theorem dX1_add_1 : decode cX1_add 1 = .ok (.getfield 15, 3) := by decide +kernel
theorem dX1_add_4 : decode cX1_add 4 = .ok (.bipush 8, 2) := by decide +kernel
theorem dX1_add_6 : decode cX1_add 6 = .ok (.if_icmp .ge 23, 3) := by decide +kernel
theorem dX1_add_9 : decode cX1_add 9 = .ok (.aload_n 0, 1) := by decide +kernel
theorem dX1_add_10 : decode cX1_add 10 = .ok (.getfield 9, 3) := by decide +kernel
theorem dX1_add_13 : decode cX1_add 13 = .ok (.aload_n 0, 1) := by decide +kernel
theorem dX1_add_14 : decode cX1_add 14 = .ok (.getfield 15, 3) := by decide +kernel
theorem dX1_add_17 : decode cX1_add 17 = .ok (.iload_n 1, 1) := by decide +kernel
theorem dX1_add_18 : decode cX1_add 18 = .ok (.iastore, 1) := by decide +kernel
theorem dX1_add_19 : decode cX1_add 19 = .ok (.aload_n 0, 1) := by decide +kernel
theorem dX1_add_20 : decode cX1_add 20 = .ok (.dup, 1) := by decide +kernel
theorem dX1_add_21 : decode cX1_add 21 = .ok (.getfield 15, 3) := by decide +kernel
theorem dX1_add_24 : decode cX1_add 24 = .ok (.iconst 1, 1) := by decide +kernel
theorem dX1_add_25 : decode cX1_add 25 = .ok (.iadd, 1) := by decide +kernel
theorem dX1_add_26 : decode cX1_add 26 = .ok (.putfield 15, 3) := by decide +kernel
theorem dX1_add_29 : decode cX1_add 29 = .ok (.return_, 1) := by decide +kernel
theorem dX1_mean_0 : decode cX1_mean 0 = .ok (.iconst 0, 1) := by decide +kernel
theorem dX1_mean_1 : decode cX1_mean 1 = .ok (.istore_n 1, 1) := by decide +kernel
theorem dX1_mean_2 : decode cX1_mean 2 = .ok (.iconst 0, 1) := by decide +kernel
theorem dX1_mean_3 : decode cX1_mean 3 = .ok (.istore_n 2, 1) := by decide +kernel
theorem dX1_mean_4 : decode cX1_mean 4 = .ok (.iload_n 2, 1) := by decide +kernel
theorem dX1_mean_5 : decode cX1_mean 5 = .ok (.aload_n 0, 1) := by decide +kernel
theorem dX1_mean_6 : decode cX1_mean 6 = .ok (.getfield 15, 3) := by decide +kernel
theorem dX1_mean_9 : decode cX1_mean 9 = .ok (.if_icmp .ge 18, 3) := by decide +kernel
theorem dX1_mean_12 : decode cX1_mean 12 = .ok (.iload_n 1, 1) := by decide +kernel
theorem dX1_mean_13 : decode cX1_mean 13 = .ok (.aload_n 0, 1) := by decide +kernel
theorem dX1_mean_14 : decode cX1_mean 14 = .ok (.getfield 9, 3) := by decide +kernel
theorem dX1_mean_17 : decode cX1_mean 17 = .ok (.iload_n 2, 1) := by decide +kernel
theorem dX1_mean_18 : decode cX1_mean 18 = .ok (.iaload, 1) := by decide +kernel
theorem dX1_mean_19 : decode cX1_mean 19 = .ok (.iadd, 1) := by decide +kernel
theorem dX1_mean_20 : decode cX1_mean 20 = .ok (.istore_n 1, 1) := by decide +kernel
theorem dX1_mean_21 : decode cX1_mean 21 = .ok (.iinc 2 1, 3) := by decide +kernel
theorem dX1_mean_24 : decode cX1_mean 24 = .ok (.goto (-20), 3) := by decide +kernel
theorem dX1_mean_27 : decode cX1_mean 27 = .ok (.aload_n 0, 1) := by decide +kernel
theorem dX1_mean_28 : decode cX1_mean 28 = .ok (.getfield 15, 3) := by decide +kernel
theorem dX1_mean_31 : decode cX1_mean 31 = .ok (.iconst 1, 1) := by decide +kernel
theorem dX1_mean_32 : decode cX1_mean 32 = .ok (.if_icmp .ge 7, 3) := by decide +kernel
theorem dX1_mean_35 : decode cX1_mean 35 = .ok (.iconst (-1), 1) := by decide +kernel
theorem dX1_mean_36 : decode cX1_mean 36 = .ok (.goto 9, 3) := by decide +kernel
theorem dX1_mean_39 : decode cX1_mean 39 = .ok (.iload_n 1, 1) := by decide +kernel
theorem dX1_mean_40 : decode cX1_mean 40 = .ok (.aload_n 0, 1) := by decide +kernel
theorem dX1_mean_41 : decode cX1_mean 41 = .ok (.getfield 15, 3) := by decide +kernel
theorem dX1_mean_44 : decode cX1_mean 44 = .ok (.idiv, 1) := by decide +kernel
theorem dX1_mean_45 : decode cX1_mean 45 = .ok (.ireturn, 1) := by decide +kernel
theorem dX1_middle_0 : decode cX1_middle 0 = .ok (.aload_n 0, 1) := by decide +kernel
theorem dX1_middle_1 : decode cX1_middle 1 = .ok (.getfield 15, 3) := by decide +kernel
theorem dX1_middle_4 : decode cX1_middle 4 = .ok (.iconst 1, 1) := by decide +kernel
theorem dX1_middle_5 : decode cX1_middle 5 = .ok (.isub, 1) := by decide +kernel
theorem dX1_middle_6 : decode cX1_middle 6 = .ok (.iconst 2, 1) := by decide +kernel
theorem dX1_middle_7 : decode cX1_middle 7 = .ok (.idiv, 1) := by decide +kernel
theorem dX1_middle_8 : decode cX1_middle 8 = .ok (.istore_n 1, 1) := by decide +kernel
theorem dX1_middle_9 : decode cX1_middle 9 = .ok (.iconst 0, 1) := by decide +kernel
theorem dX1_middle_10 : decode cX1_middle 10 = .ok (.istore_n 2, 1) := by decide +kernel
theorem dX1_middle_11 : decode cX1_middle 11 = .ok (.iload_n 2, 1) := by decide +kernel
theorem dX1_middle_12 : decode cX1_middle 12 = .ok (.aload_n 0, 1) := by decide +kernel
theorem dX1_middle_13 : decode cX1_middle 13 = .ok (.getfield 15, 3) := by decide +kernel
theorem dX1_middle_16 : decode cX1_middle 16 = .ok (.if_icmp .ge 100, 3) := by decide +kernel
theorem dX1_middle_19 : decode cX1_middle 19 = .ok (.iconst 0, 1) := by decide +kernel
theorem dX1_middle_20 : decode cX1_middle 20 = .ok (.istore_n 3, 1) := by decide +kernel
theorem dX1_middle_21 : decode cX1_middle 21 = .ok (.iconst 0, 1) := by decide +kernel
theorem dX1_middle_22 : decode cX1_middle 22 = .ok (.istore 4, 2) := by decide +kernel
theorem dX1_middle_24 : decode cX1_middle 24 = .ok (.iconst 0, 1) := by decide +kernel
theorem dX1_middle_25 : decode cX1_middle 25 = .ok (.istore 5, 2) := by decide +kernel
theorem dX1_middle_27 : decode cX1_middle 27 = .ok (.iload 5, 2) := by decide +kernel
theorem dX1_middle_29 : decode cX1_middle 29 = .ok (.aload_n 0, 1) := by decide +kernel
theorem dX1_middle_30 : decode cX1_middle 30 = .ok (.getfield 15, 3) := by decide +kernel
theorem dX1_middle_33 : decode cX1_middle 33 = .ok (.if_icmp .ge 59, 3) := by decide +kernel
theorem dX1_middle_36 : decode cX1_middle 36 = .ok (.iload_n 3, 1) := by decide +kernel
theorem dX1_middle_37 : decode cX1_middle 37 = .ok (.aload_n 0, 1) := by decide +kernel
theorem dX1_middle_38 : decode cX1_middle 38 = .ok (.getfield 9, 3) := by decide +kernel
theorem dX1_middle_41 : decode cX1_middle 41 = .ok (.iload 5, 2) := by decide +kernel
theorem dX1_middle_43 : decode cX1_middle 43 = .ok (.iaload, 1) := by decide +kernel
theorem dX1_middle_44 : decode cX1_middle 44 = .ok (.aload_n 0, 1) := by decide +kernel
theorem dX1_middle_45 : decode cX1_middle 45 = .ok (.getfield 9, 3) := by decide +kernel
theorem dX1_middle_48 : decode cX1_middle 48 = .ok (.iload_n 2, 1) := by decide +kernel
theorem dX1_middle_49 : decode cX1_middle 49 = .ok (.iaload, 1) := by decide +kernel
theorem dX1_middle_50 : decode cX1_middle 50 = .ok (.if_icmp .ge 7, 3) := by decide +kernel
theorem dX1_middle_53 : decode cX1_middle 53 = .ok (.iconst 1, 1) := by decide +kernel
theorem dX1_middle_54 : decode cX1_middle 54 = .ok (.goto 4, 3) := by decide +kernel
theorem dX1_middle_57 : decode cX1_middle 57 = .ok (.iconst 0, 1) := by decide +kernel
theorem dX1_middle_58 : decode cX1_middle 58 = .ok (.iadd, 1) := by decide +kernel
theorem dX1_middle_59 : decode cX1_middle 59 = .ok (.istore_n 3, 1) := by decide +kernel
theorem dX1_middle_60 : decode cX1_middle 60 = .ok (.iload 4, 2) := by decide +kernel
theorem dX1_middle_62 : decode cX1_middle 62 = .ok (.aload_n 0, 1) := by decide +kernel
theorem dX1_middle_63 : decode cX1_middle 63 = .ok (.getfield 9, 3) := by decide +kernel
theorem dX1_middle_66 : decode cX1_middle 66 = .ok (.iload 5, 2) := by decide +kernel
theorem dX1_middle_68 : decode cX1_middle 68 = .ok (.iaload, 1) := by decide +kernel
theorem dX1_middle_69 : decode cX1_middle 69 = .ok (.aload_n 0, 1) := by decide +kernel
theorem dX1_middle_70 : decode cX1_middle 70 = .ok (.getfield 9, 3) := by decide +kernel
theorem dX1_middle_73 : decode cX1_middle 73 = .ok (.iload_n 2, 1) := by decide +kernel
theorem dX1_middle_74 : decode cX1_middle 74 = .ok (.iaload, 1) := by decide +kernel
theorem dX1_middle_75 : decode cX1_middle 75 = .ok (.if_icmp .gt 7, 3) := by decide +kernel
theorem dX1_middle_78 : decode cX1_middle 78 = .ok (.iconst 1, 1) := by decide +kernel
theorem dX1_middle_79 : decode cX1_middle 79 = .ok (.goto 4, 3) := by decide +kernel
theorem dX1_middle_82 : decode cX1_middle 82 = .ok (.iconst 0, 1) := by decide +kernel
theorem dX1_middle_83 : decode cX1_middle 83 = .ok (.iadd, 1) := by decide +kernel
theorem dX1_middle_84 : decode cX1_middle 84 = .ok (.istore 4, 2) := by decide +kernel
theorem dX1_middle_86 : decode cX1_middle 86 = .ok (.iinc 5 1, 3) := by decide +kernel
theorem dX1_middle_89 : decode cX1_middle 89 = .ok (.goto (-62), 3) := by decide +kernel
theorem dX1_middle_92 : decode cX1_middle 92 = .ok (.iload_n 3, 1) := by decide +kernel
theorem dX1_middle_93 : decode cX1_middle 93 = .ok (.iload_n 1, 1) := by decide +kernel
theorem dX1_middle_94 : decode cX1_middle 94 = .ok (.if_icmp .gt 16, 3) := by decide +kernel
theorem dX1_middle_97 : decode cX1_middle 97 = .ok (.iload_n 1, 1) := by decide +kernel
theorem dX1_middle_98 : decode cX1_middle 98 = .ok (.iload 4, 2) := by decide +kernel
theorem dX1_middle_100 : decode cX1_middle 100 = .ok (.if_icmp .ge 10, 3) := by decide +kernel
theorem dX1_middle_103 : decode cX1_middle 103 = .ok (.aload_n 0, 1) := by decide +kernel
theorem dX1_middle_104 : decode cX1_middle 104 = .ok (.getfield 9, 3) := by decide +kernel
theorem dX1_middle_107 : decode cX1_middle 107 = .ok (.iload_n 2, 1) := by decide +kernel
theorem dX1_middle_108 : decode cX1_middle 108 = .ok (.iaload, 1) := by decide +kernel
theorem dX1_middle_109 : decode cX1_middle 109 = .ok (.ireturn, 1) := by decide +kernel
theorem dX1_middle_110 : decode cX1_middle 110 = .ok (.iinc 2 1, 3) := by decide +kernel
theorem dX1_middle_113 : decode cX1_middle 113 = .ok (.goto (-102), 3) := by decide +kernel
theorem dX1_middle_116 : decode cX1_middle 116 = .ok (.iconst (-1), 1) := by decide +kernel
theorem dX1_middle_117 : decode cX1_middle 117 = .ok (.ireturn, 1) := by decide +kernel
theorem dX1_farthestFrom_0 : decode cX1_farthestFrom 0 = .ok (.iconst (-1), 1) := by decide +kernel
theorem dX1_farthestFrom_1 : decode cX1_farthestFrom 1 = .ok (.istore_n 2, 1) := by decide +kernel
theorem dX1_farthestFrom_2 : decode cX1_farthestFrom 2 = .ok (.iconst 0, 1) := by decide +kernel
theorem dX1_farthestFrom_3 : decode cX1_farthestFrom 3 = .ok (.istore_n 3, 1) := by decide +kernel
theorem dX1_farthestFrom_4 : decode cX1_farthestFrom 4 = .ok (.iload_n 3, 1) := by decide +kernel
theorem dX1_farthestFrom_5 : decode cX1_farthestFrom 5 = .ok (.aload_n 0, 1) := by decide +kernel
theorem dX1_farthestFrom_6 : decode cX1_farthestFrom 6 = .ok (.getfield 15, 3) := by decide +kernel
theorem dX1_farthestFrom_9 : decode cX1_farthestFrom 9 = .ok (.if_icmp .ge 41, 3) := by decide +kernel
theorem dX1_farthestFrom_12 : decode cX1_farthestFrom 12 = .ok (.iload_n 2, 1) := by decide +kernel
theorem dX1_farthestFrom_13 : decode cX1_farthestFrom 13 = .ok (.iconst (-1), 1) := by decide +kernel
theorem dX1_farthestFrom_14 : decode cX1_farthestFrom 14 = .ok (.if_icmp .eq 28, 3) := by decide +kernel
theorem dX1_farthestFrom_17 : decode cX1_farthestFrom 17 = .ok (.aload_n 0, 1) := by decide +kernel
theorem dX1_farthestFrom_18 : decode cX1_farthestFrom 18 = .ok (.getfield 9, 3) := by decide +kernel
theorem dX1_farthestFrom_21 : decode cX1_farthestFrom 21 = .ok (.iload_n 3, 1) := by decide +kernel
theorem dX1_farthestFrom_22 : decode cX1_farthestFrom 22 = .ok (.iaload, 1) := by decide +kernel
theorem dX1_farthestFrom_23 : decode cX1_farthestFrom 23 = .ok (.iload_n 1, 1) := by decide +kernel
theorem dX1_farthestFrom_24 : decode cX1_farthestFrom 24 = .ok (.isub, 1) := by decide +kernel
theorem dX1_farthestFrom_25 : decode cX1_farthestFrom 25 = .ok (.invokestatic 25, 3) := by decide +kernel
theorem dX1_farthestFrom_28 : decode cX1_farthestFrom 28 = .ok (.aload_n 0, 1) := by decide +kernel
theorem dX1_farthestFrom_29 : decode cX1_farthestFrom 29 = .ok (.getfield 9, 3) := by decide +kernel
theorem dX1_farthestFrom_32 : decode cX1_farthestFrom 32 = .ok (.iload_n 2, 1) := by decide +kernel
theorem dX1_farthestFrom_33 : decode cX1_farthestFrom 33 = .ok (.iaload, 1) := by decide +kernel
theorem dX1_farthestFrom_34 : decode cX1_farthestFrom 34 = .ok (.iload_n 1, 1) := by decide +kernel
theorem dX1_farthestFrom_35 : decode cX1_farthestFrom 35 = .ok (.isub, 1) := by decide +kernel
theorem dX1_farthestFrom_36 : decode cX1_farthestFrom 36 = .ok (.invokestatic 25, 3) := by decide +kernel
theorem dX1_farthestFrom_39 : decode cX1_farthestFrom 39 = .ok (.if_icmp .le 5, 3) := by decide +kernel
theorem dX1_farthestFrom_42 : decode cX1_farthestFrom 42 = .ok (.iload_n 3, 1) := by decide +kernel
theorem dX1_farthestFrom_43 : decode cX1_farthestFrom 43 = .ok (.istore_n 2, 1) := by decide +kernel
theorem dX1_farthestFrom_44 : decode cX1_farthestFrom 44 = .ok (.iinc 3 1, 3) := by decide +kernel
theorem dX1_farthestFrom_47 : decode cX1_farthestFrom 47 = .ok (.goto (-43), 3) := by decide +kernel
theorem dX1_farthestFrom_50 : decode cX1_farthestFrom 50 = .ok (.iload_n 2, 1) := by decide +kernel
theorem dX1_farthestFrom_51 : decode cX1_farthestFrom 51 = .ok (.ireturn, 1) := by decide +kernel
theorem dX1_nearestTo_0 : decode cX1_nearestTo 0 = .ok (.iconst (-1), 1) := by decide +kernel
theorem dX1_nearestTo_1 : decode cX1_nearestTo 1 = .ok (.istore_n 2, 1) := by decide +kernel
theorem dX1_nearestTo_2 : decode cX1_nearestTo 2 = .ok (.iconst 0, 1) := by decide +kernel
theorem dX1_nearestTo_3 : decode cX1_nearestTo 3 = .ok (.istore_n 3, 1) := by decide +kernel
theorem dX1_nearestTo_4 : decode cX1_nearestTo 4 = .ok (.iload_n 3, 1) := by decide +kernel
theorem dX1_nearestTo_5 : decode cX1_nearestTo 5 = .ok (.aload_n 0, 1) := by decide +kernel
theorem dX1_nearestTo_6 : decode cX1_nearestTo 6 = .ok (.getfield 15, 3) := by decide +kernel
theorem dX1_nearestTo_9 : decode cX1_nearestTo 9 = .ok (.if_icmp .ge 41, 3) := by decide +kernel
theorem dX1_nearestTo_12 : decode cX1_nearestTo 12 = .ok (.iload_n 2, 1) := by decide +kernel
theorem dX1_nearestTo_13 : decode cX1_nearestTo 13 = .ok (.iconst (-1), 1) := by decide +kernel
theorem dX1_nearestTo_14 : decode cX1_nearestTo 14 = .ok (.if_icmp .eq 28, 3) := by decide +kernel
theorem dX1_nearestTo_17 : decode cX1_nearestTo 17 = .ok (.aload_n 0, 1) := by decide +kernel
theorem dX1_nearestTo_18 : decode cX1_nearestTo 18 = .ok (.getfield 9, 3) := by decide +kernel
theorem dX1_nearestTo_21 : decode cX1_nearestTo 21 = .ok (.iload_n 3, 1) := by decide +kernel
theorem dX1_nearestTo_22 : decode cX1_nearestTo 22 = .ok (.iaload, 1) := by decide +kernel
theorem dX1_nearestTo_23 : decode cX1_nearestTo 23 = .ok (.iload_n 1, 1) := by decide +kernel
theorem dX1_nearestTo_24 : decode cX1_nearestTo 24 = .ok (.isub, 1) := by decide +kernel
theorem dX1_nearestTo_25 : decode cX1_nearestTo 25 = .ok (.invokestatic 25, 3) := by decide +kernel
theorem dX1_nearestTo_28 : decode cX1_nearestTo 28 = .ok (.aload_n 0, 1) := by decide +kernel
theorem dX1_nearestTo_29 : decode cX1_nearestTo 29 = .ok (.getfield 9, 3) := by decide +kernel
theorem dX1_nearestTo_32 : decode cX1_nearestTo 32 = .ok (.iload_n 2, 1) := by decide +kernel
theorem dX1_nearestTo_33 : decode cX1_nearestTo 33 = .ok (.iaload, 1) := by decide +kernel
theorem dX1_nearestTo_34 : decode cX1_nearestTo 34 = .ok (.iload_n 1, 1) := by decide +kernel
theorem dX1_nearestTo_35 : decode cX1_nearestTo 35 = .ok (.isub, 1) := by decide +kernel
theorem dX1_nearestTo_36 : decode cX1_nearestTo 36 = .ok (.invokestatic 25, 3) := by decide +kernel
theorem dX1_nearestTo_39 : decode cX1_nearestTo 39 = .ok (.if_icmp .ge 5, 3) := by decide +kernel
theorem dX1_nearestTo_42 : decode cX1_nearestTo 42 = .ok (.iload_n 3, 1) := by decide +kernel
theorem dX1_nearestTo_43 : decode cX1_nearestTo 43 = .ok (.istore_n 2, 1) := by decide +kernel
theorem dX1_nearestTo_44 : decode cX1_nearestTo 44 = .ok (.iinc 3 1, 3) := by decide +kernel
theorem dX1_nearestTo_47 : decode cX1_nearestTo 47 = .ok (.goto (-43), 3) := by decide +kernel
theorem dX1_nearestTo_50 : decode cX1_nearestTo 50 = .ok (.iload_n 2, 1) := by decide +kernel
theorem dX1_nearestTo_51 : decode cX1_nearestTo 51 = .ok (.ireturn, 1) := by decide +kernel
theorem dX2_init_0 : decode cX2_init 0 = .ok (.aload_n 0, 1) := by decide +kernel
theorem dX2_init_1 : decode cX2_init 1 = .ok (.invokespecial 3, 3) := by decide +kernel
theorem dX2_init_4 : decode cX2_init 4 = .ok (.aload_n 0, 1) := by decide +kernel
theorem dX2_init_5 : decode cX2_init 5 = .ok (.sipush 1000, 3) := by decide +kernel
theorem dX2_init_8 : decode cX2_init 8 = .ok (.newarray .int, 2) := by decide +kernel
theorem dX2_init_10 : decode cX2_init 10 = .ok (.putfield 9, 3) := by decide +kernel
theorem dX2_init_13 : decode cX2_init 13 = .ok (.aload_n 0, 1) := by decide +kernel
theorem dX2_init_14 : decode cX2_init 14 = .ok (.sipush 1000, 3) := by decide +kernel
theorem dX2_init_17 : decode cX2_init 17 = .ok (.newarray .int, 2) := by decide +kernel
theorem dX2_init_19 : decode cX2_init 19 = .ok (.putfield 15, 3) := by decide +kernel
theorem dX2_init_22 : decode cX2_init 22 = .ok (.aload_n 0, 1) := by decide +kernel
theorem dX2_init_23 : decode cX2_init 23 = .ok (.bipush 6, 2) := by decide +kernel
theorem dX2_init_25 : decode cX2_init 25 = .ok (.newarray .int, 2) := by decide +kernel
theorem dX2_init_27 : decode cX2_init 27 = .ok (.putfield 18, 3) := by decide +kernel
theorem dX2_init_30 : decode cX2_init 30 = .ok (.return_, 1) := by decide +kernel
theorem dX2_takeLengths_0 : decode cX2_takeLengths 0 = .ok (.aload_n 0, 1) := by decide +kernel
theorem dX2_takeLengths_1 : decode cX2_takeLengths 1 = .ok (.getfield 18, 3) := by decide +kernel
theorem dX2_takeLengths_4 : decode cX2_takeLengths 4 = .ok (.iconst 0, 1) := by decide +kernel
theorem dX2_takeLengths_5 : decode cX2_takeLengths 5 = .ok (.iload_n 2, 1) := by decide +kernel
theorem dX2_takeLengths_6 : decode cX2_takeLengths 6 = .ok (.iastore, 1) := by decide +kernel
theorem dX2_takeLengths_7 : decode cX2_takeLengths 7 = .ok (.aload_n 0, 1) := by decide +kernel
theorem dX2_takeLengths_8 : decode cX2_takeLengths 8 = .ok (.iconst 1, 1) := by decide +kernel
theorem dX2_takeLengths_9 : decode cX2_takeLengths 9 = .ok (.putfield 21, 3) := by decide +kernel
theorem dX2_takeLengths_12 : decode cX2_takeLengths 12 = .ok (.iconst 0, 1) := by decide +kernel
theorem dX2_takeLengths_13 : decode cX2_takeLengths 13 = .ok (.istore_n 3, 1) := by decide +kernel
theorem dX2_takeLengths_14 : decode cX2_takeLengths 14 = .ok (.iload_n 3, 1) := by decide +kernel
theorem dX2_takeLengths_15 : decode cX2_takeLengths 15 = .ok (.aload_n 1, 1) := by decide +kernel
theorem dX2_takeLengths_16 : decode cX2_takeLengths 16 = .ok (.getfield 25, 3) := by decide +kernel
theorem dX2_takeLengths_19 : decode cX2_takeLengths 19 = .ok (.if_icmp .ge 44, 3) := by decide +kernel
theorem dX2_takeLengths_22 : decode cX2_takeLengths 22 = .ok (.aload_n 1, 1) := by decide +kernel
theorem dX2_takeLengths_23 : decode cX2_takeLengths 23 = .ok (.getfield 30, 3) := by decide +kernel
theorem dX2_takeLengths_26 : decode cX2_takeLengths 26 = .ok (.iload_n 3, 1) := by decide +kernel
theorem dX2_takeLengths_27 : decode cX2_takeLengths 27 = .ok (.iaload, 1) := by decide +kernel
theorem dX2_takeLengths_28 : decode cX2_takeLengths 28 = .ok (.iload_n 2, 1) := by decide +kernel
theorem dX2_takeLengths_29 : decode cX2_takeLengths 29 = .ok (.if_icmp .ge 28, 3) := by decide +kernel
theorem dX2_takeLengths_32 : decode cX2_takeLengths 32 = .ok (.aload_n 0, 1) := by decide +kernel
theorem dX2_takeLengths_33 : decode cX2_takeLengths 33 = .ok (.getfield 18, 3) := by decide +kernel
theorem dX2_takeLengths_36 : decode cX2_takeLengths 36 = .ok (.aload_n 0, 1) := by decide +kernel
theorem dX2_takeLengths_37 : decode cX2_takeLengths 37 = .ok (.getfield 21, 3) := by decide +kernel
theorem dX2_takeLengths_40 : decode cX2_takeLengths 40 = .ok (.aload_n 1, 1) := by decide +kernel
theorem dX2_takeLengths_41 : decode cX2_takeLengths 41 = .ok (.getfield 30, 3) := by decide +kernel
theorem dX2_takeLengths_44 : decode cX2_takeLengths 44 = .ok (.iload_n 3, 1) := by decide +kernel
theorem dX2_takeLengths_45 : decode cX2_takeLengths 45 = .ok (.iaload, 1) := by decide +kernel
theorem dX2_takeLengths_46 : decode cX2_takeLengths 46 = .ok (.iastore, 1) := by decide +kernel
theorem dX2_takeLengths_47 : decode cX2_takeLengths 47 = .ok (.aload_n 0, 1) := by decide +kernel
theorem dX2_takeLengths_48 : decode cX2_takeLengths 48 = .ok (.dup, 1) := by decide +kernel
theorem dX2_takeLengths_49 : decode cX2_takeLengths 49 = .ok (.getfield 21, 3) := by decide +kernel
theorem dX2_takeLengths_52 : decode cX2_takeLengths 52 = .ok (.iconst 1, 1) := by decide +kernel
theorem dX2_takeLengths_53 : decode cX2_takeLengths 53 = .ok (.iadd, 1) := by decide +kernel
theorem dX2_takeLengths_54 : decode cX2_takeLengths 54 = .ok (.putfield 21, 3) := by decide +kernel
theorem dX2_takeLengths_57 : decode cX2_takeLengths 57 = .ok (.iinc 3 1, 3) := by decide +kernel
theorem dX2_takeLengths_60 : decode cX2_takeLengths 60 = .ok (.goto (-46), 3) := by decide +kernel
theorem dX2_takeLengths_63 : decode cX2_takeLengths 63 = .ok (.return_, 1) := by decide +kernel
theorem dX2_layOn_0 : decode cX2_layOn 0 = .ok (.aload_n 0, 1) := by decide +kernel
theorem dX2_layOn_1 : decode cX2_layOn 1 = .ok (.getfield 9, 3) := by decide +kernel
theorem dX2_layOn_4 : decode cX2_layOn 4 = .ok (.iconst (-1), 1) := by decide +kernel
theorem dX2_layOn_5 : decode cX2_layOn 5 = .ok (.invokestatic 33, 3) := by decide +kernel
theorem dX2_layOn_8 : decode cX2_layOn 8 = .ok (.aload_n 0, 1) := by decide +kernel
theorem dX2_layOn_9 : decode cX2_layOn 9 = .ok (.iconst 0, 1) := by decide +kernel
theorem dX2_layOn_10 : decode cX2_layOn 10 = .ok (.putfield 39, 3) := by decide +kernel
theorem dX2_layOn_13 : decode cX2_layOn 13 = .ok (.aload_n 0, 1) := by decide +kernel
theorem dX2_layOn_14 : decode cX2_layOn 14 = .ok (.iconst 0, 1) := by decide +kernel
theorem dX2_layOn_15 : decode cX2_layOn 15 = .ok (.iconst 0, 1) := by decide +kernel
theorem dX2_layOn_16 : decode cX2_layOn 16 = .ok (.invokevirtual 42, 3) := by decide +kernel
theorem dX2_layOn_19 : decode cX2_layOn 19 = .ok (.iconst 0, 1) := by decide +kernel
theorem dX2_layOn_20 : decode cX2_layOn 20 = .ok (.istore_n 2, 1) := by decide +kernel
theorem dX2_layOn_21 : decode cX2_layOn 21 = .ok (.iload_n 2, 1) := by decide +kernel
theorem dX2_layOn_22 : decode cX2_layOn 22 = .ok (.aload_n 0, 1) := by decide +kernel
theorem dX2_layOn_23 : decode cX2_layOn 23 = .ok (.getfield 39, 3) := by decide +kernel
theorem dX2_layOn_26 : decode cX2_layOn 26 = .ok (.if_icmp .ge 31, 3) := by decide +kernel
theorem dX2_layOn_29 : decode cX2_layOn 29 = .ok (.aload_n 0, 1) := by decide +kernel
theorem dX2_layOn_30 : decode cX2_layOn 30 = .ok (.getfield 15, 3) := by decide +kernel
theorem dX2_layOn_33 : decode cX2_layOn 33 = .ok (.iload_n 2, 1) := by decide +kernel
theorem dX2_layOn_34 : decode cX2_layOn 34 = .ok (.iaload, 1) := by decide +kernel
theorem dX2_layOn_35 : decode cX2_layOn 35 = .ok (.istore_n 3, 1) := by decide +kernel
theorem dX2_layOn_36 : decode cX2_layOn 36 = .ok (.aload_n 0, 1) := by decide +kernel
theorem dX2_layOn_37 : decode cX2_layOn 37 = .ok (.getfield 9, 3) := by decide +kernel
theorem dX2_layOn_40 : decode cX2_layOn 40 = .ok (.iload_n 3, 1) := by decide +kernel
theorem dX2_layOn_41 : decode cX2_layOn 41 = .ok (.iaload, 1) := by decide +kernel
theorem dX2_layOn_42 : decode cX2_layOn 42 = .ok (.iload_n 1, 1) := by decide +kernel
theorem dX2_layOn_43 : decode cX2_layOn 43 = .ok (.if_icmp .ge 8, 3) := by decide +kernel
theorem dX2_layOn_46 : decode cX2_layOn 46 = .ok (.aload_n 0, 1) := by decide +kernel
theorem dX2_layOn_47 : decode cX2_layOn 47 = .ok (.iload_n 3, 1) := by decide +kernel
theorem dX2_layOn_48 : decode cX2_layOn 48 = .ok (.invokevirtual 46, 3) := by decide +kernel
theorem dX2_layOn_51 : decode cX2_layOn 51 = .ok (.iinc 2 1, 3) := by decide +kernel
theorem dX2_layOn_54 : decode cX2_layOn 54 = .ok (.goto (-33), 3) := by decide +kernel
theorem dX2_layOn_57 : decode cX2_layOn 57 = .ok (.return_, 1) := by decide +kernel
theorem dX2_layFrom_0 : decode cX2_layFrom 0 = .ok (.iconst 0, 1) := by decide +kernel
theorem dX2_layFrom_1 : decode cX2_layFrom 1 = .ok (.istore_n 2, 1) := by decide +kernel
theorem dX2_layFrom_2 : decode cX2_layFrom 2 = .ok (.iload_n 2, 1) := by decide +kernel
theorem dX2_layFrom_3 : decode cX2_layFrom 3 = .ok (.aload_n 0, 1) := by decide +kernel
theorem dX2_layFrom_4 : decode cX2_layFrom 4 = .ok (.getfield 21, 3) := by decide +kernel
theorem dX2_layFrom_7 : decode cX2_layFrom 7 = .ok (.if_icmp .ge 49, 3) := by decide +kernel
theorem dX2_layFrom_10 : decode cX2_layFrom 10 = .ok (.aload_n 0, 1) := by decide +kernel
theorem dX2_layFrom_11 : decode cX2_layFrom 11 = .ok (.iload_n 1, 1) := by decide +kernel
theorem dX2_layFrom_12 : decode cX2_layFrom 12 = .ok (.aload_n 0, 1) := by decide +kernel
theorem dX2_layFrom_13 : decode cX2_layFrom 13 = .ok (.getfield 18, 3) := by decide +kernel
theorem dX2_layFrom_16 : decode cX2_layFrom 16 = .ok (.iload_n 2, 1) := by decide +kernel
theorem dX2_layFrom_17 : decode cX2_layFrom 17 = .ok (.iaload, 1) := by decide +kernel
theorem dX2_layFrom_18 : decode cX2_layFrom 18 = .ok (.iadd, 1) := by decide +kernel
theorem dX2_layFrom_19 : decode cX2_layFrom 19 = .ok (.aload_n 0, 1) := by decide +kernel
theorem dX2_layFrom_20 : decode cX2_layFrom 20 = .ok (.getfield 9, 3) := by decide +kernel
theorem dX2_layFrom_23 : decode cX2_layFrom 23 = .ok (.iload_n 1, 1) := by decide +kernel
theorem dX2_layFrom_24 : decode cX2_layFrom 24 = .ok (.iaload, 1) := by decide +kernel
theorem dX2_layFrom_25 : decode cX2_layFrom 25 = .ok (.iconst 1, 1) := by decide +kernel
theorem dX2_layFrom_26 : decode cX2_layFrom 26 = .ok (.iadd, 1) := by decide +kernel
theorem dX2_layFrom_27 : decode cX2_layFrom 27 = .ok (.invokevirtual 42, 3) := by decide +kernel
theorem dX2_layFrom_30 : decode cX2_layFrom 30 = .ok (.aload_n 0, 1) := by decide +kernel
theorem dX2_layFrom_31 : decode cX2_layFrom 31 = .ok (.iload_n 1, 1) := by decide +kernel
theorem dX2_layFrom_32 : decode cX2_layFrom 32 = .ok (.aload_n 0, 1) := by decide +kernel
theorem dX2_layFrom_33 : decode cX2_layFrom 33 = .ok (.getfield 18, 3) := by decide +kernel
theorem dX2_layFrom_36 : decode cX2_layFrom 36 = .ok (.iload_n 2, 1) := by decide +kernel
theorem dX2_layFrom_37 : decode cX2_layFrom 37 = .ok (.iaload, 1) := by decide +kernel
theorem dX2_layFrom_38 : decode cX2_layFrom 38 = .ok (.isub, 1) := by decide +kernel
theorem dX2_layFrom_39 : decode cX2_layFrom 39 = .ok (.aload_n 0, 1) := by decide +kernel
theorem dX2_layFrom_40 : decode cX2_layFrom 40 = .ok (.getfield 9, 3) := by decide +kernel
theorem dX2_layFrom_43 : decode cX2_layFrom 43 = .ok (.iload_n 1, 1) := by decide +kernel
theorem dX2_layFrom_44 : decode cX2_layFrom 44 = .ok (.iaload, 1) := by decide +kernel
theorem dX2_layFrom_45 : decode cX2_layFrom 45 = .ok (.iconst 1, 1) := by decide +kernel
theorem dX2_layFrom_46 : decode cX2_layFrom 46 = .ok (.iadd, 1) := by decide +kernel
theorem dX2_layFrom_47 : decode cX2_layFrom 47 = .ok (.invokevirtual 42, 3) := by decide +kernel
theorem dX2_layFrom_50 : decode cX2_layFrom 50 = .ok (.iinc 2 1, 3) := by decide +kernel
theorem dX2_layFrom_53 : decode cX2_layFrom 53 = .ok (.goto (-51), 3) := by decide +kernel
theorem dX2_layFrom_56 : decode cX2_layFrom 56 = .ok (.return_, 1) := by decide +kernel
theorem dX2_reach_0 : decode cX2_reach 0 = .ok (.iload_n 1, 1) := by decide +kernel
theorem dX2_reach_1 : decode cX2_reach 1 = .ok (.iconst 0, 1) := by decide +kernel
theorem dX2_reach_2 : decode cX2_reach 2 = .ok (.sipush 999, 3) := by decide +kernel
theorem dX2_reach_5 : decode cX2_reach 5 = .ok (.invokestatic 50, 3) := by decide +kernel
theorem dX2_reach_8 : decode cX2_reach 8 = .ok (.ifCond .eq 50, 3) := by decide +kernel
theorem dX2_reach_11 : decode cX2_reach 11 = .ok (.aload_n 0, 1) := by decide +kernel
theorem dX2_reach_12 : decode cX2_reach 12 = .ok (.getfield 9, 3) := by decide +kernel
theorem dX2_reach_15 : decode cX2_reach 15 = .ok (.iload_n 1, 1) := by decide +kernel
theorem dX2_reach_16 : decode cX2_reach 16 = .ok (.iaload, 1) := by decide +kernel
theorem dX2_reach_17 : decode cX2_reach 17 = .ok (.iconst (-1), 1) := by decide +kernel
theorem dX2_reach_18 : decode cX2_reach 18 = .ok (.if_icmp .ne 40, 3) := by decide +kernel
theorem dX2_reach_21 : decode cX2_reach 21 = .ok (.aload_n 0, 1) := by decide +kernel
theorem dX2_reach_22 : decode cX2_reach 22 = .ok (.getfield 39, 3) := by decide +kernel
theorem dX2_reach_25 : decode cX2_reach 25 = .ok (.sipush 999, 3) := by decide +kernel
theorem dX2_reach_28 : decode cX2_reach 28 = .ok (.if_icmp .gt 30, 3) := by decide +kernel
theorem dX2_reach_31 : decode cX2_reach 31 = .ok (.aload_n 0, 1) := by decide +kernel
theorem dX2_reach_32 : decode cX2_reach 32 = .ok (.getfield 9, 3) := by decide +kernel
theorem dX2_reach_35 : decode cX2_reach 35 = .ok (.iload_n 1, 1) := by decide +kernel
theorem dX2_reach_36 : decode cX2_reach 36 = .ok (.iload_n 2, 1) := by decide +kernel
theorem dX2_reach_37 : decode cX2_reach 37 = .ok (.iastore, 1) := by decide +kernel
theorem dX2_reach_38 : decode cX2_reach 38 = .ok (.aload_n 0, 1) := by decide +kernel
theorem dX2_reach_39 : decode cX2_reach 39 = .ok (.getfield 15, 3) := by decide +kernel
theorem dX2_reach_42 : decode cX2_reach 42 = .ok (.aload_n 0, 1) := by decide +kernel
theorem dX2_reach_43 : decode cX2_reach 43 = .ok (.getfield 39, 3) := by decide +kernel
theorem dX2_reach_46 : decode cX2_reach 46 = .ok (.iload_n 1, 1) := by decide +kernel
theorem dX2_reach_47 : decode cX2_reach 47 = .ok (.iastore, 1) := by decide +kernel
theorem dX2_reach_48 : decode cX2_reach 48 = .ok (.aload_n 0, 1) := by decide +kernel
theorem dX2_reach_49 : decode cX2_reach 49 = .ok (.dup, 1) := by decide +kernel
theorem dX2_reach_50 : decode cX2_reach 50 = .ok (.getfield 39, 3) := by decide +kernel
theorem dX2_reach_53 : decode cX2_reach 53 = .ok (.iconst 1, 1) := by decide +kernel
theorem dX2_reach_54 : decode cX2_reach 54 = .ok (.iadd, 1) := by decide +kernel
theorem dX2_reach_55 : decode cX2_reach 55 = .ok (.putfield 39, 3) := by decide +kernel
theorem dX2_reach_58 : decode cX2_reach 58 = .ok (.return_, 1) := by decide +kernel
theorem dX3_init_0 : decode cX3_init 0 = .ok (.aload_n 0, 1) := by decide +kernel
theorem dX3_init_1 : decode cX3_init 1 = .ok (.invokespecial 3, 3) := by decide +kernel
theorem dX3_init_4 : decode cX3_init 4 = .ok (.aload_n 0, 1) := by decide +kernel
theorem dX3_init_5 : decode cX3_init 5 = .ok (.bipush 16, 2) := by decide +kernel
theorem dX3_init_7 : decode cX3_init 7 = .ok (.anewarray 9, 3) := by decide +kernel
theorem dX3_init_10 : decode cX3_init 10 = .ok (.putfield 11, 3) := by decide +kernel
theorem dX3_init_13 : decode cX3_init 13 = .ok (.iconst 0, 1) := by decide +kernel
theorem dX3_init_14 : decode cX3_init 14 = .ok (.istore_n 1, 1) := by decide +kernel
theorem dX3_init_15 : decode cX3_init 15 = .ok (.iload_n 1, 1) := by decide +kernel
theorem dX3_init_16 : decode cX3_init 16 = .ok (.bipush 16, 2) := by decide +kernel
theorem dX3_init_18 : decode cX3_init 18 = .ok (.if_icmp .ge 22, 3) := by decide +kernel
theorem dX3_init_21 : decode cX3_init 21 = .ok (.aload_n 0, 1) := by decide +kernel
theorem dX3_init_22 : decode cX3_init 22 = .ok (.getfield 11, 3) := by decide +kernel
theorem dX3_init_25 : decode cX3_init 25 = .ok (.iload_n 1, 1) := by decide +kernel
theorem dX3_init_26 : decode cX3_init 26 = .ok (.new 9, 3) := by decide +kernel
theorem dX3_init_29 : decode cX3_init 29 = .ok (.dup, 1) := by decide +kernel
theorem dX3_init_30 : decode cX3_init 30 = .ok (.invokespecial 17, 3) := by decide +kernel
theorem dX3_init_33 : decode cX3_init 33 = .ok (.aastore, 1) := by decide +kernel
theorem dX3_init_34 : decode cX3_init 34 = .ok (.iinc 1 1, 3) := by decide +kernel
theorem dX3_init_37 : decode cX3_init 37 = .ok (.goto (-22), 3) := by decide +kernel
theorem dX3_init_40 : decode cX3_init 40 = .ok (.return_, 1) := by decide +kernel
theorem dX3_remember_0 : decode cX3_remember 0 = .ok (.aload_n 0, 1) := by decide +kernel
theorem dX3_remember_1 : decode cX3_remember 1 = .ok (.getfield 11, 3) := by decide +kernel
theorem dX3_remember_4 : decode cX3_remember 4 = .ok (.aload_n 0, 1) := by decide +kernel
theorem dX3_remember_5 : decode cX3_remember 5 = .ok (.getfield 18, 3) := by decide +kernel
theorem dX3_remember_8 : decode cX3_remember 8 = .ok (.aaload, 1) := by decide +kernel
theorem dX3_remember_9 : decode cX3_remember 9 = .ok (.aload_n 1, 1) := by decide +kernel
theorem dX3_remember_10 : decode cX3_remember 10 = .ok (.invokevirtual 22, 3) := by decide +kernel
theorem dX3_remember_13 : decode cX3_remember 13 = .ok (.aload_n 0, 1) := by decide +kernel
theorem dX3_remember_14 : decode cX3_remember 14 = .ok (.aload_n 0, 1) := by decide +kernel
theorem dX3_remember_15 : decode cX3_remember 15 = .ok (.getfield 18, 3) := by decide +kernel
theorem dX3_remember_18 : decode cX3_remember 18 = .ok (.iconst 1, 1) := by decide +kernel
theorem dX3_remember_19 : decode cX3_remember 19 = .ok (.iadd, 1) := by decide +kernel
theorem dX3_remember_20 : decode cX3_remember 20 = .ok (.bipush 16, 2) := by decide +kernel
theorem dX3_remember_22 : decode cX3_remember 22 = .ok (.if_icmp .ge 12, 3) := by decide +kernel
theorem dX3_remember_25 : decode cX3_remember 25 = .ok (.aload_n 0, 1) := by decide +kernel
theorem dX3_remember_26 : decode cX3_remember 26 = .ok (.getfield 18, 3) := by decide +kernel
theorem dX3_remember_29 : decode cX3_remember 29 = .ok (.iconst 1, 1) := by decide +kernel
theorem dX3_remember_30 : decode cX3_remember 30 = .ok (.iadd, 1) := by decide +kernel
theorem dX3_remember_31 : decode cX3_remember 31 = .ok (.goto 4, 3) := by decide +kernel
theorem dX3_remember_34 : decode cX3_remember 34 = .ok (.iconst 0, 1) := by decide +kernel
theorem dX3_remember_35 : decode cX3_remember 35 = .ok (.putfield 18, 3) := by decide +kernel
theorem dX3_remember_38 : decode cX3_remember 38 = .ok (.aload_n 0, 1) := by decide +kernel
theorem dX3_remember_39 : decode cX3_remember 39 = .ok (.bipush 16, 2) := by decide +kernel
theorem dX3_remember_41 : decode cX3_remember 41 = .ok (.aload_n 0, 1) := by decide +kernel
theorem dX3_remember_42 : decode cX3_remember 42 = .ok (.getfield 26, 3) := by decide +kernel
theorem dX3_remember_45 : decode cX3_remember 45 = .ok (.iconst 1, 1) := by decide +kernel
theorem dX3_remember_46 : decode cX3_remember 46 = .ok (.iadd, 1) := by decide +kernel
theorem dX3_remember_47 : decode cX3_remember 47 = .ok (.invokestatic 29, 3) := by decide +kernel
theorem dX3_remember_50 : decode cX3_remember 50 = .ok (.putfield 26, 3) := by decide +kernel
theorem dX3_remember_53 : decode cX3_remember 53 = .ok (.return_, 1) := by decide +kernel
theorem dX3_bringBack_0 : decode cX3_bringBack 0 = .ok (.aload_n 0, 1) := by decide +kernel
theorem dX3_bringBack_1 : decode cX3_bringBack 1 = .ok (.getfield 26, 3) := by decide +kernel
theorem dX3_bringBack_4 : decode cX3_bringBack 4 = .ok (.ifCond .le 48, 3) := by decide +kernel
theorem dX3_bringBack_7 : decode cX3_bringBack 7 = .ok (.aload_n 0, 1) := by decide +kernel
theorem dX3_bringBack_8 : decode cX3_bringBack 8 = .ok (.aload_n 0, 1) := by decide +kernel
theorem dX3_bringBack_9 : decode cX3_bringBack 9 = .ok (.getfield 18, 3) := by decide +kernel
theorem dX3_bringBack_12 : decode cX3_bringBack 12 = .ok (.ifCond .le 12, 3) := by decide +kernel
theorem dX3_bringBack_15 : decode cX3_bringBack 15 = .ok (.aload_n 0, 1) := by decide +kernel
theorem dX3_bringBack_16 : decode cX3_bringBack 16 = .ok (.getfield 18, 3) := by decide +kernel
theorem dX3_bringBack_19 : decode cX3_bringBack 19 = .ok (.iconst 1, 1) := by decide +kernel
theorem dX3_bringBack_20 : decode cX3_bringBack 20 = .ok (.isub, 1) := by decide +kernel
theorem dX3_bringBack_21 : decode cX3_bringBack 21 = .ok (.goto 5, 3) := by decide +kernel
theorem dX3_bringBack_24 : decode cX3_bringBack 24 = .ok (.bipush 15, 2) := by decide +kernel
theorem dX3_bringBack_26 : decode cX3_bringBack 26 = .ok (.putfield 18, 3) := by decide +kernel
theorem dX3_bringBack_29 : decode cX3_bringBack 29 = .ok (.aload_n 1, 1) := by decide +kernel
theorem dX3_bringBack_30 : decode cX3_bringBack 30 = .ok (.aload_n 0, 1) := by decide +kernel
theorem dX3_bringBack_31 : decode cX3_bringBack 31 = .ok (.getfield 11, 3) := by decide +kernel
theorem dX3_bringBack_34 : decode cX3_bringBack 34 = .ok (.aload_n 0, 1) := by decide +kernel
theorem dX3_bringBack_35 : decode cX3_bringBack 35 = .ok (.getfield 18, 3) := by decide +kernel
theorem dX3_bringBack_38 : decode cX3_bringBack 38 = .ok (.aaload, 1) := by decide +kernel
theorem dX3_bringBack_39 : decode cX3_bringBack 39 = .ok (.invokevirtual 22, 3) := by decide +kernel
theorem dX3_bringBack_42 : decode cX3_bringBack 42 = .ok (.aload_n 0, 1) := by decide +kernel
theorem dX3_bringBack_43 : decode cX3_bringBack 43 = .ok (.dup, 1) := by decide +kernel
theorem dX3_bringBack_44 : decode cX3_bringBack 44 = .ok (.getfield 26, 3) := by decide +kernel
theorem dX3_bringBack_47 : decode cX3_bringBack 47 = .ok (.iconst 1, 1) := by decide +kernel
theorem dX3_bringBack_48 : decode cX3_bringBack 48 = .ok (.isub, 1) := by decide +kernel
theorem dX3_bringBack_49 : decode cX3_bringBack 49 = .ok (.putfield 26, 3) := by decide +kernel
theorem dX3_bringBack_52 : decode cX3_bringBack 52 = .ok (.return_, 1) := by decide +kernel
theorem dX3_forget_0 : decode cX3_forget 0 = .ok (.aload_n 0, 1) := by decide +kernel
theorem dX3_forget_1 : decode cX3_forget 1 = .ok (.iconst 0, 1) := by decide +kernel
theorem dX3_forget_2 : decode cX3_forget 2 = .ok (.putfield 26, 3) := by decide +kernel
theorem dX3_forget_5 : decode cX3_forget 5 = .ok (.return_, 1) := by decide +kernel
theorem dX4_init_0 : decode cX4_init 0 = .ok (.aload_n 0, 1) := by decide +kernel
theorem dX4_init_1 : decode cX4_init 1 = .ok (.invokespecial 3, 3) := by decide +kernel
theorem dX4_init_4 : decode cX4_init 4 = .ok (.aload_n 0, 1) := by decide +kernel
theorem dX4_init_5 : decode cX4_init 5 = .ok (.bipush 6, 2) := by decide +kernel
theorem dX4_init_7 : decode cX4_init 7 = .ok (.newarray .int, 2) := by decide +kernel
theorem dX4_init_9 : decode cX4_init 9 = .ok (.putfield 9, 3) := by decide +kernel
theorem dX4_init_12 : decode cX4_init 12 = .ok (.aload_n 0, 1) := by decide +kernel
theorem dX4_init_13 : decode cX4_init 13 = .ok (.sipush 448, 3) := by decide +kernel
theorem dX4_init_16 : decode cX4_init 16 = .ok (.newarray .int, 2) := by decide +kernel
theorem dX4_init_18 : decode cX4_init 18 = .ok (.putfield 15, 3) := by decide +kernel
theorem dX4_init_21 : decode cX4_init 21 = .ok (.return_, 1) := by decide +kernel
theorem dX4_weigh_0 : decode cX4_weigh 0 = .ok (.aload_n 0, 1) := by decide +kernel
theorem dX4_weigh_1 : decode cX4_weigh 1 = .ok (.aload_n 1, 1) := by decide +kernel
theorem dX4_weigh_2 : decode cX4_weigh 2 = .ok (.getfield 18, 3) := by decide +kernel
theorem dX4_weigh_5 : decode cX4_weigh 5 = .ok (.putfield 24, 3) := by decide +kernel
theorem dX4_weigh_8 : decode cX4_weigh 8 = .ok (.aload_n 0, 1) := by decide +kernel
theorem dX4_weigh_9 : decode cX4_weigh 9 = .ok (.getfield 15, 3) := by decide +kernel
theorem dX4_weigh_12 : decode cX4_weigh 12 = .ok (.iconst 0, 1) := by decide +kernel
theorem dX4_weigh_13 : decode cX4_weigh 13 = .ok (.invokestatic 27, 3) := by decide +kernel
theorem dX4_weigh_16 : decode cX4_weigh 16 = .ok (.aload_n 0, 1) := by decide +kernel
theorem dX4_weigh_17 : decode cX4_weigh 17 = .ok (.getfield 24, 3) := by decide +kernel
theorem dX4_weigh_20 : decode cX4_weigh 20 = .ok (.iconst 1, 1) := by decide +kernel
theorem dX4_weigh_21 : decode cX4_weigh 21 = .ok (.isub, 1) := by decide +kernel
theorem dX4_weigh_22 : decode cX4_weigh 22 = .ok (.istore_n 3, 1) := by decide +kernel
theorem dX4_weigh_23 : decode cX4_weigh 23 = .ok (.iload_n 3, 1) := by decide +kernel
theorem dX4_weigh_24 : decode cX4_weigh 24 = .ok (.ifCond .lt 67, 3) := by decide +kernel
theorem dX4_weigh_27 : decode cX4_weigh 27 = .ok (.aload_n 0, 1) := by decide +kernel
theorem dX4_weigh_28 : decode cX4_weigh 28 = .ok (.getfield 9, 3) := by decide +kernel
theorem dX4_weigh_31 : decode cX4_weigh 31 = .ok (.iload_n 3, 1) := by decide +kernel
theorem dX4_weigh_32 : decode cX4_weigh 32 = .ok (.aload_n 2, 1) := by decide +kernel
theorem dX4_weigh_33 : decode cX4_weigh 33 = .ok (.aload_n 1, 1) := by decide +kernel
theorem dX4_weigh_34 : decode cX4_weigh 34 = .ok (.iload_n 3, 1) := by decide +kernel
theorem dX4_weigh_35 : decode cX4_weigh 35 = .ok (.invokevirtual 33, 3) := by decide +kernel
theorem dX4_weigh_38 : decode cX4_weigh 38 = .ok (.iastore, 1) := by decide +kernel
theorem dX4_weigh_39 : decode cX4_weigh 39 = .ok (.iconst 0, 1) := by decide +kernel
theorem dX4_weigh_40 : decode cX4_weigh 40 = .ok (.istore 4, 2) := by decide +kernel
theorem dX4_weigh_42 : decode cX4_weigh 42 = .ok (.iload 4, 2) := by decide +kernel
theorem dX4_weigh_44 : decode cX4_weigh 44 = .ok (.bipush 64, 2) := by decide +kernel
theorem dX4_weigh_46 : decode cX4_weigh 46 = .ok (.if_icmp .ge 39, 3) := by decide +kernel
theorem dX4_weigh_49 : decode cX4_weigh 49 = .ok (.aload_n 0, 1) := by decide +kernel
theorem dX4_weigh_50 : decode cX4_weigh 50 = .ok (.iload_n 3, 1) := by decide +kernel
theorem dX4_weigh_51 : decode cX4_weigh 51 = .ok (.iload 4, 2) := by decide +kernel
theorem dX4_weigh_53 : decode cX4_weigh 53 = .ok (.invokevirtual 39, 3) := by decide +kernel
theorem dX4_weigh_56 : decode cX4_weigh 56 = .ok (.istore 5, 2) := by decide +kernel
theorem dX4_weigh_58 : decode cX4_weigh 58 = .ok (.aload_n 0, 1) := by decide +kernel
theorem dX4_weigh_59 : decode cX4_weigh 59 = .ok (.getfield 15, 3) := by decide +kernel
theorem dX4_weigh_62 : decode cX4_weigh 62 = .ok (.iload_n 3, 1) := by decide +kernel
theorem dX4_weigh_63 : decode cX4_weigh 63 = .ok (.bipush 64, 2) := by decide +kernel
theorem dX4_weigh_65 : decode cX4_weigh 65 = .ok (.imul, 1) := by decide +kernel
theorem dX4_weigh_66 : decode cX4_weigh 66 = .ok (.iload 4, 2) := by decide +kernel
theorem dX4_weigh_68 : decode cX4_weigh 68 = .ok (.iadd, 1) := by decide +kernel
theorem dX4_weigh_69 : decode cX4_weigh 69 = .ok (.aload_n 0, 1) := by decide +kernel
theorem dX4_weigh_70 : decode cX4_weigh 70 = .ok (.iload_n 3, 1) := by decide +kernel
theorem dX4_weigh_71 : decode cX4_weigh 71 = .ok (.iload 4, 2) := by decide +kernel
theorem dX4_weigh_73 : decode cX4_weigh 73 = .ok (.iload 5, 2) := by decide +kernel
theorem dX4_weigh_75 : decode cX4_weigh 75 = .ok (.invokevirtual 43, 3) := by decide +kernel
theorem dX4_weigh_78 : decode cX4_weigh 78 = .ok (.iastore, 1) := by decide +kernel
theorem dX4_weigh_79 : decode cX4_weigh 79 = .ok (.iinc 4 1, 3) := by decide +kernel
theorem dX4_weigh_82 : decode cX4_weigh 82 = .ok (.goto (-40), 3) := by decide +kernel
theorem dX4_weigh_85 : decode cX4_weigh 85 = .ok (.iinc 3 (-1), 3) := by decide +kernel
theorem dX4_weigh_88 : decode cX4_weigh 88 = .ok (.goto (-65), 3) := by decide +kernel
theorem dX4_weigh_91 : decode cX4_weigh 91 = .ok (.return_, 1) := by decide +kernel
theorem dX4_mostFrom_0 : decode cX4_mostFrom 0 = .ok (.aload_n 0, 1) := by decide +kernel
theorem dX4_mostFrom_1 : decode cX4_mostFrom 1 = .ok (.getfield 15, 3) := by decide +kernel
theorem dX4_mostFrom_4 : decode cX4_mostFrom 4 = .ok (.iload_n 1, 1) := by decide +kernel
theorem dX4_mostFrom_5 : decode cX4_mostFrom 5 = .ok (.bipush 64, 2) := by decide +kernel
theorem dX4_mostFrom_7 : decode cX4_mostFrom 7 = .ok (.imul, 1) := by decide +kernel
theorem dX4_mostFrom_8 : decode cX4_mostFrom 8 = .ok (.iload_n 2, 1) := by decide +kernel
theorem dX4_mostFrom_9 : decode cX4_mostFrom 9 = .ok (.iadd, 1) := by decide +kernel
theorem dX4_mostFrom_10 : decode cX4_mostFrom 10 = .ok (.iaload, 1) := by decide +kernel
theorem dX4_mostFrom_11 : decode cX4_mostFrom 11 = .ok (.ireturn, 1) := by decide +kernel
theorem dX4_holderOf_0 : decode cX4_holderOf 0 = .ok (.iconst 0, 1) := by decide +kernel
theorem dX4_holderOf_1 : decode cX4_holderOf 1 = .ok (.istore_n 2, 1) := by decide +kernel
theorem dX4_holderOf_2 : decode cX4_holderOf 2 = .ok (.iconst 0, 1) := by decide +kernel
theorem dX4_holderOf_3 : decode cX4_holderOf 3 = .ok (.istore_n 3, 1) := by decide +kernel
theorem dX4_holderOf_4 : decode cX4_holderOf 4 = .ok (.iload_n 3, 1) := by decide +kernel
theorem dX4_holderOf_5 : decode cX4_holderOf 5 = .ok (.iload_n 1, 1) := by decide +kernel
theorem dX4_holderOf_6 : decode cX4_holderOf 6 = .ok (.if_icmp .ge 42, 3) := by decide +kernel
theorem dX4_holderOf_9 : decode cX4_holderOf 9 = .ok (.iload_n 3, 1) := by decide +kernel
theorem dX4_holderOf_10 : decode cX4_holderOf 10 = .ok (.aload_n 0, 1) := by decide +kernel
theorem dX4_holderOf_11 : decode cX4_holderOf 11 = .ok (.getfield 24, 3) := by decide +kernel
theorem dX4_holderOf_14 : decode cX4_holderOf 14 = .ok (.if_icmp .ge 34, 3) := by decide +kernel
theorem dX4_holderOf_17 : decode cX4_holderOf 17 = .ok (.aload_n 0, 1) := by decide +kernel
theorem dX4_holderOf_18 : decode cX4_holderOf 18 = .ok (.iload_n 3, 1) := by decide +kernel
theorem dX4_holderOf_19 : decode cX4_holderOf 19 = .ok (.iload_n 2, 1) := by decide +kernel
theorem dX4_holderOf_20 : decode cX4_holderOf 20 = .ok (.invokevirtual 39, 3) := by decide +kernel
theorem dX4_holderOf_23 : decode cX4_holderOf 23 = .ok (.istore 4, 2) := by decide +kernel
theorem dX4_holderOf_25 : decode cX4_holderOf 25 = .ok (.iload_n 2, 1) := by decide +kernel
theorem dX4_holderOf_26 : decode cX4_holderOf 26 = .ok (.iload 4, 2) := by decide +kernel
theorem dX4_holderOf_28 : decode cX4_holderOf 28 = .ok (.iconst (-1), 1) := by decide +kernel
theorem dX4_holderOf_29 : decode cX4_holderOf 29 = .ok (.if_icmp .ne 7, 3) := by decide +kernel
theorem dX4_holderOf_32 : decode cX4_holderOf 32 = .ok (.iconst 0, 1) := by decide +kernel
theorem dX4_holderOf_33 : decode cX4_holderOf 33 = .ok (.goto 7, 3) := by decide +kernel
theorem dX4_holderOf_36 : decode cX4_holderOf 36 = .ok (.iconst 1, 1) := by decide +kernel
theorem dX4_holderOf_37 : decode cX4_holderOf 37 = .ok (.iload 4, 2) := by decide +kernel
theorem dX4_holderOf_39 : decode cX4_holderOf 39 = .ok (.ishl, 1) := by decide +kernel
theorem dX4_holderOf_40 : decode cX4_holderOf 40 = .ok (.ior, 1) := by decide +kernel
theorem dX4_holderOf_41 : decode cX4_holderOf 41 = .ok (.istore_n 2, 1) := by decide +kernel
theorem dX4_holderOf_42 : decode cX4_holderOf 42 = .ok (.iinc 3 1, 3) := by decide +kernel
theorem dX4_holderOf_45 : decode cX4_holderOf 45 = .ok (.goto (-41), 3) := by decide +kernel
theorem dX4_holderOf_48 : decode cX4_holderOf 48 = .ok (.aload_n 0, 1) := by decide +kernel
theorem dX4_holderOf_49 : decode cX4_holderOf 49 = .ok (.iload_n 1, 1) := by decide +kernel
theorem dX4_holderOf_50 : decode cX4_holderOf 50 = .ok (.iload_n 2, 1) := by decide +kernel
theorem dX4_holderOf_51 : decode cX4_holderOf 51 = .ok (.invokevirtual 39, 3) := by decide +kernel
theorem dX4_holderOf_54 : decode cX4_holderOf 54 = .ok (.ireturn, 1) := by decide +kernel
theorem dX4_firstBest_0 : decode cX4_firstBest 0 = .ok (.aload_n 0, 1) := by decide +kernel
theorem dX4_firstBest_1 : decode cX4_firstBest 1 = .ok (.getfield 9, 3) := by decide +kernel
theorem dX4_firstBest_4 : decode cX4_firstBest 4 = .ok (.iload_n 1, 1) := by decide +kernel
theorem dX4_firstBest_5 : decode cX4_firstBest 5 = .ok (.iaload, 1) := by decide +kernel
theorem dX4_firstBest_6 : decode cX4_firstBest 6 = .ok (.iload_n 2, 1) := by decide +kernel
theorem dX4_firstBest_7 : decode cX4_firstBest 7 = .ok (.iconst (-1), 1) := by decide +kernel
theorem dX4_firstBest_8 : decode cX4_firstBest 8 = .ok (.ixor, 1) := by decide +kernel
theorem dX4_firstBest_9 : decode cX4_firstBest 9 = .ok (.iand, 1) := by decide +kernel
theorem dX4_firstBest_10 : decode cX4_firstBest 10 = .ok (.istore_n 3, 1) := by decide +kernel
theorem dX4_firstBest_11 : decode cX4_firstBest 11 = .ok (.iconst (-1), 1) := by decide +kernel
theorem dX4_firstBest_12 : decode cX4_firstBest 12 = .ok (.istore 4, 2) := by decide +kernel
theorem dX4_firstBest_14 : decode cX4_firstBest 14 = .ok (.iconst 0, 1) := by decide +kernel
theorem dX4_firstBest_15 : decode cX4_firstBest 15 = .ok (.istore 5, 2) := by decide +kernel
theorem dX4_firstBest_17 : decode cX4_firstBest 17 = .ok (.iload 5, 2) := by decide +kernel
theorem dX4_firstBest_19 : decode cX4_firstBest 19 = .ok (.bipush 6, 2) := by decide +kernel
theorem dX4_firstBest_21 : decode cX4_firstBest 21 = .ok (.if_icmp .ge 60, 3) := by decide +kernel
theorem dX4_firstBest_24 : decode cX4_firstBest 24 = .ok (.iload_n 3, 1) := by decide +kernel
theorem dX4_firstBest_25 : decode cX4_firstBest 25 = .ok (.iload 5, 2) := by decide +kernel
theorem dX4_firstBest_27 : decode cX4_firstBest 27 = .ok (.ishr, 1) := by decide +kernel
theorem dX4_firstBest_28 : decode cX4_firstBest 28 = .ok (.iconst 1, 1) := by decide +kernel
theorem dX4_firstBest_29 : decode cX4_firstBest 29 = .ok (.iand, 1) := by decide +kernel
theorem dX4_firstBest_30 : decode cX4_firstBest 30 = .ok (.iconst 1, 1) := by decide +kernel
theorem dX4_firstBest_31 : decode cX4_firstBest 31 = .ok (.if_icmp .ne 7, 3) := by decide +kernel
theorem dX4_firstBest_34 : decode cX4_firstBest 34 = .ok (.iconst 1, 1) := by decide +kernel
theorem dX4_firstBest_35 : decode cX4_firstBest 35 = .ok (.goto 4, 3) := by decide +kernel
theorem dX4_firstBest_38 : decode cX4_firstBest 38 = .ok (.iconst 0, 1) := by decide +kernel
theorem dX4_firstBest_39 : decode cX4_firstBest 39 = .ok (.istore 6, 2) := by decide +kernel
theorem dX4_firstBest_41 : decode cX4_firstBest 41 = .ok (.iload 6, 2) := by decide +kernel
theorem dX4_firstBest_43 : decode cX4_firstBest 43 = .ok (.ifCond .eq 32, 3) := by decide +kernel
theorem dX4_firstBest_46 : decode cX4_firstBest 46 = .ok (.iload 4, 2) := by decide +kernel
theorem dX4_firstBest_48 : decode cX4_firstBest 48 = .ok (.iconst (-1), 1) := by decide +kernel
theorem dX4_firstBest_49 : decode cX4_firstBest 49 = .ok (.if_icmp .eq 22, 3) := by decide +kernel
theorem dX4_firstBest_52 : decode cX4_firstBest 52 = .ok (.aload_n 0, 1) := by decide +kernel
theorem dX4_firstBest_53 : decode cX4_firstBest 53 = .ok (.iload_n 1, 1) := by decide +kernel
theorem dX4_firstBest_54 : decode cX4_firstBest 54 = .ok (.iload_n 2, 1) := by decide +kernel
theorem dX4_firstBest_55 : decode cX4_firstBest 55 = .ok (.iload 5, 2) := by decide +kernel
theorem dX4_firstBest_57 : decode cX4_firstBest 57 = .ok (.invokevirtual 43, 3) := by decide +kernel
theorem dX4_firstBest_60 : decode cX4_firstBest 60 = .ok (.aload_n 0, 1) := by decide +kernel
theorem dX4_firstBest_61 : decode cX4_firstBest 61 = .ok (.iload_n 1, 1) := by decide +kernel
theorem dX4_firstBest_62 : decode cX4_firstBest 62 = .ok (.iload_n 2, 1) := by decide +kernel
theorem dX4_firstBest_63 : decode cX4_firstBest 63 = .ok (.iload 4, 2) := by decide +kernel
theorem dX4_firstBest_65 : decode cX4_firstBest 65 = .ok (.invokevirtual 43, 3) := by decide +kernel
theorem dX4_firstBest_68 : decode cX4_firstBest 68 = .ok (.if_icmp .le 7, 3) := by decide +kernel
theorem dX4_firstBest_71 : decode cX4_firstBest 71 = .ok (.iload 5, 2) := by decide +kernel
theorem dX4_firstBest_73 : decode cX4_firstBest 73 = .ok (.istore 4, 2) := by decide +kernel
theorem dX4_firstBest_75 : decode cX4_firstBest 75 = .ok (.iinc 5 1, 3) := by decide +kernel
theorem dX4_firstBest_78 : decode cX4_firstBest 78 = .ok (.goto (-61), 3) := by decide +kernel
theorem dX4_firstBest_81 : decode cX4_firstBest 81 = .ok (.iload 4, 2) := by decide +kernel
theorem dX4_firstBest_83 : decode cX4_firstBest 83 = .ok (.ireturn, 1) := by decide +kernel
theorem dX4_filledWith_0 : decode cX4_filledWith 0 = .ok (.iload_n 3, 1) := by decide +kernel
theorem dX4_filledWith_1 : decode cX4_filledWith 1 = .ok (.iconst (-1), 1) := by decide +kernel
theorem dX4_filledWith_2 : decode cX4_filledWith 2 = .ok (.if_icmp .ne 14, 3) := by decide +kernel
theorem dX4_filledWith_5 : decode cX4_filledWith 5 = .ok (.aload_n 0, 1) := by decide +kernel
theorem dX4_filledWith_6 : decode cX4_filledWith 6 = .ok (.iload_n 1, 1) := by decide +kernel
theorem dX4_filledWith_7 : decode cX4_filledWith 7 = .ok (.iconst 1, 1) := by decide +kernel
theorem dX4_filledWith_8 : decode cX4_filledWith 8 = .ok (.iadd, 1) := by decide +kernel
theorem dX4_filledWith_9 : decode cX4_filledWith 9 = .ok (.iload_n 2, 1) := by decide +kernel
theorem dX4_filledWith_10 : decode cX4_filledWith 10 = .ok (.invokevirtual 47, 3) := by decide +kernel
theorem dX4_filledWith_13 : decode cX4_filledWith 13 = .ok (.goto 17, 3) := by decide +kernel
theorem dX4_filledWith_16 : decode cX4_filledWith 16 = .ok (.iconst 1, 1) := by decide +kernel
theorem dX4_filledWith_17 : decode cX4_filledWith 17 = .ok (.aload_n 0, 1) := by decide +kernel
theorem dX4_filledWith_18 : decode cX4_filledWith 18 = .ok (.iload_n 1, 1) := by decide +kernel
theorem dX4_filledWith_19 : decode cX4_filledWith 19 = .ok (.iconst 1, 1) := by decide +kernel
theorem dX4_filledWith_20 : decode cX4_filledWith 20 = .ok (.iadd, 1) := by decide +kernel
theorem dX4_filledWith_21 : decode cX4_filledWith 21 = .ok (.iload_n 2, 1) := by decide +kernel
theorem dX4_filledWith_22 : decode cX4_filledWith 22 = .ok (.iconst 1, 1) := by decide +kernel
theorem dX4_filledWith_23 : decode cX4_filledWith 23 = .ok (.iload_n 3, 1) := by decide +kernel
theorem dX4_filledWith_24 : decode cX4_filledWith 24 = .ok (.ishl, 1) := by decide +kernel
theorem dX4_filledWith_25 : decode cX4_filledWith 25 = .ok (.ior, 1) := by decide +kernel
theorem dX4_filledWith_26 : decode cX4_filledWith 26 = .ok (.invokevirtual 47, 3) := by decide +kernel
theorem dX4_filledWith_29 : decode cX4_filledWith 29 = .ok (.iadd, 1) := by decide +kernel
theorem dX4_filledWith_30 : decode cX4_filledWith 30 = .ok (.ireturn, 1) := by decide +kernel
theorem dX5_init_0 : decode cX5_init 0 = .ok (.aload_n 0, 1) := by decide +kernel
theorem dX5_init_1 : decode cX5_init 1 = .ok (.invokespecial 3, 3) := by decide +kernel
theorem dX5_init_4 : decode cX5_init 4 = .ok (.aload_n 0, 1) := by decide +kernel
theorem dX5_init_5 : decode cX5_init 5 = .ok (.iconst 0, 1) := by decide +kernel
theorem dX5_init_6 : decode cX5_init 6 = .ok (.newarray .int, 2) := by decide +kernel
theorem dX5_init_8 : decode cX5_init 8 = .ok (.putfield 9, 3) := by decide +kernel
theorem dX5_init_11 : decode cX5_init 11 = .ok (.aload_n 0, 1) := by decide +kernel
theorem dX5_init_12 : decode cX5_init 12 = .ok (.iconst (-1), 1) := by decide +kernel
theorem dX5_init_13 : decode cX5_init 13 = .ok (.putfield 15, 3) := by decide +kernel
theorem dX5_init_16 : decode cX5_init 16 = .ok (.return_, 1) := by decide +kernel
theorem dX5_readText_0 : decode cX5_readText 0 = .ok (.aload_n 0, 1) := by decide +kernel
theorem dX5_readText_1 : decode cX5_readText 1 = .ok (.aload_n 1, 1) := by decide +kernel
theorem dX5_readText_2 : decode cX5_readText 2 = .ok (.putfield 9, 3) := by decide +kernel
theorem dX5_readText_5 : decode cX5_readText 5 = .ok (.aload_n 0, 1) := by decide +kernel
theorem dX5_readText_6 : decode cX5_readText 6 = .ok (.iload_n 2, 1) := by decide +kernel
theorem dX5_readText_7 : decode cX5_readText 7 = .ok (.aload_n 1, 1) := by decide +kernel
theorem dX5_readText_8 : decode cX5_readText 8 = .ok (.arraylength, 1) := by decide +kernel
theorem dX5_readText_9 : decode cX5_readText 9 = .ok (.invokestatic 19, 3) := by decide +kernel
theorem dX5_readText_12 : decode cX5_readText 12 = .ok (.putfield 25, 3) := by decide +kernel
theorem dX5_readText_15 : decode cX5_readText 15 = .ok (.aload_n 0, 1) := by decide +kernel
theorem dX5_readText_16 : decode cX5_readText 16 = .ok (.iconst 0, 1) := by decide +kernel
theorem dX5_readText_17 : decode cX5_readText 17 = .ok (.putfield 28, 3) := by decide +kernel
theorem dX5_readText_20 : decode cX5_readText 20 = .ok (.aload_n 0, 1) := by decide +kernel
theorem dX5_readText_21 : decode cX5_readText 21 = .ok (.iconst 0, 1) := by decide +kernel
theorem dX5_readText_22 : decode cX5_readText 22 = .ok (.putfield 31, 3) := by decide +kernel
theorem dX5_readText_25 : decode cX5_readText 25 = .ok (.aload_n 0, 1) := by decide +kernel
theorem dX5_readText_26 : decode cX5_readText 26 = .ok (.iconst (-1), 1) := by decide +kernel
theorem dX5_readText_27 : decode cX5_readText 27 = .ok (.putfield 15, 3) := by decide +kernel
theorem dX5_readText_30 : decode cX5_readText 30 = .ok (.aload_n 3, 1) := by decide +kernel
theorem dX5_readText_31 : decode cX5_readText 31 = .ok (.invokevirtual 34, 3) := by decide +kernel
theorem dX5_readText_34 : decode cX5_readText 34 = .ok (.aload_n 0, 1) := by decide +kernel
theorem dX5_readText_35 : decode cX5_readText 35 = .ok (.invokevirtual 39, 3) := by decide +kernel
theorem dX5_readText_38 : decode cX5_readText 38 = .ok (.iconst 0, 1) := by decide +kernel
theorem dX5_readText_39 : decode cX5_readText 39 = .ok (.istore 4, 2) := by decide +kernel
theorem dX5_readText_41 : decode cX5_readText 41 = .ok (.iload 4, 2) := by decide +kernel
theorem dX5_readText_43 : decode cX5_readText 43 = .ok (.sipush 240, 3) := by decide +kernel
theorem dX5_readText_46 : decode cX5_readText 46 = .ok (.if_icmp .ge 36, 3) := by decide +kernel
theorem dX5_readText_49 : decode cX5_readText 49 = .ok (.aload_n 0, 1) := by decide +kernel
theorem dX5_readText_50 : decode cX5_readText 50 = .ok (.getfield 28, 3) := by decide +kernel
theorem dX5_readText_53 : decode cX5_readText 53 = .ok (.aload_n 0, 1) := by decide +kernel
theorem dX5_readText_54 : decode cX5_readText 54 = .ok (.getfield 25, 3) := by decide +kernel
theorem dX5_readText_57 : decode cX5_readText 57 = .ok (.if_icmp .ge 25, 3) := by decide +kernel
theorem dX5_readText_60 : decode cX5_readText 60 = .ok (.aload_n 0, 1) := by decide +kernel
theorem dX5_readText_61 : decode cX5_readText 61 = .ok (.getfield 31, 3) := by decide +kernel
theorem dX5_readText_64 : decode cX5_readText 64 = .ok (.ifCond .ne 18, 3) := by decide +kernel
theorem dX5_readText_67 : decode cX5_readText 67 = .ok (.aload_n 0, 1) := by decide +kernel
theorem dX5_readText_68 : decode cX5_readText 68 = .ok (.aload_n 3, 1) := by decide +kernel
theorem dX5_readText_69 : decode cX5_readText 69 = .ok (.invokevirtual 42, 3) := by decide +kernel
theorem dX5_readText_72 : decode cX5_readText 72 = .ok (.aload_n 0, 1) := by decide +kernel
theorem dX5_readText_73 : decode cX5_readText 73 = .ok (.invokevirtual 39, 3) := by decide +kernel
theorem dX5_readText_76 : decode cX5_readText 76 = .ok (.iinc 4 1, 3) := by decide +kernel
theorem dX5_readText_79 : decode cX5_readText 79 = .ok (.goto (-38), 3) := by decide +kernel
theorem dX5_readText_82 : decode cX5_readText 82 = .ok (.return_, 1) := by decide +kernel
theorem dX5_readClause_0 : decode cX5_readClause 0 = .ok (.aload_n 0, 1) := by decide +kernel
theorem dX5_readClause_1 : decode cX5_readClause 1 = .ok (.getfield 9, 3) := by decide +kernel
theorem dX5_readClause_4 : decode cX5_readClause 4 = .ok (.aload_n 0, 1) := by decide +kernel
theorem dX5_readClause_5 : decode cX5_readClause 5 = .ok (.getfield 28, 3) := by decide +kernel
theorem dX5_readClause_8 : decode cX5_readClause 8 = .ok (.iaload, 1) := by decide +kernel
theorem dX5_readClause_9 : decode cX5_readClause 9 = .ok (.istore_n 2, 1) := by decide +kernel
theorem dX5_readClause_10 : decode cX5_readClause 10 = .ok (.iload_n 2, 1) := by decide +kernel
theorem dX5_readClause_11 : decode cX5_readClause 11 = .ok (.bipush 114, 2) := by decide +kernel
theorem dX5_readClause_13 : decode cX5_readClause 13 = .ok (.if_icmp .eq 20, 3) := by decide +kernel
theorem dX5_readClause_16 : decode cX5_readClause 16 = .ok (.aload_n 1, 1) := by decide +kernel
theorem dX5_readClause_17 : decode cX5_readClause 17 = .ok (.getfield 46, 3) := by decide +kernel
theorem dX5_readClause_20 : decode cX5_readClause 20 = .ok (.ifCond .ne 13, 3) := by decide +kernel
theorem dX5_readClause_23 : decode cX5_readClause 23 = .ok (.aload_n 0, 1) := by decide +kernel
theorem dX5_readClause_24 : decode cX5_readClause 24 = .ok (.iconst 1, 1) := by decide +kernel
theorem dX5_readClause_25 : decode cX5_readClause 25 = .ok (.aload_n 0, 1) := by decide +kernel
theorem dX5_readClause_26 : decode cX5_readClause 26 = .ok (.getfield 28, 3) := by decide +kernel
theorem dX5_readClause_29 : decode cX5_readClause 29 = .ok (.invokevirtual 49, 3) := by decide +kernel
theorem dX5_readClause_32 : decode cX5_readClause 32 = .ok (.return_, 1) := by decide +kernel
theorem dX5_readClause_33 : decode cX5_readClause 33 = .ok (.iload_n 2, 1) := by decide +kernel
theorem dX5_readClause_34 : decode cX5_readClause 34 = .ok (.tableswitch 114 100 114 #[106, 114, 114, 114, 114, 114, 114, 114, 114, 114, 82, 90, 98, 114, 74], 74) := by decide +kernel
theorem dX5_readClause_108 : decode cX5_readClause 108 = .ok (.aload_n 0, 1) := by decide +kernel
theorem dX5_readClause_109 : decode cX5_readClause 109 = .ok (.aload_n 1, 1) := by decide +kernel
theorem dX5_readClause_110 : decode cX5_readClause 110 = .ok (.invokevirtual 53, 3) := by decide +kernel
theorem dX5_readClause_113 : decode cX5_readClause 113 = .ok (.goto 44, 3) := by decide +kernel
theorem dX5_readClause_116 : decode cX5_readClause 116 = .ok (.aload_n 0, 1) := by decide +kernel
theorem dX5_readClause_117 : decode cX5_readClause 117 = .ok (.aload_n 1, 1) := by decide +kernel
theorem dX5_readClause_118 : decode cX5_readClause 118 = .ok (.invokevirtual 56, 3) := by decide +kernel
theorem dX5_readClause_121 : decode cX5_readClause 121 = .ok (.goto 36, 3) := by decide +kernel
theorem dX5_readClause_124 : decode cX5_readClause 124 = .ok (.aload_n 0, 1) := by decide +kernel
theorem dX5_readClause_125 : decode cX5_readClause 125 = .ok (.aload_n 1, 1) := by decide +kernel
theorem dX5_readClause_126 : decode cX5_readClause 126 = .ok (.invokevirtual 59, 3) := by decide +kernel
theorem dX5_readClause_129 : decode cX5_readClause 129 = .ok (.goto 28, 3) := by decide +kernel
theorem dX5_readClause_132 : decode cX5_readClause 132 = .ok (.aload_n 0, 1) := by decide +kernel
theorem dX5_readClause_133 : decode cX5_readClause 133 = .ok (.aload_n 1, 1) := by decide +kernel
theorem dX5_readClause_134 : decode cX5_readClause 134 = .ok (.invokevirtual 62, 3) := by decide +kernel
theorem dX5_readClause_137 : decode cX5_readClause 137 = .ok (.goto 20, 3) := by decide +kernel
theorem dX5_readClause_140 : decode cX5_readClause 140 = .ok (.aload_n 0, 1) := by decide +kernel
theorem dX5_readClause_141 : decode cX5_readClause 141 = .ok (.aload_n 1, 1) := by decide +kernel
theorem dX5_readClause_142 : decode cX5_readClause 142 = .ok (.invokevirtual 65, 3) := by decide +kernel
theorem dX5_readClause_145 : decode cX5_readClause 145 = .ok (.goto 12, 3) := by decide +kernel
theorem dX5_readClause_148 : decode cX5_readClause 148 = .ok (.aload_n 0, 1) := by decide +kernel
theorem dX5_readClause_149 : decode cX5_readClause 149 = .ok (.iconst 1, 1) := by decide +kernel
theorem dX5_readClause_150 : decode cX5_readClause 150 = .ok (.aload_n 0, 1) := by decide +kernel
theorem dX5_readClause_151 : decode cX5_readClause 151 = .ok (.getfield 28, 3) := by decide +kernel
theorem dX5_readClause_154 : decode cX5_readClause 154 = .ok (.invokevirtual 49, 3) := by decide +kernel
theorem dX5_readClause_157 : decode cX5_readClause 157 = .ok (.return_, 1) := by decide +kernel
theorem dX5_readRod_0 : decode cX5_readRod 0 = .ok (.aload_n 0, 1) := by decide +kernel
theorem dX5_readRod_1 : decode cX5_readRod 1 = .ok (.aload_n 1, 1) := by decide +kernel
theorem dX5_readRod_2 : decode cX5_readRod 2 = .ok (.getfield 46, 3) := by decide +kernel
theorem dX5_readRod_5 : decode cX5_readRod 5 = .ok (.ifCond .ne 7, 3) := by decide +kernel
theorem dX5_readRod_8 : decode cX5_readRod 8 = .ok (.iconst 1, 1) := by decide +kernel
theorem dX5_readRod_9 : decode cX5_readRod 9 = .ok (.goto 4, 3) := by decide +kernel
theorem dX5_readRod_12 : decode cX5_readRod 12 = .ok (.iconst 0, 1) := by decide +kernel
theorem dX5_readRod_13 : decode cX5_readRod 13 = .ok (.invokevirtual 68, 3) := by decide +kernel
theorem dX5_readRod_16 : decode cX5_readRod 16 = .ok (.ifCond .ne 4, 3) := by decide +kernel
theorem dX5_readRod_19 : decode cX5_readRod 19 = .ok (.return_, 1) := by decide +kernel
theorem dX5_readRod_20 : decode cX5_readRod 20 = .ok (.aload_n 0, 1) := by decide +kernel
theorem dX5_readRod_21 : decode cX5_readRod 21 = .ok (.bipush 12, 2) := by decide +kernel
theorem dX5_readRod_23 : decode cX5_readRod 23 = .ok (.sipush 240, 3) := by decide +kernel
theorem dX5_readRod_26 : decode cX5_readRod 26 = .ok (.invokevirtual 72, 3) := by decide +kernel
theorem dX5_readRod_29 : decode cX5_readRod 29 = .ok (.istore_n 2, 1) := by decide +kernel
theorem dX5_readRod_30 : decode cX5_readRod 30 = .ok (.aload_n 0, 1) := by decide +kernel
theorem dX5_readRod_31 : decode cX5_readRod 31 = .ok (.iconst 0, 1) := by decide +kernel
theorem dX5_readRod_32 : decode cX5_readRod 32 = .ok (.bipush 9, 2) := by decide +kernel
theorem dX5_readRod_34 : decode cX5_readRod 34 = .ok (.invokevirtual 72, 3) := by decide +kernel
theorem dX5_readRod_37 : decode cX5_readRod 37 = .ok (.istore_n 3, 1) := by decide +kernel
theorem dX5_readRod_38 : decode cX5_readRod 38 = .ok (.aload_n 0, 1) := by decide +kernel
theorem dX5_readRod_39 : decode cX5_readRod 39 = .ok (.invokevirtual 75, 3) := by decide +kernel
theorem dX5_readRod_42 : decode cX5_readRod 42 = .ok (.aload_n 0, 1) := by decide +kernel
theorem dX5_readRod_43 : decode cX5_readRod 43 = .ok (.getfield 31, 3) := by decide +kernel
theorem dX5_readRod_46 : decode cX5_readRod 46 = .ok (.ifCond .ne 13, 3) := by decide +kernel
theorem dX5_readRod_49 : decode cX5_readRod 49 = .ok (.aload_n 1, 1) := by decide +kernel
theorem dX5_readRod_50 : decode cX5_readRod 50 = .ok (.iload_n 2, 1) := by decide +kernel
theorem dX5_readRod_51 : decode cX5_readRod 51 = .ok (.putfield 46, 3) := by decide +kernel
theorem dX5_readRod_54 : decode cX5_readRod 54 = .ok (.aload_n 1, 1) := by decide +kernel
theorem dX5_readRod_55 : decode cX5_readRod 55 = .ok (.iload_n 3, 1) := by decide +kernel
theorem dX5_readRod_56 : decode cX5_readRod 56 = .ok (.putfield 78, 3) := by decide +kernel
theorem dX5_readRod_59 : decode cX5_readRod 59 = .ok (.return_, 1) := by decide +kernel
theorem dX5_readNick_0 : decode cX5_readNick 0 = .ok (.aload_n 0, 1) := by decide +kernel
theorem dX5_readNick_1 : decode cX5_readNick 1 = .ok (.aload_n 1, 1) := by decide +kernel
theorem dX5_readNick_2 : decode cX5_readNick 2 = .ok (.getfield 81, 3) := by decide +kernel
theorem dX5_readNick_5 : decode cX5_readNick 5 = .ok (.iconst 5, 1) := by decide +kernel
theorem dX5_readNick_6 : decode cX5_readNick 6 = .ok (.if_icmp .ge 7, 3) := by decide +kernel
theorem dX5_readNick_9 : decode cX5_readNick 9 = .ok (.iconst 1, 1) := by decide +kernel
theorem dX5_readNick_10 : decode cX5_readNick 10 = .ok (.goto 4, 3) := by decide +kernel
theorem dX5_readNick_13 : decode cX5_readNick 13 = .ok (.iconst 0, 1) := by decide +kernel
theorem dX5_readNick_14 : decode cX5_readNick 14 = .ok (.invokevirtual 68, 3) := by decide +kernel
theorem dX5_readNick_17 : decode cX5_readNick 17 = .ok (.ifCond .ne 4, 3) := by decide +kernel
theorem dX5_readNick_20 : decode cX5_readNick 20 = .ok (.return_, 1) := by decide +kernel
theorem dX5_readNick_21 : decode cX5_readNick 21 = .ok (.aload_n 0, 1) := by decide +kernel
theorem dX5_readNick_22 : decode cX5_readNick 22 = .ok (.iconst 1, 1) := by decide +kernel
theorem dX5_readNick_23 : decode cX5_readNick 23 = .ok (.sipush 239, 3) := by decide +kernel
theorem dX5_readNick_26 : decode cX5_readNick 26 = .ok (.invokevirtual 72, 3) := by decide +kernel
theorem dX5_readNick_29 : decode cX5_readNick 29 = .ok (.istore_n 2, 1) := by decide +kernel
theorem dX5_readNick_30 : decode cX5_readNick 30 = .ok (.aload_n 1, 1) := by decide +kernel
theorem dX5_readNick_31 : decode cX5_readNick 31 = .ok (.iload_n 2, 1) := by decide +kernel
theorem dX5_readNick_32 : decode cX5_readNick 32 = .ok (.invokevirtual 84, 3) := by decide +kernel
theorem dX5_readNick_35 : decode cX5_readNick 35 = .ok (.ifCond .eq 12, 3) := by decide +kernel
theorem dX5_readNick_38 : decode cX5_readNick 38 = .ok (.aload_n 0, 1) := by decide +kernel
theorem dX5_readNick_39 : decode cX5_readNick 39 = .ok (.iconst 4, 1) := by decide +kernel
theorem dX5_readNick_40 : decode cX5_readNick 40 = .ok (.aload_n 0, 1) := by decide +kernel
theorem dX5_readNick_41 : decode cX5_readNick 41 = .ok (.getfield 88, 3) := by decide +kernel
theorem dX5_readNick_44 : decode cX5_readNick 44 = .ok (.invokevirtual 49, 3) := by decide +kernel
theorem dX5_readNick_47 : decode cX5_readNick 47 = .ok (.aload_n 0, 1) := by decide +kernel
theorem dX5_readNick_48 : decode cX5_readNick 48 = .ok (.invokevirtual 75, 3) := by decide +kernel
theorem dX5_readNick_51 : decode cX5_readNick 51 = .ok (.aload_n 0, 1) := by decide +kernel
theorem dX5_readNick_52 : decode cX5_readNick 52 = .ok (.getfield 31, 3) := by decide +kernel
theorem dX5_readNick_55 : decode cX5_readNick 55 = .ok (.ifCond .ne 23, 3) := by decide +kernel
theorem dX5_readNick_58 : decode cX5_readNick 58 = .ok (.aload_n 1, 1) := by decide +kernel
theorem dX5_readNick_59 : decode cX5_readNick 59 = .ok (.getfield 91, 3) := by decide +kernel
theorem dX5_readNick_62 : decode cX5_readNick 62 = .ok (.aload_n 1, 1) := by decide +kernel
theorem dX5_readNick_63 : decode cX5_readNick 63 = .ok (.getfield 81, 3) := by decide +kernel
theorem dX5_readNick_66 : decode cX5_readNick 66 = .ok (.iload_n 2, 1) := by decide +kernel
theorem dX5_readNick_67 : decode cX5_readNick 67 = .ok (.iastore, 1) := by decide +kernel
theorem dX5_readNick_68 : decode cX5_readNick 68 = .ok (.aload_n 1, 1) := by decide +kernel
theorem dX5_readNick_69 : decode cX5_readNick 69 = .ok (.dup, 1) := by decide +kernel
theorem dX5_readNick_70 : decode cX5_readNick 70 = .ok (.getfield 81, 3) := by decide +kernel
theorem dX5_readNick_73 : decode cX5_readNick 73 = .ok (.iconst 1, 1) := by decide +kernel
theorem dX5_readNick_74 : decode cX5_readNick 74 = .ok (.iadd, 1) := by decide +kernel
theorem dX5_readNick_75 : decode cX5_readNick 75 = .ok (.putfield 81, 3) := by decide +kernel
theorem dX5_readNick_78 : decode cX5_readNick 78 = .ok (.return_, 1) := by decide +kernel
theorem dX5_readOffice_0 : decode cX5_readOffice 0 = .ok (.aload_n 0, 1) := by decide +kernel
theorem dX5_readOffice_1 : decode cX5_readOffice 1 = .ok (.aload_n 1, 1) := by decide +kernel
theorem dX5_readOffice_2 : decode cX5_readOffice 2 = .ok (.getfield 94, 3) := by decide +kernel
theorem dX5_readOffice_5 : decode cX5_readOffice 5 = .ok (.bipush 6, 2) := by decide +kernel
theorem dX5_readOffice_7 : decode cX5_readOffice 7 = .ok (.if_icmp .ge 7, 3) := by decide +kernel
theorem dX5_readOffice_10 : decode cX5_readOffice 10 = .ok (.iconst 1, 1) := by decide +kernel
theorem dX5_readOffice_11 : decode cX5_readOffice 11 = .ok (.goto 4, 3) := by decide +kernel
theorem dX5_readOffice_14 : decode cX5_readOffice 14 = .ok (.iconst 0, 1) := by decide +kernel
theorem dX5_readOffice_15 : decode cX5_readOffice 15 = .ok (.invokevirtual 68, 3) := by decide +kernel
theorem dX5_readOffice_18 : decode cX5_readOffice 18 = .ok (.ifCond .ne 4, 3) := by decide +kernel
theorem dX5_readOffice_21 : decode cX5_readOffice 21 = .ok (.return_, 1) := by decide +kernel
theorem dX5_readOffice_22 : decode cX5_readOffice 22 = .ok (.aload_n 0, 1) := by decide +kernel
theorem dX5_readOffice_23 : decode cX5_readOffice 23 = .ok (.iconst 1, 1) := by decide +kernel
theorem dX5_readOffice_24 : decode cX5_readOffice 24 = .ok (.bipush 99, 2) := by decide +kernel
theorem dX5_readOffice_26 : decode cX5_readOffice 26 = .ok (.invokevirtual 72, 3) := by decide +kernel
theorem dX5_readOffice_29 : decode cX5_readOffice 29 = .ok (.istore_n 2, 1) := by decide +kernel
theorem dX5_readOffice_30 : decode cX5_readOffice 30 = .ok (.aload_n 0, 1) := by decide +kernel
theorem dX5_readOffice_31 : decode cX5_readOffice 31 = .ok (.iload_n 2, 1) := by decide +kernel
theorem dX5_readOffice_32 : decode cX5_readOffice 32 = .ok (.bipush 99, 2) := by decide +kernel
theorem dX5_readOffice_34 : decode cX5_readOffice 34 = .ok (.invokevirtual 72, 3) := by decide +kernel
theorem dX5_readOffice_37 : decode cX5_readOffice 37 = .ok (.istore_n 3, 1) := by decide +kernel
theorem dX5_readOffice_38 : decode cX5_readOffice 38 = .ok (.aload_n 0, 1) := by decide +kernel
theorem dX5_readOffice_39 : decode cX5_readOffice 39 = .ok (.invokevirtual 75, 3) := by decide +kernel
theorem dX5_readOffice_42 : decode cX5_readOffice 42 = .ok (.aload_n 0, 1) := by decide +kernel
theorem dX5_readOffice_43 : decode cX5_readOffice 43 = .ok (.getfield 31, 3) := by decide +kernel
theorem dX5_readOffice_46 : decode cX5_readOffice 46 = .ok (.ifCond .ne 33, 3) := by decide +kernel
theorem dX5_readOffice_49 : decode cX5_readOffice 49 = .ok (.aload_n 1, 1) := by decide +kernel
theorem dX5_readOffice_50 : decode cX5_readOffice 50 = .ok (.getfield 97, 3) := by decide +kernel
theorem dX5_readOffice_53 : decode cX5_readOffice 53 = .ok (.aload_n 1, 1) := by decide +kernel
theorem dX5_readOffice_54 : decode cX5_readOffice 54 = .ok (.getfield 94, 3) := by decide +kernel
theorem dX5_readOffice_57 : decode cX5_readOffice 57 = .ok (.iload_n 2, 1) := by decide +kernel
theorem dX5_readOffice_58 : decode cX5_readOffice 58 = .ok (.iastore, 1) := by decide +kernel
theorem dX5_readOffice_59 : decode cX5_readOffice 59 = .ok (.aload_n 1, 1) := by decide +kernel
theorem dX5_readOffice_60 : decode cX5_readOffice 60 = .ok (.getfield 100, 3) := by decide +kernel
theorem dX5_readOffice_63 : decode cX5_readOffice 63 = .ok (.aload_n 1, 1) := by decide +kernel
theorem dX5_readOffice_64 : decode cX5_readOffice 64 = .ok (.getfield 94, 3) := by decide +kernel
theorem dX5_readOffice_67 : decode cX5_readOffice 67 = .ok (.iload_n 3, 1) := by decide +kernel
theorem dX5_readOffice_68 : decode cX5_readOffice 68 = .ok (.iastore, 1) := by decide +kernel
theorem dX5_readOffice_69 : decode cX5_readOffice 69 = .ok (.aload_n 1, 1) := by decide +kernel
theorem dX5_readOffice_70 : decode cX5_readOffice 70 = .ok (.dup, 1) := by decide +kernel
theorem dX5_readOffice_71 : decode cX5_readOffice 71 = .ok (.getfield 94, 3) := by decide +kernel
theorem dX5_readOffice_74 : decode cX5_readOffice 74 = .ok (.iconst 1, 1) := by decide +kernel
theorem dX5_readOffice_75 : decode cX5_readOffice 75 = .ok (.iadd, 1) := by decide +kernel
theorem dX5_readOffice_76 : decode cX5_readOffice 76 = .ok (.putfield 94, 3) := by decide +kernel
theorem dX5_readOffice_79 : decode cX5_readOffice 79 = .ok (.return_, 1) := by decide +kernel
theorem dX5_readPerson_0 : decode cX5_readPerson 0 = .ok (.aload_n 0, 1) := by decide +kernel
theorem dX5_readPerson_1 : decode cX5_readPerson 1 = .ok (.aload_n 1, 1) := by decide +kernel
theorem dX5_readPerson_2 : decode cX5_readPerson 2 = .ok (.getfield 103, 3) := by decide +kernel
theorem dX5_readPerson_5 : decode cX5_readPerson 5 = .ok (.bipush 6, 2) := by decide +kernel
theorem dX5_readPerson_7 : decode cX5_readPerson 7 = .ok (.if_icmp .ge 7, 3) := by decide +kernel
theorem dX5_readPerson_10 : decode cX5_readPerson 10 = .ok (.iconst 1, 1) := by decide +kernel
theorem dX5_readPerson_11 : decode cX5_readPerson 11 = .ok (.goto 4, 3) := by decide +kernel
theorem dX5_readPerson_14 : decode cX5_readPerson 14 = .ok (.iconst 0, 1) := by decide +kernel
theorem dX5_readPerson_15 : decode cX5_readPerson 15 = .ok (.invokevirtual 68, 3) := by decide +kernel
theorem dX5_readPerson_18 : decode cX5_readPerson 18 = .ok (.ifCond .ne 4, 3) := by decide +kernel
theorem dX5_readPerson_21 : decode cX5_readPerson 21 = .ok (.return_, 1) := by decide +kernel
theorem dX5_readPerson_22 : decode cX5_readPerson 22 = .ok (.aload_n 0, 1) := by decide +kernel
theorem dX5_readPerson_23 : decode cX5_readPerson 23 = .ok (.iconst 1, 1) := by decide +kernel
theorem dX5_readPerson_24 : decode cX5_readPerson 24 = .ok (.sipush 999, 3) := by decide +kernel
theorem dX5_readPerson_27 : decode cX5_readPerson 27 = .ok (.invokevirtual 72, 3) := by decide +kernel
theorem dX5_readPerson_30 : decode cX5_readPerson 30 = .ok (.istore_n 2, 1) := by decide +kernel
theorem dX5_readPerson_31 : decode cX5_readPerson 31 = .ok (.aload_n 0, 1) := by decide +kernel
theorem dX5_readPerson_32 : decode cX5_readPerson 32 = .ok (.invokevirtual 75, 3) := by decide +kernel
theorem dX5_readPerson_35 : decode cX5_readPerson 35 = .ok (.aload_n 0, 1) := by decide +kernel
theorem dX5_readPerson_36 : decode cX5_readPerson 36 = .ok (.getfield 31, 3) := by decide +kernel
theorem dX5_readPerson_39 : decode cX5_readPerson 39 = .ok (.ifCond .ne 23, 3) := by decide +kernel
theorem dX5_readPerson_42 : decode cX5_readPerson 42 = .ok (.aload_n 1, 1) := by decide +kernel
theorem dX5_readPerson_43 : decode cX5_readPerson 43 = .ok (.getfield 106, 3) := by decide +kernel
theorem dX5_readPerson_46 : decode cX5_readPerson 46 = .ok (.aload_n 1, 1) := by decide +kernel
theorem dX5_readPerson_47 : decode cX5_readPerson 47 = .ok (.getfield 103, 3) := by decide +kernel
theorem dX5_readPerson_50 : decode cX5_readPerson 50 = .ok (.iload_n 2, 1) := by decide +kernel
theorem dX5_readPerson_51 : decode cX5_readPerson 51 = .ok (.iastore, 1) := by decide +kernel
theorem dX5_readPerson_52 : decode cX5_readPerson 52 = .ok (.aload_n 1, 1) := by decide +kernel
theorem dX5_readPerson_53 : decode cX5_readPerson 53 = .ok (.dup, 1) := by decide +kernel
theorem dX5_readPerson_54 : decode cX5_readPerson 54 = .ok (.getfield 103, 3) := by decide +kernel
theorem dX5_readPerson_57 : decode cX5_readPerson 57 = .ok (.iconst 1, 1) := by decide +kernel
theorem dX5_readPerson_58 : decode cX5_readPerson 58 = .ok (.iadd, 1) := by decide +kernel
theorem dX5_readPerson_59 : decode cX5_readPerson 59 = .ok (.putfield 103, 3) := by decide +kernel
theorem dX5_readPerson_62 : decode cX5_readPerson 62 = .ok (.return_, 1) := by decide +kernel
theorem dX5_readSways_0 : decode cX5_readSways 0 = .ok (.aload_n 0, 1) := by decide +kernel
theorem dX5_readSways_1 : decode cX5_readSways 1 = .ok (.aload_n 1, 1) := by decide +kernel
theorem dX5_readSways_2 : decode cX5_readSways 2 = .ok (.getfield 109, 3) := by decide +kernel
theorem dX5_readSways_5 : decode cX5_readSways 5 = .ok (.ifCond .ne 7, 3) := by decide +kernel
theorem dX5_readSways_8 : decode cX5_readSways 8 = .ok (.iconst 1, 1) := by decide +kernel
theorem dX5_readSways_9 : decode cX5_readSways 9 = .ok (.goto 4, 3) := by decide +kernel
theorem dX5_readSways_12 : decode cX5_readSways 12 = .ok (.iconst 0, 1) := by decide +kernel
theorem dX5_readSways_13 : decode cX5_readSways 13 = .ok (.invokevirtual 68, 3) := by decide +kernel
theorem dX5_readSways_16 : decode cX5_readSways 16 = .ok (.ifCond .ne 4, 3) := by decide +kernel
theorem dX5_readSways_19 : decode cX5_readSways 19 = .ok (.return_, 1) := by decide +kernel
theorem dX5_readSways_20 : decode cX5_readSways 20 = .ok (.iconst 1, 1) := by decide +kernel
theorem dX5_readSways_21 : decode cX5_readSways 21 = .ok (.istore_n 2, 1) := by decide +kernel
theorem dX5_readSways_22 : decode cX5_readSways 22 = .ok (.iconst 0, 1) := by decide +kernel
theorem dX5_readSways_23 : decode cX5_readSways 23 = .ok (.istore_n 3, 1) := by decide +kernel
theorem dX5_readSways_24 : decode cX5_readSways 24 = .ok (.iload_n 3, 1) := by decide +kernel
theorem dX5_readSways_25 : decode cX5_readSways 25 = .ok (.bipush 12, 2) := by decide +kernel
theorem dX5_readSways_27 : decode cX5_readSways 27 = .ok (.if_icmp .ge 63, 3) := by decide +kernel
theorem dX5_readSways_30 : decode cX5_readSways 30 = .ok (.iload_n 2, 1) := by decide +kernel
theorem dX5_readSways_31 : decode cX5_readSways 31 = .ok (.ifCond .eq 59, 3) := by decide +kernel
theorem dX5_readSways_34 : decode cX5_readSways 34 = .ok (.aload_n 1, 1) := by decide +kernel
theorem dX5_readSways_35 : decode cX5_readSways 35 = .ok (.getfield 112, 3) := by decide +kernel
theorem dX5_readSways_38 : decode cX5_readSways 38 = .ok (.iload_n 3, 1) := by decide +kernel
theorem dX5_readSways_39 : decode cX5_readSways 39 = .ok (.aload_n 0, 1) := by decide +kernel
theorem dX5_readSways_40 : decode cX5_readSways 40 = .ok (.iconst 0, 1) := by decide +kernel
theorem dX5_readSways_41 : decode cX5_readSways 41 = .ok (.bipush 9, 2) := by decide +kernel
theorem dX5_readSways_43 : decode cX5_readSways 43 = .ok (.invokevirtual 72, 3) := by decide +kernel
theorem dX5_readSways_46 : decode cX5_readSways 46 = .ok (.iastore, 1) := by decide +kernel
theorem dX5_readSways_47 : decode cX5_readSways 47 = .ok (.aload_n 1, 1) := by decide +kernel
theorem dX5_readSways_48 : decode cX5_readSways 48 = .ok (.iload_n 3, 1) := by decide +kernel
theorem dX5_readSways_49 : decode cX5_readSways 49 = .ok (.iconst 1, 1) := by decide +kernel
theorem dX5_readSways_50 : decode cX5_readSways 50 = .ok (.iadd, 1) := by decide +kernel
theorem dX5_readSways_51 : decode cX5_readSways 51 = .ok (.putfield 109, 3) := by decide +kernel
theorem dX5_readSways_54 : decode cX5_readSways 54 = .ok (.iload_n 3, 1) := by decide +kernel
theorem dX5_readSways_55 : decode cX5_readSways 55 = .ok (.iconst 1, 1) := by decide +kernel
theorem dX5_readSways_56 : decode cX5_readSways 56 = .ok (.iadd, 1) := by decide +kernel
theorem dX5_readSways_57 : decode cX5_readSways 57 = .ok (.bipush 12, 2) := by decide +kernel
theorem dX5_readSways_59 : decode cX5_readSways 59 = .ok (.if_icmp .ge 23, 3) := by decide +kernel
theorem dX5_readSways_62 : decode cX5_readSways 62 = .ok (.aload_n 0, 1) := by decide +kernel
theorem dX5_readSways_63 : decode cX5_readSways 63 = .ok (.getfield 31, 3) := by decide +kernel
theorem dX5_readSways_66 : decode cX5_readSways 66 = .ok (.ifCond .ne 16, 3) := by decide +kernel
theorem dX5_readSways_69 : decode cX5_readSways 69 = .ok (.aload_n 0, 1) := by decide +kernel
theorem dX5_readSways_70 : decode cX5_readSways 70 = .ok (.bipush 44, 2) := by decide +kernel
theorem dX5_readSways_72 : decode cX5_readSways 72 = .ok (.invokevirtual 115, 3) := by decide +kernel
theorem dX5_readSways_75 : decode cX5_readSways 75 = .ok (.ifCond .eq 7, 3) := by decide +kernel
theorem dX5_readSways_78 : decode cX5_readSways 78 = .ok (.iconst 1, 1) := by decide +kernel
theorem dX5_readSways_79 : decode cX5_readSways 79 = .ok (.goto 4, 3) := by decide +kernel
theorem dX5_readSways_82 : decode cX5_readSways 82 = .ok (.iconst 0, 1) := by decide +kernel
theorem dX5_readSways_83 : decode cX5_readSways 83 = .ok (.istore_n 2, 1) := by decide +kernel
theorem dX5_readSways_84 : decode cX5_readSways 84 = .ok (.iinc 3 1, 3) := by decide +kernel
theorem dX5_readSways_87 : decode cX5_readSways 87 = .ok (.goto (-63), 3) := by decide +kernel
theorem dX5_readSways_90 : decode cX5_readSways 90 = .ok (.aload_n 0, 1) := by decide +kernel
theorem dX5_readSways_91 : decode cX5_readSways 91 = .ok (.invokevirtual 75, 3) := by decide +kernel
theorem dX5_readSways_94 : decode cX5_readSways 94 = .ok (.return_, 1) := by decide +kernel
theorem dX5_takeWord_0 : decode cX5_takeWord 0 = .ok (.iload_n 1, 1) := by decide +kernel
theorem dX5_takeWord_1 : decode cX5_takeWord 1 = .ok (.ifCond .ne 14, 3) := by decide +kernel
theorem dX5_takeWord_4 : decode cX5_takeWord 4 = .ok (.aload_n 0, 1) := by decide +kernel
theorem dX5_takeWord_5 : decode cX5_takeWord 5 = .ok (.iconst 3, 1) := by decide +kernel
theorem dX5_takeWord_6 : decode cX5_takeWord 6 = .ok (.aload_n 0, 1) := by decide +kernel
theorem dX5_takeWord_7 : decode cX5_takeWord 7 = .ok (.getfield 28, 3) := by decide +kernel
theorem dX5_takeWord_10 : decode cX5_takeWord 10 = .ok (.invokevirtual 49, 3) := by decide +kernel
theorem dX5_takeWord_13 : decode cX5_takeWord 13 = .ok (.iconst 0, 1) := by decide +kernel
theorem dX5_takeWord_14 : decode cX5_takeWord 14 = .ok (.ireturn, 1) := by decide +kernel
theorem dX5_takeWord_15 : decode cX5_takeWord 15 = .ok (.aload_n 0, 1) := by decide +kernel
theorem dX5_takeWord_16 : decode cX5_takeWord 16 = .ok (.dup, 1) := by decide +kernel
theorem dX5_takeWord_17 : decode cX5_takeWord 17 = .ok (.getfield 28, 3) := by decide +kernel
theorem dX5_takeWord_20 : decode cX5_takeWord 20 = .ok (.iconst 1, 1) := by decide +kernel
theorem dX5_takeWord_21 : decode cX5_takeWord 21 = .ok (.iadd, 1) := by decide +kernel
theorem dX5_takeWord_22 : decode cX5_takeWord 22 = .ok (.putfield 28, 3) := by decide +kernel
theorem dX5_takeWord_25 : decode cX5_takeWord 25 = .ok (.iconst 1, 1) := by decide +kernel
theorem dX5_takeWord_26 : decode cX5_takeWord 26 = .ok (.ireturn, 1) := by decide +kernel
theorem dX5_takeNumber_0 : decode cX5_takeNumber 0 = .ok (.aload_n 0, 1) := by decide +kernel
theorem dX5_takeNumber_1 : decode cX5_takeNumber 1 = .ok (.invokevirtual 39, 3) := by decide +kernel
theorem dX5_takeNumber_4 : decode cX5_takeNumber 4 = .ok (.aload_n 0, 1) := by decide +kernel
theorem dX5_takeNumber_5 : decode cX5_takeNumber 5 = .ok (.aload_n 0, 1) := by decide +kernel
theorem dX5_takeNumber_6 : decode cX5_takeNumber 6 = .ok (.getfield 28, 3) := by decide +kernel
theorem dX5_takeNumber_9 : decode cX5_takeNumber 9 = .ok (.putfield 88, 3) := by decide +kernel
theorem dX5_takeNumber_12 : decode cX5_takeNumber 12 = .ok (.iconst 0, 1) := by decide +kernel
theorem dX5_takeNumber_13 : decode cX5_takeNumber 13 = .ok (.istore_n 3, 1) := by decide +kernel
theorem dX5_takeNumber_14 : decode cX5_takeNumber 14 = .ok (.aload_n 0, 1) := by decide +kernel
theorem dX5_takeNumber_15 : decode cX5_takeNumber 15 = .ok (.getfield 28, 3) := by decide +kernel
theorem dX5_takeNumber_18 : decode cX5_takeNumber 18 = .ok (.aload_n 0, 1) := by decide +kernel
theorem dX5_takeNumber_19 : decode cX5_takeNumber 19 = .ok (.getfield 25, 3) := by decide +kernel
theorem dX5_takeNumber_22 : decode cX5_takeNumber 22 = .ok (.if_icmp .ge 68, 3) := by decide +kernel
theorem dX5_takeNumber_25 : decode cX5_takeNumber 25 = .ok (.aload_n 0, 1) := by decide +kernel
theorem dX5_takeNumber_26 : decode cX5_takeNumber 26 = .ok (.getfield 9, 3) := by decide +kernel
theorem dX5_takeNumber_29 : decode cX5_takeNumber 29 = .ok (.aload_n 0, 1) := by decide +kernel
theorem dX5_takeNumber_30 : decode cX5_takeNumber 30 = .ok (.getfield 28, 3) := by decide +kernel
theorem dX5_takeNumber_33 : decode cX5_takeNumber 33 = .ok (.iaload, 1) := by decide +kernel
theorem dX5_takeNumber_34 : decode cX5_takeNumber 34 = .ok (.bipush 48, 2) := by decide +kernel
theorem dX5_takeNumber_36 : decode cX5_takeNumber 36 = .ok (.if_icmp .lt 54, 3) := by decide +kernel
theorem dX5_takeNumber_39 : decode cX5_takeNumber 39 = .ok (.aload_n 0, 1) := by decide +kernel
theorem dX5_takeNumber_40 : decode cX5_takeNumber 40 = .ok (.getfield 9, 3) := by decide +kernel
theorem dX5_takeNumber_43 : decode cX5_takeNumber 43 = .ok (.aload_n 0, 1) := by decide +kernel
theorem dX5_takeNumber_44 : decode cX5_takeNumber 44 = .ok (.getfield 28, 3) := by decide +kernel
theorem dX5_takeNumber_47 : decode cX5_takeNumber 47 = .ok (.iaload, 1) := by decide +kernel
theorem dX5_takeNumber_48 : decode cX5_takeNumber 48 = .ok (.bipush 57, 2) := by decide +kernel
theorem dX5_takeNumber_50 : decode cX5_takeNumber 50 = .ok (.if_icmp .gt 40, 3) := by decide +kernel
theorem dX5_takeNumber_53 : decode cX5_takeNumber 53 = .ok (.iload_n 3, 1) := by decide +kernel
theorem dX5_takeNumber_54 : decode cX5_takeNumber 54 = .ok (.bipush 10, 2) := by decide +kernel
theorem dX5_takeNumber_56 : decode cX5_takeNumber 56 = .ok (.imul, 1) := by decide +kernel
theorem dX5_takeNumber_57 : decode cX5_takeNumber 57 = .ok (.aload_n 0, 1) := by decide +kernel
theorem dX5_takeNumber_58 : decode cX5_takeNumber 58 = .ok (.getfield 9, 3) := by decide +kernel
theorem dX5_takeNumber_61 : decode cX5_takeNumber 61 = .ok (.aload_n 0, 1) := by decide +kernel
theorem dX5_takeNumber_62 : decode cX5_takeNumber 62 = .ok (.getfield 28, 3) := by decide +kernel
theorem dX5_takeNumber_65 : decode cX5_takeNumber 65 = .ok (.iaload, 1) := by decide +kernel
theorem dX5_takeNumber_66 : decode cX5_takeNumber 66 = .ok (.iadd, 1) := by decide +kernel
theorem dX5_takeNumber_67 : decode cX5_takeNumber 67 = .ok (.bipush 48, 2) := by decide +kernel
theorem dX5_takeNumber_69 : decode cX5_takeNumber 69 = .ok (.isub, 1) := by decide +kernel
theorem dX5_takeNumber_70 : decode cX5_takeNumber 70 = .ok (.sipush 9999, 3) := by decide +kernel
theorem dX5_takeNumber_73 : decode cX5_takeNumber 73 = .ok (.invokestatic 19, 3) := by decide +kernel
theorem dX5_takeNumber_76 : decode cX5_takeNumber 76 = .ok (.istore_n 3, 1) := by decide +kernel
theorem dX5_takeNumber_77 : decode cX5_takeNumber 77 = .ok (.aload_n 0, 1) := by decide +kernel
theorem dX5_takeNumber_78 : decode cX5_takeNumber 78 = .ok (.dup, 1) := by decide +kernel
theorem dX5_takeNumber_79 : decode cX5_takeNumber 79 = .ok (.getfield 28, 3) := by decide +kernel
theorem dX5_takeNumber_82 : decode cX5_takeNumber 82 = .ok (.iconst 1, 1) := by decide +kernel
theorem dX5_takeNumber_83 : decode cX5_takeNumber 83 = .ok (.iadd, 1) := by decide +kernel
theorem dX5_takeNumber_84 : decode cX5_takeNumber 84 = .ok (.putfield 28, 3) := by decide +kernel
theorem dX5_takeNumber_87 : decode cX5_takeNumber 87 = .ok (.goto (-73), 3) := by decide +kernel
theorem dX5_takeNumber_90 : decode cX5_takeNumber 90 = .ok (.aload_n 0, 1) := by decide +kernel
theorem dX5_takeNumber_91 : decode cX5_takeNumber 91 = .ok (.getfield 28, 3) := by decide +kernel
theorem dX5_takeNumber_94 : decode cX5_takeNumber 94 = .ok (.aload_n 0, 1) := by decide +kernel
theorem dX5_takeNumber_95 : decode cX5_takeNumber 95 = .ok (.getfield 88, 3) := by decide +kernel
theorem dX5_takeNumber_98 : decode cX5_takeNumber 98 = .ok (.isub, 1) := by decide +kernel
theorem dX5_takeNumber_99 : decode cX5_takeNumber 99 = .ok (.istore 4, 2) := by decide +kernel
theorem dX5_takeNumber_101 : decode cX5_takeNumber 101 = .ok (.iload 4, 2) := by decide +kernel
theorem dX5_takeNumber_103 : decode cX5_takeNumber 103 = .ok (.ifCond .ne 15, 3) := by decide +kernel
theorem dX5_takeNumber_106 : decode cX5_takeNumber 106 = .ok (.aload_n 0, 1) := by decide +kernel
theorem dX5_takeNumber_107 : decode cX5_takeNumber 107 = .ok (.iconst 1, 1) := by decide +kernel
theorem dX5_takeNumber_108 : decode cX5_takeNumber 108 = .ok (.aload_n 0, 1) := by decide +kernel
theorem dX5_takeNumber_109 : decode cX5_takeNumber 109 = .ok (.getfield 28, 3) := by decide +kernel
theorem dX5_takeNumber_112 : decode cX5_takeNumber 112 = .ok (.invokevirtual 49, 3) := by decide +kernel
theorem dX5_takeNumber_115 : decode cX5_takeNumber 115 = .ok (.goto 27, 3) := by decide +kernel
theorem dX5_takeNumber_118 : decode cX5_takeNumber 118 = .ok (.iload 4, 2) := by decide +kernel
theorem dX5_takeNumber_120 : decode cX5_takeNumber 120 = .ok (.iconst 3, 1) := by decide +kernel
theorem dX5_takeNumber_121 : decode cX5_takeNumber 121 = .ok (.if_icmp .gt 12, 3) := by decide +kernel
theorem dX5_takeNumber_124 : decode cX5_takeNumber 124 = .ok (.iload_n 3, 1) := by decide +kernel
theorem dX5_takeNumber_125 : decode cX5_takeNumber 125 = .ok (.iload_n 1, 1) := by decide +kernel
theorem dX5_takeNumber_126 : decode cX5_takeNumber 126 = .ok (.iload_n 2, 1) := by decide +kernel
theorem dX5_takeNumber_127 : decode cX5_takeNumber 127 = .ok (.invokestatic 118, 3) := by decide +kernel
theorem dX5_takeNumber_130 : decode cX5_takeNumber 130 = .ok (.ifCond .ne 12, 3) := by decide +kernel
theorem dX5_takeNumber_133 : decode cX5_takeNumber 133 = .ok (.aload_n 0, 1) := by decide +kernel
theorem dX5_takeNumber_134 : decode cX5_takeNumber 134 = .ok (.iconst 2, 1) := by decide +kernel
theorem dX5_takeNumber_135 : decode cX5_takeNumber 135 = .ok (.aload_n 0, 1) := by decide +kernel
theorem dX5_takeNumber_136 : decode cX5_takeNumber 136 = .ok (.getfield 88, 3) := by decide +kernel
theorem dX5_takeNumber_139 : decode cX5_takeNumber 139 = .ok (.invokevirtual 49, 3) := by decide +kernel
theorem dX5_takeNumber_142 : decode cX5_takeNumber 142 = .ok (.iload_n 3, 1) := by decide +kernel
theorem dX5_takeNumber_143 : decode cX5_takeNumber 143 = .ok (.ireturn, 1) := by decide +kernel
theorem dX5_takeSign_0 : decode cX5_takeSign 0 = .ok (.aload_n 0, 1) := by decide +kernel
theorem dX5_takeSign_1 : decode cX5_takeSign 1 = .ok (.invokevirtual 39, 3) := by decide +kernel
theorem dX5_takeSign_4 : decode cX5_takeSign 4 = .ok (.aload_n 0, 1) := by decide +kernel
theorem dX5_takeSign_5 : decode cX5_takeSign 5 = .ok (.getfield 28, 3) := by decide +kernel
theorem dX5_takeSign_8 : decode cX5_takeSign 8 = .ok (.aload_n 0, 1) := by decide +kernel
theorem dX5_takeSign_9 : decode cX5_takeSign 9 = .ok (.getfield 25, 3) := by decide +kernel
theorem dX5_takeSign_12 : decode cX5_takeSign 12 = .ok (.if_icmp .ge 16, 3) := by decide +kernel
theorem dX5_takeSign_15 : decode cX5_takeSign 15 = .ok (.aload_n 0, 1) := by decide +kernel
theorem dX5_takeSign_16 : decode cX5_takeSign 16 = .ok (.getfield 9, 3) := by decide +kernel
theorem dX5_takeSign_19 : decode cX5_takeSign 19 = .ok (.aload_n 0, 1) := by decide +kernel
theorem dX5_takeSign_20 : decode cX5_takeSign 20 = .ok (.getfield 28, 3) := by decide +kernel
theorem dX5_takeSign_23 : decode cX5_takeSign 23 = .ok (.iaload, 1) := by decide +kernel
theorem dX5_takeSign_24 : decode cX5_takeSign 24 = .ok (.iload_n 1, 1) := by decide +kernel
theorem dX5_takeSign_25 : decode cX5_takeSign 25 = .ok (.if_icmp .eq 5, 3) := by decide +kernel
theorem dX5_takeSign_28 : decode cX5_takeSign 28 = .ok (.iconst 0, 1) := by decide +kernel
theorem dX5_takeSign_29 : decode cX5_takeSign 29 = .ok (.ireturn, 1) := by decide +kernel
theorem dX5_takeSign_30 : decode cX5_takeSign 30 = .ok (.aload_n 0, 1) := by decide +kernel
theorem dX5_takeSign_31 : decode cX5_takeSign 31 = .ok (.dup, 1) := by decide +kernel
theorem dX5_takeSign_32 : decode cX5_takeSign 32 = .ok (.getfield 28, 3) := by decide +kernel
theorem dX5_takeSign_35 : decode cX5_takeSign 35 = .ok (.iconst 1, 1) := by decide +kernel
theorem dX5_takeSign_36 : decode cX5_takeSign 36 = .ok (.iadd, 1) := by decide +kernel
theorem dX5_takeSign_37 : decode cX5_takeSign 37 = .ok (.putfield 28, 3) := by decide +kernel
theorem dX5_takeSign_40 : decode cX5_takeSign 40 = .ok (.iconst 1, 1) := by decide +kernel
theorem dX5_takeSign_41 : decode cX5_takeSign 41 = .ok (.ireturn, 1) := by decide +kernel
theorem dX5_takeEnd_0 : decode cX5_takeEnd 0 = .ok (.aload_n 0, 1) := by decide +kernel
theorem dX5_takeEnd_1 : decode cX5_takeEnd 1 = .ok (.bipush 59, 2) := by decide +kernel
theorem dX5_takeEnd_3 : decode cX5_takeEnd 3 = .ok (.invokevirtual 115, 3) := by decide +kernel
theorem dX5_takeEnd_6 : decode cX5_takeEnd 6 = .ok (.ifCond .ne 12, 3) := by decide +kernel
theorem dX5_takeEnd_9 : decode cX5_takeEnd 9 = .ok (.aload_n 0, 1) := by decide +kernel
theorem dX5_takeEnd_10 : decode cX5_takeEnd 10 = .ok (.iconst 1, 1) := by decide +kernel
theorem dX5_takeEnd_11 : decode cX5_takeEnd 11 = .ok (.aload_n 0, 1) := by decide +kernel
theorem dX5_takeEnd_12 : decode cX5_takeEnd 12 = .ok (.getfield 28, 3) := by decide +kernel
theorem dX5_takeEnd_15 : decode cX5_takeEnd 15 = .ok (.invokevirtual 49, 3) := by decide +kernel
theorem dX5_takeEnd_18 : decode cX5_takeEnd 18 = .ok (.return_, 1) := by decide +kernel
theorem dX5_skipBlanks_0 : decode cX5_skipBlanks 0 = .ok (.aload_n 0, 1) := by decide +kernel
theorem dX5_skipBlanks_1 : decode cX5_skipBlanks 1 = .ok (.getfield 28, 3) := by decide +kernel
theorem dX5_skipBlanks_4 : decode cX5_skipBlanks 4 = .ok (.aload_n 0, 1) := by decide +kernel
theorem dX5_skipBlanks_5 : decode cX5_skipBlanks 5 = .ok (.getfield 25, 3) := by decide +kernel
theorem dX5_skipBlanks_8 : decode cX5_skipBlanks 8 = .ok (.if_icmp .ge 30, 3) := by decide +kernel
theorem dX5_skipBlanks_11 : decode cX5_skipBlanks 11 = .ok (.aload_n 0, 1) := by decide +kernel
theorem dX5_skipBlanks_12 : decode cX5_skipBlanks 12 = .ok (.getfield 9, 3) := by decide +kernel
theorem dX5_skipBlanks_15 : decode cX5_skipBlanks 15 = .ok (.aload_n 0, 1) := by decide +kernel
theorem dX5_skipBlanks_16 : decode cX5_skipBlanks 16 = .ok (.getfield 28, 3) := by decide +kernel
theorem dX5_skipBlanks_19 : decode cX5_skipBlanks 19 = .ok (.iaload, 1) := by decide +kernel
theorem dX5_skipBlanks_20 : decode cX5_skipBlanks 20 = .ok (.bipush 32, 2) := by decide +kernel
theorem dX5_skipBlanks_22 : decode cX5_skipBlanks 22 = .ok (.if_icmp .ne 16, 3) := by decide +kernel
theorem dX5_skipBlanks_25 : decode cX5_skipBlanks 25 = .ok (.aload_n 0, 1) := by decide +kernel
theorem dX5_skipBlanks_26 : decode cX5_skipBlanks 26 = .ok (.dup, 1) := by decide +kernel
theorem dX5_skipBlanks_27 : decode cX5_skipBlanks 27 = .ok (.getfield 28, 3) := by decide +kernel
theorem dX5_skipBlanks_30 : decode cX5_skipBlanks 30 = .ok (.iconst 1, 1) := by decide +kernel
theorem dX5_skipBlanks_31 : decode cX5_skipBlanks 31 = .ok (.iadd, 1) := by decide +kernel
theorem dX5_skipBlanks_32 : decode cX5_skipBlanks 32 = .ok (.putfield 28, 3) := by decide +kernel
theorem dX5_skipBlanks_35 : decode cX5_skipBlanks 35 = .ok (.goto (-35), 3) := by decide +kernel
theorem dX5_skipBlanks_38 : decode cX5_skipBlanks 38 = .ok (.return_, 1) := by decide +kernel
theorem dX5_blame_0 : decode cX5_blame 0 = .ok (.aload_n 0, 1) := by decide +kernel
theorem dX5_blame_1 : decode cX5_blame 1 = .ok (.getfield 31, 3) := by decide +kernel
theorem dX5_blame_4 : decode cX5_blame 4 = .ok (.ifCond .ne 13, 3) := by decide +kernel
theorem dX5_blame_7 : decode cX5_blame 7 = .ok (.aload_n 0, 1) := by decide +kernel
theorem dX5_blame_8 : decode cX5_blame 8 = .ok (.iload_n 1, 1) := by decide +kernel
theorem dX5_blame_9 : decode cX5_blame 9 = .ok (.putfield 31, 3) := by decide +kernel
theorem dX5_blame_12 : decode cX5_blame 12 = .ok (.aload_n 0, 1) := by decide +kernel
theorem dX5_blame_13 : decode cX5_blame 13 = .ok (.iload_n 2, 1) := by decide +kernel
theorem dX5_blame_14 : decode cX5_blame 14 = .ok (.putfield 15, 3) := by decide +kernel
theorem dX5_blame_17 : decode cX5_blame 17 = .ok (.return_, 1) := by decide +kernel
theorem dX6_init_0 : decode cX6_init 0 = .ok (.aload_n 0, 1) := by decide +kernel
theorem dX6_init_1 : decode cX6_init 1 = .ok (.invokespecial 3, 3) := by decide +kernel
theorem dX6_init_4 : decode cX6_init 4 = .ok (.return_, 1) := by decide +kernel
theorem dX6_copyFrom_0 : decode cX6_copyFrom 0 = .ok (.aload_n 0, 1) := by decide +kernel
theorem dX6_copyFrom_1 : decode cX6_copyFrom 1 = .ok (.aload_n 1, 1) := by decide +kernel
theorem dX6_copyFrom_2 : decode cX6_copyFrom 2 = .ok (.getfield 9, 3) := by decide +kernel
theorem dX6_copyFrom_5 : decode cX6_copyFrom 5 = .ok (.putfield 9, 3) := by decide +kernel
theorem dX6_copyFrom_8 : decode cX6_copyFrom 8 = .ok (.aload_n 0, 1) := by decide +kernel
theorem dX6_copyFrom_9 : decode cX6_copyFrom 9 = .ok (.aload_n 1, 1) := by decide +kernel
theorem dX6_copyFrom_10 : decode cX6_copyFrom 10 = .ok (.getfield 15, 3) := by decide +kernel
theorem dX6_copyFrom_13 : decode cX6_copyFrom 13 = .ok (.putfield 15, 3) := by decide +kernel
theorem dX6_copyFrom_16 : decode cX6_copyFrom 16 = .ok (.aload_n 0, 1) := by decide +kernel
theorem dX6_copyFrom_17 : decode cX6_copyFrom 17 = .ok (.aload_n 1, 1) := by decide +kernel
theorem dX6_copyFrom_18 : decode cX6_copyFrom 18 = .ok (.getfield 18, 3) := by decide +kernel
theorem dX6_copyFrom_21 : decode cX6_copyFrom 21 = .ok (.putfield 18, 3) := by decide +kernel
theorem dX6_copyFrom_24 : decode cX6_copyFrom 24 = .ok (.aload_n 0, 1) := by decide +kernel
theorem dX6_copyFrom_25 : decode cX6_copyFrom 25 = .ok (.aload_n 1, 1) := by decide +kernel
theorem dX6_copyFrom_26 : decode cX6_copyFrom 26 = .ok (.getfield 22, 3) := by decide +kernel
theorem dX6_copyFrom_29 : decode cX6_copyFrom 29 = .ok (.putfield 22, 3) := by decide +kernel
theorem dX6_copyFrom_32 : decode cX6_copyFrom 32 = .ok (.return_, 1) := by decide +kernel
theorem dX6_begin_0 : decode cX6_begin 0 = .ok (.aload_n 0, 1) := by decide +kernel
theorem dX6_begin_1 : decode cX6_begin 1 = .ok (.iload_n 1, 1) := by decide +kernel
theorem dX6_begin_2 : decode cX6_begin 2 = .ok (.putfield 9, 3) := by decide +kernel
theorem dX6_begin_5 : decode cX6_begin 5 = .ok (.aload_n 0, 1) := by decide +kernel
theorem dX6_begin_6 : decode cX6_begin 6 = .ok (.iconst 0, 1) := by decide +kernel
theorem dX6_begin_7 : decode cX6_begin 7 = .ok (.putfield 15, 3) := by decide +kernel
theorem dX6_begin_10 : decode cX6_begin 10 = .ok (.aload_n 0, 1) := by decide +kernel
theorem dX6_begin_11 : decode cX6_begin 11 = .ok (.iconst 0, 1) := by decide +kernel
theorem dX6_begin_12 : decode cX6_begin 12 = .ok (.putfield 18, 3) := by decide +kernel
theorem dX6_begin_15 : decode cX6_begin 15 = .ok (.aload_n 0, 1) := by decide +kernel
theorem dX6_begin_16 : decode cX6_begin 16 = .ok (.iconst 0, 1) := by decide +kernel
theorem dX6_begin_17 : decode cX6_begin 17 = .ok (.putfield 22, 3) := by decide +kernel
theorem dX6_begin_20 : decode cX6_begin 20 = .ok (.return_, 1) := by decide +kernel
theorem dX6_passYear_0 : decode cX6_passYear 0 = .ok (.aload_n 0, 1) := by decide +kernel
theorem dX6_passYear_1 : decode cX6_passYear 1 = .ok (.getfield 18, 3) := by decide +kernel
theorem dX6_passYear_4 : decode cX6_passYear 4 = .ok (.ifCond .ne 47, 3) := by decide +kernel
theorem dX6_passYear_7 : decode cX6_passYear 7 = .ok (.aload_n 0, 1) := by decide +kernel
theorem dX6_passYear_8 : decode cX6_passYear 8 = .ok (.bipush (-99), 2) := by decide +kernel
theorem dX6_passYear_10 : decode cX6_passYear 10 = .ok (.bipush 99, 2) := by decide +kernel
theorem dX6_passYear_12 : decode cX6_passYear 12 = .ok (.aload_n 0, 1) := by decide +kernel
theorem dX6_passYear_13 : decode cX6_passYear 13 = .ok (.getfield 15, 3) := by decide +kernel
theorem dX6_passYear_16 : decode cX6_passYear 16 = .ok (.aload_n 1, 1) := by decide +kernel
theorem dX6_passYear_17 : decode cX6_passYear 17 = .ok (.aload_n 0, 1) := by decide +kernel
theorem dX6_passYear_18 : decode cX6_passYear 18 = .ok (.getfield 22, 3) := by decide +kernel
theorem dX6_passYear_21 : decode cX6_passYear 21 = .ok (.invokevirtual 25, 3) := by decide +kernel
theorem dX6_passYear_24 : decode cX6_passYear 24 = .ok (.iadd, 1) := by decide +kernel
theorem dX6_passYear_25 : decode cX6_passYear 25 = .ok (.invokestatic 31, 3) := by decide +kernel
theorem dX6_passYear_28 : decode cX6_passYear 28 = .ok (.invokestatic 37, 3) := by decide +kernel
theorem dX6_passYear_31 : decode cX6_passYear 31 = .ok (.putfield 15, 3) := by decide +kernel
theorem dX6_passYear_34 : decode cX6_passYear 34 = .ok (.aload_n 0, 1) := by decide +kernel
theorem dX6_passYear_35 : decode cX6_passYear 35 = .ok (.iconst 1, 1) := by decide +kernel
theorem dX6_passYear_36 : decode cX6_passYear 36 = .ok (.aload_n 0, 1) := by decide +kernel
theorem dX6_passYear_37 : decode cX6_passYear 37 = .ok (.getfield 9, 3) := by decide +kernel
theorem dX6_passYear_40 : decode cX6_passYear 40 = .ok (.aload_n 1, 1) := by decide +kernel
theorem dX6_passYear_41 : decode cX6_passYear 41 = .ok (.getfield 40, 3) := by decide +kernel
theorem dX6_passYear_44 : decode cX6_passYear 44 = .ok (.isub, 1) := by decide +kernel
theorem dX6_passYear_45 : decode cX6_passYear 45 = .ok (.invokestatic 37, 3) := by decide +kernel
theorem dX6_passYear_48 : decode cX6_passYear 48 = .ok (.putfield 9, 3) := by decide +kernel
theorem dX6_passYear_51 : decode cX6_passYear 51 = .ok (.aload_n 0, 1) := by decide +kernel
theorem dX6_passYear_52 : decode cX6_passYear 52 = .ok (.dup, 1) := by decide +kernel
theorem dX6_passYear_53 : decode cX6_passYear 53 = .ok (.getfield 22, 3) := by decide +kernel
theorem dX6_passYear_56 : decode cX6_passYear 56 = .ok (.iconst 1, 1) := by decide +kernel
theorem dX6_passYear_57 : decode cX6_passYear 57 = .ok (.iadd, 1) := by decide +kernel
theorem dX6_passYear_58 : decode cX6_passYear 58 = .ok (.putfield 22, 3) := by decide +kernel
theorem dX6_passYear_61 : decode cX6_passYear 61 = .ok (.return_, 1) := by decide +kernel
theorem dX6_lengthIfPlaned_0 : decode cX6_lengthIfPlaned 0 = .ok (.iconst 1, 1) := by decide +kernel
theorem dX6_lengthIfPlaned_1 : decode cX6_lengthIfPlaned 1 = .ok (.aload_n 0, 1) := by decide +kernel
theorem dX6_lengthIfPlaned_2 : decode cX6_lengthIfPlaned 2 = .ok (.getfield 9, 3) := by decide +kernel
theorem dX6_lengthIfPlaned_5 : decode cX6_lengthIfPlaned 5 = .ok (.aload_n 0, 1) := by decide +kernel
theorem dX6_lengthIfPlaned_6 : decode cX6_lengthIfPlaned 6 = .ok (.getfield 15, 3) := by decide +kernel
theorem dX6_lengthIfPlaned_9 : decode cX6_lengthIfPlaned 9 = .ok (.invokestatic 43, 3) := by decide +kernel
theorem dX6_lengthIfPlaned_12 : decode cX6_lengthIfPlaned 12 = .ok (.isub, 1) := by decide +kernel
theorem dX6_lengthIfPlaned_13 : decode cX6_lengthIfPlaned 13 = .ok (.invokestatic 37, 3) := by decide +kernel
theorem dX6_lengthIfPlaned_16 : decode cX6_lengthIfPlaned 16 = .ok (.ireturn, 1) := by decide +kernel
theorem dX6_tenthsOf_0 : decode cX6_tenthsOf 0 = .ok (.aload_n 0, 1) := by decide +kernel
theorem dX6_tenthsOf_1 : decode cX6_tenthsOf 1 = .ok (.getfield 9, 3) := by decide +kernel
theorem dX6_tenthsOf_4 : decode cX6_tenthsOf 4 = .ok (.iconst 1, 1) := by decide +kernel
theorem dX6_tenthsOf_5 : decode cX6_tenthsOf 5 = .ok (.if_icmp .ge 7, 3) := by decide +kernel
theorem dX6_tenthsOf_8 : decode cX6_tenthsOf 8 = .ok (.iconst 0, 1) := by decide +kernel
theorem dX6_tenthsOf_9 : decode cX6_tenthsOf 9 = .ok (.goto 12, 3) := by decide +kernel
theorem dX6_tenthsOf_12 : decode cX6_tenthsOf 12 = .ok (.bipush 10, 2) := by decide +kernel
theorem dX6_tenthsOf_14 : decode cX6_tenthsOf 14 = .ok (.iload_n 1, 1) := by decide +kernel
theorem dX6_tenthsOf_15 : decode cX6_tenthsOf 15 = .ok (.imul, 1) := by decide +kernel
theorem dX6_tenthsOf_16 : decode cX6_tenthsOf 16 = .ok (.aload_n 0, 1) := by decide +kernel
theorem dX6_tenthsOf_17 : decode cX6_tenthsOf 17 = .ok (.getfield 9, 3) := by decide +kernel
theorem dX6_tenthsOf_20 : decode cX6_tenthsOf 20 = .ok (.idiv, 1) := by decide +kernel
theorem dX6_tenthsOf_21 : decode cX6_tenthsOf 21 = .ok (.ireturn, 1) := by decide +kernel
theorem dX7_init_0 : decode cX7_init 0 = .ok (.aload_n 0, 1) := by decide +kernel
theorem dX7_init_1 : decode cX7_init 1 = .ok (.invokespecial 3, 3) := by decide +kernel
theorem dX7_init_4 : decode cX7_init 4 = .ok (.aload_n 0, 1) := by decide +kernel
theorem dX7_init_5 : decode cX7_init 5 = .ok (.bipush 6, 2) := by decide +kernel
theorem dX7_init_7 : decode cX7_init 7 = .ok (.newarray .int, 2) := by decide +kernel
theorem dX7_init_9 : decode cX7_init 9 = .ok (.putfield 9, 3) := by decide +kernel
theorem dX7_init_12 : decode cX7_init 12 = .ok (.aload_n 0, 1) := by decide +kernel
theorem dX7_init_13 : decode cX7_init 13 = .ok (.bipush 6, 2) := by decide +kernel
theorem dX7_init_15 : decode cX7_init 15 = .ok (.newarray .int, 2) := by decide +kernel
theorem dX7_init_17 : decode cX7_init 17 = .ok (.putfield 15, 3) := by decide +kernel
theorem dX7_init_20 : decode cX7_init 20 = .ok (.aload_n 0, 1) := by decide +kernel
theorem dX7_init_21 : decode cX7_init 21 = .ok (.sipush 241, 3) := by decide +kernel
theorem dX7_init_24 : decode cX7_init 24 = .ok (.newarray .int, 2) := by decide +kernel
theorem dX7_init_26 : decode cX7_init 26 = .ok (.putfield 18, 3) := by decide +kernel
theorem dX7_init_29 : decode cX7_init 29 = .ok (.aload_n 0, 1) := by decide +kernel
theorem dX7_init_30 : decode cX7_init 30 = .ok (.sipush 241, 3) := by decide +kernel
theorem dX7_init_33 : decode cX7_init 33 = .ok (.newarray .int, 2) := by decide +kernel
theorem dX7_init_35 : decode cX7_init 35 = .ok (.putfield 21, 3) := by decide +kernel
theorem dX7_init_38 : decode cX7_init 38 = .ok (.aload_n 0, 1) := by decide +kernel
theorem dX7_init_39 : decode cX7_init 39 = .ok (.sipush 2179, 3) := by decide +kernel
theorem dX7_init_42 : decode cX7_init 42 = .ok (.newarray .int, 2) := by decide +kernel
theorem dX7_init_44 : decode cX7_init 44 = .ok (.putfield 24, 3) := by decide +kernel
theorem dX7_init_47 : decode cX7_init 47 = .ok (.return_, 1) := by decide +kernel
theorem dX7_add_0 : decode cX7_add 0 = .ok (.aload_n 0, 1) := by decide +kernel
theorem dX7_add_1 : decode cX7_add 1 = .ok (.getfield 27, 3) := by decide +kernel
theorem dX7_add_4 : decode cX7_add 4 = .ok (.bipush 6, 2) := by decide +kernel
theorem dX7_add_6 : decode cX7_add 6 = .ok (.if_icmp .ge 33, 3) := by decide +kernel
theorem dX7_add_9 : decode cX7_add 9 = .ok (.aload_n 0, 1) := by decide +kernel
theorem dX7_add_10 : decode cX7_add 10 = .ok (.getfield 9, 3) := by decide +kernel
theorem dX7_add_13 : decode cX7_add 13 = .ok (.aload_n 0, 1) := by decide +kernel
theorem dX7_add_14 : decode cX7_add 14 = .ok (.getfield 27, 3) := by decide +kernel
theorem dX7_add_17 : decode cX7_add 17 = .ok (.iload_n 1, 1) := by decide +kernel
theorem dX7_add_18 : decode cX7_add 18 = .ok (.iastore, 1) := by decide +kernel
theorem dX7_add_19 : decode cX7_add 19 = .ok (.aload_n 0, 1) := by decide +kernel
theorem dX7_add_20 : decode cX7_add 20 = .ok (.getfield 15, 3) := by decide +kernel
theorem dX7_add_23 : decode cX7_add 23 = .ok (.aload_n 0, 1) := by decide +kernel
theorem dX7_add_24 : decode cX7_add 24 = .ok (.getfield 27, 3) := by decide +kernel
theorem dX7_add_27 : decode cX7_add 27 = .ok (.iload_n 2, 1) := by decide +kernel
theorem dX7_add_28 : decode cX7_add 28 = .ok (.iastore, 1) := by decide +kernel
theorem dX7_add_29 : decode cX7_add 29 = .ok (.aload_n 0, 1) := by decide +kernel
theorem dX7_add_30 : decode cX7_add 30 = .ok (.dup, 1) := by decide +kernel
theorem dX7_add_31 : decode cX7_add 31 = .ok (.getfield 27, 3) := by decide +kernel
theorem dX7_add_34 : decode cX7_add 34 = .ok (.iconst 1, 1) := by decide +kernel
theorem dX7_add_35 : decode cX7_add 35 = .ok (.iadd, 1) := by decide +kernel
theorem dX7_add_36 : decode cX7_add 36 = .ok (.putfield 27, 3) := by decide +kernel
theorem dX7_add_39 : decode cX7_add 39 = .ok (.return_, 1) := by decide +kernel
theorem dX7_gather_0 : decode cX7_gather 0 = .ok (.iconst 0, 1) := by decide +kernel
theorem dX7_gather_1 : decode cX7_gather 1 = .ok (.istore_n 1, 1) := by decide +kernel
theorem dX7_gather_2 : decode cX7_gather 2 = .ok (.iconst 1, 1) := by decide +kernel
theorem dX7_gather_3 : decode cX7_gather 3 = .ok (.istore_n 2, 1) := by decide +kernel
theorem dX7_gather_4 : decode cX7_gather 4 = .ok (.iload_n 2, 1) := by decide +kernel
theorem dX7_gather_5 : decode cX7_gather 5 = .ok (.sipush 240, 3) := by decide +kernel
theorem dX7_gather_8 : decode cX7_gather 8 = .ok (.if_icmp .gt 114, 3) := by decide +kernel
theorem dX7_gather_11 : decode cX7_gather 11 = .ok (.aload_n 0, 1) := by decide +kernel
theorem dX7_gather_12 : decode cX7_gather 12 = .ok (.getfield 18, 3) := by decide +kernel
theorem dX7_gather_15 : decode cX7_gather 15 = .ok (.iload_n 2, 1) := by decide +kernel
theorem dX7_gather_16 : decode cX7_gather 16 = .ok (.bipush (-9), 2) := by decide +kernel
theorem dX7_gather_18 : decode cX7_gather 18 = .ok (.iastore, 1) := by decide +kernel
theorem dX7_gather_19 : decode cX7_gather 19 = .ok (.aload_n 0, 1) := by decide +kernel
theorem dX7_gather_20 : decode cX7_gather 20 = .ok (.getfield 21, 3) := by decide +kernel
theorem dX7_gather_23 : decode cX7_gather 23 = .ok (.iload_n 2, 1) := by decide +kernel
theorem dX7_gather_24 : decode cX7_gather 24 = .ok (.bipush 9, 2) := by decide +kernel
theorem dX7_gather_26 : decode cX7_gather 26 = .ok (.iastore, 1) := by decide +kernel
theorem dX7_gather_27 : decode cX7_gather 27 = .ok (.iconst 0, 1) := by decide +kernel
theorem dX7_gather_28 : decode cX7_gather 28 = .ok (.istore_n 3, 1) := by decide +kernel
theorem dX7_gather_29 : decode cX7_gather 29 = .ok (.iload_n 3, 1) := by decide +kernel
theorem dX7_gather_30 : decode cX7_gather 30 = .ok (.aload_n 0, 1) := by decide +kernel
theorem dX7_gather_31 : decode cX7_gather 31 = .ok (.getfield 27, 3) := by decide +kernel
theorem dX7_gather_34 : decode cX7_gather 34 = .ok (.if_icmp .ge 60, 3) := by decide +kernel
theorem dX7_gather_37 : decode cX7_gather 37 = .ok (.aload_n 0, 1) := by decide +kernel
theorem dX7_gather_38 : decode cX7_gather 38 = .ok (.getfield 15, 3) := by decide +kernel
theorem dX7_gather_41 : decode cX7_gather 41 = .ok (.iload_n 3, 1) := by decide +kernel
theorem dX7_gather_42 : decode cX7_gather 42 = .ok (.iaload, 1) := by decide +kernel
theorem dX7_gather_43 : decode cX7_gather 43 = .ok (.iload_n 2, 1) := by decide +kernel
theorem dX7_gather_44 : decode cX7_gather 44 = .ok (.aload_n 0, 1) := by decide +kernel
theorem dX7_gather_45 : decode cX7_gather 45 = .ok (.getfield 9, 3) := by decide +kernel
theorem dX7_gather_48 : decode cX7_gather 48 = .ok (.iload_n 3, 1) := by decide +kernel
theorem dX7_gather_49 : decode cX7_gather 49 = .ok (.iaload, 1) := by decide +kernel
theorem dX7_gather_50 : decode cX7_gather 50 = .ok (.imul, 1) := by decide +kernel
theorem dX7_gather_51 : decode cX7_gather 51 = .ok (.isub, 1) := by decide +kernel
theorem dX7_gather_52 : decode cX7_gather 52 = .ok (.istore 4, 2) := by decide +kernel
theorem dX7_gather_54 : decode cX7_gather 54 = .ok (.aload_n 0, 1) := by decide +kernel
theorem dX7_gather_55 : decode cX7_gather 55 = .ok (.getfield 18, 3) := by decide +kernel
theorem dX7_gather_58 : decode cX7_gather 58 = .ok (.iload_n 2, 1) := by decide +kernel
theorem dX7_gather_59 : decode cX7_gather 59 = .ok (.aload_n 0, 1) := by decide +kernel
theorem dX7_gather_60 : decode cX7_gather 60 = .ok (.getfield 18, 3) := by decide +kernel
theorem dX7_gather_63 : decode cX7_gather 63 = .ok (.iload_n 2, 1) := by decide +kernel
theorem dX7_gather_64 : decode cX7_gather 64 = .ok (.iaload, 1) := by decide +kernel
theorem dX7_gather_65 : decode cX7_gather 65 = .ok (.iload 4, 2) := by decide +kernel
theorem dX7_gather_67 : decode cX7_gather 67 = .ok (.invokestatic 31, 3) := by decide +kernel
theorem dX7_gather_70 : decode cX7_gather 70 = .ok (.iastore, 1) := by decide +kernel
theorem dX7_gather_71 : decode cX7_gather 71 = .ok (.aload_n 0, 1) := by decide +kernel
theorem dX7_gather_72 : decode cX7_gather 72 = .ok (.getfield 21, 3) := by decide +kernel
theorem dX7_gather_75 : decode cX7_gather 75 = .ok (.iload_n 2, 1) := by decide +kernel
theorem dX7_gather_76 : decode cX7_gather 76 = .ok (.aload_n 0, 1) := by decide +kernel
theorem dX7_gather_77 : decode cX7_gather 77 = .ok (.getfield 21, 3) := by decide +kernel
theorem dX7_gather_80 : decode cX7_gather 80 = .ok (.iload_n 2, 1) := by decide +kernel
theorem dX7_gather_81 : decode cX7_gather 81 = .ok (.iaload, 1) := by decide +kernel
theorem dX7_gather_82 : decode cX7_gather 82 = .ok (.iload 4, 2) := by decide +kernel
theorem dX7_gather_84 : decode cX7_gather 84 = .ok (.invokestatic 37, 3) := by decide +kernel
theorem dX7_gather_87 : decode cX7_gather 87 = .ok (.iastore, 1) := by decide +kernel
theorem dX7_gather_88 : decode cX7_gather 88 = .ok (.iinc 3 1, 3) := by decide +kernel
theorem dX7_gather_91 : decode cX7_gather 91 = .ok (.goto (-62), 3) := by decide +kernel
theorem dX7_gather_94 : decode cX7_gather 94 = .ok (.iload_n 1, 1) := by decide +kernel
theorem dX7_gather_95 : decode cX7_gather 95 = .ok (.iconst 0, 1) := by decide +kernel
theorem dX7_gather_96 : decode cX7_gather 96 = .ok (.aload_n 0, 1) := by decide +kernel
theorem dX7_gather_97 : decode cX7_gather 97 = .ok (.getfield 21, 3) := by decide +kernel
theorem dX7_gather_100 : decode cX7_gather 100 = .ok (.iload_n 2, 1) := by decide +kernel
theorem dX7_gather_101 : decode cX7_gather 101 = .ok (.iaload, 1) := by decide +kernel
theorem dX7_gather_102 : decode cX7_gather 102 = .ok (.aload_n 0, 1) := by decide +kernel
theorem dX7_gather_103 : decode cX7_gather 103 = .ok (.getfield 18, 3) := by decide +kernel
theorem dX7_gather_106 : decode cX7_gather 106 = .ok (.iload_n 2, 1) := by decide +kernel
theorem dX7_gather_107 : decode cX7_gather 107 = .ok (.iaload, 1) := by decide +kernel
theorem dX7_gather_108 : decode cX7_gather 108 = .ok (.isub, 1) := by decide +kernel
theorem dX7_gather_109 : decode cX7_gather 109 = .ok (.iconst 1, 1) := by decide +kernel
theorem dX7_gather_110 : decode cX7_gather 110 = .ok (.iadd, 1) := by decide +kernel
theorem dX7_gather_111 : decode cX7_gather 111 = .ok (.invokestatic 31, 3) := by decide +kernel
theorem dX7_gather_114 : decode cX7_gather 114 = .ok (.iadd, 1) := by decide +kernel
theorem dX7_gather_115 : decode cX7_gather 115 = .ok (.istore_n 1, 1) := by decide +kernel
theorem dX7_gather_116 : decode cX7_gather 116 = .ok (.iinc 2 1, 3) := by decide +kernel
theorem dX7_gather_119 : decode cX7_gather 119 = .ok (.goto (-115), 3) := by decide +kernel
theorem dX7_gather_122 : decode cX7_gather 122 = .ok (.iload_n 1, 1) := by decide +kernel
theorem dX7_gather_123 : decode cX7_gather 123 = .ok (.ireturn, 1) := by decide +kernel
theorem dX7_leastLength_0 : decode cX7_leastLength 0 = .ok (.iconst 1, 1) := by decide +kernel
theorem dX7_leastLength_1 : decode cX7_leastLength 1 = .ok (.istore_n 1, 1) := by decide +kernel
theorem dX7_leastLength_2 : decode cX7_leastLength 2 = .ok (.iload_n 1, 1) := by decide +kernel
theorem dX7_leastLength_3 : decode cX7_leastLength 3 = .ok (.sipush 240, 3) := by decide +kernel
theorem dX7_leastLength_6 : decode cX7_leastLength 6 = .ok (.if_icmp .gt 26, 3) := by decide +kernel
theorem dX7_leastLength_9 : decode cX7_leastLength 9 = .ok (.aload_n 0, 1) := by decide +kernel
theorem dX7_leastLength_10 : decode cX7_leastLength 10 = .ok (.getfield 18, 3) := by decide +kernel
theorem dX7_leastLength_13 : decode cX7_leastLength 13 = .ok (.iload_n 1, 1) := by decide +kernel
theorem dX7_leastLength_14 : decode cX7_leastLength 14 = .ok (.iaload, 1) := by decide +kernel
theorem dX7_leastLength_15 : decode cX7_leastLength 15 = .ok (.aload_n 0, 1) := by decide +kernel
theorem dX7_leastLength_16 : decode cX7_leastLength 16 = .ok (.getfield 21, 3) := by decide +kernel
theorem dX7_leastLength_19 : decode cX7_leastLength 19 = .ok (.iload_n 1, 1) := by decide +kernel
theorem dX7_leastLength_20 : decode cX7_leastLength 20 = .ok (.iaload, 1) := by decide +kernel
theorem dX7_leastLength_21 : decode cX7_leastLength 21 = .ok (.if_icmp .gt 5, 3) := by decide +kernel
theorem dX7_leastLength_24 : decode cX7_leastLength 24 = .ok (.iload_n 1, 1) := by decide +kernel
theorem dX7_leastLength_25 : decode cX7_leastLength 25 = .ok (.ireturn, 1) := by decide +kernel
theorem dX7_leastLength_26 : decode cX7_leastLength 26 = .ok (.iinc 1 1, 3) := by decide +kernel
theorem dX7_leastLength_29 : decode cX7_leastLength 29 = .ok (.goto (-27), 3) := by decide +kernel
theorem dX7_leastLength_32 : decode cX7_leastLength 32 = .ok (.iconst (-1), 1) := by decide +kernel
theorem dX7_leastLength_33 : decode cX7_leastLength 33 = .ok (.ireturn, 1) := by decide +kernel
theorem dX7_bestDoor_0 : decode cX7_bestDoor 0 = .ok (.aload_n 0, 1) := by decide +kernel
theorem dX7_bestDoor_1 : decode cX7_bestDoor 1 = .ok (.invokevirtual 40, 3) := by decide +kernel
theorem dX7_bestDoor_4 : decode cX7_bestDoor 4 = .ok (.istore_n 1, 1) := by decide +kernel
theorem dX7_bestDoor_5 : decode cX7_bestDoor 5 = .ok (.iconst (-1), 1) := by decide +kernel
theorem dX7_bestDoor_6 : decode cX7_bestDoor 6 = .ok (.istore_n 2, 1) := by decide +kernel
theorem dX7_bestDoor_7 : decode cX7_bestDoor 7 = .ok (.iconst 1, 1) := by decide +kernel
theorem dX7_bestDoor_8 : decode cX7_bestDoor 8 = .ok (.istore_n 3, 1) := by decide +kernel
theorem dX7_bestDoor_9 : decode cX7_bestDoor 9 = .ok (.iload_n 3, 1) := by decide +kernel
theorem dX7_bestDoor_10 : decode cX7_bestDoor 10 = .ok (.bipush 9, 2) := by decide +kernel
theorem dX7_bestDoor_12 : decode cX7_bestDoor 12 = .ok (.if_icmp .gt 27, 3) := by decide +kernel
theorem dX7_bestDoor_15 : decode cX7_bestDoor 15 = .ok (.aload_n 0, 1) := by decide +kernel
theorem dX7_bestDoor_16 : decode cX7_bestDoor 16 = .ok (.iload_n 3, 1) := by decide +kernel
theorem dX7_bestDoor_17 : decode cX7_bestDoor 17 = .ok (.invokevirtual 44, 3) := by decide +kernel
theorem dX7_bestDoor_20 : decode cX7_bestDoor 20 = .ok (.istore 4, 2) := by decide +kernel
theorem dX7_bestDoor_22 : decode cX7_bestDoor 22 = .ok (.iload 4, 2) := by decide +kernel
theorem dX7_bestDoor_24 : decode cX7_bestDoor 24 = .ok (.iload_n 1, 1) := by decide +kernel
theorem dX7_bestDoor_25 : decode cX7_bestDoor 25 = .ok (.if_icmp .ge 8, 3) := by decide +kernel
theorem dX7_bestDoor_28 : decode cX7_bestDoor 28 = .ok (.iload 4, 2) := by decide +kernel
theorem dX7_bestDoor_30 : decode cX7_bestDoor 30 = .ok (.istore_n 1, 1) := by decide +kernel
theorem dX7_bestDoor_31 : decode cX7_bestDoor 31 = .ok (.iload_n 3, 1) := by decide +kernel
theorem dX7_bestDoor_32 : decode cX7_bestDoor 32 = .ok (.istore_n 2, 1) := by decide +kernel
theorem dX7_bestDoor_33 : decode cX7_bestDoor 33 = .ok (.iinc 3 1, 3) := by decide +kernel
theorem dX7_bestDoor_36 : decode cX7_bestDoor 36 = .ok (.goto (-27), 3) := by decide +kernel
theorem dX7_bestDoor_39 : decode cX7_bestDoor 39 = .ok (.iload_n 2, 1) := by decide +kernel
theorem dX7_bestDoor_40 : decode cX7_bestDoor 40 = .ok (.ireturn, 1) := by decide +kernel
theorem dX7_greatestPart_0 : decode cX7_greatestPart 0 = .ok (.aload_n 0, 1) := by decide +kernel
theorem dX7_greatestPart_1 : decode cX7_greatestPart 1 = .ok (.getfield 24, 3) := by decide +kernel
theorem dX7_greatestPart_4 : decode cX7_greatestPart 4 = .ok (.iconst 0, 1) := by decide +kernel
theorem dX7_greatestPart_5 : decode cX7_greatestPart 5 = .ok (.invokestatic 48, 3) := by decide +kernel
theorem dX7_greatestPart_8 : decode cX7_greatestPart 8 = .ok (.iconst 0, 1) := by decide +kernel
theorem dX7_greatestPart_9 : decode cX7_greatestPart 9 = .ok (.istore_n 2, 1) := by decide +kernel
theorem dX7_greatestPart_10 : decode cX7_greatestPart 10 = .ok (.iconst 1, 1) := by decide +kernel
theorem dX7_greatestPart_11 : decode cX7_greatestPart 11 = .ok (.istore_n 3, 1) := by decide +kernel
theorem dX7_greatestPart_12 : decode cX7_greatestPart 12 = .ok (.iload_n 3, 1) := by decide +kernel
theorem dX7_greatestPart_13 : decode cX7_greatestPart 13 = .ok (.sipush 240, 3) := by decide +kernel
theorem dX7_greatestPart_16 : decode cX7_greatestPart 16 = .ok (.if_icmp .gt 68, 3) := by decide +kernel
theorem dX7_greatestPart_19 : decode cX7_greatestPart 19 = .ok (.aload_n 0, 1) := by decide +kernel
theorem dX7_greatestPart_20 : decode cX7_greatestPart 20 = .ok (.getfield 18, 3) := by decide +kernel
theorem dX7_greatestPart_23 : decode cX7_greatestPart 23 = .ok (.iload_n 3, 1) := by decide +kernel
theorem dX7_greatestPart_24 : decode cX7_greatestPart 24 = .ok (.iaload, 1) := by decide +kernel
theorem dX7_greatestPart_25 : decode cX7_greatestPart 25 = .ok (.istore 4, 2) := by decide +kernel
theorem dX7_greatestPart_27 : decode cX7_greatestPart 27 = .ok (.iload 4, 2) := by decide +kernel
theorem dX7_greatestPart_29 : decode cX7_greatestPart 29 = .ok (.aload_n 0, 1) := by decide +kernel
theorem dX7_greatestPart_30 : decode cX7_greatestPart 30 = .ok (.getfield 21, 3) := by decide +kernel
theorem dX7_greatestPart_33 : decode cX7_greatestPart 33 = .ok (.iload_n 3, 1) := by decide +kernel
theorem dX7_greatestPart_34 : decode cX7_greatestPart 34 = .ok (.iaload, 1) := by decide +kernel
theorem dX7_greatestPart_35 : decode cX7_greatestPart 35 = .ok (.if_icmp .gt 43, 3) := by decide +kernel
theorem dX7_greatestPart_38 : decode cX7_greatestPart 38 = .ok (.iload_n 3, 1) := by decide +kernel
theorem dX7_greatestPart_39 : decode cX7_greatestPart 39 = .ok (.iload_n 1, 1) := by decide +kernel
theorem dX7_greatestPart_40 : decode cX7_greatestPart 40 = .ok (.imul, 1) := by decide +kernel
theorem dX7_greatestPart_41 : decode cX7_greatestPart 41 = .ok (.iload 4, 2) := by decide +kernel
theorem dX7_greatestPart_43 : decode cX7_greatestPart 43 = .ok (.iadd, 1) := by decide +kernel
theorem dX7_greatestPart_44 : decode cX7_greatestPart 44 = .ok (.bipush 9, 2) := by decide +kernel
theorem dX7_greatestPart_46 : decode cX7_greatestPart 46 = .ok (.iadd, 1) := by decide +kernel
theorem dX7_greatestPart_47 : decode cX7_greatestPart 47 = .ok (.istore 5, 2) := by decide +kernel
theorem dX7_greatestPart_49 : decode cX7_greatestPart 49 = .ok (.aload_n 0, 1) := by decide +kernel
theorem dX7_greatestPart_50 : decode cX7_greatestPart 50 = .ok (.getfield 24, 3) := by decide +kernel
theorem dX7_greatestPart_53 : decode cX7_greatestPart 53 = .ok (.iload 5, 2) := by decide +kernel
theorem dX7_greatestPart_55 : decode cX7_greatestPart 55 = .ok (.dup2, 1) := by decide +kernel
theorem dX7_greatestPart_56 : decode cX7_greatestPart 56 = .ok (.iaload, 1) := by decide +kernel
theorem dX7_greatestPart_57 : decode cX7_greatestPart 57 = .ok (.iconst 1, 1) := by decide +kernel
theorem dX7_greatestPart_58 : decode cX7_greatestPart 58 = .ok (.iadd, 1) := by decide +kernel
theorem dX7_greatestPart_59 : decode cX7_greatestPart 59 = .ok (.iastore, 1) := by decide +kernel
theorem dX7_greatestPart_60 : decode cX7_greatestPart 60 = .ok (.iload_n 2, 1) := by decide +kernel
theorem dX7_greatestPart_61 : decode cX7_greatestPart 61 = .ok (.aload_n 0, 1) := by decide +kernel
theorem dX7_greatestPart_62 : decode cX7_greatestPart 62 = .ok (.getfield 24, 3) := by decide +kernel
theorem dX7_greatestPart_65 : decode cX7_greatestPart 65 = .ok (.iload 5, 2) := by decide +kernel
theorem dX7_greatestPart_67 : decode cX7_greatestPart 67 = .ok (.iaload, 1) := by decide +kernel
theorem dX7_greatestPart_68 : decode cX7_greatestPart 68 = .ok (.invokestatic 31, 3) := by decide +kernel
theorem dX7_greatestPart_71 : decode cX7_greatestPart 71 = .ok (.istore_n 2, 1) := by decide +kernel
theorem dX7_greatestPart_72 : decode cX7_greatestPart 72 = .ok (.iinc 4 1, 3) := by decide +kernel
theorem dX7_greatestPart_75 : decode cX7_greatestPart 75 = .ok (.goto (-48), 3) := by decide +kernel
theorem dX7_greatestPart_78 : decode cX7_greatestPart 78 = .ok (.iinc 3 1, 3) := by decide +kernel
theorem dX7_greatestPart_81 : decode cX7_greatestPart 81 = .ok (.goto (-69), 3) := by decide +kernel
theorem dX7_greatestPart_84 : decode cX7_greatestPart 84 = .ok (.iload_n 2, 1) := by decide +kernel
theorem dX7_greatestPart_85 : decode cX7_greatestPart 85 = .ok (.ireturn, 1) := by decide +kernel
theorem dX8_init_0 : decode cX8_init 0 = .ok (.aload_n 0, 1) := by decide +kernel
theorem dX8_init_1 : decode cX8_init 1 = .ok (.invokespecial 3, 3) := by decide +kernel
theorem dX8_init_4 : decode cX8_init 4 = .ok (.aload_n 0, 1) := by decide +kernel
theorem dX8_init_5 : decode cX8_init 5 = .ok (.new 9, 3) := by decide +kernel
theorem dX8_init_8 : decode cX8_init 8 = .ok (.dup, 1) := by decide +kernel
theorem dX8_init_9 : decode cX8_init 9 = .ok (.invokespecial 11, 3) := by decide +kernel
theorem dX8_init_12 : decode cX8_init 12 = .ok (.putfield 12, 3) := by decide +kernel
theorem dX8_init_15 : decode cX8_init 15 = .ok (.aload_n 0, 1) := by decide +kernel
theorem dX8_init_16 : decode cX8_init 16 = .ok (.new 18, 3) := by decide +kernel
theorem dX8_init_19 : decode cX8_init 19 = .ok (.dup, 1) := by decide +kernel
theorem dX8_init_20 : decode cX8_init 20 = .ok (.invokespecial 20, 3) := by decide +kernel
theorem dX8_init_23 : decode cX8_init 23 = .ok (.putfield 21, 3) := by decide +kernel
theorem dX8_init_26 : decode cX8_init 26 = .ok (.aload_n 0, 1) := by decide +kernel
theorem dX8_init_27 : decode cX8_init 27 = .ok (.new 25, 3) := by decide +kernel
theorem dX8_init_30 : decode cX8_init 30 = .ok (.dup, 1) := by decide +kernel
theorem dX8_init_31 : decode cX8_init 31 = .ok (.invokespecial 27, 3) := by decide +kernel
theorem dX8_init_34 : decode cX8_init 34 = .ok (.putfield 28, 3) := by decide +kernel
theorem dX8_init_37 : decode cX8_init 37 = .ok (.aload_n 0, 1) := by decide +kernel
theorem dX8_init_38 : decode cX8_init 38 = .ok (.bipush 6, 2) := by decide +kernel
theorem dX8_init_40 : decode cX8_init 40 = .ok (.newarray .int, 2) := by decide +kernel
theorem dX8_init_42 : decode cX8_init 42 = .ok (.putfield 32, 3) := by decide +kernel
theorem dX8_init_45 : decode cX8_init 45 = .ok (.return_, 1) := by decide +kernel
theorem dX8_copyFrom_0 : decode cX8_copyFrom 0 = .ok (.aload_n 0, 1) := by decide +kernel
theorem dX8_copyFrom_1 : decode cX8_copyFrom 1 = .ok (.getfield 12, 3) := by decide +kernel
theorem dX8_copyFrom_4 : decode cX8_copyFrom 4 = .ok (.aload_n 1, 1) := by decide +kernel
theorem dX8_copyFrom_5 : decode cX8_copyFrom 5 = .ok (.getfield 12, 3) := by decide +kernel
theorem dX8_copyFrom_8 : decode cX8_copyFrom 8 = .ok (.invokevirtual 36, 3) := by decide +kernel
theorem dX8_copyFrom_11 : decode cX8_copyFrom 11 = .ok (.aload_n 0, 1) := by decide +kernel
theorem dX8_copyFrom_12 : decode cX8_copyFrom 12 = .ok (.getfield 21, 3) := by decide +kernel
theorem dX8_copyFrom_15 : decode cX8_copyFrom 15 = .ok (.aload_n 1, 1) := by decide +kernel
theorem dX8_copyFrom_16 : decode cX8_copyFrom 16 = .ok (.getfield 21, 3) := by decide +kernel
theorem dX8_copyFrom_19 : decode cX8_copyFrom 19 = .ok (.invokevirtual 40, 3) := by decide +kernel
theorem dX8_copyFrom_22 : decode cX8_copyFrom 22 = .ok (.aload_n 0, 1) := by decide +kernel
theorem dX8_copyFrom_23 : decode cX8_copyFrom 23 = .ok (.getfield 28, 3) := by decide +kernel
theorem dX8_copyFrom_26 : decode cX8_copyFrom 26 = .ok (.aload_n 1, 1) := by decide +kernel
theorem dX8_copyFrom_27 : decode cX8_copyFrom 27 = .ok (.getfield 28, 3) := by decide +kernel
theorem dX8_copyFrom_30 : decode cX8_copyFrom 30 = .ok (.invokevirtual 43, 3) := by decide +kernel
theorem dX8_copyFrom_33 : decode cX8_copyFrom 33 = .ok (.aload_n 1, 1) := by decide +kernel
theorem dX8_copyFrom_34 : decode cX8_copyFrom 34 = .ok (.getfield 32, 3) := by decide +kernel
theorem dX8_copyFrom_37 : decode cX8_copyFrom 37 = .ok (.iconst 0, 1) := by decide +kernel
theorem dX8_copyFrom_38 : decode cX8_copyFrom 38 = .ok (.aload_n 0, 1) := by decide +kernel
theorem dX8_copyFrom_39 : decode cX8_copyFrom 39 = .ok (.getfield 32, 3) := by decide +kernel
theorem dX8_copyFrom_42 : decode cX8_copyFrom 42 = .ok (.iconst 0, 1) := by decide +kernel
theorem dX8_copyFrom_43 : decode cX8_copyFrom 43 = .ok (.bipush 6, 2) := by decide +kernel
theorem dX8_copyFrom_45 : decode cX8_copyFrom 45 = .ok (.invokestatic 46, 3) := by decide +kernel
theorem dX8_copyFrom_48 : decode cX8_copyFrom 48 = .ok (.return_, 1) := by decide +kernel
theorem dX8_begin_0 : decode cX8_begin 0 = .ok (.aload_n 0, 1) := by decide +kernel
theorem dX8_begin_1 : decode cX8_begin 1 = .ok (.getfield 12, 3) := by decide +kernel
theorem dX8_begin_4 : decode cX8_begin 4 = .ok (.aload_n 1, 1) := by decide +kernel
theorem dX8_begin_5 : decode cX8_begin 5 = .ok (.getfield 52, 3) := by decide +kernel
theorem dX8_begin_8 : decode cX8_begin 8 = .ok (.invokevirtual 58, 3) := by decide +kernel
theorem dX8_begin_11 : decode cX8_begin 11 = .ok (.aload_n 0, 1) := by decide +kernel
theorem dX8_begin_12 : decode cX8_begin 12 = .ok (.getfield 21, 3) := by decide +kernel
theorem dX8_begin_15 : decode cX8_begin 15 = .ok (.iconst 0, 1) := by decide +kernel
theorem dX8_begin_16 : decode cX8_begin 16 = .ok (.putfield 62, 3) := by decide +kernel
theorem dX8_begin_19 : decode cX8_begin 19 = .ok (.aload_n 0, 1) := by decide +kernel
theorem dX8_begin_20 : decode cX8_begin 20 = .ok (.getfield 28, 3) := by decide +kernel
theorem dX8_begin_23 : decode cX8_begin 23 = .ok (.iconst 0, 1) := by decide +kernel
theorem dX8_begin_24 : decode cX8_begin 24 = .ok (.putfield 65, 3) := by decide +kernel
theorem dX8_begin_27 : decode cX8_begin 27 = .ok (.aload_n 1, 1) := by decide +kernel
theorem dX8_begin_28 : decode cX8_begin 28 = .ok (.getfield 66, 3) := by decide +kernel
theorem dX8_begin_31 : decode cX8_begin 31 = .ok (.iconst 0, 1) := by decide +kernel
theorem dX8_begin_32 : decode cX8_begin 32 = .ok (.aload_n 0, 1) := by decide +kernel
theorem dX8_begin_33 : decode cX8_begin 33 = .ok (.getfield 32, 3) := by decide +kernel
theorem dX8_begin_36 : decode cX8_begin 36 = .ok (.iconst 0, 1) := by decide +kernel
theorem dX8_begin_37 : decode cX8_begin 37 = .ok (.bipush 6, 2) := by decide +kernel
theorem dX8_begin_39 : decode cX8_begin 39 = .ok (.invokestatic 46, 3) := by decide +kernel
theorem dX8_begin_42 : decode cX8_begin 42 = .ok (.return_, 1) := by decide +kernel
theorem dX8_produce_0 : decode cX8_produce 0 = .ok (.aload_n 0, 1) := by decide +kernel
theorem dX8_produce_1 : decode cX8_produce 1 = .ok (.getfield 12, 3) := by decide +kernel
theorem dX8_produce_4 : decode cX8_produce 4 = .ok (.getfield 67, 3) := by decide +kernel
theorem dX8_produce_7 : decode cX8_produce 7 = .ok (.iload_n 1, 1) := by decide +kernel
theorem dX8_produce_8 : decode cX8_produce 8 = .ok (.iload_n 2, 1) := by decide +kernel
theorem dX8_produce_9 : decode cX8_produce 9 = .ok (.invokestatic 68, 3) := by decide +kernel
theorem dX8_produce_12 : decode cX8_produce 12 = .ok (.aload_n 0, 1) := by decide +kernel
theorem dX8_produce_13 : decode cX8_produce 13 = .ok (.getfield 12, 3) := by decide +kernel
theorem dX8_produce_16 : decode cX8_produce 16 = .ok (.getfield 72, 3) := by decide +kernel
theorem dX8_produce_19 : decode cX8_produce 19 = .ok (.iadd, 1) := by decide +kernel
theorem dX8_produce_20 : decode cX8_produce 20 = .ok (.istore_n 3, 1) := by decide +kernel
theorem dX8_produce_21 : decode cX8_produce 21 = .ok (.aload_n 0, 1) := by decide +kernel
theorem dX8_produce_22 : decode cX8_produce 22 = .ok (.getfield 21, 3) := by decide +kernel
theorem dX8_produce_25 : decode cX8_produce 25 = .ok (.iload_n 3, 1) := by decide +kernel
theorem dX8_produce_26 : decode cX8_produce 26 = .ok (.iload_n 1, 1) := by decide +kernel
theorem dX8_produce_27 : decode cX8_produce 27 = .ok (.iload_n 2, 1) := by decide +kernel
theorem dX8_produce_28 : decode cX8_produce 28 = .ok (.aload_n 0, 1) := by decide +kernel
theorem dX8_produce_29 : decode cX8_produce 29 = .ok (.getfield 12, 3) := by decide +kernel
theorem dX8_produce_32 : decode cX8_produce 32 = .ok (.getfield 75, 3) := by decide +kernel
theorem dX8_produce_35 : decode cX8_produce 35 = .ok (.invokevirtual 78, 3) := by decide +kernel
theorem dX8_produce_38 : decode cX8_produce 38 = .ok (.iload_n 3, 1) := by decide +kernel
theorem dX8_produce_39 : decode cX8_produce 39 = .ok (.ireturn, 1) := by decide +kernel
theorem dX8_fitting_0 : decode cX8_fitting 0 = .ok (.iconst 0, 1) := by decide +kernel
theorem dX8_fitting_1 : decode cX8_fitting 1 = .ok (.istore_n 3, 1) := by decide +kernel
theorem dX8_fitting_2 : decode cX8_fitting 2 = .ok (.iconst 0, 1) := by decide +kernel
theorem dX8_fitting_3 : decode cX8_fitting 3 = .ok (.istore 4, 2) := by decide +kernel
theorem dX8_fitting_5 : decode cX8_fitting 5 = .ok (.iload 4, 2) := by decide +kernel
theorem dX8_fitting_7 : decode cX8_fitting 7 = .ok (.aload_n 1, 1) := by decide +kernel
theorem dX8_fitting_8 : decode cX8_fitting 8 = .ok (.getfield 82, 3) := by decide +kernel
theorem dX8_fitting_11 : decode cX8_fitting 11 = .ok (.if_icmp .ge 38, 3) := by decide +kernel
theorem dX8_fitting_14 : decode cX8_fitting 14 = .ok (.aload_n 1, 1) := by decide +kernel
theorem dX8_fitting_15 : decode cX8_fitting 15 = .ok (.iload_n 2, 1) := by decide +kernel
theorem dX8_fitting_16 : decode cX8_fitting 16 = .ok (.aload_n 0, 1) := by decide +kernel
theorem dX8_fitting_17 : decode cX8_fitting 17 = .ok (.getfield 12, 3) := by decide +kernel
theorem dX8_fitting_20 : decode cX8_fitting 20 = .ok (.aload_n 0, 1) := by decide +kernel
theorem dX8_fitting_21 : decode cX8_fitting 21 = .ok (.getfield 32, 3) := by decide +kernel
theorem dX8_fitting_24 : decode cX8_fitting 24 = .ok (.iload 4, 2) := by decide +kernel
theorem dX8_fitting_26 : decode cX8_fitting 26 = .ok (.iaload, 1) := by decide +kernel
theorem dX8_fitting_27 : decode cX8_fitting 27 = .ok (.invokevirtual 85, 3) := by decide +kernel
theorem dX8_fitting_30 : decode cX8_fitting 30 = .ok (.invokevirtual 89, 3) := by decide +kernel
theorem dX8_fitting_33 : decode cX8_fitting 33 = .ok (.ifCond .eq 10, 3) := by decide +kernel
theorem dX8_fitting_36 : decode cX8_fitting 36 = .ok (.iload_n 3, 1) := by decide +kernel
theorem dX8_fitting_37 : decode cX8_fitting 37 = .ok (.iconst 1, 1) := by decide +kernel
theorem dX8_fitting_38 : decode cX8_fitting 38 = .ok (.iload 4, 2) := by decide +kernel
theorem dX8_fitting_40 : decode cX8_fitting 40 = .ok (.ishl, 1) := by decide +kernel
theorem dX8_fitting_41 : decode cX8_fitting 41 = .ok (.ior, 1) := by decide +kernel
theorem dX8_fitting_42 : decode cX8_fitting 42 = .ok (.istore_n 3, 1) := by decide +kernel
theorem dX8_fitting_43 : decode cX8_fitting 43 = .ok (.iinc 4 1, 3) := by decide +kernel
theorem dX8_fitting_46 : decode cX8_fitting 46 = .ok (.goto (-41), 3) := by decide +kernel
theorem dX8_fitting_49 : decode cX8_fitting 49 = .ok (.iload_n 3, 1) := by decide +kernel
theorem dX8_fitting_50 : decode cX8_fitting 50 = .ok (.ireturn, 1) := by decide +kernel
theorem dX9_init_0 : decode cX9_init 0 = .ok (.aload_n 0, 1) := by decide +kernel
theorem dX9_init_1 : decode cX9_init 1 = .ok (.invokespecial 3, 3) := by decide +kernel
theorem dX9_init_4 : decode cX9_init 4 = .ok (.aload_n 0, 1) := by decide +kernel
theorem dX9_init_5 : decode cX9_init 5 = .ok (.iconst 5, 1) := by decide +kernel
theorem dX9_init_6 : decode cX9_init 6 = .ok (.newarray .int, 2) := by decide +kernel
theorem dX9_init_8 : decode cX9_init 8 = .ok (.putfield 9, 3) := by decide +kernel
theorem dX9_init_11 : decode cX9_init 11 = .ok (.aload_n 0, 1) := by decide +kernel
theorem dX9_init_12 : decode cX9_init 12 = .ok (.bipush 6, 2) := by decide +kernel
theorem dX9_init_14 : decode cX9_init 14 = .ok (.newarray .int, 2) := by decide +kernel
theorem dX9_init_16 : decode cX9_init 16 = .ok (.putfield 15, 3) := by decide +kernel
theorem dX9_init_19 : decode cX9_init 19 = .ok (.aload_n 0, 1) := by decide +kernel
theorem dX9_init_20 : decode cX9_init 20 = .ok (.bipush 6, 2) := by decide +kernel
theorem dX9_init_22 : decode cX9_init 22 = .ok (.newarray .int, 2) := by decide +kernel
theorem dX9_init_24 : decode cX9_init 24 = .ok (.putfield 18, 3) := by decide +kernel
theorem dX9_init_27 : decode cX9_init 27 = .ok (.aload_n 0, 1) := by decide +kernel
theorem dX9_init_28 : decode cX9_init 28 = .ok (.bipush 6, 2) := by decide +kernel
theorem dX9_init_30 : decode cX9_init 30 = .ok (.newarray .int, 2) := by decide +kernel
theorem dX9_init_32 : decode cX9_init 32 = .ok (.putfield 21, 3) := by decide +kernel
theorem dX9_init_35 : decode cX9_init 35 = .ok (.aload_n 0, 1) := by decide +kernel
theorem dX9_init_36 : decode cX9_init 36 = .ok (.bipush 12, 2) := by decide +kernel
theorem dX9_init_38 : decode cX9_init 38 = .ok (.newarray .int, 2) := by decide +kernel
theorem dX9_init_40 : decode cX9_init 40 = .ok (.putfield 24, 3) := by decide +kernel
theorem dX9_init_43 : decode cX9_init 43 = .ok (.return_, 1) := by decide +kernel
theorem dX9_clear_0 : decode cX9_clear 0 = .ok (.aload_n 0, 1) := by decide +kernel
theorem dX9_clear_1 : decode cX9_clear 1 = .ok (.iconst 0, 1) := by decide +kernel
theorem dX9_clear_2 : decode cX9_clear 2 = .ok (.putfield 27, 3) := by decide +kernel
theorem dX9_clear_5 : decode cX9_clear 5 = .ok (.aload_n 0, 1) := by decide +kernel
theorem dX9_clear_6 : decode cX9_clear 6 = .ok (.iconst 0, 1) := by decide +kernel
theorem dX9_clear_7 : decode cX9_clear 7 = .ok (.putfield 31, 3) := by decide +kernel
theorem dX9_clear_10 : decode cX9_clear 10 = .ok (.aload_n 0, 1) := by decide +kernel
theorem dX9_clear_11 : decode cX9_clear 11 = .ok (.iconst 0, 1) := by decide +kernel
theorem dX9_clear_12 : decode cX9_clear 12 = .ok (.putfield 34, 3) := by decide +kernel
theorem dX9_clear_15 : decode cX9_clear 15 = .ok (.aload_n 0, 1) := by decide +kernel
theorem dX9_clear_16 : decode cX9_clear 16 = .ok (.iconst 0, 1) := by decide +kernel
theorem dX9_clear_17 : decode cX9_clear 17 = .ok (.putfield 37, 3) := by decide +kernel
theorem dX9_clear_20 : decode cX9_clear 20 = .ok (.aload_n 0, 1) := by decide +kernel
theorem dX9_clear_21 : decode cX9_clear 21 = .ok (.iconst 0, 1) := by decide +kernel
theorem dX9_clear_22 : decode cX9_clear 22 = .ok (.putfield 40, 3) := by decide +kernel
theorem dX9_clear_25 : decode cX9_clear 25 = .ok (.aload_n 0, 1) := by decide +kernel
theorem dX9_clear_26 : decode cX9_clear 26 = .ok (.iconst 0, 1) := by decide +kernel
theorem dX9_clear_27 : decode cX9_clear 27 = .ok (.putfield 43, 3) := by decide +kernel
theorem dX9_clear_30 : decode cX9_clear 30 = .ok (.return_, 1) := by decide +kernel
theorem dX9_hasNick_0 : decode cX9_hasNick 0 = .ok (.iconst 0, 1) := by decide +kernel
theorem dX9_hasNick_1 : decode cX9_hasNick 1 = .ok (.istore_n 2, 1) := by decide +kernel
theorem dX9_hasNick_2 : decode cX9_hasNick 2 = .ok (.iload_n 2, 1) := by decide +kernel
theorem dX9_hasNick_3 : decode cX9_hasNick 3 = .ok (.aload_n 0, 1) := by decide +kernel
theorem dX9_hasNick_4 : decode cX9_hasNick 4 = .ok (.getfield 34, 3) := by decide +kernel
theorem dX9_hasNick_7 : decode cX9_hasNick 7 = .ok (.if_icmp .ge 21, 3) := by decide +kernel
theorem dX9_hasNick_10 : decode cX9_hasNick 10 = .ok (.aload_n 0, 1) := by decide +kernel
theorem dX9_hasNick_11 : decode cX9_hasNick 11 = .ok (.getfield 9, 3) := by decide +kernel
theorem dX9_hasNick_14 : decode cX9_hasNick 14 = .ok (.iload_n 2, 1) := by decide +kernel
theorem dX9_hasNick_15 : decode cX9_hasNick 15 = .ok (.iaload, 1) := by decide +kernel
theorem dX9_hasNick_16 : decode cX9_hasNick 16 = .ok (.iload_n 1, 1) := by decide +kernel
theorem dX9_hasNick_17 : decode cX9_hasNick 17 = .ok (.if_icmp .ne 5, 3) := by decide +kernel
theorem dX9_hasNick_20 : decode cX9_hasNick 20 = .ok (.iconst 1, 1) := by decide +kernel
theorem dX9_hasNick_21 : decode cX9_hasNick 21 = .ok (.ireturn, 1) := by decide +kernel
theorem dX9_hasNick_22 : decode cX9_hasNick 22 = .ok (.iinc 2 1, 3) := by decide +kernel
theorem dX9_hasNick_25 : decode cX9_hasNick 25 = .ok (.goto (-23), 3) := by decide +kernel
theorem dX9_hasNick_28 : decode cX9_hasNick 28 = .ok (.iconst 0, 1) := by decide +kernel
theorem dX9_hasNick_29 : decode cX9_hasNick 29 = .ok (.ireturn, 1) := by decide +kernel
theorem dX9_bendIn_0 : decode cX9_bendIn 0 = .ok (.aload_n 0, 1) := by decide +kernel
theorem dX9_bendIn_1 : decode cX9_bendIn 1 = .ok (.getfield 43, 3) := by decide +kernel
theorem dX9_bendIn_4 : decode cX9_bendIn 4 = .ok (.iconst 1, 1) := by decide +kernel
theorem dX9_bendIn_5 : decode cX9_bendIn 5 = .ok (.if_icmp .lt 7, 3) := by decide +kernel
theorem dX9_bendIn_8 : decode cX9_bendIn 8 = .ok (.iload_n 1, 1) := by decide +kernel
theorem dX9_bendIn_9 : decode cX9_bendIn 9 = .ok (.ifCond .ge 7, 3) := by decide +kernel
theorem dX9_bendIn_12 : decode cX9_bendIn 12 = .ok (.iconst 0, 1) := by decide +kernel
theorem dX9_bendIn_13 : decode cX9_bendIn 13 = .ok (.goto 16, 3) := by decide +kernel
theorem dX9_bendIn_16 : decode cX9_bendIn 16 = .ok (.aload_n 0, 1) := by decide +kernel
theorem dX9_bendIn_17 : decode cX9_bendIn 17 = .ok (.getfield 24, 3) := by decide +kernel
theorem dX9_bendIn_20 : decode cX9_bendIn 20 = .ok (.iload_n 1, 1) := by decide +kernel
theorem dX9_bendIn_21 : decode cX9_bendIn 21 = .ok (.aload_n 0, 1) := by decide +kernel
theorem dX9_bendIn_22 : decode cX9_bendIn 22 = .ok (.getfield 43, 3) := by decide +kernel
theorem dX9_bendIn_25 : decode cX9_bendIn 25 = .ok (.irem, 1) := by decide +kernel
theorem dX9_bendIn_26 : decode cX9_bendIn 26 = .ok (.iaload, 1) := by decide +kernel
theorem dX9_bendIn_27 : decode cX9_bendIn 27 = .ok (.iconst 4, 1) := by decide +kernel
theorem dX9_bendIn_28 : decode cX9_bendIn 28 = .ok (.isub, 1) := by decide +kernel
theorem dX9_bendIn_29 : decode cX9_bendIn 29 = .ok (.ireturn, 1) := by decide +kernel
theorem dX9_asksFor_0 : decode cX9_asksFor 0 = .ok (.iload_n 2, 1) := by decide +kernel
theorem dX9_asksFor_1 : decode cX9_asksFor 1 = .ok (.aload_n 0, 1) := by decide +kernel
theorem dX9_asksFor_2 : decode cX9_asksFor 2 = .ok (.getfield 15, 3) := by decide +kernel
theorem dX9_asksFor_5 : decode cX9_asksFor 5 = .ok (.iload_n 1, 1) := by decide +kernel
theorem dX9_asksFor_6 : decode cX9_asksFor 6 = .ok (.iaload, 1) := by decide +kernel
theorem dX9_asksFor_7 : decode cX9_asksFor 7 = .ok (.if_icmp .lt 17, 3) := by decide +kernel
theorem dX9_asksFor_10 : decode cX9_asksFor 10 = .ok (.iload_n 2, 1) := by decide +kernel
theorem dX9_asksFor_11 : decode cX9_asksFor 11 = .ok (.aload_n 0, 1) := by decide +kernel
theorem dX9_asksFor_12 : decode cX9_asksFor 12 = .ok (.getfield 18, 3) := by decide +kernel
theorem dX9_asksFor_15 : decode cX9_asksFor 15 = .ok (.iload_n 1, 1) := by decide +kernel
theorem dX9_asksFor_16 : decode cX9_asksFor 16 = .ok (.iaload, 1) := by decide +kernel
theorem dX9_asksFor_17 : decode cX9_asksFor 17 = .ok (.if_icmp .gt 7, 3) := by decide +kernel
theorem dX9_asksFor_20 : decode cX9_asksFor 20 = .ok (.iconst 1, 1) := by decide +kernel
theorem dX9_asksFor_21 : decode cX9_asksFor 21 = .ok (.goto 4, 3) := by decide +kernel
theorem dX9_asksFor_24 : decode cX9_asksFor 24 = .ok (.iconst 0, 1) := by decide +kernel
theorem dX9_asksFor_25 : decode cX9_asksFor 25 = .ok (.ireturn, 1) := by decide +kernel
theorem dX10_init_0 : decode cX10_init 0 = .ok (.aload_n 0, 1) := by decide +kernel
theorem dX10_init_1 : decode cX10_init 1 = .ok (.invokespecial 3, 3) := by decide +kernel
theorem dX10_init_4 : decode cX10_init 4 = .ok (.aload_n 0, 1) := by decide +kernel
theorem dX10_init_5 : decode cX10_init 5 = .ok (.bipush 20, 2) := by decide +kernel
theorem dX10_init_7 : decode cX10_init 7 = .ok (.newarray .int, 2) := by decide +kernel
theorem dX10_init_9 : decode cX10_init 9 = .ok (.putfield 9, 3) := by decide +kernel
theorem dX10_init_12 : decode cX10_init 12 = .ok (.aload_n 0, 1) := by decide +kernel
theorem dX10_init_13 : decode cX10_init 13 = .ok (.bipush 20, 2) := by decide +kernel
theorem dX10_init_15 : decode cX10_init 15 = .ok (.newarray .int, 2) := by decide +kernel
theorem dX10_init_17 : decode cX10_init 17 = .ok (.putfield 15, 3) := by decide +kernel
theorem dX10_init_20 : decode cX10_init 20 = .ok (.aload_n 0, 1) := by decide +kernel
theorem dX10_init_21 : decode cX10_init 21 = .ok (.bipush 20, 2) := by decide +kernel
theorem dX10_init_23 : decode cX10_init 23 = .ok (.newarray .int, 2) := by decide +kernel
theorem dX10_init_25 : decode cX10_init 25 = .ok (.putfield 18, 3) := by decide +kernel
theorem dX10_init_28 : decode cX10_init 28 = .ok (.aload_n 0, 1) := by decide +kernel
theorem dX10_init_29 : decode cX10_init 29 = .ok (.bipush 20, 2) := by decide +kernel
theorem dX10_init_31 : decode cX10_init 31 = .ok (.newarray .int, 2) := by decide +kernel
theorem dX10_init_33 : decode cX10_init 33 = .ok (.putfield 21, 3) := by decide +kernel
theorem dX10_init_36 : decode cX10_init 36 = .ok (.return_, 1) := by decide +kernel
theorem dX10_copyFrom_0 : decode cX10_copyFrom 0 = .ok (.aload_n 0, 1) := by decide +kernel
theorem dX10_copyFrom_1 : decode cX10_copyFrom 1 = .ok (.aload_n 1, 1) := by decide +kernel
theorem dX10_copyFrom_2 : decode cX10_copyFrom 2 = .ok (.getfield 24, 3) := by decide +kernel
theorem dX10_copyFrom_5 : decode cX10_copyFrom 5 = .ok (.putfield 24, 3) := by decide +kernel
theorem dX10_copyFrom_8 : decode cX10_copyFrom 8 = .ok (.aload_n 1, 1) := by decide +kernel
theorem dX10_copyFrom_9 : decode cX10_copyFrom 9 = .ok (.getfield 9, 3) := by decide +kernel
theorem dX10_copyFrom_12 : decode cX10_copyFrom 12 = .ok (.iconst 0, 1) := by decide +kernel
theorem dX10_copyFrom_13 : decode cX10_copyFrom 13 = .ok (.aload_n 0, 1) := by decide +kernel
theorem dX10_copyFrom_14 : decode cX10_copyFrom 14 = .ok (.getfield 9, 3) := by decide +kernel
theorem dX10_copyFrom_17 : decode cX10_copyFrom 17 = .ok (.iconst 0, 1) := by decide +kernel
theorem dX10_copyFrom_18 : decode cX10_copyFrom 18 = .ok (.bipush 20, 2) := by decide +kernel
theorem dX10_copyFrom_20 : decode cX10_copyFrom 20 = .ok (.invokestatic 28, 3) := by decide +kernel
theorem dX10_copyFrom_23 : decode cX10_copyFrom 23 = .ok (.aload_n 1, 1) := by decide +kernel
theorem dX10_copyFrom_24 : decode cX10_copyFrom 24 = .ok (.getfield 15, 3) := by decide +kernel
theorem dX10_copyFrom_27 : decode cX10_copyFrom 27 = .ok (.iconst 0, 1) := by decide +kernel
theorem dX10_copyFrom_28 : decode cX10_copyFrom 28 = .ok (.aload_n 0, 1) := by decide +kernel
theorem dX10_copyFrom_29 : decode cX10_copyFrom 29 = .ok (.getfield 15, 3) := by decide +kernel
theorem dX10_copyFrom_32 : decode cX10_copyFrom 32 = .ok (.iconst 0, 1) := by decide +kernel
theorem dX10_copyFrom_33 : decode cX10_copyFrom 33 = .ok (.bipush 20, 2) := by decide +kernel
theorem dX10_copyFrom_35 : decode cX10_copyFrom 35 = .ok (.invokestatic 28, 3) := by decide +kernel
theorem dX10_copyFrom_38 : decode cX10_copyFrom 38 = .ok (.aload_n 1, 1) := by decide +kernel
theorem dX10_copyFrom_39 : decode cX10_copyFrom 39 = .ok (.getfield 18, 3) := by decide +kernel
theorem dX10_copyFrom_42 : decode cX10_copyFrom 42 = .ok (.iconst 0, 1) := by decide +kernel
theorem dX10_copyFrom_43 : decode cX10_copyFrom 43 = .ok (.aload_n 0, 1) := by decide +kernel
theorem dX10_copyFrom_44 : decode cX10_copyFrom 44 = .ok (.getfield 18, 3) := by decide +kernel
theorem dX10_copyFrom_47 : decode cX10_copyFrom 47 = .ok (.iconst 0, 1) := by decide +kernel
theorem dX10_copyFrom_48 : decode cX10_copyFrom 48 = .ok (.bipush 20, 2) := by decide +kernel
theorem dX10_copyFrom_50 : decode cX10_copyFrom 50 = .ok (.invokestatic 28, 3) := by decide +kernel
theorem dX10_copyFrom_53 : decode cX10_copyFrom 53 = .ok (.aload_n 1, 1) := by decide +kernel
theorem dX10_copyFrom_54 : decode cX10_copyFrom 54 = .ok (.getfield 21, 3) := by decide +kernel
theorem dX10_copyFrom_57 : decode cX10_copyFrom 57 = .ok (.iconst 0, 1) := by decide +kernel
theorem dX10_copyFrom_58 : decode cX10_copyFrom 58 = .ok (.aload_n 0, 1) := by decide +kernel
theorem dX10_copyFrom_59 : decode cX10_copyFrom 59 = .ok (.getfield 21, 3) := by decide +kernel
theorem dX10_copyFrom_62 : decode cX10_copyFrom 62 = .ok (.iconst 0, 1) := by decide +kernel
theorem dX10_copyFrom_63 : decode cX10_copyFrom 63 = .ok (.bipush 20, 2) := by decide +kernel
theorem dX10_copyFrom_65 : decode cX10_copyFrom 65 = .ok (.invokestatic 28, 3) := by decide +kernel
theorem dX10_copyFrom_68 : decode cX10_copyFrom 68 = .ok (.return_, 1) := by decide +kernel
theorem dX10_add_0 : decode cX10_add 0 = .ok (.aload_n 0, 1) := by decide +kernel
theorem dX10_add_1 : decode cX10_add 1 = .ok (.getfield 24, 3) := by decide +kernel
theorem dX10_add_4 : decode cX10_add 4 = .ok (.bipush 20, 2) := by decide +kernel
theorem dX10_add_6 : decode cX10_add 6 = .ok (.if_icmp .lt 7, 3) := by decide +kernel
theorem dX10_add_9 : decode cX10_add 9 = .ok (.aload_n 0, 1) := by decide +kernel
theorem dX10_add_10 : decode cX10_add 10 = .ok (.invokevirtual 34, 3) := by decide +kernel
theorem dX10_add_13 : decode cX10_add 13 = .ok (.aload_n 0, 1) := by decide +kernel
theorem dX10_add_14 : decode cX10_add 14 = .ok (.getfield 9, 3) := by decide +kernel
theorem dX10_add_17 : decode cX10_add 17 = .ok (.aload_n 0, 1) := by decide +kernel
theorem dX10_add_18 : decode cX10_add 18 = .ok (.getfield 24, 3) := by decide +kernel
theorem dX10_add_21 : decode cX10_add 21 = .ok (.iload_n 1, 1) := by decide +kernel
theorem dX10_add_22 : decode cX10_add 22 = .ok (.iastore, 1) := by decide +kernel
theorem dX10_add_23 : decode cX10_add 23 = .ok (.aload_n 0, 1) := by decide +kernel
theorem dX10_add_24 : decode cX10_add 24 = .ok (.getfield 15, 3) := by decide +kernel
theorem dX10_add_27 : decode cX10_add 27 = .ok (.aload_n 0, 1) := by decide +kernel
theorem dX10_add_28 : decode cX10_add 28 = .ok (.getfield 24, 3) := by decide +kernel
theorem dX10_add_31 : decode cX10_add 31 = .ok (.iload_n 2, 1) := by decide +kernel
theorem dX10_add_32 : decode cX10_add 32 = .ok (.iastore, 1) := by decide +kernel
theorem dX10_add_33 : decode cX10_add 33 = .ok (.aload_n 0, 1) := by decide +kernel
theorem dX10_add_34 : decode cX10_add 34 = .ok (.getfield 18, 3) := by decide +kernel
theorem dX10_add_37 : decode cX10_add 37 = .ok (.aload_n 0, 1) := by decide +kernel
theorem dX10_add_38 : decode cX10_add 38 = .ok (.getfield 24, 3) := by decide +kernel
theorem dX10_add_41 : decode cX10_add 41 = .ok (.iload_n 3, 1) := by decide +kernel
theorem dX10_add_42 : decode cX10_add 42 = .ok (.iastore, 1) := by decide +kernel
theorem dX10_add_43 : decode cX10_add 43 = .ok (.aload_n 0, 1) := by decide +kernel
theorem dX10_add_44 : decode cX10_add 44 = .ok (.getfield 21, 3) := by decide +kernel
theorem dX10_add_47 : decode cX10_add 47 = .ok (.aload_n 0, 1) := by decide +kernel
theorem dX10_add_48 : decode cX10_add 48 = .ok (.getfield 24, 3) := by decide +kernel
theorem dX10_add_51 : decode cX10_add 51 = .ok (.iload 4, 2) := by decide +kernel
theorem dX10_add_53 : decode cX10_add 53 = .ok (.iastore, 1) := by decide +kernel
theorem dX10_add_54 : decode cX10_add 54 = .ok (.aload_n 0, 1) := by decide +kernel
theorem dX10_add_55 : decode cX10_add 55 = .ok (.dup, 1) := by decide +kernel
theorem dX10_add_56 : decode cX10_add 56 = .ok (.getfield 24, 3) := by decide +kernel
theorem dX10_add_59 : decode cX10_add 59 = .ok (.iconst 1, 1) := by decide +kernel
theorem dX10_add_60 : decode cX10_add 60 = .ok (.iadd, 1) := by decide +kernel
theorem dX10_add_61 : decode cX10_add 61 = .ok (.putfield 24, 3) := by decide +kernel
theorem dX10_add_64 : decode cX10_add 64 = .ok (.return_, 1) := by decide +kernel
theorem dX10_loseEarliest_0 : decode cX10_loseEarliest 0 = .ok (.aload_n 0, 1) := by decide +kernel
theorem dX10_loseEarliest_1 : decode cX10_loseEarliest 1 = .ok (.getfield 9, 3) := by decide +kernel
theorem dX10_loseEarliest_4 : decode cX10_loseEarliest 4 = .ok (.iconst 1, 1) := by decide +kernel
theorem dX10_loseEarliest_5 : decode cX10_loseEarliest 5 = .ok (.aload_n 0, 1) := by decide +kernel
theorem dX10_loseEarliest_6 : decode cX10_loseEarliest 6 = .ok (.getfield 9, 3) := by decide +kernel
theorem dX10_loseEarliest_9 : decode cX10_loseEarliest 9 = .ok (.iconst 0, 1) := by decide +kernel
theorem dX10_loseEarliest_10 : decode cX10_loseEarliest 10 = .ok (.bipush 19, 2) := by decide +kernel
theorem dX10_loseEarliest_12 : decode cX10_loseEarliest 12 = .ok (.invokestatic 28, 3) := by decide +kernel
theorem dX10_loseEarliest_15 : decode cX10_loseEarliest 15 = .ok (.aload_n 0, 1) := by decide +kernel
theorem dX10_loseEarliest_16 : decode cX10_loseEarliest 16 = .ok (.getfield 15, 3) := by decide +kernel
theorem dX10_loseEarliest_19 : decode cX10_loseEarliest 19 = .ok (.iconst 1, 1) := by decide +kernel
theorem dX10_loseEarliest_20 : decode cX10_loseEarliest 20 = .ok (.aload_n 0, 1) := by decide +kernel
theorem dX10_loseEarliest_21 : decode cX10_loseEarliest 21 = .ok (.getfield 15, 3) := by decide +kernel
theorem dX10_loseEarliest_24 : decode cX10_loseEarliest 24 = .ok (.iconst 0, 1) := by decide +kernel
theorem dX10_loseEarliest_25 : decode cX10_loseEarliest 25 = .ok (.bipush 19, 2) := by decide +kernel
theorem dX10_loseEarliest_27 : decode cX10_loseEarliest 27 = .ok (.invokestatic 28, 3) := by decide +kernel
theorem dX10_loseEarliest_30 : decode cX10_loseEarliest 30 = .ok (.aload_n 0, 1) := by decide +kernel
theorem dX10_loseEarliest_31 : decode cX10_loseEarliest 31 = .ok (.getfield 18, 3) := by decide +kernel
theorem dX10_loseEarliest_34 : decode cX10_loseEarliest 34 = .ok (.iconst 1, 1) := by decide +kernel
theorem dX10_loseEarliest_35 : decode cX10_loseEarliest 35 = .ok (.aload_n 0, 1) := by decide +kernel
theorem dX10_loseEarliest_36 : decode cX10_loseEarliest 36 = .ok (.getfield 18, 3) := by decide +kernel
theorem dX10_loseEarliest_39 : decode cX10_loseEarliest 39 = .ok (.iconst 0, 1) := by decide +kernel
theorem dX10_loseEarliest_40 : decode cX10_loseEarliest 40 = .ok (.bipush 19, 2) := by decide +kernel
theorem dX10_loseEarliest_42 : decode cX10_loseEarliest 42 = .ok (.invokestatic 28, 3) := by decide +kernel
theorem dX10_loseEarliest_45 : decode cX10_loseEarliest 45 = .ok (.aload_n 0, 1) := by decide +kernel
theorem dX10_loseEarliest_46 : decode cX10_loseEarliest 46 = .ok (.getfield 21, 3) := by decide +kernel
theorem dX10_loseEarliest_49 : decode cX10_loseEarliest 49 = .ok (.iconst 1, 1) := by decide +kernel
theorem dX10_loseEarliest_50 : decode cX10_loseEarliest 50 = .ok (.aload_n 0, 1) := by decide +kernel
theorem dX10_loseEarliest_51 : decode cX10_loseEarliest 51 = .ok (.getfield 21, 3) := by decide +kernel
theorem dX10_loseEarliest_54 : decode cX10_loseEarliest 54 = .ok (.iconst 0, 1) := by decide +kernel
theorem dX10_loseEarliest_55 : decode cX10_loseEarliest 55 = .ok (.bipush 19, 2) := by decide +kernel
theorem dX10_loseEarliest_57 : decode cX10_loseEarliest 57 = .ok (.invokestatic 28, 3) := by decide +kernel
theorem dX10_loseEarliest_60 : decode cX10_loseEarliest 60 = .ok (.aload_n 0, 1) := by decide +kernel
theorem dX10_loseEarliest_61 : decode cX10_loseEarliest 61 = .ok (.bipush 19, 2) := by decide +kernel
theorem dX10_loseEarliest_63 : decode cX10_loseEarliest 63 = .ok (.putfield 24, 3) := by decide +kernel
theorem dX10_loseEarliest_66 : decode cX10_loseEarliest 66 = .ok (.return_, 1) := by decide +kernel
theorem dX10_span_0 : decode cX10_span 0 = .ok (.iload_n 0, 1) := by decide +kernel
theorem dX10_span_1 : decode cX10_span 1 = .ok (.bipush 12, 2) := by decide +kernel
theorem dX10_span_3 : decode cX10_span 3 = .ok (.iload_n 1, 1) := by decide +kernel
theorem dX10_span_4 : decode cX10_span 4 = .ok (.imul, 1) := by decide +kernel
theorem dX10_span_5 : decode cX10_span 5 = .ok (.iload_n 2, 1) := by decide +kernel
theorem dX10_span_6 : decode cX10_span 6 = .ok (.iadd, 1) := by decide +kernel
theorem dX10_span_7 : decode cX10_span 7 = .ok (.imul, 1) := by decide +kernel
theorem dX10_span_8 : decode cX10_span 8 = .ok (.bipush 12, 2) := by decide +kernel
theorem dX10_span_10 : decode cX10_span 10 = .ok (.idiv, 1) := by decide +kernel
theorem dX10_span_11 : decode cX10_span 11 = .ok (.ireturn, 1) := by decide +kernel
theorem dX10_bendIfLong_0 : decode cX10_bendIfLong 0 = .ok (.aload_n 0, 1) := by decide +kernel
theorem dX10_bendIfLong_1 : decode cX10_bendIfLong 1 = .ok (.getfield 9, 3) := by decide +kernel
theorem dX10_bendIfLong_4 : decode cX10_bendIfLong 4 = .ok (.iload_n 1, 1) := by decide +kernel
theorem dX10_bendIfLong_5 : decode cX10_bendIfLong 5 = .ok (.iaload, 1) := by decide +kernel
theorem dX10_bendIfLong_6 : decode cX10_bendIfLong 6 = .ok (.iload_n 2, 1) := by decide +kernel
theorem dX10_bendIfLong_7 : decode cX10_bendIfLong 7 = .ok (.aload_n 0, 1) := by decide +kernel
theorem dX10_bendIfLong_8 : decode cX10_bendIfLong 8 = .ok (.getfield 15, 3) := by decide +kernel
theorem dX10_bendIfLong_11 : decode cX10_bendIfLong 11 = .ok (.iload_n 1, 1) := by decide +kernel
theorem dX10_bendIfLong_12 : decode cX10_bendIfLong 12 = .ok (.iaload, 1) := by decide +kernel
theorem dX10_bendIfLong_13 : decode cX10_bendIfLong 13 = .ok (.aload_n 0, 1) := by decide +kernel
theorem dX10_bendIfLong_14 : decode cX10_bendIfLong 14 = .ok (.getfield 18, 3) := by decide +kernel
theorem dX10_bendIfLong_17 : decode cX10_bendIfLong 17 = .ok (.iload_n 1, 1) := by decide +kernel
theorem dX10_bendIfLong_18 : decode cX10_bendIfLong 18 = .ok (.iaload, 1) := by decide +kernel
theorem dX10_bendIfLong_19 : decode cX10_bendIfLong 19 = .ok (.invokestatic 37, 3) := by decide +kernel
theorem dX10_bendIfLong_22 : decode cX10_bendIfLong 22 = .ok (.isub, 1) := by decide +kernel
theorem dX10_bendIfLong_23 : decode cX10_bendIfLong 23 = .ok (.ireturn, 1) := by decide +kernel
theorem dX10_longest_0 : decode cX10_longest 0 = .ok (.iconst (-1), 1) := by decide +kernel
theorem dX10_longest_1 : decode cX10_longest 1 = .ok (.istore_n 1, 1) := by decide +kernel
theorem dX10_longest_2 : decode cX10_longest 2 = .ok (.iconst 0, 1) := by decide +kernel
theorem dX10_longest_3 : decode cX10_longest 3 = .ok (.istore_n 2, 1) := by decide +kernel
theorem dX10_longest_4 : decode cX10_longest 4 = .ok (.iload_n 2, 1) := by decide +kernel
theorem dX10_longest_5 : decode cX10_longest 5 = .ok (.aload_n 0, 1) := by decide +kernel
theorem dX10_longest_6 : decode cX10_longest 6 = .ok (.getfield 24, 3) := by decide +kernel
theorem dX10_longest_9 : decode cX10_longest 9 = .ok (.if_icmp .ge 31, 3) := by decide +kernel
theorem dX10_longest_12 : decode cX10_longest 12 = .ok (.iload_n 1, 1) := by decide +kernel
theorem dX10_longest_13 : decode cX10_longest 13 = .ok (.iconst (-1), 1) := by decide +kernel
theorem dX10_longest_14 : decode cX10_longest 14 = .ok (.if_icmp .eq 18, 3) := by decide +kernel
theorem dX10_longest_17 : decode cX10_longest 17 = .ok (.aload_n 0, 1) := by decide +kernel
theorem dX10_longest_18 : decode cX10_longest 18 = .ok (.getfield 9, 3) := by decide +kernel
theorem dX10_longest_21 : decode cX10_longest 21 = .ok (.iload_n 2, 1) := by decide +kernel
theorem dX10_longest_22 : decode cX10_longest 22 = .ok (.iaload, 1) := by decide +kernel
theorem dX10_longest_23 : decode cX10_longest 23 = .ok (.aload_n 0, 1) := by decide +kernel
theorem dX10_longest_24 : decode cX10_longest 24 = .ok (.getfield 9, 3) := by decide +kernel
theorem dX10_longest_27 : decode cX10_longest 27 = .ok (.iload_n 1, 1) := by decide +kernel
theorem dX10_longest_28 : decode cX10_longest 28 = .ok (.iaload, 1) := by decide +kernel
theorem dX10_longest_29 : decode cX10_longest 29 = .ok (.if_icmp .le 5, 3) := by decide +kernel
theorem dX10_longest_32 : decode cX10_longest 32 = .ok (.iload_n 2, 1) := by decide +kernel
theorem dX10_longest_33 : decode cX10_longest 33 = .ok (.istore_n 1, 1) := by decide +kernel
theorem dX10_longest_34 : decode cX10_longest 34 = .ok (.iinc 2 1, 3) := by decide +kernel
theorem dX10_longest_37 : decode cX10_longest 37 = .ok (.goto (-33), 3) := by decide +kernel
theorem dX10_longest_40 : decode cX10_longest 40 = .ok (.iload_n 1, 1) := by decide +kernel
theorem dX10_longest_41 : decode cX10_longest 41 = .ok (.ireturn, 1) := by decide +kernel
theorem dX10_pairOfLike_0 : decode cX10_pairOfLike 0 = .ok (.iconst 0, 1) := by decide +kernel
theorem dX10_pairOfLike_1 : decode cX10_pairOfLike 1 = .ok (.istore_n 2, 1) := by decide +kernel
theorem dX10_pairOfLike_2 : decode cX10_pairOfLike 2 = .ok (.iconst 0, 1) := by decide +kernel
theorem dX10_pairOfLike_3 : decode cX10_pairOfLike 3 = .ok (.istore_n 3, 1) := by decide +kernel
theorem dX10_pairOfLike_4 : decode cX10_pairOfLike 4 = .ok (.iload_n 3, 1) := by decide +kernel
theorem dX10_pairOfLike_5 : decode cX10_pairOfLike 5 = .ok (.aload_n 0, 1) := by decide +kernel
theorem dX10_pairOfLike_6 : decode cX10_pairOfLike 6 = .ok (.getfield 24, 3) := by decide +kernel
theorem dX10_pairOfLike_9 : decode cX10_pairOfLike 9 = .ok (.if_icmp .ge 61, 3) := by decide +kernel
theorem dX10_pairOfLike_12 : decode cX10_pairOfLike 12 = .ok (.iload_n 3, 1) := by decide +kernel
theorem dX10_pairOfLike_13 : decode cX10_pairOfLike 13 = .ok (.iconst 1, 1) := by decide +kernel
theorem dX10_pairOfLike_14 : decode cX10_pairOfLike 14 = .ok (.iadd, 1) := by decide +kernel
theorem dX10_pairOfLike_15 : decode cX10_pairOfLike 15 = .ok (.istore 4, 2) := by decide +kernel
theorem dX10_pairOfLike_17 : decode cX10_pairOfLike 17 = .ok (.iload 4, 2) := by decide +kernel
theorem dX10_pairOfLike_19 : decode cX10_pairOfLike 19 = .ok (.aload_n 0, 1) := by decide +kernel
theorem dX10_pairOfLike_20 : decode cX10_pairOfLike 20 = .ok (.getfield 24, 3) := by decide +kernel
theorem dX10_pairOfLike_23 : decode cX10_pairOfLike 23 = .ok (.if_icmp .ge 41, 3) := by decide +kernel
theorem dX10_pairOfLike_26 : decode cX10_pairOfLike 26 = .ok (.aload_n 0, 1) := by decide +kernel
theorem dX10_pairOfLike_27 : decode cX10_pairOfLike 27 = .ok (.getfield 9, 3) := by decide +kernel
theorem dX10_pairOfLike_30 : decode cX10_pairOfLike 30 = .ok (.iload_n 3, 1) := by decide +kernel
theorem dX10_pairOfLike_31 : decode cX10_pairOfLike 31 = .ok (.iaload, 1) := by decide +kernel
theorem dX10_pairOfLike_32 : decode cX10_pairOfLike 32 = .ok (.aload_n 0, 1) := by decide +kernel
theorem dX10_pairOfLike_33 : decode cX10_pairOfLike 33 = .ok (.getfield 9, 3) := by decide +kernel
theorem dX10_pairOfLike_36 : decode cX10_pairOfLike 36 = .ok (.iload 4, 2) := by decide +kernel
theorem dX10_pairOfLike_38 : decode cX10_pairOfLike 38 = .ok (.iaload, 1) := by decide +kernel
theorem dX10_pairOfLike_39 : decode cX10_pairOfLike 39 = .ok (.if_icmp .ne 19, 3) := by decide +kernel
theorem dX10_pairOfLike_42 : decode cX10_pairOfLike 42 = .ok (.iload_n 2, 1) := by decide +kernel
theorem dX10_pairOfLike_43 : decode cX10_pairOfLike 43 = .ok (.iload_n 1, 1) := by decide +kernel
theorem dX10_pairOfLike_44 : decode cX10_pairOfLike 44 = .ok (.if_icmp .ne 11, 3) := by decide +kernel
theorem dX10_pairOfLike_47 : decode cX10_pairOfLike 47 = .ok (.bipush 100, 2) := by decide +kernel
theorem dX10_pairOfLike_49 : decode cX10_pairOfLike 49 = .ok (.iload_n 3, 1) := by decide +kernel
theorem dX10_pairOfLike_50 : decode cX10_pairOfLike 50 = .ok (.imul, 1) := by decide +kernel
theorem dX10_pairOfLike_51 : decode cX10_pairOfLike 51 = .ok (.iload 4, 2) := by decide +kernel
theorem dX10_pairOfLike_53 : decode cX10_pairOfLike 53 = .ok (.iadd, 1) := by decide +kernel
theorem dX10_pairOfLike_54 : decode cX10_pairOfLike 54 = .ok (.ireturn, 1) := by decide +kernel
theorem dX10_pairOfLike_55 : decode cX10_pairOfLike 55 = .ok (.iinc 2 1, 3) := by decide +kernel
theorem dX10_pairOfLike_58 : decode cX10_pairOfLike 58 = .ok (.iinc 4 1, 3) := by decide +kernel
theorem dX10_pairOfLike_61 : decode cX10_pairOfLike 61 = .ok (.goto (-44), 3) := by decide +kernel
theorem dX10_pairOfLike_64 : decode cX10_pairOfLike 64 = .ok (.iinc 3 1, 3) := by decide +kernel
theorem dX10_pairOfLike_67 : decode cX10_pairOfLike 67 = .ok (.goto (-63), 3) := by decide +kernel
theorem dX10_pairOfLike_70 : decode cX10_pairOfLike 70 = .ok (.iload_n 1, 1) := by decide +kernel
theorem dX10_pairOfLike_71 : decode cX10_pairOfLike 71 = .ok (.iconst (-1), 1) := by decide +kernel
theorem dX10_pairOfLike_72 : decode cX10_pairOfLike 72 = .ok (.if_icmp .ne 7, 3) := by decide +kernel
theorem dX10_pairOfLike_75 : decode cX10_pairOfLike 75 = .ok (.iload_n 2, 1) := by decide +kernel
theorem dX10_pairOfLike_76 : decode cX10_pairOfLike 76 = .ok (.goto 4, 3) := by decide +kernel
theorem dX10_pairOfLike_79 : decode cX10_pairOfLike 79 = .ok (.iconst (-1), 1) := by decide +kernel
theorem dX10_pairOfLike_80 : decode cX10_pairOfLike 80 = .ok (.ireturn, 1) := by decide +kernel
theorem dJ9_abs_0f7a4_0 : decode cJ9_abs_0f7a4 0 = .ok (.iload_n 0, 1) := by decide +kernel
theorem dJ9_abs_0f7a4_1 : decode cJ9_abs_0f7a4 1 = .ok (.ifCond .ge 8, 3) := by decide +kernel
theorem dJ9_abs_0f7a4_4 : decode cJ9_abs_0f7a4 4 = .ok (.iload_n 0, 1) := by decide +kernel
theorem dJ9_abs_0f7a4_5 : decode cJ9_abs_0f7a4 5 = .ok (.ineg, 1) := by decide +kernel
theorem dJ9_abs_0f7a4_6 : decode cJ9_abs_0f7a4 6 = .ok (.goto 4, 3) := by decide +kernel
theorem dJ9_abs_0f7a4_9 : decode cJ9_abs_0f7a4 9 = .ok (.iload_n 0, 1) := by decide +kernel
theorem dJ9_abs_0f7a4_10 : decode cJ9_abs_0f7a4 10 = .ok (.ireturn, 1) := by decide +kernel
theorem dJ9_max_7cf53_0 : decode cJ9_max_7cf53 0 = .ok (.iload_n 0, 1) := by decide +kernel
theorem dJ9_max_7cf53_1 : decode cJ9_max_7cf53 1 = .ok (.iload_n 1, 1) := by decide +kernel
theorem dJ9_max_7cf53_2 : decode cJ9_max_7cf53 2 = .ok (.if_icmp .lt 7, 3) := by decide +kernel
theorem dJ9_max_7cf53_5 : decode cJ9_max_7cf53 5 = .ok (.iload_n 0, 1) := by decide +kernel
theorem dJ9_max_7cf53_6 : decode cJ9_max_7cf53 6 = .ok (.goto 4, 3) := by decide +kernel
theorem dJ9_max_7cf53_9 : decode cJ9_max_7cf53 9 = .ok (.iload_n 1, 1) := by decide +kernel
theorem dJ9_max_7cf53_10 : decode cJ9_max_7cf53 10 = .ok (.ireturn, 1) := by decide +kernel
theorem dJ9_min_7cf53_0 : decode cJ9_min_7cf53 0 = .ok (.iload_n 0, 1) := by decide +kernel
theorem dJ9_min_7cf53_1 : decode cJ9_min_7cf53 1 = .ok (.iload_n 1, 1) := by decide +kernel
theorem dJ9_min_7cf53_2 : decode cJ9_min_7cf53 2 = .ok (.if_icmp .gt 7, 3) := by decide +kernel
theorem dJ9_min_7cf53_5 : decode cJ9_min_7cf53 5 = .ok (.iload_n 0, 1) := by decide +kernel
theorem dJ9_min_7cf53_6 : decode cJ9_min_7cf53 6 = .ok (.goto 4, 3) := by decide +kernel
theorem dJ9_min_7cf53_9 : decode cJ9_min_7cf53 9 = .ok (.iload_n 1, 1) := by decide +kernel
theorem dJ9_min_7cf53_10 : decode cJ9_min_7cf53 10 = .ok (.ireturn, 1) := by decide +kernel
theorem dJ7_fill_53178_0 : decode cJ7_fill_53178 0 = .ok (.iconst 0, 1) := by decide +kernel
theorem dJ7_fill_53178_1 : decode cJ7_fill_53178 1 = .ok (.istore_n 2, 1) := by decide +kernel
theorem dJ7_fill_53178_2 : decode cJ7_fill_53178 2 = .ok (.aload_n 0, 1) := by decide +kernel
theorem dJ7_fill_53178_3 : decode cJ7_fill_53178 3 = .ok (.arraylength, 1) := by decide +kernel
theorem dJ7_fill_53178_4 : decode cJ7_fill_53178 4 = .ok (.istore_n 3, 1) := by decide +kernel
theorem dJ7_fill_53178_5 : decode cJ7_fill_53178 5 = .ok (.iload_n 2, 1) := by decide +kernel
theorem dJ7_fill_53178_6 : decode cJ7_fill_53178 6 = .ok (.iload_n 3, 1) := by decide +kernel
theorem dJ7_fill_53178_7 : decode cJ7_fill_53178 7 = .ok (.if_icmp .ge 13, 3) := by decide +kernel
theorem dJ7_fill_53178_10 : decode cJ7_fill_53178 10 = .ok (.aload_n 0, 1) := by decide +kernel
theorem dJ7_fill_53178_11 : decode cJ7_fill_53178 11 = .ok (.iload_n 2, 1) := by decide +kernel
theorem dJ7_fill_53178_12 : decode cJ7_fill_53178 12 = .ok (.iload_n 1, 1) := by decide +kernel
theorem dJ7_fill_53178_13 : decode cJ7_fill_53178 13 = .ok (.iastore, 1) := by decide +kernel
theorem dJ7_fill_53178_14 : decode cJ7_fill_53178 14 = .ok (.iinc 2 1, 3) := by decide +kernel
theorem dJ7_fill_53178_17 : decode cJ7_fill_53178 17 = .ok (.goto (-12), 3) := by decide +kernel
theorem dJ7_fill_53178_20 : decode cJ7_fill_53178 20 = .ok (.return_, 1) := by decide +kernel
