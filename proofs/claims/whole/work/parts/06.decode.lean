theorem dX12_shorten_55 : decode cX12_shorten 55 = .ok (.bipush 74, 2) := by decide +kernel
theorem dX12_shorten_57 : decode cX12_shorten 57 = .ok (.iload_n 1, 1) := by decide +kernel
theorem dX12_shorten_58 : decode cX12_shorten 58 = .ok (.iadd, 1) := by decide +kernel
theorem dX12_shorten_59 : decode cX12_shorten 59 = .ok (.iaload, 1) := by decide +kernel
theorem dX12_shorten_60 : decode cX12_shorten 60 = .ok (.iload_n 2, 1) := by decide +kernel
theorem dX12_shorten_61 : decode cX12_shorten 61 = .ok (.isub, 1) := by decide +kernel
theorem dX12_shorten_62 : decode cX12_shorten 62 = .ok (.goto 4, 3) := by decide +kernel
theorem dX12_shorten_65 : decode cX12_shorten 65 = .ok (.iconst 1, 1) := by decide +kernel
theorem dX12_shorten_66 : decode cX12_shorten 66 = .ok (.iastore, 1) := by decide +kernel
theorem dX12_shorten_67 : decode cX12_shorten 67 = .ok (.aload_n 0, 1) := by decide +kernel
theorem dX12_shorten_68 : decode cX12_shorten 68 = .ok (.getfield 25, 3) := by decide +kernel
theorem dX12_shorten_71 : decode cX12_shorten 71 = .ok (.bipush 74, 2) := by decide +kernel
theorem dX12_shorten_73 : decode cX12_shorten 73 = .ok (.iload_n 1, 1) := by decide +kernel
theorem dX12_shorten_74 : decode cX12_shorten 74 = .ok (.iadd, 1) := by decide +kernel
theorem dX12_shorten_75 : decode cX12_shorten 75 = .ok (.iaload, 1) := by decide +kernel
theorem dX12_shorten_76 : decode cX12_shorten 76 = .ok (.ireturn, 1) := by decide +kernel
theorem dX12_draw_0 : decode cX12_draw 0 = .ok (.aload_n 0, 1) := by decide +kernel
theorem dX12_draw_1 : decode cX12_draw 1 = .ok (.aload_n 0, 1) := by decide +kernel
theorem dX12_draw_2 : decode cX12_draw 2 = .ok (.getfield 267, 3) := by decide +kernel
theorem dX12_draw_5 : decode cX12_draw 5 = .ok (.i2l, 1) := by decide +kernel
theorem dX12_draw_6 : decode cX12_draw 6 = .ok (.ldc2_w 270, 3) := by decide +kernel
theorem dX12_draw_9 : decode cX12_draw 9 = .ok (.lmul, 1) := by decide +kernel
theorem dX12_draw_10 : decode cX12_draw 10 = .ok (.ldc2_w 272, 3) := by decide +kernel
theorem dX12_draw_13 : decode cX12_draw 13 = .ok (.ladd, 1) := by decide +kernel
theorem dX12_draw_14 : decode cX12_draw 14 = .ok (.ldc2_w 274, 3) := by decide +kernel
theorem dX12_draw_17 : decode cX12_draw 17 = .ok (.lrem, 1) := by decide +kernel
theorem dX12_draw_18 : decode cX12_draw 18 = .ok (.l2i, 1) := by decide +kernel
theorem dX12_draw_19 : decode cX12_draw 19 = .ok (.putfield 267, 3) := by decide +kernel
theorem dX12_draw_22 : decode cX12_draw 22 = .ok (.aload_n 0, 1) := by decide +kernel
theorem dX12_draw_23 : decode cX12_draw 23 = .ok (.getfield 267, 3) := by decide +kernel
theorem dX12_draw_26 : decode cX12_draw 26 = .ok (.ldc_w 276, 3) := by decide +kernel
theorem dX12_draw_29 : decode cX12_draw 29 = .ok (.idiv, 1) := by decide +kernel
theorem dX12_draw_30 : decode cX12_draw 30 = .ok (.iload_n 1, 1) := by decide +kernel
theorem dX12_draw_31 : decode cX12_draw 31 = .ok (.irem, 1) := by decide +kernel
theorem dX12_draw_32 : decode cX12_draw 32 = .ok (.ireturn, 1) := by decide +kernel
theorem dX12_chance_0 : decode cX12_chance 0 = .ok (.aload_n 0, 1) := by decide +kernel
theorem dX12_chance_1 : decode cX12_chance 1 = .ok (.bipush 8, 2) := by decide +kernel
theorem dX12_chance_3 : decode cX12_chance 3 = .ok (.invokevirtual 277, 3) := by decide +kernel
theorem dX12_chance_6 : decode cX12_chance 6 = .ok (.istore_n 1, 1) := by decide +kernel
theorem dX12_chance_7 : decode cX12_chance 7 = .ok (.iload_n 1, 1) := by decide +kernel
theorem dX12_chance_8 : decode cX12_chance 8 = .ok (.iconst 2, 1) := by decide +kernel
theorem dX12_chance_9 : decode cX12_chance 9 = .ok (.if_icmp .ge 15, 3) := by decide +kernel
theorem dX12_chance_12 : decode cX12_chance 12 = .ok (.aload_n 0, 1) := by decide +kernel
theorem dX12_chance_13 : decode cX12_chance 13 = .ok (.getfield 25, 3) := by decide +kernel
theorem dX12_chance_16 : decode cX12_chance 16 = .ok (.iconst 2, 1) := by decide +kernel
theorem dX12_chance_17 : decode cX12_chance 17 = .ok (.iconst 1, 1) := by decide +kernel
theorem dX12_chance_18 : decode cX12_chance 18 = .ok (.iload_n 1, 1) := by decide +kernel
theorem dX12_chance_19 : decode cX12_chance 19 = .ok (.isub, 1) := by decide +kernel
theorem dX12_chance_20 : decode cX12_chance 20 = .ok (.iastore, 1) := by decide +kernel
theorem dX12_chance_21 : decode cX12_chance 21 = .ok (.goto 80, 3) := by decide +kernel
theorem dX12_chance_24 : decode cX12_chance 24 = .ok (.iload_n 1, 1) := by decide +kernel
theorem dX12_chance_25 : decode cX12_chance 25 = .ok (.iconst 2, 1) := by decide +kernel
theorem dX12_chance_26 : decode cX12_chance 26 = .ok (.if_icmp .ne 41, 3) := by decide +kernel
theorem dX12_chance_29 : decode cX12_chance 29 = .ok (.aload_n 0, 1) := by decide +kernel
theorem dX12_chance_30 : decode cX12_chance 30 = .ok (.bipush 21, 2) := by decide +kernel
theorem dX12_chance_32 : decode cX12_chance 32 = .ok (.invokevirtual 277, 3) := by decide +kernel
theorem dX12_chance_35 : decode cX12_chance 35 = .ok (.bipush 10, 2) := by decide +kernel
theorem dX12_chance_37 : decode cX12_chance 37 = .ok (.isub, 1) := by decide +kernel
theorem dX12_chance_38 : decode cX12_chance 38 = .ok (.istore_n 2, 1) := by decide +kernel
theorem dX12_chance_39 : decode cX12_chance 39 = .ok (.aload_n 0, 1) := by decide +kernel
theorem dX12_chance_40 : decode cX12_chance 40 = .ok (.getfield 25, 3) := by decide +kernel
theorem dX12_chance_43 : decode cX12_chance 43 = .ok (.iconst 1, 1) := by decide +kernel
theorem dX12_chance_44 : decode cX12_chance 44 = .ok (.aload_n 0, 1) := by decide +kernel
theorem dX12_chance_45 : decode cX12_chance 45 = .ok (.getfield 25, 3) := by decide +kernel
theorem dX12_chance_48 : decode cX12_chance 48 = .ok (.iconst 2, 1) := by decide +kernel
theorem dX12_chance_49 : decode cX12_chance 49 = .ok (.iaload, 1) := by decide +kernel
theorem dX12_chance_50 : decode cX12_chance 50 = .ok (.ifCond .ne 7, 3) := by decide +kernel
theorem dX12_chance_53 : decode cX12_chance 53 = .ok (.iload_n 2, 1) := by decide +kernel
theorem dX12_chance_54 : decode cX12_chance 54 = .ok (.goto 9, 3) := by decide +kernel
theorem dX12_chance_57 : decode cX12_chance 57 = .ok (.aload_n 0, 1) := by decide +kernel
theorem dX12_chance_58 : decode cX12_chance 58 = .ok (.getfield 25, 3) := by decide +kernel
theorem dX12_chance_61 : decode cX12_chance 61 = .ok (.iconst 1, 1) := by decide +kernel
theorem dX12_chance_62 : decode cX12_chance 62 = .ok (.iaload, 1) := by decide +kernel
theorem dX12_chance_63 : decode cX12_chance 63 = .ok (.iastore, 1) := by decide +kernel
theorem dX12_chance_64 : decode cX12_chance 64 = .ok (.goto 37, 3) := by decide +kernel
theorem dX12_chance_67 : decode cX12_chance 67 = .ok (.iload_n 1, 1) := by decide +kernel
theorem dX12_chance_68 : decode cX12_chance 68 = .ok (.iconst 3, 1) := by decide +kernel
theorem dX12_chance_69 : decode cX12_chance 69 = .ok (.if_icmp .ne 32, 3) := by decide +kernel
theorem dX12_chance_72 : decode cX12_chance 72 = .ok (.aload_n 0, 1) := by decide +kernel
theorem dX12_chance_73 : decode cX12_chance 73 = .ok (.bipush 10, 2) := by decide +kernel
theorem dX12_chance_75 : decode cX12_chance 75 = .ok (.invokevirtual 277, 3) := by decide +kernel
theorem dX12_chance_78 : decode cX12_chance 78 = .ok (.istore_n 2, 1) := by decide +kernel
theorem dX12_chance_79 : decode cX12_chance 79 = .ok (.aload_n 0, 1) := by decide +kernel
theorem dX12_chance_80 : decode cX12_chance 80 = .ok (.getfield 25, 3) := by decide +kernel
theorem dX12_chance_83 : decode cX12_chance 83 = .ok (.iconst 2, 1) := by decide +kernel
theorem dX12_chance_84 : decode cX12_chance 84 = .ok (.iaload, 1) := by decide +kernel
theorem dX12_chance_85 : decode cX12_chance 85 = .ok (.ifCond .ne 14, 3) := by decide +kernel
theorem dX12_chance_88 : decode cX12_chance 88 = .ok (.aload_n 0, 1) := by decide +kernel
theorem dX12_chance_89 : decode cX12_chance 89 = .ok (.bipush 12, 2) := by decide +kernel
theorem dX12_chance_91 : decode cX12_chance 91 = .ok (.iload_n 2, 1) := by decide +kernel
theorem dX12_chance_92 : decode cX12_chance 92 = .ok (.imul, 1) := by decide +kernel
theorem dX12_chance_93 : decode cX12_chance 93 = .ok (.invokevirtual 250, 3) := by decide +kernel
theorem dX12_chance_96 : decode cX12_chance 96 = .ok (.goto 4, 3) := by decide +kernel
theorem dX12_chance_99 : decode cX12_chance 99 = .ok (.iconst 0, 1) := by decide +kernel
theorem dX12_chance_100 : decode cX12_chance 100 = .ok (.istore_n 3, 1) := by decide +kernel
theorem dX12_chance_101 : decode cX12_chance 101 = .ok (.return_, 1) := by decide +kernel
theorem dX12_drift_0 : decode cX12_drift 0 = .ok (.aload_n 0, 1) := by decide +kernel
theorem dX12_drift_1 : decode cX12_drift 1 = .ok (.iload_n 1, 1) := by decide +kernel
theorem dX12_drift_2 : decode cX12_drift 2 = .ok (.invokevirtual 231, 3) := by decide +kernel
theorem dX12_drift_5 : decode cX12_drift 5 = .ok (.istore_n 2, 1) := by decide +kernel
theorem dX12_drift_6 : decode cX12_drift 6 = .ok (.iload_n 2, 1) := by decide +kernel
theorem dX12_drift_7 : decode cX12_drift 7 = .ok (.ifCond .eq 5, 3) := by decide +kernel
theorem dX12_drift_10 : decode cX12_drift 10 = .ok (.iload_n 2, 1) := by decide +kernel
theorem dX12_drift_11 : decode cX12_drift 11 = .ok (.ireturn, 1) := by decide +kernel
theorem dX12_drift_12 : decode cX12_drift 12 = .ok (.aload_n 0, 1) := by decide +kernel
theorem dX12_drift_13 : decode cX12_drift 13 = .ok (.invokevirtual 234, 3) := by decide +kernel
theorem dX12_drift_16 : decode cX12_drift 16 = .ok (.iconst 0, 1) := by decide +kernel
theorem dX12_drift_17 : decode cX12_drift 17 = .ok (.istore_n 3, 1) := by decide +kernel
theorem dX12_drift_18 : decode cX12_drift 18 = .ok (.iload_n 3, 1) := by decide +kernel
theorem dX12_drift_19 : decode cX12_drift 19 = .ok (.iload_n 1, 1) := by decide +kernel
theorem dX12_drift_20 : decode cX12_drift 20 = .ok (.if_icmp .ge 17, 3) := by decide +kernel
theorem dX12_drift_23 : decode cX12_drift 23 = .ok (.aload_n 0, 1) := by decide +kernel
theorem dX12_drift_24 : decode cX12_drift 24 = .ok (.invokevirtual 280, 3) := by decide +kernel
theorem dX12_drift_27 : decode cX12_drift 27 = .ok (.aload_n 0, 1) := by decide +kernel
theorem dX12_drift_28 : decode cX12_drift 28 = .ok (.invokevirtual 237, 3) := by decide +kernel
theorem dX12_drift_31 : decode cX12_drift 31 = .ok (.iinc 3 1, 3) := by decide +kernel
theorem dX12_drift_34 : decode cX12_drift 34 = .ok (.goto (-16), 3) := by decide +kernel
theorem dX12_drift_37 : decode cX12_drift 37 = .ok (.aload_n 0, 1) := by decide +kernel
theorem dX12_drift_38 : decode cX12_drift 38 = .ok (.getfield 25, 3) := by decide +kernel
theorem dX12_drift_41 : decode cX12_drift 41 = .ok (.iconst 4, 1) := by decide +kernel
theorem dX12_drift_42 : decode cX12_drift 42 = .ok (.iaload, 1) := by decide +kernel
theorem dX12_drift_43 : decode cX12_drift 43 = .ok (.ireturn, 1) := by decide +kernel
theorem dX12_undo_0 : decode cX12_undo 0 = .ok (.aload_n 0, 1) := by decide +kernel
theorem dX12_undo_1 : decode cX12_undo 1 = .ok (.getfield 195, 3) := by decide +kernel
theorem dX12_undo_4 : decode cX12_undo 4 = .ok (.ifCond .ne 6, 3) := by decide +kernel
theorem dX12_undo_7 : decode cX12_undo 7 = .ok (.ldc 212, 2) := by decide +kernel
theorem dX12_undo_9 : decode cX12_undo 9 = .ok (.ireturn, 1) := by decide +kernel
theorem dX12_undo_10 : decode cX12_undo 10 = .ok (.aload_n 0, 1) := by decide +kernel
theorem dX12_undo_11 : decode cX12_undo 11 = .ok (.dup, 1) := by decide +kernel
theorem dX12_undo_12 : decode cX12_undo 12 = .ok (.getfield 195, 3) := by decide +kernel
theorem dX12_undo_15 : decode cX12_undo 15 = .ok (.iconst 1, 1) := by decide +kernel
theorem dX12_undo_16 : decode cX12_undo 16 = .ok (.isub, 1) := by decide +kernel
theorem dX12_undo_17 : decode cX12_undo 17 = .ok (.putfield 195, 3) := by decide +kernel
theorem dX12_undo_20 : decode cX12_undo 20 = .ok (.iconst 0, 1) := by decide +kernel
theorem dX12_undo_21 : decode cX12_undo 21 = .ok (.istore_n 1, 1) := by decide +kernel
theorem dX12_undo_22 : decode cX12_undo 22 = .ok (.iload_n 1, 1) := by decide +kernel
theorem dX12_undo_23 : decode cX12_undo 23 = .ok (.bipush 80, 2) := by decide +kernel
theorem dX12_undo_25 : decode cX12_undo 25 = .ok (.if_icmp .ge 29, 3) := by decide +kernel
theorem dX12_undo_28 : decode cX12_undo 28 = .ok (.aload_n 0, 1) := by decide +kernel
theorem dX12_undo_29 : decode cX12_undo 29 = .ok (.getfield 25, 3) := by decide +kernel
theorem dX12_undo_32 : decode cX12_undo 32 = .ok (.iload_n 1, 1) := by decide +kernel
theorem dX12_undo_33 : decode cX12_undo 33 = .ok (.aload_n 0, 1) := by decide +kernel
theorem dX12_undo_34 : decode cX12_undo 34 = .ok (.getfield 50, 3) := by decide +kernel
theorem dX12_undo_37 : decode cX12_undo 37 = .ok (.bipush 80, 2) := by decide +kernel
theorem dX12_undo_39 : decode cX12_undo 39 = .ok (.aload_n 0, 1) := by decide +kernel
theorem dX12_undo_40 : decode cX12_undo 40 = .ok (.getfield 195, 3) := by decide +kernel
theorem dX12_undo_43 : decode cX12_undo 43 = .ok (.imul, 1) := by decide +kernel
theorem dX12_undo_44 : decode cX12_undo 44 = .ok (.iload_n 1, 1) := by decide +kernel
theorem dX12_undo_45 : decode cX12_undo 45 = .ok (.iadd, 1) := by decide +kernel
theorem dX12_undo_46 : decode cX12_undo 46 = .ok (.iaload, 1) := by decide +kernel
theorem dX12_undo_47 : decode cX12_undo 47 = .ok (.iastore, 1) := by decide +kernel
theorem dX12_undo_48 : decode cX12_undo 48 = .ok (.iinc 1 1, 3) := by decide +kernel
theorem dX12_undo_51 : decode cX12_undo 51 = .ok (.goto (-29), 3) := by decide +kernel
theorem dX12_undo_54 : decode cX12_undo 54 = .ok (.aload_n 0, 1) := by decide +kernel
theorem dX12_undo_55 : decode cX12_undo 55 = .ok (.getfield 195, 3) := by decide +kernel
theorem dX12_undo_58 : decode cX12_undo 58 = .ok (.ireturn, 1) := by decide +kernel
theorem dX12_longBehind_0 : decode cX12_longBehind 0 = .ok (.aload_n 0, 1) := by decide +kernel
theorem dX12_longBehind_1 : decode cX12_longBehind 1 = .ok (.getfield 25, 3) := by decide +kernel
theorem dX12_longBehind_4 : decode cX12_longBehind 4 = .ok (.iconst 0, 1) := by decide +kernel
theorem dX12_longBehind_5 : decode cX12_longBehind 5 = .ok (.iaload, 1) := by decide +kernel
theorem dX12_longBehind_6 : decode cX12_longBehind 6 = .ok (.istore_n 2, 1) := by decide +kernel
theorem dX12_longBehind_7 : decode cX12_longBehind 7 = .ok (.iconst 0, 1) := by decide +kernel
theorem dX12_longBehind_8 : decode cX12_longBehind 8 = .ok (.istore_n 3, 1) := by decide +kernel
theorem dX12_longBehind_9 : decode cX12_longBehind 9 = .ok (.iload_n 3, 1) := by decide +kernel
theorem dX12_longBehind_10 : decode cX12_longBehind 10 = .ok (.iload_n 1, 1) := by decide +kernel
theorem dX12_longBehind_11 : decode cX12_longBehind 11 = .ok (.if_icmp .ge 28, 3) := by decide +kernel
theorem dX12_longBehind_14 : decode cX12_longBehind 14 = .ok (.iload_n 2, 1) := by decide +kernel
theorem dX12_longBehind_15 : decode cX12_longBehind 15 = .ok (.aload_n 0, 1) := by decide +kernel
theorem dX12_longBehind_16 : decode cX12_longBehind 16 = .ok (.getfield 170, 3) := by decide +kernel
theorem dX12_longBehind_19 : decode cX12_longBehind 19 = .ok (.if_icmp .le 12, 3) := by decide +kernel
theorem dX12_longBehind_22 : decode cX12_longBehind 22 = .ok (.iload_n 2, 1) := by decide +kernel
theorem dX12_longBehind_23 : decode cX12_longBehind 23 = .ok (.aload_n 0, 1) := by decide +kernel
theorem dX12_longBehind_24 : decode cX12_longBehind 24 = .ok (.getfield 170, 3) := by decide +kernel
theorem dX12_longBehind_27 : decode cX12_longBehind 27 = .ok (.isub, 1) := by decide +kernel
theorem dX12_longBehind_28 : decode cX12_longBehind 28 = .ok (.goto 4, 3) := by decide +kernel
theorem dX12_longBehind_31 : decode cX12_longBehind 31 = .ok (.iconst 1, 1) := by decide +kernel
theorem dX12_longBehind_32 : decode cX12_longBehind 32 = .ok (.istore_n 2, 1) := by decide +kernel
theorem dX12_longBehind_33 : decode cX12_longBehind 33 = .ok (.iinc 3 1, 3) := by decide +kernel
theorem dX12_longBehind_36 : decode cX12_longBehind 36 = .ok (.goto (-27), 3) := by decide +kernel
theorem dX12_longBehind_39 : decode cX12_longBehind 39 = .ok (.iload_n 2, 1) := by decide +kernel
theorem dX12_longBehind_40 : decode cX12_longBehind 40 = .ok (.ireturn, 1) := by decide +kernel
theorem dX12_warpBehind_0 : decode cX12_warpBehind 0 = .ok (.aload_n 0, 1) := by decide +kernel
theorem dX12_warpBehind_1 : decode cX12_warpBehind 1 = .ok (.getfield 25, 3) := by decide +kernel
theorem dX12_warpBehind_4 : decode cX12_warpBehind 4 = .ok (.iconst 1, 1) := by decide +kernel
theorem dX12_warpBehind_5 : decode cX12_warpBehind 5 = .ok (.iaload, 1) := by decide +kernel
theorem dX12_warpBehind_6 : decode cX12_warpBehind 6 = .ok (.istore_n 2, 1) := by decide +kernel
theorem dX12_warpBehind_7 : decode cX12_warpBehind 7 = .ok (.iconst 0, 1) := by decide +kernel
theorem dX12_warpBehind_8 : decode cX12_warpBehind 8 = .ok (.istore_n 3, 1) := by decide +kernel
theorem dX12_warpBehind_9 : decode cX12_warpBehind 9 = .ok (.iload_n 3, 1) := by decide +kernel
theorem dX12_warpBehind_10 : decode cX12_warpBehind 10 = .ok (.iload_n 1, 1) := by decide +kernel
theorem dX12_warpBehind_11 : decode cX12_warpBehind 11 = .ok (.if_icmp .ge 27, 3) := by decide +kernel
theorem dX12_warpBehind_14 : decode cX12_warpBehind 14 = .ok (.iload_n 2, 1) := by decide +kernel
theorem dX12_warpBehind_15 : decode cX12_warpBehind 15 = .ok (.aload_n 0, 1) := by decide +kernel
theorem dX12_warpBehind_16 : decode cX12_warpBehind 16 = .ok (.aload_n 0, 1) := by decide +kernel
theorem dX12_warpBehind_17 : decode cX12_warpBehind 17 = .ok (.getfield 25, 3) := by decide +kernel
theorem dX12_warpBehind_20 : decode cX12_warpBehind 20 = .ok (.iconst 3, 1) := by decide +kernel
theorem dX12_warpBehind_21 : decode cX12_warpBehind 21 = .ok (.iaload, 1) := by decide +kernel
theorem dX12_warpBehind_22 : decode cX12_warpBehind 22 = .ok (.iload_n 3, 1) := by decide +kernel
theorem dX12_warpBehind_23 : decode cX12_warpBehind 23 = .ok (.iadd, 1) := by decide +kernel
theorem dX12_warpBehind_24 : decode cX12_warpBehind 24 = .ok (.invokevirtual 223, 3) := by decide +kernel
theorem dX12_warpBehind_27 : decode cX12_warpBehind 27 = .ok (.iadd, 1) := by decide +kernel
theorem dX12_warpBehind_28 : decode cX12_warpBehind 28 = .ok (.invokestatic 226, 3) := by decide +kernel
theorem dX12_warpBehind_31 : decode cX12_warpBehind 31 = .ok (.istore_n 2, 1) := by decide +kernel
theorem dX12_warpBehind_32 : decode cX12_warpBehind 32 = .ok (.iinc 3 1, 3) := by decide +kernel
theorem dX12_warpBehind_35 : decode cX12_warpBehind 35 = .ok (.goto (-26), 3) := by decide +kernel
theorem dX12_warpBehind_38 : decode cX12_warpBehind 38 = .ok (.iload_n 2, 1) := by decide +kernel
theorem dX12_warpBehind_39 : decode cX12_warpBehind 39 = .ok (.ireturn, 1) := by decide +kernel
theorem dX12_longAt_0 : decode cX12_longAt 0 = .ok (.iload_n 1, 1) := by decide +kernel
theorem dX12_longAt_1 : decode cX12_longAt 1 = .ok (.i2l, 1) := by decide +kernel
theorem dX12_longAt_2 : decode cX12_longAt 2 = .ok (.lconst 0, 1) := by decide +kernel
theorem dX12_longAt_3 : decode cX12_longAt 3 = .ok (.ldc2_w 229, 3) := by decide +kernel
theorem dX12_longAt_6 : decode cX12_longAt 6 = .ok (.invokestatic 87, 3) := by decide +kernel
theorem dX12_longAt_9 : decode cX12_longAt 9 = .ok (.ifCond .eq 13, 3) := by decide +kernel
theorem dX12_longAt_12 : decode cX12_longAt 12 = .ok (.iload_n 2, 1) := by decide +kernel
theorem dX12_longAt_13 : decode cX12_longAt 13 = .ok (.i2l, 1) := by decide +kernel
theorem dX12_longAt_14 : decode cX12_longAt 14 = .ok (.lconst 0, 1) := by decide +kernel
theorem dX12_longAt_15 : decode cX12_longAt 15 = .ok (.lconst 1, 1) := by decide +kernel
theorem dX12_longAt_16 : decode cX12_longAt 16 = .ok (.invokestatic 87, 3) := by decide +kernel
theorem dX12_longAt_19 : decode cX12_longAt 19 = .ok (.ifCond .ne 6, 3) := by decide +kernel
theorem dX12_longAt_22 : decode cX12_longAt 22 = .ok (.ldc 96, 2) := by decide +kernel
theorem dX12_longAt_24 : decode cX12_longAt 24 = .ok (.ireturn, 1) := by decide +kernel
theorem dX12_longAt_25 : decode cX12_longAt 25 = .ok (.aload_n 0, 1) := by decide +kernel
theorem dX12_longAt_26 : decode cX12_longAt 26 = .ok (.invokevirtual 208, 3) := by decide +kernel
theorem dX12_longAt_29 : decode cX12_longAt 29 = .ok (.ifCond .ne 6, 3) := by decide +kernel
theorem dX12_longAt_32 : decode cX12_longAt 32 = .ok (.ldc 212, 2) := by decide +kernel
theorem dX12_longAt_34 : decode cX12_longAt 34 = .ok (.ireturn, 1) := by decide +kernel
theorem dX12_longAt_35 : decode cX12_longAt 35 = .ok (.iload_n 2, 1) := by decide +kernel
theorem dX12_longAt_36 : decode cX12_longAt 36 = .ok (.ifCond .ne 11, 3) := by decide +kernel
theorem dX12_longAt_39 : decode cX12_longAt 39 = .ok (.aload_n 0, 1) := by decide +kernel
theorem dX12_longAt_40 : decode cX12_longAt 40 = .ok (.iload_n 1, 1) := by decide +kernel
theorem dX12_longAt_41 : decode cX12_longAt 41 = .ok (.invokevirtual 283, 3) := by decide +kernel
theorem dX12_longAt_44 : decode cX12_longAt 44 = .ok (.goto 12, 3) := by decide +kernel
theorem dX12_longAt_47 : decode cX12_longAt 47 = .ok (.aload_n 0, 1) := by decide +kernel
theorem dX12_longAt_48 : decode cX12_longAt 48 = .ok (.iload_n 1, 1) := by decide +kernel
theorem dX12_longAt_49 : decode cX12_longAt 49 = .ok (.invokevirtual 286, 3) := by decide +kernel
theorem dX12_longAt_52 : decode cX12_longAt 52 = .ok (.sipush 1000, 3) := by decide +kernel
theorem dX12_longAt_55 : decode cX12_longAt 55 = .ok (.iadd, 1) := by decide +kernel
theorem dX12_longAt_56 : decode cX12_longAt 56 = .ok (.ireturn, 1) := by decide +kernel
theorem dX12_firstShort_0 : decode cX12_firstShort 0 = .ok (.iload_n 1, 1) := by decide +kernel
theorem dX12_firstShort_1 : decode cX12_firstShort 1 = .ok (.i2l, 1) := by decide +kernel
theorem dX12_firstShort_2 : decode cX12_firstShort 2 = .ok (.lconst 1, 1) := by decide +kernel
theorem dX12_firstShort_3 : decode cX12_firstShort 3 = .ok (.ldc2_w 289, 3) := by decide +kernel
theorem dX12_firstShort_6 : decode cX12_firstShort 6 = .ok (.invokestatic 87, 3) := by decide +kernel
theorem dX12_firstShort_9 : decode cX12_firstShort 9 = .ok (.ifCond .ne 6, 3) := by decide +kernel
theorem dX12_firstShort_12 : decode cX12_firstShort 12 = .ok (.ldc 96, 2) := by decide +kernel
theorem dX12_firstShort_14 : decode cX12_firstShort 14 = .ok (.ireturn, 1) := by decide +kernel
theorem dX12_firstShort_15 : decode cX12_firstShort 15 = .ok (.aload_n 0, 1) := by decide +kernel
theorem dX12_firstShort_16 : decode cX12_firstShort 16 = .ok (.invokevirtual 208, 3) := by decide +kernel
theorem dX12_firstShort_19 : decode cX12_firstShort 19 = .ok (.ifCond .ne 6, 3) := by decide +kernel
theorem dX12_firstShort_22 : decode cX12_firstShort 22 = .ok (.ldc 212, 2) := by decide +kernel
theorem dX12_firstShort_24 : decode cX12_firstShort 24 = .ok (.ireturn, 1) := by decide +kernel
theorem dX12_firstShort_25 : decode cX12_firstShort 25 = .ok (.iconst 0, 1) := by decide +kernel
theorem dX12_firstShort_26 : decode cX12_firstShort 26 = .ok (.istore_n 2, 1) := by decide +kernel
theorem dX12_firstShort_27 : decode cX12_firstShort 27 = .ok (.iload_n 2, 1) := by decide +kernel
theorem dX12_firstShort_28 : decode cX12_firstShort 28 = .ok (.sipush 200, 3) := by decide +kernel
theorem dX12_firstShort_31 : decode cX12_firstShort 31 = .ok (.if_icmp .gt 20, 3) := by decide +kernel
theorem dX12_firstShort_34 : decode cX12_firstShort 34 = .ok (.aload_n 0, 1) := by decide +kernel
theorem dX12_firstShort_35 : decode cX12_firstShort 35 = .ok (.iload_n 2, 1) := by decide +kernel
theorem dX12_firstShort_36 : decode cX12_firstShort 36 = .ok (.invokevirtual 283, 3) := by decide +kernel
theorem dX12_firstShort_39 : decode cX12_firstShort 39 = .ok (.iload_n 1, 1) := by decide +kernel
theorem dX12_firstShort_40 : decode cX12_firstShort 40 = .ok (.if_icmp .ge 5, 3) := by decide +kernel
theorem dX12_firstShort_43 : decode cX12_firstShort 43 = .ok (.iload_n 2, 1) := by decide +kernel
theorem dX12_firstShort_44 : decode cX12_firstShort 44 = .ok (.ireturn, 1) := by decide +kernel
theorem dX12_firstShort_45 : decode cX12_firstShort 45 = .ok (.iinc 2 1, 3) := by decide +kernel
theorem dX12_firstShort_48 : decode cX12_firstShort 48 = .ok (.goto (-21), 3) := by decide +kernel
theorem dX12_firstShort_51 : decode cX12_firstShort 51 = .ok (.iconst (-1), 1) := by decide +kernel
theorem dX12_firstShort_52 : decode cX12_firstShort 52 = .ok (.ireturn, 1) := by decide +kernel
theorem dX12_planeWhen_0 : decode cX12_planeWhen 0 = .ok (.iload_n 1, 1) := by decide +kernel
theorem dX12_planeWhen_1 : decode cX12_planeWhen 1 = .ok (.i2l, 1) := by decide +kernel
theorem dX12_planeWhen_2 : decode cX12_planeWhen 2 = .ok (.lconst 0, 1) := by decide +kernel
theorem dX12_planeWhen_3 : decode cX12_planeWhen 3 = .ok (.ldc2_w 229, 3) := by decide +kernel
theorem dX12_planeWhen_6 : decode cX12_planeWhen 6 = .ok (.invokestatic 87, 3) := by decide +kernel
theorem dX12_planeWhen_9 : decode cX12_planeWhen 9 = .ok (.ifCond .eq 13, 3) := by decide +kernel
theorem dX12_planeWhen_12 : decode cX12_planeWhen 12 = .ok (.iload_n 2, 1) := by decide +kernel
theorem dX12_planeWhen_13 : decode cX12_planeWhen 13 = .ok (.i2l, 1) := by decide +kernel
theorem dX12_planeWhen_14 : decode cX12_planeWhen 14 = .ok (.lconst 0, 1) := by decide +kernel
theorem dX12_planeWhen_15 : decode cX12_planeWhen 15 = .ok (.lconst 1, 1) := by decide +kernel
theorem dX12_planeWhen_16 : decode cX12_planeWhen 16 = .ok (.invokestatic 87, 3) := by decide +kernel
theorem dX12_planeWhen_19 : decode cX12_planeWhen 19 = .ok (.ifCond .ne 6, 3) := by decide +kernel
theorem dX12_planeWhen_22 : decode cX12_planeWhen 22 = .ok (.ldc 96, 2) := by decide +kernel
theorem dX12_planeWhen_24 : decode cX12_planeWhen 24 = .ok (.ireturn, 1) := by decide +kernel
theorem dX12_planeWhen_25 : decode cX12_planeWhen 25 = .ok (.aload_n 0, 1) := by decide +kernel
theorem dX12_planeWhen_26 : decode cX12_planeWhen 26 = .ok (.invokevirtual 208, 3) := by decide +kernel
theorem dX12_planeWhen_29 : decode cX12_planeWhen 29 = .ok (.ifCond .ne 6, 3) := by decide +kernel
theorem dX12_planeWhen_32 : decode cX12_planeWhen 32 = .ok (.ldc 212, 2) := by decide +kernel
theorem dX12_planeWhen_34 : decode cX12_planeWhen 34 = .ok (.ireturn, 1) := by decide +kernel
theorem dX12_planeWhen_35 : decode cX12_planeWhen 35 = .ok (.iconst 0, 1) := by decide +kernel
theorem dX12_planeWhen_36 : decode cX12_planeWhen 36 = .ok (.istore_n 3, 1) := by decide +kernel
theorem dX12_planeWhen_37 : decode cX12_planeWhen 37 = .ok (.iconst 0, 1) := by decide +kernel
theorem dX12_planeWhen_38 : decode cX12_planeWhen 38 = .ok (.istore 4, 2) := by decide +kernel
theorem dX12_planeWhen_40 : decode cX12_planeWhen 40 = .ok (.iconst 0, 1) := by decide +kernel
theorem dX12_planeWhen_41 : decode cX12_planeWhen 41 = .ok (.istore 5, 2) := by decide +kernel
theorem dX12_planeWhen_43 : decode cX12_planeWhen 43 = .ok (.iload 5, 2) := by decide +kernel
theorem dX12_planeWhen_45 : decode cX12_planeWhen 45 = .ok (.iload_n 1, 1) := by decide +kernel
theorem dX12_planeWhen_46 : decode cX12_planeWhen 46 = .ok (.if_icmp .gt 56, 3) := by decide +kernel
theorem dX12_planeWhen_49 : decode cX12_planeWhen 49 = .ok (.aload_n 0, 1) := by decide +kernel
theorem dX12_planeWhen_50 : decode cX12_planeWhen 50 = .ok (.iload 5, 2) := by decide +kernel
theorem dX12_planeWhen_52 : decode cX12_planeWhen 52 = .ok (.invokevirtual 283, 3) := by decide +kernel
theorem dX12_planeWhen_55 : decode cX12_planeWhen 55 = .ok (.aload_n 0, 1) := by decide +kernel
theorem dX12_planeWhen_56 : decode cX12_planeWhen 56 = .ok (.iload 5, 2) := by decide +kernel
theorem dX12_planeWhen_58 : decode cX12_planeWhen 58 = .ok (.invokevirtual 286, 3) := by decide +kernel
theorem dX12_planeWhen_61 : decode cX12_planeWhen 61 = .ok (.invokestatic 260, 3) := by decide +kernel
theorem dX12_planeWhen_64 : decode cX12_planeWhen 64 = .ok (.istore 6, 2) := by decide +kernel
theorem dX12_planeWhen_66 : decode cX12_planeWhen 66 = .ok (.iload 6, 2) := by decide +kernel
theorem dX12_planeWhen_68 : decode cX12_planeWhen 68 = .ok (.iload 4, 2) := by decide +kernel
theorem dX12_planeWhen_70 : decode cX12_planeWhen 70 = .ok (.if_icmp .le 8, 3) := by decide +kernel
theorem dX12_planeWhen_73 : decode cX12_planeWhen 73 = .ok (.iload 5, 2) := by decide +kernel
theorem dX12_planeWhen_75 : decode cX12_planeWhen 75 = .ok (.goto 4, 3) := by decide +kernel
theorem dX12_planeWhen_78 : decode cX12_planeWhen 78 = .ok (.iload_n 3, 1) := by decide +kernel
theorem dX12_planeWhen_79 : decode cX12_planeWhen 79 = .ok (.istore_n 3, 1) := by decide +kernel
theorem dX12_planeWhen_80 : decode cX12_planeWhen 80 = .ok (.iload 6, 2) := by decide +kernel
theorem dX12_planeWhen_82 : decode cX12_planeWhen 82 = .ok (.iload 4, 2) := by decide +kernel
theorem dX12_planeWhen_84 : decode cX12_planeWhen 84 = .ok (.if_icmp .le 8, 3) := by decide +kernel
theorem dX12_planeWhen_87 : decode cX12_planeWhen 87 = .ok (.iload 6, 2) := by decide +kernel
theorem dX12_planeWhen_89 : decode cX12_planeWhen 89 = .ok (.goto 5, 3) := by decide +kernel
theorem dX12_planeWhen_92 : decode cX12_planeWhen 92 = .ok (.iload 4, 2) := by decide +kernel
theorem dX12_planeWhen_94 : decode cX12_planeWhen 94 = .ok (.istore 4, 2) := by decide +kernel
theorem dX12_planeWhen_96 : decode cX12_planeWhen 96 = .ok (.iinc 5 1, 3) := by decide +kernel
theorem dX12_planeWhen_99 : decode cX12_planeWhen 99 = .ok (.goto (-56), 3) := by decide +kernel
theorem dX12_planeWhen_102 : decode cX12_planeWhen 102 = .ok (.iload_n 2, 1) := by decide +kernel
theorem dX12_planeWhen_103 : decode cX12_planeWhen 103 = .ok (.ifCond .ne 7, 3) := by decide +kernel
theorem dX12_planeWhen_106 : decode cX12_planeWhen 106 = .ok (.iload_n 3, 1) := by decide +kernel
theorem dX12_planeWhen_107 : decode cX12_planeWhen 107 = .ok (.goto 5, 3) := by decide +kernel
theorem dX12_planeWhen_110 : decode cX12_planeWhen 110 = .ok (.iload 4, 2) := by decide +kernel
theorem dX12_planeWhen_112 : decode cX12_planeWhen 112 = .ok (.ireturn, 1) := by decide +kernel
theorem dX12_layOn_0 : decode cX12_layOn 0 = .ok (.iconst 0, 1) := by decide +kernel
theorem dX12_layOn_1 : decode cX12_layOn 1 = .ok (.istore_n 3, 1) := by decide +kernel
theorem dX12_layOn_2 : decode cX12_layOn 2 = .ok (.iload_n 3, 1) := by decide +kernel
theorem dX12_layOn_3 : decode cX12_layOn 3 = .ok (.sipush 1000, 3) := by decide +kernel
theorem dX12_layOn_6 : decode cX12_layOn 6 = .ok (.if_icmp .ge 97, 3) := by decide +kernel
theorem dX12_layOn_9 : decode cX12_layOn 9 = .ok (.aload_n 0, 1) := by decide +kernel
theorem dX12_layOn_10 : decode cX12_layOn 10 = .ok (.getfield 53, 3) := by decide +kernel
theorem dX12_layOn_13 : decode cX12_layOn 13 = .ok (.iload_n 3, 1) := by decide +kernel
theorem dX12_layOn_14 : decode cX12_layOn 14 = .ok (.iaload, 1) := by decide +kernel
theorem dX12_layOn_15 : decode cX12_layOn 15 = .ok (.iload_n 2, 1) := by decide +kernel
theorem dX12_layOn_16 : decode cX12_layOn 16 = .ok (.if_icmp .ne 7, 3) := by decide +kernel
theorem dX12_layOn_19 : decode cX12_layOn 19 = .ok (.iconst 1, 1) := by decide +kernel
theorem dX12_layOn_20 : decode cX12_layOn 20 = .ok (.goto 4, 3) := by decide +kernel
theorem dX12_layOn_23 : decode cX12_layOn 23 = .ok (.iconst 0, 1) := by decide +kernel
theorem dX12_layOn_24 : decode cX12_layOn 24 = .ok (.istore 4, 2) := by decide +kernel
theorem dX12_layOn_26 : decode cX12_layOn 26 = .ok (.iload 4, 2) := by decide +kernel
theorem dX12_layOn_28 : decode cX12_layOn 28 = .ok (.ifCond .eq 35, 3) := by decide +kernel
theorem dX12_layOn_31 : decode cX12_layOn 31 = .ok (.iload_n 3, 1) := by decide +kernel
theorem dX12_layOn_32 : decode cX12_layOn 32 = .ok (.iload_n 1, 1) := by decide +kernel
theorem dX12_layOn_33 : decode cX12_layOn 33 = .ok (.iadd, 1) := by decide +kernel
theorem dX12_layOn_34 : decode cX12_layOn 34 = .ok (.sipush 1000, 3) := by decide +kernel
theorem dX12_layOn_37 : decode cX12_layOn 37 = .ok (.if_icmp .ge 26, 3) := by decide +kernel
theorem dX12_layOn_40 : decode cX12_layOn 40 = .ok (.aload_n 0, 1) := by decide +kernel
theorem dX12_layOn_41 : decode cX12_layOn 41 = .ok (.getfield 53, 3) := by decide +kernel
theorem dX12_layOn_44 : decode cX12_layOn 44 = .ok (.iload_n 3, 1) := by decide +kernel
theorem dX12_layOn_45 : decode cX12_layOn 45 = .ok (.iload_n 1, 1) := by decide +kernel
theorem dX12_layOn_46 : decode cX12_layOn 46 = .ok (.iadd, 1) := by decide +kernel
theorem dX12_layOn_47 : decode cX12_layOn 47 = .ok (.iaload, 1) := by decide +kernel
theorem dX12_layOn_48 : decode cX12_layOn 48 = .ok (.iload_n 2, 1) := by decide +kernel
theorem dX12_layOn_49 : decode cX12_layOn 49 = .ok (.if_icmp .le 14, 3) := by decide +kernel
theorem dX12_layOn_52 : decode cX12_layOn 52 = .ok (.aload_n 0, 1) := by decide +kernel
theorem dX12_layOn_53 : decode cX12_layOn 53 = .ok (.getfield 53, 3) := by decide +kernel
theorem dX12_layOn_56 : decode cX12_layOn 56 = .ok (.iload_n 3, 1) := by decide +kernel
theorem dX12_layOn_57 : decode cX12_layOn 57 = .ok (.iload_n 1, 1) := by decide +kernel
theorem dX12_layOn_58 : decode cX12_layOn 58 = .ok (.iadd, 1) := by decide +kernel
theorem dX12_layOn_59 : decode cX12_layOn 59 = .ok (.iload_n 2, 1) := by decide +kernel
theorem dX12_layOn_60 : decode cX12_layOn 60 = .ok (.iconst 1, 1) := by decide +kernel
theorem dX12_layOn_61 : decode cX12_layOn 61 = .ok (.iadd, 1) := by decide +kernel
theorem dX12_layOn_62 : decode cX12_layOn 62 = .ok (.iastore, 1) := by decide +kernel
theorem dX12_layOn_63 : decode cX12_layOn 63 = .ok (.iload 4, 2) := by decide +kernel
theorem dX12_layOn_65 : decode cX12_layOn 65 = .ok (.ifCond .eq 32, 3) := by decide +kernel
theorem dX12_layOn_68 : decode cX12_layOn 68 = .ok (.iload_n 3, 1) := by decide +kernel
theorem dX12_layOn_69 : decode cX12_layOn 69 = .ok (.iload_n 1, 1) := by decide +kernel
theorem dX12_layOn_70 : decode cX12_layOn 70 = .ok (.isub, 1) := by decide +kernel
theorem dX12_layOn_71 : decode cX12_layOn 71 = .ok (.ifCond .lt 26, 3) := by decide +kernel
theorem dX12_layOn_74 : decode cX12_layOn 74 = .ok (.aload_n 0, 1) := by decide +kernel
theorem dX12_layOn_75 : decode cX12_layOn 75 = .ok (.getfield 53, 3) := by decide +kernel
theorem dX12_layOn_78 : decode cX12_layOn 78 = .ok (.iload_n 3, 1) := by decide +kernel
theorem dX12_layOn_79 : decode cX12_layOn 79 = .ok (.iload_n 1, 1) := by decide +kernel
theorem dX12_layOn_80 : decode cX12_layOn 80 = .ok (.isub, 1) := by decide +kernel
theorem dX12_layOn_81 : decode cX12_layOn 81 = .ok (.iaload, 1) := by decide +kernel
theorem dX12_layOn_82 : decode cX12_layOn 82 = .ok (.iload_n 2, 1) := by decide +kernel
theorem dX12_layOn_83 : decode cX12_layOn 83 = .ok (.if_icmp .le 14, 3) := by decide +kernel
theorem dX12_layOn_86 : decode cX12_layOn 86 = .ok (.aload_n 0, 1) := by decide +kernel
theorem dX12_layOn_87 : decode cX12_layOn 87 = .ok (.getfield 53, 3) := by decide +kernel
theorem dX12_layOn_90 : decode cX12_layOn 90 = .ok (.iload_n 3, 1) := by decide +kernel
theorem dX12_layOn_91 : decode cX12_layOn 91 = .ok (.iload_n 1, 1) := by decide +kernel
theorem dX12_layOn_92 : decode cX12_layOn 92 = .ok (.isub, 1) := by decide +kernel
theorem dX12_layOn_93 : decode cX12_layOn 93 = .ok (.iload_n 2, 1) := by decide +kernel
theorem dX12_layOn_94 : decode cX12_layOn 94 = .ok (.iconst 1, 1) := by decide +kernel
theorem dX12_layOn_95 : decode cX12_layOn 95 = .ok (.iadd, 1) := by decide +kernel
theorem dX12_layOn_96 : decode cX12_layOn 96 = .ok (.iastore, 1) := by decide +kernel
theorem dX12_layOn_97 : decode cX12_layOn 97 = .ok (.iinc 3 1, 3) := by decide +kernel
theorem dX12_layOn_100 : decode cX12_layOn 100 = .ok (.goto (-98), 3) := by decide +kernel
theorem dX12_layOn_103 : decode cX12_layOn 103 = .ok (.return_, 1) := by decide +kernel
theorem dX12_findTimes_0 : decode cX12_findTimes 0 = .ok (.iconst 0, 1) := by decide +kernel
theorem dX12_findTimes_1 : decode cX12_findTimes 1 = .ok (.istore_n 2, 1) := by decide +kernel
theorem dX12_findTimes_2 : decode cX12_findTimes 2 = .ok (.iload_n 2, 1) := by decide +kernel
theorem dX12_findTimes_3 : decode cX12_findTimes 3 = .ok (.sipush 1000, 3) := by decide +kernel
theorem dX12_findTimes_6 : decode cX12_findTimes 6 = .ok (.if_icmp .ge 26, 3) := by decide +kernel
theorem dX12_findTimes_9 : decode cX12_findTimes 9 = .ok (.aload_n 0, 1) := by decide +kernel
theorem dX12_findTimes_10 : decode cX12_findTimes 10 = .ok (.getfield 53, 3) := by decide +kernel
theorem dX12_findTimes_13 : decode cX12_findTimes 13 = .ok (.iload_n 2, 1) := by decide +kernel
theorem dX12_findTimes_14 : decode cX12_findTimes 14 = .ok (.iload_n 2, 1) := by decide +kernel
theorem dX12_findTimes_15 : decode cX12_findTimes 15 = .ok (.ifCond .ne 7, 3) := by decide +kernel
theorem dX12_findTimes_18 : decode cX12_findTimes 18 = .ok (.iconst 0, 1) := by decide +kernel
theorem dX12_findTimes_19 : decode cX12_findTimes 19 = .ok (.goto 6, 3) := by decide +kernel
theorem dX12_findTimes_22 : decode cX12_findTimes 22 = .ok (.ldc_w 291, 3) := by decide +kernel
theorem dX12_findTimes_25 : decode cX12_findTimes 25 = .ok (.iastore, 1) := by decide +kernel
theorem dX12_findTimes_26 : decode cX12_findTimes 26 = .ok (.iinc 2 1, 3) := by decide +kernel
theorem dX12_findTimes_29 : decode cX12_findTimes 29 = .ok (.goto (-27), 3) := by decide +kernel
theorem dX12_findTimes_32 : decode cX12_findTimes 32 = .ok (.iconst 0, 1) := by decide +kernel
theorem dX12_findTimes_33 : decode cX12_findTimes 33 = .ok (.istore_n 2, 1) := by decide +kernel
theorem dX12_findTimes_34 : decode cX12_findTimes 34 = .ok (.iload_n 2, 1) := by decide +kernel
theorem dX12_findTimes_35 : decode cX12_findTimes 35 = .ok (.iload_n 1, 1) := by decide +kernel
theorem dX12_findTimes_36 : decode cX12_findTimes 36 = .ok (.if_icmp .ge 62, 3) := by decide +kernel
theorem dX12_findTimes_39 : decode cX12_findTimes 39 = .ok (.aload_n 0, 1) := by decide +kernel
theorem dX12_findTimes_40 : decode cX12_findTimes 40 = .ok (.aload_n 0, 1) := by decide +kernel
theorem dX12_findTimes_41 : decode cX12_findTimes 41 = .ok (.getfield 25, 3) := by decide +kernel
theorem dX12_findTimes_44 : decode cX12_findTimes 44 = .ok (.iconst 0, 1) := by decide +kernel
theorem dX12_findTimes_45 : decode cX12_findTimes 45 = .ok (.iaload, 1) := by decide +kernel
theorem dX12_findTimes_46 : decode cX12_findTimes 46 = .ok (.iload_n 2, 1) := by decide +kernel
theorem dX12_findTimes_47 : decode cX12_findTimes 47 = .ok (.invokevirtual 292, 3) := by decide +kernel
theorem dX12_findTimes_50 : decode cX12_findTimes 50 = .ok (.iconst 0, 1) := by decide +kernel
theorem dX12_findTimes_51 : decode cX12_findTimes 51 = .ok (.istore_n 3, 1) := by decide +kernel
theorem dX12_findTimes_52 : decode cX12_findTimes 52 = .ok (.iload_n 3, 1) := by decide +kernel
theorem dX12_findTimes_53 : decode cX12_findTimes 53 = .ok (.aload_n 0, 1) := by decide +kernel
theorem dX12_findTimes_54 : decode cX12_findTimes 54 = .ok (.getfield 173, 3) := by decide +kernel
theorem dX12_findTimes_57 : decode cX12_findTimes 57 = .ok (.if_icmp .ge 35, 3) := by decide +kernel
theorem dX12_findTimes_60 : decode cX12_findTimes 60 = .ok (.aload_n 0, 1) := by decide +kernel
theorem dX12_findTimes_61 : decode cX12_findTimes 61 = .ok (.getfield 7, 3) := by decide +kernel
theorem dX12_findTimes_64 : decode cX12_findTimes 64 = .ok (.iload_n 3, 1) := by decide +kernel
theorem dX12_findTimes_65 : decode cX12_findTimes 65 = .ok (.iaload, 1) := by decide +kernel
theorem dX12_findTimes_66 : decode cX12_findTimes 66 = .ok (.aload_n 0, 1) := by decide +kernel
theorem dX12_findTimes_67 : decode cX12_findTimes 67 = .ok (.getfield 25, 3) := by decide +kernel
theorem dX12_findTimes_70 : decode cX12_findTimes 70 = .ok (.iconst 0, 1) := by decide +kernel
theorem dX12_findTimes_71 : decode cX12_findTimes 71 = .ok (.iaload, 1) := by decide +kernel
theorem dX12_findTimes_72 : decode cX12_findTimes 72 = .ok (.if_icmp .ge 14, 3) := by decide +kernel
theorem dX12_findTimes_75 : decode cX12_findTimes 75 = .ok (.aload_n 0, 1) := by decide +kernel
theorem dX12_findTimes_76 : decode cX12_findTimes 76 = .ok (.aload_n 0, 1) := by decide +kernel
theorem dX12_findTimes_77 : decode cX12_findTimes 77 = .ok (.getfield 7, 3) := by decide +kernel
theorem dX12_findTimes_80 : decode cX12_findTimes 80 = .ok (.iload_n 3, 1) := by decide +kernel
theorem dX12_findTimes_81 : decode cX12_findTimes 81 = .ok (.iaload, 1) := by decide +kernel
theorem dX12_findTimes_82 : decode cX12_findTimes 82 = .ok (.iload_n 2, 1) := by decide +kernel
theorem dX12_findTimes_83 : decode cX12_findTimes 83 = .ok (.invokevirtual 292, 3) := by decide +kernel
theorem dX12_findTimes_86 : decode cX12_findTimes 86 = .ok (.iinc 3 1, 3) := by decide +kernel
theorem dX12_findTimes_89 : decode cX12_findTimes 89 = .ok (.goto (-37), 3) := by decide +kernel
theorem dX12_findTimes_92 : decode cX12_findTimes 92 = .ok (.iinc 2 1, 3) := by decide +kernel
theorem dX12_findTimes_95 : decode cX12_findTimes 95 = .ok (.goto (-61), 3) := by decide +kernel
theorem dX12_findTimes_98 : decode cX12_findTimes 98 = .ok (.return_, 1) := by decide +kernel
theorem dX12_had_0 : decode cX12_had 0 = .ok (.iload_n 1, 1) := by decide +kernel
theorem dX12_had_1 : decode cX12_had 1 = .ok (.i2l, 1) := by decide +kernel
theorem dX12_had_2 : decode cX12_had 2 = .ok (.lconst 0, 1) := by decide +kernel
theorem dX12_had_3 : decode cX12_had 3 = .ok (.ldc2_w 265, 3) := by decide +kernel
theorem dX12_had_6 : decode cX12_had 6 = .ok (.invokestatic 87, 3) := by decide +kernel
theorem dX12_had_9 : decode cX12_had 9 = .ok (.ifCond .ne 6, 3) := by decide +kernel
theorem dX12_had_12 : decode cX12_had 12 = .ok (.ldc 96, 2) := by decide +kernel
theorem dX12_had_14 : decode cX12_had 14 = .ok (.ireturn, 1) := by decide +kernel
theorem dX12_had_15 : decode cX12_had 15 = .ok (.aload_n 0, 1) := by decide +kernel
theorem dX12_had_16 : decode cX12_had 16 = .ok (.invokevirtual 208, 3) := by decide +kernel
theorem dX12_had_19 : decode cX12_had 19 = .ok (.ifCond .ne 6, 3) := by decide +kernel
theorem dX12_had_22 : decode cX12_had 22 = .ok (.ldc 212, 2) := by decide +kernel
theorem dX12_had_24 : decode cX12_had 24 = .ok (.ireturn, 1) := by decide +kernel
theorem dX12_had_25 : decode cX12_had 25 = .ok (.aload_n 0, 1) := by decide +kernel
theorem dX12_had_26 : decode cX12_had 26 = .ok (.bipush 20, 2) := by decide +kernel
theorem dX12_had_28 : decode cX12_had 28 = .ok (.invokevirtual 296, 3) := by decide +kernel
theorem dX12_had_31 : decode cX12_had 31 = .ok (.aload_n 0, 1) := by decide +kernel
theorem dX12_had_32 : decode cX12_had 32 = .ok (.getfield 53, 3) := by decide +kernel
theorem dX12_had_35 : decode cX12_had 35 = .ok (.iload_n 1, 1) := by decide +kernel
theorem dX12_had_36 : decode cX12_had 36 = .ok (.iaload, 1) := by decide +kernel
theorem dX12_had_37 : decode cX12_had 37 = .ok (.bipush 20, 2) := by decide +kernel
theorem dX12_had_39 : decode cX12_had 39 = .ok (.if_icmp .gt 12, 3) := by decide +kernel
theorem dX12_had_42 : decode cX12_had 42 = .ok (.aload_n 0, 1) := by decide +kernel
theorem dX12_had_43 : decode cX12_had 43 = .ok (.getfield 53, 3) := by decide +kernel
theorem dX12_had_46 : decode cX12_had 46 = .ok (.iload_n 1, 1) := by decide +kernel
theorem dX12_had_47 : decode cX12_had 47 = .ok (.iaload, 1) := by decide +kernel
theorem dX12_had_48 : decode cX12_had 48 = .ok (.goto 4, 3) := by decide +kernel
theorem dX12_had_51 : decode cX12_had 51 = .ok (.iconst (-1), 1) := by decide +kernel
theorem dX12_had_52 : decode cX12_had 52 = .ok (.ireturn, 1) := by decide +kernel
theorem dX12_parts_0 : decode cX12_parts 0 = .ok (.aload_n 0, 1) := by decide +kernel
theorem dX12_parts_1 : decode cX12_parts 1 = .ok (.invokevirtual 208, 3) := by decide +kernel
theorem dX12_parts_4 : decode cX12_parts 4 = .ok (.ifCond .ne 6, 3) := by decide +kernel
theorem dX12_parts_7 : decode cX12_parts 7 = .ok (.ldc 212, 2) := by decide +kernel
theorem dX12_parts_9 : decode cX12_parts 9 = .ok (.ireturn, 1) := by decide +kernel
theorem dX12_parts_10 : decode cX12_parts 10 = .ok (.aload_n 0, 1) := by decide +kernel
theorem dX12_parts_11 : decode cX12_parts 11 = .ok (.iconst 2, 1) := by decide +kernel
theorem dX12_parts_12 : decode cX12_parts 12 = .ok (.invokevirtual 296, 3) := by decide +kernel
theorem dX12_parts_15 : decode cX12_parts 15 = .ok (.iconst 0, 1) := by decide +kernel
theorem dX12_parts_16 : decode cX12_parts 16 = .ok (.istore_n 2, 1) := by decide +kernel
theorem dX12_parts_17 : decode cX12_parts 17 = .ok (.iconst 1, 1) := by decide +kernel
theorem dX12_parts_18 : decode cX12_parts 18 = .ok (.istore_n 3, 1) := by decide +kernel
theorem dX12_parts_19 : decode cX12_parts 19 = .ok (.iload_n 3, 1) := by decide +kernel
theorem dX12_parts_20 : decode cX12_parts 20 = .ok (.aload_n 0, 1) := by decide +kernel
theorem dX12_parts_21 : decode cX12_parts 21 = .ok (.getfield 25, 3) := by decide +kernel
theorem dX12_parts_24 : decode cX12_parts 24 = .ok (.iconst 0, 1) := by decide +kernel
theorem dX12_parts_25 : decode cX12_parts 25 = .ok (.iaload, 1) := by decide +kernel
theorem dX12_parts_26 : decode cX12_parts 26 = .ok (.if_icmp .gt 29, 3) := by decide +kernel
theorem dX12_parts_29 : decode cX12_parts 29 = .ok (.aload_n 0, 1) := by decide +kernel
theorem dX12_parts_30 : decode cX12_parts 30 = .ok (.getfield 53, 3) := by decide +kernel
theorem dX12_parts_33 : decode cX12_parts 33 = .ok (.iload_n 3, 1) := by decide +kernel
theorem dX12_parts_34 : decode cX12_parts 34 = .ok (.iaload, 1) := by decide +kernel
theorem dX12_parts_35 : decode cX12_parts 35 = .ok (.iconst 2, 1) := by decide +kernel
theorem dX12_parts_36 : decode cX12_parts 36 = .ok (.if_icmp .gt 13, 3) := by decide +kernel
theorem dX12_parts_39 : decode cX12_parts 39 = .ok (.iload_n 2, 1) := by decide +kernel
theorem dX12_parts_40 : decode cX12_parts 40 = .ok (.iload_n 1, 1) := by decide +kernel
theorem dX12_parts_41 : decode cX12_parts 41 = .ok (.if_icmp .ne 5, 3) := by decide +kernel
theorem dX12_parts_44 : decode cX12_parts 44 = .ok (.iload_n 3, 1) := by decide +kernel
theorem dX12_parts_45 : decode cX12_parts 45 = .ok (.ireturn, 1) := by decide +kernel
theorem dX12_parts_46 : decode cX12_parts 46 = .ok (.iinc 2 1, 3) := by decide +kernel
theorem dX12_parts_49 : decode cX12_parts 49 = .ok (.iinc 3 1, 3) := by decide +kernel
theorem dX12_parts_52 : decode cX12_parts 52 = .ok (.goto (-33), 3) := by decide +kernel
theorem dX12_parts_55 : decode cX12_parts 55 = .ok (.iload_n 1, 1) := by decide +kernel
theorem dX12_parts_56 : decode cX12_parts 56 = .ok (.iconst (-1), 1) := by decide +kernel
theorem dX12_parts_57 : decode cX12_parts 57 = .ok (.if_icmp .ne 7, 3) := by decide +kernel
theorem dX12_parts_60 : decode cX12_parts 60 = .ok (.iload_n 2, 1) := by decide +kernel
theorem dX12_parts_61 : decode cX12_parts 61 = .ok (.goto 4, 3) := by decide +kernel
theorem dX12_parts_64 : decode cX12_parts 64 = .ok (.iconst (-1), 1) := by decide +kernel
theorem dX12_parts_65 : decode cX12_parts 65 = .ok (.ireturn, 1) := by decide +kernel
theorem dX12_fold_0 : decode cX12_fold 0 = .ok (.iload_n 1, 1) := by decide +kernel
theorem dX12_fold_1 : decode cX12_fold 1 = .ok (.i2l, 1) := by decide +kernel
theorem dX12_fold_2 : decode cX12_fold 2 = .ok (.lconst 0, 1) := by decide +kernel
theorem dX12_fold_3 : decode cX12_fold 3 = .ok (.ldc2_w 265, 3) := by decide +kernel
theorem dX12_fold_6 : decode cX12_fold 6 = .ok (.invokestatic 87, 3) := by decide +kernel
theorem dX12_fold_9 : decode cX12_fold 9 = .ok (.ifCond .ne 6, 3) := by decide +kernel
theorem dX12_fold_12 : decode cX12_fold 12 = .ok (.ldc 96, 2) := by decide +kernel
theorem dX12_fold_14 : decode cX12_fold 14 = .ok (.ireturn, 1) := by decide +kernel
theorem dX12_fold_15 : decode cX12_fold 15 = .ok (.iload_n 1, 1) := by decide +kernel
theorem dX12_fold_16 : decode cX12_fold 16 = .ok (.iconst 2, 1) := by decide +kernel
theorem dX12_fold_17 : decode cX12_fold 17 = .ok (.irem, 1) := by decide +kernel
theorem dX12_fold_18 : decode cX12_fold 18 = .ok (.ifCond .ne 9, 3) := by decide +kernel
theorem dX12_fold_21 : decode cX12_fold 21 = .ok (.iload_n 1, 1) := by decide +kernel
theorem dX12_fold_22 : decode cX12_fold 22 = .ok (.iconst 2, 1) := by decide +kernel
theorem dX12_fold_23 : decode cX12_fold 23 = .ok (.idiv, 1) := by decide +kernel
theorem dX12_fold_24 : decode cX12_fold 24 = .ok (.goto 4, 3) := by decide +kernel
theorem dX12_fold_27 : decode cX12_fold 27 = .ok (.iconst (-1), 1) := by decide +kernel
theorem dX12_fold_28 : decode cX12_fold 28 = .ok (.ireturn, 1) := by decide +kernel
theorem dX12_findFilled_0 : decode cX12_findFilled 0 = .ok (.iconst 0, 1) := by decide +kernel
theorem dX12_findFilled_1 : decode cX12_findFilled 1 = .ok (.istore_n 1, 1) := by decide +kernel
theorem dX12_findFilled_2 : decode cX12_findFilled 2 = .ok (.iload_n 1, 1) := by decide +kernel
theorem dX12_findFilled_3 : decode cX12_findFilled 3 = .ok (.bipush 64, 2) := by decide +kernel
theorem dX12_findFilled_5 : decode cX12_findFilled 5 = .ok (.if_icmp .ge 24, 3) := by decide +kernel
theorem dX12_findFilled_8 : decode cX12_findFilled 8 = .ok (.aload_n 0, 1) := by decide +kernel
theorem dX12_findFilled_9 : decode cX12_findFilled 9 = .ok (.getfield 56, 3) := by decide +kernel
theorem dX12_findFilled_12 : decode cX12_findFilled 12 = .ok (.bipush 64, 2) := by decide +kernel
theorem dX12_findFilled_14 : decode cX12_findFilled 14 = .ok (.aload_n 0, 1) := by decide +kernel
theorem dX12_findFilled_15 : decode cX12_findFilled 15 = .ok (.getfield 84, 3) := by decide +kernel
theorem dX12_findFilled_18 : decode cX12_findFilled 18 = .ok (.imul, 1) := by decide +kernel
theorem dX12_findFilled_19 : decode cX12_findFilled 19 = .ok (.iload_n 1, 1) := by decide +kernel
theorem dX12_findFilled_20 : decode cX12_findFilled 20 = .ok (.iadd, 1) := by decide +kernel
theorem dX12_findFilled_21 : decode cX12_findFilled 21 = .ok (.iconst 0, 1) := by decide +kernel
theorem dX12_findFilled_22 : decode cX12_findFilled 22 = .ok (.iastore, 1) := by decide +kernel
theorem dX12_findFilled_23 : decode cX12_findFilled 23 = .ok (.iinc 1 1, 3) := by decide +kernel
theorem dX12_findFilled_26 : decode cX12_findFilled 26 = .ok (.goto (-24), 3) := by decide +kernel
theorem dX12_findFilled_29 : decode cX12_findFilled 29 = .ok (.aload_n 0, 1) := by decide +kernel
theorem dX12_findFilled_30 : decode cX12_findFilled 30 = .ok (.getfield 84, 3) := by decide +kernel
theorem dX12_findFilled_33 : decode cX12_findFilled 33 = .ok (.iconst 1, 1) := by decide +kernel
theorem dX12_findFilled_34 : decode cX12_findFilled 34 = .ok (.isub, 1) := by decide +kernel
theorem dX12_findFilled_35 : decode cX12_findFilled 35 = .ok (.istore_n 1, 1) := by decide +kernel
theorem dX12_findFilled_36 : decode cX12_findFilled 36 = .ok (.iload_n 1, 1) := by decide +kernel
theorem dX12_findFilled_37 : decode cX12_findFilled 37 = .ok (.ifCond .lt 132, 3) := by decide +kernel
theorem dX12_findFilled_40 : decode cX12_findFilled 40 = .ok (.aload_n 0, 1) := by decide +kernel
theorem dX12_findFilled_41 : decode cX12_findFilled 41 = .ok (.iload_n 1, 1) := by decide +kernel
theorem dX12_findFilled_42 : decode cX12_findFilled 42 = .ok (.invokevirtual 217, 3) := by decide +kernel
theorem dX12_findFilled_45 : decode cX12_findFilled 45 = .ok (.istore_n 2, 1) := by decide +kernel
theorem dX12_findFilled_46 : decode cX12_findFilled 46 = .ok (.iconst 0, 1) := by decide +kernel
theorem dX12_findFilled_47 : decode cX12_findFilled 47 = .ok (.istore_n 3, 1) := by decide +kernel
theorem dX12_findFilled_48 : decode cX12_findFilled 48 = .ok (.iload_n 3, 1) := by decide +kernel
theorem dX12_findFilled_49 : decode cX12_findFilled 49 = .ok (.bipush 64, 2) := by decide +kernel
theorem dX12_findFilled_51 : decode cX12_findFilled 51 = .ok (.if_icmp .ge 112, 3) := by decide +kernel
theorem dX12_findFilled_54 : decode cX12_findFilled 54 = .ok (.aload_n 0, 1) := by decide +kernel
theorem dX12_findFilled_55 : decode cX12_findFilled 55 = .ok (.getfield 56, 3) := by decide +kernel
theorem dX12_findFilled_58 : decode cX12_findFilled 58 = .ok (.bipush 64, 2) := by decide +kernel
theorem dX12_findFilled_60 : decode cX12_findFilled 60 = .ok (.iload_n 1, 1) := by decide +kernel
theorem dX12_findFilled_61 : decode cX12_findFilled 61 = .ok (.imul, 1) := by decide +kernel
theorem dX12_findFilled_62 : decode cX12_findFilled 62 = .ok (.bipush 64, 2) := by decide +kernel
theorem dX12_findFilled_64 : decode cX12_findFilled 64 = .ok (.iadd, 1) := by decide +kernel
theorem dX12_findFilled_65 : decode cX12_findFilled 65 = .ok (.iload_n 3, 1) := by decide +kernel
theorem dX12_findFilled_66 : decode cX12_findFilled 66 = .ok (.iadd, 1) := by decide +kernel
theorem dX12_findFilled_67 : decode cX12_findFilled 67 = .ok (.iaload, 1) := by decide +kernel
theorem dX12_findFilled_68 : decode cX12_findFilled 68 = .ok (.istore 4, 2) := by decide +kernel
theorem dX12_findFilled_70 : decode cX12_findFilled 70 = .ok (.iconst 0, 1) := by decide +kernel
theorem dX12_findFilled_71 : decode cX12_findFilled 71 = .ok (.istore 5, 2) := by decide +kernel
theorem dX12_findFilled_73 : decode cX12_findFilled 73 = .ok (.iload 5, 2) := by decide +kernel
theorem dX12_findFilled_75 : decode cX12_findFilled 75 = .ok (.aload_n 0, 1) := by decide +kernel
theorem dX12_findFilled_76 : decode cX12_findFilled 76 = .ok (.getfield 91, 3) := by decide +kernel
theorem dX12_findFilled_79 : decode cX12_findFilled 79 = .ok (.if_icmp .ge 65, 3) := by decide +kernel
theorem dX12_findFilled_82 : decode cX12_findFilled 82 = .ok (.iload_n 2, 1) := by decide +kernel
theorem dX12_findFilled_83 : decode cX12_findFilled 83 = .ok (.iload_n 3, 1) := by decide +kernel
theorem dX12_findFilled_84 : decode cX12_findFilled 84 = .ok (.iconst (-1), 1) := by decide +kernel
theorem dX12_findFilled_85 : decode cX12_findFilled 85 = .ok (.ixor, 1) := by decide +kernel
theorem dX12_findFilled_86 : decode cX12_findFilled 86 = .ok (.iand, 1) := by decide +kernel
theorem dX12_findFilled_87 : decode cX12_findFilled 87 = .ok (.iload 5, 2) := by decide +kernel
theorem dX12_findFilled_89 : decode cX12_findFilled 89 = .ok (.invokestatic 300, 3) := by decide +kernel
theorem dX12_findFilled_92 : decode cX12_findFilled 92 = .ok (.ifCond .eq 27, 3) := by decide +kernel
theorem dX12_findFilled_95 : decode cX12_findFilled 95 = .ok (.iconst 1, 1) := by decide +kernel
theorem dX12_findFilled_96 : decode cX12_findFilled 96 = .ok (.aload_n 0, 1) := by decide +kernel
theorem dX12_findFilled_97 : decode cX12_findFilled 97 = .ok (.getfield 56, 3) := by decide +kernel
theorem dX12_findFilled_100 : decode cX12_findFilled 100 = .ok (.bipush 64, 2) := by decide +kernel
theorem dX12_findFilled_102 : decode cX12_findFilled 102 = .ok (.iload_n 1, 1) := by decide +kernel
theorem dX12_findFilled_103 : decode cX12_findFilled 103 = .ok (.imul, 1) := by decide +kernel
theorem dX12_findFilled_104 : decode cX12_findFilled 104 = .ok (.bipush 64, 2) := by decide +kernel
theorem dX12_findFilled_106 : decode cX12_findFilled 106 = .ok (.iadd, 1) := by decide +kernel
theorem dX12_findFilled_107 : decode cX12_findFilled 107 = .ok (.iload_n 3, 1) := by decide +kernel
theorem dX12_findFilled_108 : decode cX12_findFilled 108 = .ok (.iconst 1, 1) := by decide +kernel
theorem dX12_findFilled_109 : decode cX12_findFilled 109 = .ok (.iload 5, 2) := by decide +kernel
theorem dX12_findFilled_111 : decode cX12_findFilled 111 = .ok (.ishl, 1) := by decide +kernel
theorem dX12_findFilled_112 : decode cX12_findFilled 112 = .ok (.ior, 1) := by decide +kernel
theorem dX12_findFilled_113 : decode cX12_findFilled 113 = .ok (.iadd, 1) := by decide +kernel
theorem dX12_findFilled_114 : decode cX12_findFilled 114 = .ok (.iaload, 1) := by decide +kernel
theorem dX12_findFilled_115 : decode cX12_findFilled 115 = .ok (.iadd, 1) := by decide +kernel
theorem dX12_findFilled_116 : decode cX12_findFilled 116 = .ok (.goto 4, 3) := by decide +kernel
theorem dX12_findFilled_119 : decode cX12_findFilled 119 = .ok (.iconst 0, 1) := by decide +kernel
theorem dX12_findFilled_120 : decode cX12_findFilled 120 = .ok (.istore 6, 2) := by decide +kernel
theorem dX12_findFilled_122 : decode cX12_findFilled 122 = .ok (.iload 6, 2) := by decide +kernel
theorem dX12_findFilled_124 : decode cX12_findFilled 124 = .ok (.iload 4, 2) := by decide +kernel
theorem dX12_findFilled_126 : decode cX12_findFilled 126 = .ok (.if_icmp .le 8, 3) := by decide +kernel
theorem dX12_findFilled_129 : decode cX12_findFilled 129 = .ok (.iload 6, 2) := by decide +kernel
theorem dX12_findFilled_131 : decode cX12_findFilled 131 = .ok (.goto 5, 3) := by decide +kernel
theorem dX12_findFilled_134 : decode cX12_findFilled 134 = .ok (.iload 4, 2) := by decide +kernel
theorem dX12_findFilled_136 : decode cX12_findFilled 136 = .ok (.istore 4, 2) := by decide +kernel
theorem dX12_findFilled_138 : decode cX12_findFilled 138 = .ok (.iinc 5 1, 3) := by decide +kernel
theorem dX12_findFilled_141 : decode cX12_findFilled 141 = .ok (.goto (-68), 3) := by decide +kernel
theorem dX12_findFilled_144 : decode cX12_findFilled 144 = .ok (.aload_n 0, 1) := by decide +kernel
theorem dX12_findFilled_145 : decode cX12_findFilled 145 = .ok (.getfield 56, 3) := by decide +kernel
theorem dX12_findFilled_148 : decode cX12_findFilled 148 = .ok (.bipush 64, 2) := by decide +kernel
theorem dX12_findFilled_150 : decode cX12_findFilled 150 = .ok (.iload_n 1, 1) := by decide +kernel
theorem dX12_findFilled_151 : decode cX12_findFilled 151 = .ok (.imul, 1) := by decide +kernel
theorem dX12_findFilled_152 : decode cX12_findFilled 152 = .ok (.iload_n 3, 1) := by decide +kernel
theorem dX12_findFilled_153 : decode cX12_findFilled 153 = .ok (.iadd, 1) := by decide +kernel
theorem dX12_findFilled_154 : decode cX12_findFilled 154 = .ok (.iload 4, 2) := by decide +kernel
theorem dX12_findFilled_156 : decode cX12_findFilled 156 = .ok (.iastore, 1) := by decide +kernel
theorem dX12_findFilled_157 : decode cX12_findFilled 157 = .ok (.iinc 3 1, 3) := by decide +kernel
theorem dX12_findFilled_160 : decode cX12_findFilled 160 = .ok (.goto (-112), 3) := by decide +kernel
theorem dX12_findFilled_163 : decode cX12_findFilled 163 = .ok (.iinc 1 (-1), 3) := by decide +kernel
theorem dX12_findFilled_166 : decode cX12_findFilled 166 = .ok (.goto (-130), 3) := by decide +kernel
theorem dX12_findFilled_169 : decode cX12_findFilled 169 = .ok (.return_, 1) := by decide +kernel
theorem dX12_whoGets_0 : decode cX12_whoGets 0 = .ok (.aload_n 0, 1) := by decide +kernel
theorem dX12_whoGets_1 : decode cX12_whoGets 1 = .ok (.iload_n 1, 1) := by decide +kernel
theorem dX12_whoGets_2 : decode cX12_whoGets 2 = .ok (.invokevirtual 217, 3) := by decide +kernel
theorem dX12_whoGets_5 : decode cX12_whoGets 5 = .ok (.istore_n 3, 1) := by decide +kernel
theorem dX12_whoGets_6 : decode cX12_whoGets 6 = .ok (.iconst 0, 1) := by decide +kernel
theorem dX12_whoGets_7 : decode cX12_whoGets 7 = .ok (.istore 4, 2) := by decide +kernel
theorem dX12_whoGets_9 : decode cX12_whoGets 9 = .ok (.iload 4, 2) := by decide +kernel
theorem dX12_whoGets_11 : decode cX12_whoGets 11 = .ok (.aload_n 0, 1) := by decide +kernel
theorem dX12_whoGets_12 : decode cX12_whoGets 12 = .ok (.getfield 91, 3) := by decide +kernel
theorem dX12_whoGets_15 : decode cX12_whoGets 15 = .ok (.if_icmp .ge 60, 3) := by decide +kernel
theorem dX12_whoGets_18 : decode cX12_whoGets 18 = .ok (.iload_n 3, 1) := by decide +kernel
theorem dX12_whoGets_19 : decode cX12_whoGets 19 = .ok (.iload_n 2, 1) := by decide +kernel
theorem dX12_whoGets_20 : decode cX12_whoGets 20 = .ok (.iconst (-1), 1) := by decide +kernel
theorem dX12_whoGets_21 : decode cX12_whoGets 21 = .ok (.ixor, 1) := by decide +kernel
theorem dX12_whoGets_22 : decode cX12_whoGets 22 = .ok (.iand, 1) := by decide +kernel
theorem dX12_whoGets_23 : decode cX12_whoGets 23 = .ok (.iload 4, 2) := by decide +kernel
theorem dX12_whoGets_25 : decode cX12_whoGets 25 = .ok (.invokestatic 300, 3) := by decide +kernel
theorem dX12_whoGets_28 : decode cX12_whoGets 28 = .ok (.ifCond .eq 41, 3) := by decide +kernel
theorem dX12_whoGets_31 : decode cX12_whoGets 31 = .ok (.iconst 1, 1) := by decide +kernel
theorem dX12_whoGets_32 : decode cX12_whoGets 32 = .ok (.aload_n 0, 1) := by decide +kernel
theorem dX12_whoGets_33 : decode cX12_whoGets 33 = .ok (.getfield 56, 3) := by decide +kernel
theorem dX12_whoGets_36 : decode cX12_whoGets 36 = .ok (.bipush 64, 2) := by decide +kernel
theorem dX12_whoGets_38 : decode cX12_whoGets 38 = .ok (.iload_n 1, 1) := by decide +kernel
theorem dX12_whoGets_39 : decode cX12_whoGets 39 = .ok (.imul, 1) := by decide +kernel
theorem dX12_whoGets_40 : decode cX12_whoGets 40 = .ok (.bipush 64, 2) := by decide +kernel
theorem dX12_whoGets_42 : decode cX12_whoGets 42 = .ok (.iadd, 1) := by decide +kernel
theorem dX12_whoGets_43 : decode cX12_whoGets 43 = .ok (.iload_n 2, 1) := by decide +kernel
theorem dX12_whoGets_44 : decode cX12_whoGets 44 = .ok (.iconst 1, 1) := by decide +kernel
theorem dX12_whoGets_45 : decode cX12_whoGets 45 = .ok (.iload 4, 2) := by decide +kernel
theorem dX12_whoGets_47 : decode cX12_whoGets 47 = .ok (.ishl, 1) := by decide +kernel
theorem dX12_whoGets_48 : decode cX12_whoGets 48 = .ok (.ior, 1) := by decide +kernel
theorem dX12_whoGets_49 : decode cX12_whoGets 49 = .ok (.iadd, 1) := by decide +kernel
theorem dX12_whoGets_50 : decode cX12_whoGets 50 = .ok (.iaload, 1) := by decide +kernel
theorem dX12_whoGets_51 : decode cX12_whoGets 51 = .ok (.iadd, 1) := by decide +kernel
theorem dX12_whoGets_52 : decode cX12_whoGets 52 = .ok (.aload_n 0, 1) := by decide +kernel
theorem dX12_whoGets_53 : decode cX12_whoGets 53 = .ok (.getfield 56, 3) := by decide +kernel
theorem dX12_whoGets_56 : decode cX12_whoGets 56 = .ok (.bipush 64, 2) := by decide +kernel
theorem dX12_whoGets_58 : decode cX12_whoGets 58 = .ok (.iload_n 1, 1) := by decide +kernel
theorem dX12_whoGets_59 : decode cX12_whoGets 59 = .ok (.imul, 1) := by decide +kernel
theorem dX12_whoGets_60 : decode cX12_whoGets 60 = .ok (.iload_n 2, 1) := by decide +kernel
theorem dX12_whoGets_61 : decode cX12_whoGets 61 = .ok (.iadd, 1) := by decide +kernel
theorem dX12_whoGets_62 : decode cX12_whoGets 62 = .ok (.iaload, 1) := by decide +kernel
theorem dX12_whoGets_63 : decode cX12_whoGets 63 = .ok (.if_icmp .ne 6, 3) := by decide +kernel
theorem dX12_whoGets_66 : decode cX12_whoGets 66 = .ok (.iload 4, 2) := by decide +kernel
theorem dX12_whoGets_68 : decode cX12_whoGets 68 = .ok (.ireturn, 1) := by decide +kernel
theorem dX12_whoGets_69 : decode cX12_whoGets 69 = .ok (.iinc 4 1, 3) := by decide +kernel
theorem dX12_whoGets_72 : decode cX12_whoGets 72 = .ok (.goto (-63), 3) := by decide +kernel
theorem dX12_whoGets_75 : decode cX12_whoGets 75 = .ok (.iconst (-1), 1) := by decide +kernel
theorem dX12_whoGets_76 : decode cX12_whoGets 76 = .ok (.ireturn, 1) := by decide +kernel
theorem dX12_posts_0 : decode cX12_posts 0 = .ok (.iload_n 1, 1) := by decide +kernel
theorem dX12_posts_1 : decode cX12_posts 1 = .ok (.iconst (-1), 1) := by decide +kernel
theorem dX12_posts_2 : decode cX12_posts 2 = .ok (.if_icmp .eq 14, 3) := by decide +kernel
theorem dX12_posts_5 : decode cX12_posts 5 = .ok (.aload_n 0, 1) := by decide +kernel
theorem dX12_posts_6 : decode cX12_posts 6 = .ok (.iload_n 1, 1) := by decide +kernel
theorem dX12_posts_7 : decode cX12_posts 7 = .ok (.invokevirtual 213, 3) := by decide +kernel
theorem dX12_posts_10 : decode cX12_posts 10 = .ok (.ifCond .ne 6, 3) := by decide +kernel
theorem dX12_posts_13 : decode cX12_posts 13 = .ok (.ldc 216, 2) := by decide +kernel
theorem dX12_posts_15 : decode cX12_posts 15 = .ok (.ireturn, 1) := by decide +kernel
theorem dX12_posts_16 : decode cX12_posts 16 = .ok (.aload_n 0, 1) := by decide +kernel
theorem dX12_posts_17 : decode cX12_posts 17 = .ok (.invokevirtual 303, 3) := by decide +kernel
theorem dX12_posts_20 : decode cX12_posts 20 = .ok (.iload_n 1, 1) := by decide +kernel
theorem dX12_posts_21 : decode cX12_posts 21 = .ok (.iconst (-1), 1) := by decide +kernel
theorem dX12_posts_22 : decode cX12_posts 22 = .ok (.if_icmp .ne 10, 3) := by decide +kernel
theorem dX12_posts_25 : decode cX12_posts 25 = .ok (.aload_n 0, 1) := by decide +kernel
theorem dX12_posts_26 : decode cX12_posts 26 = .ok (.getfield 56, 3) := by decide +kernel
theorem dX12_posts_29 : decode cX12_posts 29 = .ok (.iconst 0, 1) := by decide +kernel
theorem dX12_posts_30 : decode cX12_posts 30 = .ok (.iaload, 1) := by decide +kernel
theorem dX12_posts_31 : decode cX12_posts 31 = .ok (.ireturn, 1) := by decide +kernel
theorem dX12_posts_32 : decode cX12_posts 32 = .ok (.iconst 0, 1) := by decide +kernel
theorem dX12_posts_33 : decode cX12_posts 33 = .ok (.istore_n 2, 1) := by decide +kernel
theorem dX12_posts_34 : decode cX12_posts 34 = .ok (.iconst (-1), 1) := by decide +kernel
theorem dX12_posts_35 : decode cX12_posts 35 = .ok (.istore_n 3, 1) := by decide +kernel
theorem dX12_posts_36 : decode cX12_posts 36 = .ok (.iconst 0, 1) := by decide +kernel
theorem dX12_posts_37 : decode cX12_posts 37 = .ok (.istore 4, 2) := by decide +kernel
theorem dX12_posts_39 : decode cX12_posts 39 = .ok (.iload 4, 2) := by decide +kernel
theorem dX12_posts_41 : decode cX12_posts 41 = .ok (.iload_n 1, 1) := by decide +kernel
theorem dX12_posts_42 : decode cX12_posts 42 = .ok (.if_icmp .gt 31, 3) := by decide +kernel
theorem dX12_posts_45 : decode cX12_posts 45 = .ok (.aload_n 0, 1) := by decide +kernel
theorem dX12_posts_46 : decode cX12_posts 46 = .ok (.iload 4, 2) := by decide +kernel
theorem dX12_posts_48 : decode cX12_posts 48 = .ok (.iload_n 2, 1) := by decide +kernel
theorem dX12_posts_49 : decode cX12_posts 49 = .ok (.invokevirtual 306, 3) := by decide +kernel
theorem dX12_posts_52 : decode cX12_posts 52 = .ok (.istore_n 3, 1) := by decide +kernel
theorem dX12_posts_53 : decode cX12_posts 53 = .ok (.iload_n 2, 1) := by decide +kernel
theorem dX12_posts_54 : decode cX12_posts 54 = .ok (.iload_n 3, 1) := by decide +kernel
theorem dX12_posts_55 : decode cX12_posts 55 = .ok (.ifCond .ge 7, 3) := by decide +kernel
theorem dX12_posts_58 : decode cX12_posts 58 = .ok (.iconst 0, 1) := by decide +kernel
theorem dX12_posts_59 : decode cX12_posts 59 = .ok (.goto 6, 3) := by decide +kernel
theorem dX12_posts_62 : decode cX12_posts 62 = .ok (.iconst 1, 1) := by decide +kernel
theorem dX12_posts_63 : decode cX12_posts 63 = .ok (.iload_n 3, 1) := by decide +kernel
theorem dX12_posts_64 : decode cX12_posts 64 = .ok (.ishl, 1) := by decide +kernel
theorem dX12_posts_65 : decode cX12_posts 65 = .ok (.ior, 1) := by decide +kernel
theorem dX12_posts_66 : decode cX12_posts 66 = .ok (.istore_n 2, 1) := by decide +kernel
theorem dX12_posts_67 : decode cX12_posts 67 = .ok (.iinc 4 1, 3) := by decide +kernel
theorem dX12_posts_70 : decode cX12_posts 70 = .ok (.goto (-31), 3) := by decide +kernel
theorem dX12_posts_73 : decode cX12_posts 73 = .ok (.iload_n 3, 1) := by decide +kernel
theorem dX12_posts_74 : decode cX12_posts 74 = .ok (.ireturn, 1) := by decide +kernel
theorem dX12_toShorten_0 : decode cX12_toShorten 0 = .ok (.aload_n 0, 1) := by decide +kernel
theorem dX12_toShorten_1 : decode cX12_toShorten 1 = .ok (.iload_n 1, 1) := by decide +kernel
theorem dX12_toShorten_2 : decode cX12_toShorten 2 = .ok (.invokevirtual 220, 3) := by decide +kernel
theorem dX12_toShorten_5 : decode cX12_toShorten 5 = .ok (.ifCond .eq 11, 3) := by decide +kernel
theorem dX12_toShorten_8 : decode cX12_toShorten 8 = .ok (.aload_n 0, 1) := by decide +kernel
theorem dX12_toShorten_9 : decode cX12_toShorten 9 = .ok (.iload_n 2, 1) := by decide +kernel
theorem dX12_toShorten_10 : decode cX12_toShorten 10 = .ok (.invokevirtual 213, 3) := by decide +kernel
theorem dX12_toShorten_13 : decode cX12_toShorten 13 = .ok (.ifCond .ne 6, 3) := by decide +kernel
theorem dX12_toShorten_16 : decode cX12_toShorten 16 = .ok (.ldc 216, 2) := by decide +kernel
theorem dX12_toShorten_18 : decode cX12_toShorten 18 = .ok (.ireturn, 1) := by decide +kernel
theorem dX12_toShorten_19 : decode cX12_toShorten 19 = .ok (.iconst 0, 1) := by decide +kernel
theorem dX12_toShorten_20 : decode cX12_toShorten 20 = .ok (.istore_n 3, 1) := by decide +kernel
theorem dX12_toShorten_21 : decode cX12_toShorten 21 = .ok (.iload_n 3, 1) := by decide +kernel
theorem dX12_toShorten_22 : decode cX12_toShorten 22 = .ok (.aload_n 0, 1) := by decide +kernel
theorem dX12_toShorten_23 : decode cX12_toShorten 23 = .ok (.getfield 25, 3) := by decide +kernel
theorem dX12_toShorten_26 : decode cX12_toShorten 26 = .ok (.bipush 74, 2) := by decide +kernel
theorem dX12_toShorten_28 : decode cX12_toShorten 28 = .ok (.iload_n 1, 1) := by decide +kernel
theorem dX12_toShorten_29 : decode cX12_toShorten 29 = .ok (.iadd, 1) := by decide +kernel
theorem dX12_toShorten_30 : decode cX12_toShorten 30 = .ok (.iaload, 1) := by decide +kernel
theorem dX12_toShorten_31 : decode cX12_toShorten 31 = .ok (.if_icmp .ge 30, 3) := by decide +kernel
theorem dX12_toShorten_34 : decode cX12_toShorten 34 = .ok (.aload_n 0, 1) := by decide +kernel
theorem dX12_toShorten_35 : decode cX12_toShorten 35 = .ok (.iload_n 2, 1) := by decide +kernel
theorem dX12_toShorten_36 : decode cX12_toShorten 36 = .ok (.aload_n 0, 1) := by decide +kernel
theorem dX12_toShorten_37 : decode cX12_toShorten 37 = .ok (.getfield 25, 3) := by decide +kernel
theorem dX12_toShorten_40 : decode cX12_toShorten 40 = .ok (.bipush 74, 2) := by decide +kernel
theorem dX12_toShorten_42 : decode cX12_toShorten 42 = .ok (.iload_n 1, 1) := by decide +kernel
theorem dX12_toShorten_43 : decode cX12_toShorten 43 = .ok (.iadd, 1) := by decide +kernel
theorem dX12_toShorten_44 : decode cX12_toShorten 44 = .ok (.iaload, 1) := by decide +kernel
theorem dX12_toShorten_45 : decode cX12_toShorten 45 = .ok (.iload_n 3, 1) := by decide +kernel
theorem dX12_toShorten_46 : decode cX12_toShorten 46 = .ok (.isub, 1) := by decide +kernel
theorem dX12_toShorten_47 : decode cX12_toShorten 47 = .ok (.invokevirtual 201, 3) := by decide +kernel
theorem dX12_toShorten_50 : decode cX12_toShorten 50 = .ok (.ifCond .eq 5, 3) := by decide +kernel
theorem dX12_toShorten_53 : decode cX12_toShorten 53 = .ok (.iload_n 3, 1) := by decide +kernel
theorem dX12_toShorten_54 : decode cX12_toShorten 54 = .ok (.ireturn, 1) := by decide +kernel
theorem dX12_toShorten_55 : decode cX12_toShorten 55 = .ok (.iinc 3 1, 3) := by decide +kernel
theorem dX12_toShorten_58 : decode cX12_toShorten 58 = .ok (.goto (-37), 3) := by decide +kernel
theorem dX12_toShorten_61 : decode cX12_toShorten 61 = .ok (.iconst (-1), 1) := by decide +kernel
theorem dX12_toShorten_62 : decode cX12_toShorten 62 = .ok (.ireturn, 1) := by decide +kernel
theorem dX12_wasWarped_0 : decode cX12_wasWarped 0 = .ok (.iload_n 1, 1) := by decide +kernel
theorem dX12_wasWarped_1 : decode cX12_wasWarped 1 = .ok (.i2l, 1) := by decide +kernel
theorem dX12_wasWarped_2 : decode cX12_wasWarped 2 = .ok (.lconst 0, 1) := by decide +kernel
theorem dX12_wasWarped_3 : decode cX12_wasWarped 3 = .ok (.ldc2_w 309, 3) := by decide +kernel
theorem dX12_wasWarped_6 : decode cX12_wasWarped 6 = .ok (.invokestatic 87, 3) := by decide +kernel
theorem dX12_wasWarped_9 : decode cX12_wasWarped 9 = .ok (.ifCond .eq 25, 3) := by decide +kernel
theorem dX12_wasWarped_12 : decode cX12_wasWarped 12 = .ok (.iload_n 2, 1) := by decide +kernel
theorem dX12_wasWarped_13 : decode cX12_wasWarped 13 = .ok (.i2l, 1) := by decide +kernel
theorem dX12_wasWarped_14 : decode cX12_wasWarped 14 = .ok (.lconst 1, 1) := by decide +kernel
theorem dX12_wasWarped_15 : decode cX12_wasWarped 15 = .ok (.ldc2_w 289, 3) := by decide +kernel
theorem dX12_wasWarped_18 : decode cX12_wasWarped 18 = .ok (.invokestatic 87, 3) := by decide +kernel
theorem dX12_wasWarped_21 : decode cX12_wasWarped 21 = .ok (.ifCond .eq 13, 3) := by decide +kernel
theorem dX12_wasWarped_24 : decode cX12_wasWarped 24 = .ok (.iload_n 3, 1) := by decide +kernel
theorem dX12_wasWarped_25 : decode cX12_wasWarped 25 = .ok (.i2l, 1) := by decide +kernel
theorem dX12_wasWarped_26 : decode cX12_wasWarped 26 = .ok (.lconst 0, 1) := by decide +kernel
theorem dX12_wasWarped_27 : decode cX12_wasWarped 27 = .ok (.lconst 1, 1) := by decide +kernel
theorem dX12_wasWarped_28 : decode cX12_wasWarped 28 = .ok (.invokestatic 87, 3) := by decide +kernel
theorem dX12_wasWarped_31 : decode cX12_wasWarped 31 = .ok (.ifCond .ne 6, 3) := by decide +kernel
theorem dX12_wasWarped_34 : decode cX12_wasWarped 34 = .ok (.ldc 96, 2) := by decide +kernel
theorem dX12_wasWarped_36 : decode cX12_wasWarped 36 = .ok (.ireturn, 1) := by decide +kernel
theorem dX12_wasWarped_37 : decode cX12_wasWarped 37 = .ok (.iconst 0, 1) := by decide +kernel
theorem dX12_wasWarped_38 : decode cX12_wasWarped 38 = .ok (.istore 4, 2) := by decide +kernel
theorem dX12_wasWarped_40 : decode cX12_wasWarped 40 = .ok (.iconst (-1), 1) := by decide +kernel
theorem dX12_wasWarped_41 : decode cX12_wasWarped 41 = .ok (.istore 5, 2) := by decide +kernel
theorem dX12_wasWarped_43 : decode cX12_wasWarped 43 = .ok (.bipush (-99), 2) := by decide +kernel
theorem dX12_wasWarped_45 : decode cX12_wasWarped 45 = .ok (.istore 6, 2) := by decide +kernel
theorem dX12_wasWarped_47 : decode cX12_wasWarped 47 = .ok (.iload 6, 2) := by decide +kernel
theorem dX12_wasWarped_49 : decode cX12_wasWarped 49 = .ok (.bipush 99, 2) := by decide +kernel
theorem dX12_wasWarped_51 : decode cX12_wasWarped 51 = .ok (.if_icmp .gt 138, 3) := by decide +kernel
theorem dX12_wasWarped_54 : decode cX12_wasWarped 54 = .ok (.iconst 1, 1) := by decide +kernel
theorem dX12_wasWarped_55 : decode cX12_wasWarped 55 = .ok (.istore 7, 2) := by decide +kernel
theorem dX12_wasWarped_57 : decode cX12_wasWarped 57 = .ok (.iconst 0, 1) := by decide +kernel
theorem dX12_wasWarped_58 : decode cX12_wasWarped 58 = .ok (.istore 8, 2) := by decide +kernel
theorem dX12_wasWarped_60 : decode cX12_wasWarped 60 = .ok (.iload 8, 2) := by decide +kernel
theorem dX12_wasWarped_62 : decode cX12_wasWarped 62 = .ok (.aload_n 0, 1) := by decide +kernel
theorem dX12_wasWarped_63 : decode cX12_wasWarped 63 = .ok (.getfield 25, 3) := by decide +kernel
theorem dX12_wasWarped_66 : decode cX12_wasWarped 66 = .ok (.iconst 4, 1) := by decide +kernel
theorem dX12_wasWarped_67 : decode cX12_wasWarped 67 = .ok (.iaload, 1) := by decide +kernel
theorem dX12_wasWarped_68 : decode cX12_wasWarped 68 = .ok (.if_icmp .ge 77, 3) := by decide +kernel
theorem dX12_wasWarped_71 : decode cX12_wasWarped 71 = .ok (.iload_n 2, 1) := by decide +kernel
theorem dX12_wasWarped_72 : decode cX12_wasWarped 72 = .ok (.aload_n 0, 1) := by decide +kernel
theorem dX12_wasWarped_73 : decode cX12_wasWarped 73 = .ok (.getfield 25, 3) := by decide +kernel
theorem dX12_wasWarped_76 : decode cX12_wasWarped 76 = .ok (.bipush 26, 2) := by decide +kernel
theorem dX12_wasWarped_78 : decode cX12_wasWarped 78 = .ok (.iload 8, 2) := by decide +kernel
theorem dX12_wasWarped_80 : decode cX12_wasWarped 80 = .ok (.iadd, 1) := by decide +kernel
theorem dX12_wasWarped_81 : decode cX12_wasWarped 81 = .ok (.iaload, 1) := by decide +kernel
theorem dX12_wasWarped_82 : decode cX12_wasWarped 82 = .ok (.invokestatic 240, 3) := by decide +kernel
theorem dX12_wasWarped_85 : decode cX12_wasWarped 85 = .ok (.iload 6, 2) := by decide +kernel
theorem dX12_wasWarped_87 : decode cX12_wasWarped 87 = .ok (.iadd, 1) := by decide +kernel
theorem dX12_wasWarped_88 : decode cX12_wasWarped 88 = .ok (.aload_n 0, 1) := by decide +kernel
theorem dX12_wasWarped_89 : decode cX12_wasWarped 89 = .ok (.getfield 25, 3) := by decide +kernel
theorem dX12_wasWarped_92 : decode cX12_wasWarped 92 = .ok (.bipush 6, 2) := by decide +kernel
theorem dX12_wasWarped_94 : decode cX12_wasWarped 94 = .ok (.iload 8, 2) := by decide +kernel
theorem dX12_wasWarped_96 : decode cX12_wasWarped 96 = .ok (.iadd, 1) := by decide +kernel
theorem dX12_wasWarped_97 : decode cX12_wasWarped 97 = .ok (.iaload, 1) := by decide +kernel
theorem dX12_wasWarped_98 : decode cX12_wasWarped 98 = .ok (.if_icmp .ne 7, 3) := by decide +kernel
theorem dX12_wasWarped_101 : decode cX12_wasWarped 101 = .ok (.iconst 1, 1) := by decide +kernel
theorem dX12_wasWarped_102 : decode cX12_wasWarped 102 = .ok (.goto 4, 3) := by decide +kernel
theorem dX12_wasWarped_105 : decode cX12_wasWarped 105 = .ok (.iconst 0, 1) := by decide +kernel
theorem dX12_wasWarped_106 : decode cX12_wasWarped 106 = .ok (.istore 9, 2) := by decide +kernel
theorem dX12_wasWarped_108 : decode cX12_wasWarped 108 = .ok (.iload 7, 2) := by decide +kernel
theorem dX12_wasWarped_110 : decode cX12_wasWarped 110 = .ok (.ifCond .eq 26, 3) := by decide +kernel
theorem dX12_wasWarped_113 : decode cX12_wasWarped 113 = .ok (.aload_n 0, 1) := by decide +kernel
theorem dX12_wasWarped_114 : decode cX12_wasWarped 114 = .ok (.getfield 25, 3) := by decide +kernel
theorem dX12_wasWarped_117 : decode cX12_wasWarped 117 = .ok (.bipush 46, 2) := by decide +kernel
theorem dX12_wasWarped_119 : decode cX12_wasWarped 119 = .ok (.iload 8, 2) := by decide +kernel
theorem dX12_wasWarped_121 : decode cX12_wasWarped 121 = .ok (.iadd, 1) := by decide +kernel
theorem dX12_wasWarped_122 : decode cX12_wasWarped 122 = .ok (.iaload, 1) := by decide +kernel
theorem dX12_wasWarped_123 : decode cX12_wasWarped 123 = .ok (.iload_n 1, 1) := by decide +kernel
theorem dX12_wasWarped_124 : decode cX12_wasWarped 124 = .ok (.if_icmp .ne 8, 3) := by decide +kernel
theorem dX12_wasWarped_127 : decode cX12_wasWarped 127 = .ok (.iload 9, 2) := by decide +kernel
theorem dX12_wasWarped_129 : decode cX12_wasWarped 129 = .ok (.ifCond .eq 7, 3) := by decide +kernel
theorem dX12_wasWarped_132 : decode cX12_wasWarped 132 = .ok (.iconst 1, 1) := by decide +kernel
theorem dX12_wasWarped_133 : decode cX12_wasWarped 133 = .ok (.goto 4, 3) := by decide +kernel
theorem dX12_wasWarped_136 : decode cX12_wasWarped 136 = .ok (.iconst 0, 1) := by decide +kernel
theorem dX12_wasWarped_137 : decode cX12_wasWarped 137 = .ok (.istore 7, 2) := by decide +kernel
theorem dX12_wasWarped_139 : decode cX12_wasWarped 139 = .ok (.iinc 8 1, 3) := by decide +kernel
theorem dX12_wasWarped_142 : decode cX12_wasWarped 142 = .ok (.goto (-82), 3) := by decide +kernel
theorem dX12_wasWarped_145 : decode cX12_wasWarped 145 = .ok (.iload 7, 2) := by decide +kernel
theorem dX12_wasWarped_147 : decode cX12_wasWarped 147 = .ok (.ifCond .eq 17, 3) := by decide +kernel
theorem dX12_wasWarped_150 : decode cX12_wasWarped 150 = .ok (.iload 4, 2) := by decide +kernel
theorem dX12_wasWarped_152 : decode cX12_wasWarped 152 = .ok (.ifCond .ne 12, 3) := by decide +kernel
theorem dX12_wasWarped_155 : decode cX12_wasWarped 155 = .ok (.iload 6, 2) := by decide +kernel
theorem dX12_wasWarped_157 : decode cX12_wasWarped 157 = .ok (.sipush 1000, 3) := by decide +kernel
theorem dX12_wasWarped_160 : decode cX12_wasWarped 160 = .ok (.iadd, 1) := by decide +kernel
theorem dX12_wasWarped_161 : decode cX12_wasWarped 161 = .ok (.goto 5, 3) := by decide +kernel
theorem dX12_wasWarped_164 : decode cX12_wasWarped 164 = .ok (.iload 5, 2) := by decide +kernel
theorem dX12_wasWarped_166 : decode cX12_wasWarped 166 = .ok (.istore 5, 2) := by decide +kernel
theorem dX12_wasWarped_168 : decode cX12_wasWarped 168 = .ok (.iload 4, 2) := by decide +kernel
theorem dX12_wasWarped_170 : decode cX12_wasWarped 170 = .ok (.iload 7, 2) := by decide +kernel
theorem dX12_wasWarped_172 : decode cX12_wasWarped 172 = .ok (.ifCond .eq 7, 3) := by decide +kernel
theorem dX12_wasWarped_175 : decode cX12_wasWarped 175 = .ok (.iconst 1, 1) := by decide +kernel
theorem dX12_wasWarped_176 : decode cX12_wasWarped 176 = .ok (.goto 4, 3) := by decide +kernel
theorem dX12_wasWarped_179 : decode cX12_wasWarped 179 = .ok (.iconst 0, 1) := by decide +kernel
theorem dX12_wasWarped_180 : decode cX12_wasWarped 180 = .ok (.iadd, 1) := by decide +kernel
theorem dX12_wasWarped_181 : decode cX12_wasWarped 181 = .ok (.istore 4, 2) := by decide +kernel
theorem dX12_wasWarped_183 : decode cX12_wasWarped 183 = .ok (.iinc 6 1, 3) := by decide +kernel
theorem dX12_wasWarped_186 : decode cX12_wasWarped 186 = .ok (.goto (-139), 3) := by decide +kernel
theorem dX12_wasWarped_189 : decode cX12_wasWarped 189 = .ok (.iload_n 3, 1) := by decide +kernel
theorem dX12_wasWarped_190 : decode cX12_wasWarped 190 = .ok (.ifCond .ne 8, 3) := by decide +kernel
theorem dX12_wasWarped_193 : decode cX12_wasWarped 193 = .ok (.iload 4, 2) := by decide +kernel
theorem dX12_wasWarped_195 : decode cX12_wasWarped 195 = .ok (.goto 5, 3) := by decide +kernel
theorem dX12_wasWarped_198 : decode cX12_wasWarped 198 = .ok (.iload 5, 2) := by decide +kernel
theorem dX12_wasWarped_200 : decode cX12_wasWarped 200 = .ok (.ireturn, 1) := by decide +kernel
theorem dX12_alike_0 : decode cX12_alike 0 = .ok (.iconst 0, 1) := by decide +kernel
theorem dX12_alike_1 : decode cX12_alike 1 = .ok (.istore_n 2, 1) := by decide +kernel
theorem dX12_alike_2 : decode cX12_alike 2 = .ok (.iconst 0, 1) := by decide +kernel
theorem dX12_alike_3 : decode cX12_alike 3 = .ok (.istore_n 3, 1) := by decide +kernel
theorem dX12_alike_4 : decode cX12_alike 4 = .ok (.iload_n 3, 1) := by decide +kernel
theorem dX12_alike_5 : decode cX12_alike 5 = .ok (.aload_n 0, 1) := by decide +kernel
theorem dX12_alike_6 : decode cX12_alike 6 = .ok (.getfield 25, 3) := by decide +kernel
theorem dX12_alike_9 : decode cX12_alike 9 = .ok (.iconst 4, 1) := by decide +kernel
theorem dX12_alike_10 : decode cX12_alike 10 = .ok (.iaload, 1) := by decide +kernel
theorem dX12_alike_11 : decode cX12_alike 11 = .ok (.if_icmp .ge 69, 3) := by decide +kernel
theorem dX12_alike_14 : decode cX12_alike 14 = .ok (.iload_n 3, 1) := by decide +kernel
theorem dX12_alike_15 : decode cX12_alike 15 = .ok (.iconst 1, 1) := by decide +kernel
theorem dX12_alike_16 : decode cX12_alike 16 = .ok (.iadd, 1) := by decide +kernel
theorem dX12_alike_17 : decode cX12_alike 17 = .ok (.istore 4, 2) := by decide +kernel
theorem dX12_alike_19 : decode cX12_alike 19 = .ok (.iload 4, 2) := by decide +kernel
theorem dX12_alike_21 : decode cX12_alike 21 = .ok (.aload_n 0, 1) := by decide +kernel
theorem dX12_alike_22 : decode cX12_alike 22 = .ok (.getfield 25, 3) := by decide +kernel
theorem dX12_alike_25 : decode cX12_alike 25 = .ok (.iconst 4, 1) := by decide +kernel
theorem dX12_alike_26 : decode cX12_alike 26 = .ok (.iaload, 1) := by decide +kernel
theorem dX12_alike_27 : decode cX12_alike 27 = .ok (.if_icmp .ge 47, 3) := by decide +kernel
theorem dX12_alike_30 : decode cX12_alike 30 = .ok (.aload_n 0, 1) := by decide +kernel
theorem dX12_alike_31 : decode cX12_alike 31 = .ok (.getfield 25, 3) := by decide +kernel
theorem dX12_alike_34 : decode cX12_alike 34 = .ok (.bipush 6, 2) := by decide +kernel
theorem dX12_alike_36 : decode cX12_alike 36 = .ok (.iload_n 3, 1) := by decide +kernel
theorem dX12_alike_37 : decode cX12_alike 37 = .ok (.iadd, 1) := by decide +kernel
theorem dX12_alike_38 : decode cX12_alike 38 = .ok (.iaload, 1) := by decide +kernel
theorem dX12_alike_39 : decode cX12_alike 39 = .ok (.aload_n 0, 1) := by decide +kernel
theorem dX12_alike_40 : decode cX12_alike 40 = .ok (.getfield 25, 3) := by decide +kernel
theorem dX12_alike_43 : decode cX12_alike 43 = .ok (.bipush 6, 2) := by decide +kernel
theorem dX12_alike_45 : decode cX12_alike 45 = .ok (.iload 4, 2) := by decide +kernel
theorem dX12_alike_47 : decode cX12_alike 47 = .ok (.iadd, 1) := by decide +kernel
theorem dX12_alike_48 : decode cX12_alike 48 = .ok (.iaload, 1) := by decide +kernel
theorem dX12_alike_49 : decode cX12_alike 49 = .ok (.if_icmp .ne 19, 3) := by decide +kernel
theorem dX12_alike_52 : decode cX12_alike 52 = .ok (.iload_n 2, 1) := by decide +kernel
theorem dX12_alike_53 : decode cX12_alike 53 = .ok (.iload_n 1, 1) := by decide +kernel
theorem dX12_alike_54 : decode cX12_alike 54 = .ok (.if_icmp .ne 11, 3) := by decide +kernel
theorem dX12_alike_57 : decode cX12_alike 57 = .ok (.bipush 100, 2) := by decide +kernel
theorem dX12_alike_59 : decode cX12_alike 59 = .ok (.iload_n 3, 1) := by decide +kernel
theorem dX12_alike_60 : decode cX12_alike 60 = .ok (.imul, 1) := by decide +kernel
theorem dX12_alike_61 : decode cX12_alike 61 = .ok (.iload 4, 2) := by decide +kernel
theorem dX12_alike_63 : decode cX12_alike 63 = .ok (.iadd, 1) := by decide +kernel
theorem dX12_alike_64 : decode cX12_alike 64 = .ok (.ireturn, 1) := by decide +kernel
theorem dX12_alike_65 : decode cX12_alike 65 = .ok (.iinc 2 1, 3) := by decide +kernel
theorem dX12_alike_68 : decode cX12_alike 68 = .ok (.iinc 4 1, 3) := by decide +kernel
theorem dX12_alike_71 : decode cX12_alike 71 = .ok (.goto (-52), 3) := by decide +kernel
theorem dX12_alike_74 : decode cX12_alike 74 = .ok (.iinc 3 1, 3) := by decide +kernel
theorem dX12_alike_77 : decode cX12_alike 77 = .ok (.goto (-73), 3) := by decide +kernel
theorem dX12_alike_80 : decode cX12_alike 80 = .ok (.iload_n 1, 1) := by decide +kernel
theorem dX12_alike_81 : decode cX12_alike 81 = .ok (.iconst (-1), 1) := by decide +kernel
theorem dX12_alike_82 : decode cX12_alike 82 = .ok (.if_icmp .ne 7, 3) := by decide +kernel
theorem dX12_alike_85 : decode cX12_alike 85 = .ok (.iload_n 2, 1) := by decide +kernel
theorem dX12_alike_86 : decode cX12_alike 86 = .ok (.goto 4, 3) := by decide +kernel
theorem dX12_alike_89 : decode cX12_alike 89 = .ok (.iconst (-1), 1) := by decide +kernel
theorem dX12_alike_90 : decode cX12_alike 90 = .ok (.ireturn, 1) := by decide +kernel
theorem dX12_mean_0 : decode cX12_mean 0 = .ok (.iconst 0, 1) := by decide +kernel
theorem dX12_mean_1 : decode cX12_mean 1 = .ok (.istore_n 1, 1) := by decide +kernel
theorem dX12_mean_2 : decode cX12_mean 2 = .ok (.iconst 0, 1) := by decide +kernel
theorem dX12_mean_3 : decode cX12_mean 3 = .ok (.istore_n 2, 1) := by decide +kernel
theorem dX12_mean_4 : decode cX12_mean 4 = .ok (.iload_n 2, 1) := by decide +kernel
theorem dX12_mean_5 : decode cX12_mean 5 = .ok (.aload_n 0, 1) := by decide +kernel
theorem dX12_mean_6 : decode cX12_mean 6 = .ok (.getfield 25, 3) := by decide +kernel
theorem dX12_mean_9 : decode cX12_mean 9 = .ok (.iconst 5, 1) := by decide +kernel
theorem dX12_mean_10 : decode cX12_mean 10 = .ok (.iaload, 1) := by decide +kernel
theorem dX12_mean_11 : decode cX12_mean 11 = .ok (.if_icmp .ge 21, 3) := by decide +kernel
theorem dX12_mean_14 : decode cX12_mean 14 = .ok (.iload_n 1, 1) := by decide +kernel
theorem dX12_mean_15 : decode cX12_mean 15 = .ok (.aload_n 0, 1) := by decide +kernel
theorem dX12_mean_16 : decode cX12_mean 16 = .ok (.getfield 25, 3) := by decide +kernel
theorem dX12_mean_19 : decode cX12_mean 19 = .ok (.bipush 66, 2) := by decide +kernel
theorem dX12_mean_21 : decode cX12_mean 21 = .ok (.iload_n 2, 1) := by decide +kernel
theorem dX12_mean_22 : decode cX12_mean 22 = .ok (.iadd, 1) := by decide +kernel
theorem dX12_mean_23 : decode cX12_mean 23 = .ok (.iaload, 1) := by decide +kernel
theorem dX12_mean_24 : decode cX12_mean 24 = .ok (.iadd, 1) := by decide +kernel
theorem dX12_mean_25 : decode cX12_mean 25 = .ok (.istore_n 1, 1) := by decide +kernel
theorem dX12_mean_26 : decode cX12_mean 26 = .ok (.iinc 2 1, 3) := by decide +kernel
theorem dX12_mean_29 : decode cX12_mean 29 = .ok (.goto (-25), 3) := by decide +kernel
theorem dX12_mean_32 : decode cX12_mean 32 = .ok (.iload_n 1, 1) := by decide +kernel
theorem dX12_mean_33 : decode cX12_mean 33 = .ok (.aload_n 0, 1) := by decide +kernel
theorem dX12_mean_34 : decode cX12_mean 34 = .ok (.getfield 25, 3) := by decide +kernel
theorem dX12_mean_37 : decode cX12_mean 37 = .ok (.iconst 5, 1) := by decide +kernel
theorem dX12_mean_38 : decode cX12_mean 38 = .ok (.iaload, 1) := by decide +kernel
theorem dX12_mean_39 : decode cX12_mean 39 = .ok (.idiv, 1) := by decide +kernel
theorem dX12_mean_40 : decode cX12_mean 40 = .ok (.ireturn, 1) := by decide +kernel
theorem dX12_middle_0 : decode cX12_middle 0 = .ok (.aload_n 0, 1) := by decide +kernel
theorem dX12_middle_1 : decode cX12_middle 1 = .ok (.getfield 25, 3) := by decide +kernel
theorem dX12_middle_4 : decode cX12_middle 4 = .ok (.iconst 5, 1) := by decide +kernel
theorem dX12_middle_5 : decode cX12_middle 5 = .ok (.iaload, 1) := by decide +kernel
theorem dX12_middle_6 : decode cX12_middle 6 = .ok (.iconst 1, 1) := by decide +kernel
theorem dX12_middle_7 : decode cX12_middle 7 = .ok (.isub, 1) := by decide +kernel
theorem dX12_middle_8 : decode cX12_middle 8 = .ok (.iconst 2, 1) := by decide +kernel
theorem dX12_middle_9 : decode cX12_middle 9 = .ok (.idiv, 1) := by decide +kernel
theorem dX12_middle_10 : decode cX12_middle 10 = .ok (.istore_n 1, 1) := by decide +kernel
theorem dX12_middle_11 : decode cX12_middle 11 = .ok (.iconst 0, 1) := by decide +kernel
theorem dX12_middle_12 : decode cX12_middle 12 = .ok (.istore_n 2, 1) := by decide +kernel
theorem dX12_middle_13 : decode cX12_middle 13 = .ok (.iload_n 2, 1) := by decide +kernel
theorem dX12_middle_14 : decode cX12_middle 14 = .ok (.aload_n 0, 1) := by decide +kernel
theorem dX12_middle_15 : decode cX12_middle 15 = .ok (.getfield 25, 3) := by decide +kernel
theorem dX12_middle_18 : decode cX12_middle 18 = .ok (.iconst 5, 1) := by decide +kernel
theorem dX12_middle_19 : decode cX12_middle 19 = .ok (.iaload, 1) := by decide +kernel
theorem dX12_middle_20 : decode cX12_middle 20 = .ok (.if_icmp .ge 123, 3) := by decide +kernel
theorem dX12_middle_23 : decode cX12_middle 23 = .ok (.iconst 0, 1) := by decide +kernel
theorem dX12_middle_24 : decode cX12_middle 24 = .ok (.istore_n 3, 1) := by decide +kernel
theorem dX12_middle_25 : decode cX12_middle 25 = .ok (.iconst 0, 1) := by decide +kernel
theorem dX12_middle_26 : decode cX12_middle 26 = .ok (.istore 4, 2) := by decide +kernel
theorem dX12_middle_28 : decode cX12_middle 28 = .ok (.iconst 0, 1) := by decide +kernel
theorem dX12_middle_29 : decode cX12_middle 29 = .ok (.istore 5, 2) := by decide +kernel
theorem dX12_middle_31 : decode cX12_middle 31 = .ok (.iload 5, 2) := by decide +kernel
theorem dX12_middle_33 : decode cX12_middle 33 = .ok (.aload_n 0, 1) := by decide +kernel
theorem dX12_middle_34 : decode cX12_middle 34 = .ok (.getfield 25, 3) := by decide +kernel
theorem dX12_middle_37 : decode cX12_middle 37 = .ok (.iconst 5, 1) := by decide +kernel
theorem dX12_middle_38 : decode cX12_middle 38 = .ok (.iaload, 1) := by decide +kernel
theorem dX12_middle_39 : decode cX12_middle 39 = .ok (.if_icmp .ge 71, 3) := by decide +kernel
theorem dX12_middle_42 : decode cX12_middle 42 = .ok (.iload_n 3, 1) := by decide +kernel
theorem dX12_middle_43 : decode cX12_middle 43 = .ok (.aload_n 0, 1) := by decide +kernel
theorem dX12_middle_44 : decode cX12_middle 44 = .ok (.getfield 25, 3) := by decide +kernel
theorem dX12_middle_47 : decode cX12_middle 47 = .ok (.bipush 66, 2) := by decide +kernel
theorem dX12_middle_49 : decode cX12_middle 49 = .ok (.iload 5, 2) := by decide +kernel
theorem dX12_middle_51 : decode cX12_middle 51 = .ok (.iadd, 1) := by decide +kernel
theorem dX12_middle_52 : decode cX12_middle 52 = .ok (.iaload, 1) := by decide +kernel
theorem dX12_middle_53 : decode cX12_middle 53 = .ok (.aload_n 0, 1) := by decide +kernel
theorem dX12_middle_54 : decode cX12_middle 54 = .ok (.getfield 25, 3) := by decide +kernel
theorem dX12_middle_57 : decode cX12_middle 57 = .ok (.bipush 66, 2) := by decide +kernel
theorem dX12_middle_59 : decode cX12_middle 59 = .ok (.iload_n 2, 1) := by decide +kernel
theorem dX12_middle_60 : decode cX12_middle 60 = .ok (.iadd, 1) := by decide +kernel
theorem dX12_middle_61 : decode cX12_middle 61 = .ok (.iaload, 1) := by decide +kernel
theorem dX12_middle_62 : decode cX12_middle 62 = .ok (.if_icmp .ge 7, 3) := by decide +kernel
theorem dX12_middle_65 : decode cX12_middle 65 = .ok (.iconst 1, 1) := by decide +kernel
theorem dX12_middle_66 : decode cX12_middle 66 = .ok (.goto 4, 3) := by decide +kernel
theorem dX12_middle_69 : decode cX12_middle 69 = .ok (.iconst 0, 1) := by decide +kernel
theorem dX12_middle_70 : decode cX12_middle 70 = .ok (.iadd, 1) := by decide +kernel
theorem dX12_middle_71 : decode cX12_middle 71 = .ok (.istore_n 3, 1) := by decide +kernel
theorem dX12_middle_72 : decode cX12_middle 72 = .ok (.iload 4, 2) := by decide +kernel
theorem dX12_middle_74 : decode cX12_middle 74 = .ok (.aload_n 0, 1) := by decide +kernel
theorem dX12_middle_75 : decode cX12_middle 75 = .ok (.getfield 25, 3) := by decide +kernel
theorem dX12_middle_78 : decode cX12_middle 78 = .ok (.bipush 66, 2) := by decide +kernel
theorem dX12_middle_80 : decode cX12_middle 80 = .ok (.iload 5, 2) := by decide +kernel
theorem dX12_middle_82 : decode cX12_middle 82 = .ok (.iadd, 1) := by decide +kernel
theorem dX12_middle_83 : decode cX12_middle 83 = .ok (.iaload, 1) := by decide +kernel
theorem dX12_middle_84 : decode cX12_middle 84 = .ok (.aload_n 0, 1) := by decide +kernel
theorem dX12_middle_85 : decode cX12_middle 85 = .ok (.getfield 25, 3) := by decide +kernel
theorem dX12_middle_88 : decode cX12_middle 88 = .ok (.bipush 66, 2) := by decide +kernel
theorem dX12_middle_90 : decode cX12_middle 90 = .ok (.iload_n 2, 1) := by decide +kernel
theorem dX12_middle_91 : decode cX12_middle 91 = .ok (.iadd, 1) := by decide +kernel
theorem dX12_middle_92 : decode cX12_middle 92 = .ok (.iaload, 1) := by decide +kernel
theorem dX12_middle_93 : decode cX12_middle 93 = .ok (.if_icmp .ne 7, 3) := by decide +kernel
theorem dX12_middle_96 : decode cX12_middle 96 = .ok (.iconst 1, 1) := by decide +kernel
theorem dX12_middle_97 : decode cX12_middle 97 = .ok (.goto 4, 3) := by decide +kernel
theorem dX12_middle_100 : decode cX12_middle 100 = .ok (.iconst 0, 1) := by decide +kernel
theorem dX12_middle_101 : decode cX12_middle 101 = .ok (.iadd, 1) := by decide +kernel
theorem dX12_middle_102 : decode cX12_middle 102 = .ok (.istore 4, 2) := by decide +kernel
theorem dX12_middle_104 : decode cX12_middle 104 = .ok (.iinc 5 1, 3) := by decide +kernel
theorem dX12_middle_107 : decode cX12_middle 107 = .ok (.goto (-76), 3) := by decide +kernel
theorem dX12_middle_110 : decode cX12_middle 110 = .ok (.iload_n 1, 1) := by decide +kernel
theorem dX12_middle_111 : decode cX12_middle 111 = .ok (.i2l, 1) := by decide +kernel
theorem dX12_middle_112 : decode cX12_middle 112 = .ok (.iload_n 3, 1) := by decide +kernel
theorem dX12_middle_113 : decode cX12_middle 113 = .ok (.i2l, 1) := by decide +kernel
theorem dX12_middle_114 : decode cX12_middle 114 = .ok (.iload_n 3, 1) := by decide +kernel
theorem dX12_middle_115 : decode cX12_middle 115 = .ok (.iload 4, 2) := by decide +kernel
theorem dX12_middle_117 : decode cX12_middle 117 = .ok (.iadd, 1) := by decide +kernel
theorem dX12_middle_118 : decode cX12_middle 118 = .ok (.iconst 1, 1) := by decide +kernel
theorem dX12_middle_119 : decode cX12_middle 119 = .ok (.isub, 1) := by decide +kernel
theorem dX12_middle_120 : decode cX12_middle 120 = .ok (.i2l, 1) := by decide +kernel
theorem dX12_middle_121 : decode cX12_middle 121 = .ok (.invokestatic 87, 3) := by decide +kernel
theorem dX12_middle_124 : decode cX12_middle 124 = .ok (.ifCond .eq 13, 3) := by decide +kernel
theorem dX12_middle_127 : decode cX12_middle 127 = .ok (.aload_n 0, 1) := by decide +kernel
theorem dX12_middle_128 : decode cX12_middle 128 = .ok (.getfield 25, 3) := by decide +kernel
theorem dX12_middle_131 : decode cX12_middle 131 = .ok (.bipush 66, 2) := by decide +kernel
theorem dX12_middle_133 : decode cX12_middle 133 = .ok (.iload_n 2, 1) := by decide +kernel
theorem dX12_middle_134 : decode cX12_middle 134 = .ok (.iadd, 1) := by decide +kernel
theorem dX12_middle_135 : decode cX12_middle 135 = .ok (.iaload, 1) := by decide +kernel
theorem dX12_middle_136 : decode cX12_middle 136 = .ok (.ireturn, 1) := by decide +kernel
theorem dX12_middle_137 : decode cX12_middle 137 = .ok (.iinc 2 1, 3) := by decide +kernel
theorem dX12_middle_140 : decode cX12_middle 140 = .ok (.goto (-127), 3) := by decide +kernel
theorem dX12_middle_143 : decode cX12_middle 143 = .ok (.iconst (-1), 1) := by decide +kernel
theorem dX12_middle_144 : decode cX12_middle 144 = .ok (.ireturn, 1) := by decide +kernel
theorem dX12_handBy_0 : decode cX12_handBy 0 = .ok (.iconst 0, 1) := by decide +kernel
theorem dX12_handBy_1 : decode cX12_handBy 1 = .ok (.istore_n 3, 1) := by decide +kernel
theorem dX12_handBy_2 : decode cX12_handBy 2 = .ok (.iconst 1, 1) := by decide +kernel
theorem dX12_handBy_3 : decode cX12_handBy 3 = .ok (.istore 4, 2) := by decide +kernel
theorem dX12_handBy_5 : decode cX12_handBy 5 = .ok (.iload 4, 2) := by decide +kernel
theorem dX12_handBy_7 : decode cX12_handBy 7 = .ok (.aload_n 0, 1) := by decide +kernel
theorem dX12_handBy_8 : decode cX12_handBy 8 = .ok (.getfield 25, 3) := by decide +kernel
theorem dX12_handBy_11 : decode cX12_handBy 11 = .ok (.iconst 5, 1) := by decide +kernel
theorem dX12_handBy_12 : decode cX12_handBy 12 = .ok (.iaload, 1) := by decide +kernel
theorem dX12_handBy_13 : decode cX12_handBy 13 = .ok (.if_icmp .ge 76, 3) := by decide +kernel
theorem dX12_handBy_16 : decode cX12_handBy 16 = .ok (.aload_n 0, 1) := by decide +kernel
theorem dX12_handBy_17 : decode cX12_handBy 17 = .ok (.getfield 25, 3) := by decide +kernel
theorem dX12_handBy_20 : decode cX12_handBy 20 = .ok (.bipush 66, 2) := by decide +kernel
theorem dX12_handBy_22 : decode cX12_handBy 22 = .ok (.iload 4, 2) := by decide +kernel
theorem dX12_handBy_24 : decode cX12_handBy 24 = .ok (.iadd, 1) := by decide +kernel
theorem dX12_handBy_25 : decode cX12_handBy 25 = .ok (.iaload, 1) := by decide +kernel
theorem dX12_handBy_26 : decode cX12_handBy 26 = .ok (.iload_n 1, 1) := by decide +kernel
theorem dX12_handBy_27 : decode cX12_handBy 27 = .ok (.isub, 1) := by decide +kernel
theorem dX12_handBy_28 : decode cX12_handBy 28 = .ok (.invokestatic 257, 3) := by decide +kernel
theorem dX12_handBy_31 : decode cX12_handBy 31 = .ok (.istore 5, 2) := by decide +kernel
theorem dX12_handBy_33 : decode cX12_handBy 33 = .ok (.aload_n 0, 1) := by decide +kernel
theorem dX12_handBy_34 : decode cX12_handBy 34 = .ok (.getfield 25, 3) := by decide +kernel
theorem dX12_handBy_37 : decode cX12_handBy 37 = .ok (.bipush 66, 2) := by decide +kernel
theorem dX12_handBy_39 : decode cX12_handBy 39 = .ok (.iload_n 3, 1) := by decide +kernel
theorem dX12_handBy_40 : decode cX12_handBy 40 = .ok (.iadd, 1) := by decide +kernel
theorem dX12_handBy_41 : decode cX12_handBy 41 = .ok (.iaload, 1) := by decide +kernel
theorem dX12_handBy_42 : decode cX12_handBy 42 = .ok (.iload_n 1, 1) := by decide +kernel
theorem dX12_handBy_43 : decode cX12_handBy 43 = .ok (.isub, 1) := by decide +kernel
theorem dX12_handBy_44 : decode cX12_handBy 44 = .ok (.invokestatic 257, 3) := by decide +kernel
theorem dX12_handBy_47 : decode cX12_handBy 47 = .ok (.istore 6, 2) := by decide +kernel
theorem dX12_handBy_49 : decode cX12_handBy 49 = .ok (.iload_n 2, 1) := by decide +kernel
theorem dX12_handBy_50 : decode cX12_handBy 50 = .ok (.ifCond .eq 19, 3) := by decide +kernel
theorem dX12_handBy_53 : decode cX12_handBy 53 = .ok (.iload 5, 2) := by decide +kernel
theorem dX12_handBy_55 : decode cX12_handBy 55 = .ok (.iload 6, 2) := by decide +kernel
theorem dX12_handBy_57 : decode cX12_handBy 57 = .ok (.if_icmp .le 8, 3) := by decide +kernel
theorem dX12_handBy_60 : decode cX12_handBy 60 = .ok (.iload 4, 2) := by decide +kernel
theorem dX12_handBy_62 : decode cX12_handBy 62 = .ok (.goto 20, 3) := by decide +kernel
theorem dX12_handBy_65 : decode cX12_handBy 65 = .ok (.iload_n 3, 1) := by decide +kernel
theorem dX12_handBy_66 : decode cX12_handBy 66 = .ok (.goto 16, 3) := by decide +kernel
theorem dX12_handBy_69 : decode cX12_handBy 69 = .ok (.iload 5, 2) := by decide +kernel
theorem dX12_handBy_71 : decode cX12_handBy 71 = .ok (.iload 6, 2) := by decide +kernel
theorem dX12_handBy_73 : decode cX12_handBy 73 = .ok (.if_icmp .ge 8, 3) := by decide +kernel
theorem dX12_handBy_76 : decode cX12_handBy 76 = .ok (.iload 4, 2) := by decide +kernel
theorem dX12_handBy_78 : decode cX12_handBy 78 = .ok (.goto 4, 3) := by decide +kernel
theorem dX12_handBy_81 : decode cX12_handBy 81 = .ok (.iload_n 3, 1) := by decide +kernel
theorem dX12_handBy_82 : decode cX12_handBy 82 = .ok (.istore_n 3, 1) := by decide +kernel
theorem dX12_handBy_83 : decode cX12_handBy 83 = .ok (.iinc 4 1, 3) := by decide +kernel
theorem dX12_handBy_86 : decode cX12_handBy 86 = .ok (.goto (-81), 3) := by decide +kernel
theorem dX12_handBy_89 : decode cX12_handBy 89 = .ok (.iload_n 3, 1) := by decide +kernel
theorem dX12_handBy_90 : decode cX12_handBy 90 = .ok (.ireturn, 1) := by decide +kernel
theorem dX12_hands_0 : decode cX12_hands 0 = .ok (.iload_n 1, 1) := by decide +kernel
theorem dX12_hands_1 : decode cX12_hands 1 = .ok (.i2l, 1) := by decide +kernel
theorem dX12_hands_2 : decode cX12_hands 2 = .ok (.lconst 0, 1) := by decide +kernel
theorem dX12_hands_3 : decode cX12_hands 3 = .ok (.ldc2_w 311, 3) := by decide +kernel
theorem dX12_hands_6 : decode cX12_hands 6 = .ok (.invokestatic 87, 3) := by decide +kernel
theorem dX12_hands_9 : decode cX12_hands 9 = .ok (.ifCond .ne 6, 3) := by decide +kernel
theorem dX12_hands_12 : decode cX12_hands 12 = .ok (.ldc 96, 2) := by decide +kernel
theorem dX12_hands_14 : decode cX12_hands 14 = .ok (.ireturn, 1) := by decide +kernel
theorem dX12_hands_15 : decode cX12_hands 15 = .ok (.aload_n 0, 1) := by decide +kernel
theorem dX12_hands_16 : decode cX12_hands 16 = .ok (.getfield 25, 3) := by decide +kernel
theorem dX12_hands_19 : decode cX12_hands 19 = .ok (.iconst 5, 1) := by decide +kernel
theorem dX12_hands_20 : decode cX12_hands 20 = .ok (.iaload, 1) := by decide +kernel
theorem dX12_hands_21 : decode cX12_hands 21 = .ok (.ifCond .ne 5, 3) := by decide +kernel
theorem dX12_hands_24 : decode cX12_hands 24 = .ok (.iconst (-1), 1) := by decide +kernel
theorem dX12_hands_25 : decode cX12_hands 25 = .ok (.ireturn, 1) := by decide +kernel
theorem dX12_hands_26 : decode cX12_hands 26 = .ok (.iload_n 1, 1) := by decide +kernel
theorem dX12_hands_27 : decode cX12_hands 27 = .ok (.tableswitch 45 0 2 #[25, 30, 35], 25) := by decide +kernel
theorem dX12_hands_52 : decode cX12_hands 52 = .ok (.aload_n 0, 1) := by decide +kernel
theorem dX12_hands_53 : decode cX12_hands 53 = .ok (.invokevirtual 313, 3) := by decide +kernel
theorem dX12_hands_56 : decode cX12_hands 56 = .ok (.ireturn, 1) := by decide +kernel
theorem dX12_hands_57 : decode cX12_hands 57 = .ok (.aload_n 0, 1) := by decide +kernel
theorem dX12_hands_58 : decode cX12_hands 58 = .ok (.invokevirtual 316, 3) := by decide +kernel
theorem dX12_hands_61 : decode cX12_hands 61 = .ok (.ireturn, 1) := by decide +kernel
theorem dX12_hands_62 : decode cX12_hands 62 = .ok (.aload_n 0, 1) := by decide +kernel
theorem dX12_hands_63 : decode cX12_hands 63 = .ok (.aload_n 0, 1) := by decide +kernel
theorem dX12_hands_64 : decode cX12_hands 64 = .ok (.invokevirtual 313, 3) := by decide +kernel
theorem dX12_hands_67 : decode cX12_hands 67 = .ok (.iconst 1, 1) := by decide +kernel
theorem dX12_hands_68 : decode cX12_hands 68 = .ok (.invokevirtual 319, 3) := by decide +kernel
theorem dX12_hands_71 : decode cX12_hands 71 = .ok (.ireturn, 1) := by decide +kernel
theorem dX12_hands_72 : decode cX12_hands 72 = .ok (.aload_n 0, 1) := by decide +kernel
theorem dX12_hands_73 : decode cX12_hands 73 = .ok (.aload_n 0, 1) := by decide +kernel
theorem dX12_hands_74 : decode cX12_hands 74 = .ok (.getfield 25, 3) := by decide +kernel
theorem dX12_hands_77 : decode cX12_hands 77 = .ok (.iconst 0, 1) := by decide +kernel
theorem dX12_hands_78 : decode cX12_hands 78 = .ok (.iaload, 1) := by decide +kernel
theorem dX12_hands_79 : decode cX12_hands 79 = .ok (.iconst 0, 1) := by decide +kernel
theorem dX12_hands_80 : decode cX12_hands 80 = .ok (.invokevirtual 319, 3) := by decide +kernel
theorem dX12_hands_83 : decode cX12_hands 83 = .ok (.ireturn, 1) := by decide +kernel
theorem dX12_tens_0 : decode cX12_tens 0 = .ok (.iload_n 1, 1) := by decide +kernel
theorem dX12_tens_1 : decode cX12_tens 1 = .ok (.i2l, 1) := by decide +kernel
theorem dX12_tens_2 : decode cX12_tens 2 = .ok (.lconst 0, 1) := by decide +kernel
theorem dX12_tens_3 : decode cX12_tens 3 = .ok (.ldc2_w 265, 3) := by decide +kernel
theorem dX12_tens_6 : decode cX12_tens 6 = .ok (.invokestatic 87, 3) := by decide +kernel
theorem dX12_tens_9 : decode cX12_tens 9 = .ok (.ifCond .eq 25, 3) := by decide +kernel
theorem dX12_tens_12 : decode cX12_tens 12 = .ok (.iload_n 2, 1) := by decide +kernel
theorem dX12_tens_13 : decode cX12_tens 13 = .ok (.i2l, 1) := by decide +kernel
theorem dX12_tens_14 : decode cX12_tens 14 = .ok (.lconst 0, 1) := by decide +kernel
theorem dX12_tens_15 : decode cX12_tens 15 = .ok (.ldc2_w 245, 3) := by decide +kernel
theorem dX12_tens_18 : decode cX12_tens 18 = .ok (.invokestatic 87, 3) := by decide +kernel
theorem dX12_tens_21 : decode cX12_tens 21 = .ok (.ifCond .eq 13, 3) := by decide +kernel
theorem dX12_tens_24 : decode cX12_tens 24 = .ok (.iload_n 3, 1) := by decide +kernel
theorem dX12_tens_25 : decode cX12_tens 25 = .ok (.i2l, 1) := by decide +kernel
theorem dX12_tens_26 : decode cX12_tens 26 = .ok (.lconst 0, 1) := by decide +kernel
theorem dX12_tens_27 : decode cX12_tens 27 = .ok (.lconst 1, 1) := by decide +kernel
theorem dX12_tens_28 : decode cX12_tens 28 = .ok (.invokestatic 87, 3) := by decide +kernel
theorem dX12_tens_31 : decode cX12_tens 31 = .ok (.ifCond .ne 6, 3) := by decide +kernel
theorem dX12_tens_34 : decode cX12_tens 34 = .ok (.ldc 96, 2) := by decide +kernel
theorem dX12_tens_36 : decode cX12_tens 36 = .ok (.ireturn, 1) := by decide +kernel
theorem dX12_tens_37 : decode cX12_tens 37 = .ok (.bipush 10, 2) := by decide +kernel
theorem dX12_tens_39 : decode cX12_tens 39 = .ok (.bipush 12, 2) := by decide +kernel
theorem dX12_tens_41 : decode cX12_tens 41 = .ok (.iload_n 1, 1) := by decide +kernel
theorem dX12_tens_42 : decode cX12_tens 42 = .ok (.imul, 1) := by decide +kernel
theorem dX12_tens_43 : decode cX12_tens 43 = .ok (.iload_n 2, 1) := by decide +kernel
theorem dX12_tens_44 : decode cX12_tens 44 = .ok (.iadd, 1) := by decide +kernel
theorem dX12_tens_45 : decode cX12_tens 45 = .ok (.imul, 1) := by decide +kernel
theorem dX12_tens_46 : decode cX12_tens 46 = .ok (.istore 4, 2) := by decide +kernel
theorem dX12_tens_48 : decode cX12_tens 48 = .ok (.iload_n 3, 1) := by decide +kernel
theorem dX12_tens_49 : decode cX12_tens 49 = .ok (.ifCond .ne 11, 3) := by decide +kernel
theorem dX12_tens_52 : decode cX12_tens 52 = .ok (.iload 4, 2) := by decide +kernel
theorem dX12_tens_54 : decode cX12_tens 54 = .ok (.bipush 12, 2) := by decide +kernel
theorem dX12_tens_56 : decode cX12_tens 56 = .ok (.idiv, 1) := by decide +kernel
theorem dX12_tens_57 : decode cX12_tens 57 = .ok (.goto 8, 3) := by decide +kernel
theorem dX12_tens_60 : decode cX12_tens 60 = .ok (.iload 4, 2) := by decide +kernel
theorem dX12_tens_62 : decode cX12_tens 62 = .ok (.bipush 12, 2) := by decide +kernel
theorem dX12_tens_64 : decode cX12_tens 64 = .ok (.irem, 1) := by decide +kernel
theorem dX12_tens_65 : decode cX12_tens 65 = .ok (.ireturn, 1) := by decide +kernel
theorem dX12_lean_0 : decode cX12_lean 0 = .ok (.iload_n 1, 1) := by decide +kernel
theorem dX12_lean_1 : decode cX12_lean 1 = .ok (.i2l, 1) := by decide +kernel
theorem dX12_lean_2 : decode cX12_lean 2 = .ok (.lconst 0, 1) := by decide +kernel
theorem dX12_lean_3 : decode cX12_lean 3 = .ok (.ldc2_w 265, 3) := by decide +kernel
theorem dX12_lean_6 : decode cX12_lean 6 = .ok (.invokestatic 87, 3) := by decide +kernel
theorem dX12_lean_9 : decode cX12_lean 9 = .ok (.ifCond .eq 27, 3) := by decide +kernel
theorem dX12_lean_12 : decode cX12_lean 12 = .ok (.iload_n 2, 1) := by decide +kernel
theorem dX12_lean_13 : decode cX12_lean 13 = .ok (.i2l, 1) := by decide +kernel
theorem dX12_lean_14 : decode cX12_lean 14 = .ok (.lconst 0, 1) := by decide +kernel
theorem dX12_lean_15 : decode cX12_lean 15 = .ok (.ldc2_w 255, 3) := by decide +kernel
theorem dX12_lean_18 : decode cX12_lean 18 = .ok (.invokestatic 87, 3) := by decide +kernel
theorem dX12_lean_21 : decode cX12_lean 21 = .ok (.ifCond .eq 15, 3) := by decide +kernel
theorem dX12_lean_24 : decode cX12_lean 24 = .ok (.iload_n 3, 1) := by decide +kernel
theorem dX12_lean_25 : decode cX12_lean 25 = .ok (.i2l, 1) := by decide +kernel
theorem dX12_lean_26 : decode cX12_lean 26 = .ok (.lconst 0, 1) := by decide +kernel
theorem dX12_lean_27 : decode cX12_lean 27 = .ok (.ldc2_w 255, 3) := by decide +kernel
theorem dX12_lean_30 : decode cX12_lean 30 = .ok (.invokestatic 87, 3) := by decide +kernel
theorem dX12_lean_33 : decode cX12_lean 33 = .ok (.ifCond .ne 6, 3) := by decide +kernel
theorem dX12_lean_36 : decode cX12_lean 36 = .ok (.ldc 96, 2) := by decide +kernel
theorem dX12_lean_38 : decode cX12_lean 38 = .ok (.ireturn, 1) := by decide +kernel
theorem dX12_lean_39 : decode cX12_lean 39 = .ok (.iload_n 1, 1) := by decide +kernel
theorem dX12_lean_40 : decode cX12_lean 40 = .ok (.ifCond .ne 5, 3) := by decide +kernel
theorem dX12_lean_43 : decode cX12_lean 43 = .ok (.iconst 0, 1) := by decide +kernel
theorem dX12_lean_44 : decode cX12_lean 44 = .ok (.ireturn, 1) := by decide +kernel
theorem dX12_lean_45 : decode cX12_lean 45 = .ok (.iload_n 2, 1) := by decide +kernel
theorem dX12_lean_46 : decode cX12_lean 46 = .ok (.iload_n 3, 1) := by decide +kernel
theorem dX12_lean_47 : decode cX12_lean 47 = .ok (.iadd, 1) := by decide +kernel
theorem dX12_lean_48 : decode cX12_lean 48 = .ok (.ifCond .ne 7, 3) := by decide +kernel
theorem dX12_lean_51 : decode cX12_lean 51 = .ok (.iconst (-1), 1) := by decide +kernel
theorem dX12_lean_52 : decode cX12_lean 52 = .ok (.goto 14, 3) := by decide +kernel
theorem dX12_lean_55 : decode cX12_lean 55 = .ok (.iload_n 1, 1) := by decide +kernel
theorem dX12_lean_56 : decode cX12_lean 56 = .ok (.iload_n 2, 1) := by decide +kernel
theorem dX12_lean_57 : decode cX12_lean 57 = .ok (.iadd, 1) := by decide +kernel
theorem dX12_lean_58 : decode cX12_lean 58 = .ok (.iload_n 3, 1) := by decide +kernel
theorem dX12_lean_59 : decode cX12_lean 59 = .ok (.iadd, 1) := by decide +kernel
theorem dX12_lean_60 : decode cX12_lean 60 = .ok (.iconst 1, 1) := by decide +kernel
theorem dX12_lean_61 : decode cX12_lean 61 = .ok (.isub, 1) := by decide +kernel
theorem dX12_lean_62 : decode cX12_lean 62 = .ok (.iload_n 2, 1) := by decide +kernel
theorem dX12_lean_63 : decode cX12_lean 63 = .ok (.iload_n 3, 1) := by decide +kernel
theorem dX12_lean_64 : decode cX12_lean 64 = .ok (.iadd, 1) := by decide +kernel
theorem dX12_lean_65 : decode cX12_lean 65 = .ok (.idiv, 1) := by decide +kernel
theorem dX12_lean_66 : decode cX12_lean 66 = .ok (.ireturn, 1) := by decide +kernel
theorem dX12_foundBy_0 : decode cX12_foundBy 0 = .ok (.iload_n 1, 1) := by decide +kernel
theorem dX12_foundBy_1 : decode cX12_foundBy 1 = .ok (.i2l, 1) := by decide +kernel
theorem dX12_foundBy_2 : decode cX12_foundBy 2 = .ok (.lconst 0, 1) := by decide +kernel
theorem dX12_foundBy_3 : decode cX12_foundBy 3 = .ok (.ldc2_w 229, 3) := by decide +kernel
theorem dX12_foundBy_6 : decode cX12_foundBy 6 = .ok (.invokestatic 87, 3) := by decide +kernel
theorem dX12_foundBy_9 : decode cX12_foundBy 9 = .ok (.ifCond .eq 15, 3) := by decide +kernel
theorem dX12_foundBy_12 : decode cX12_foundBy 12 = .ok (.iload_n 2, 1) := by decide +kernel
theorem dX12_foundBy_13 : decode cX12_foundBy 13 = .ok (.i2l, 1) := by decide +kernel
theorem dX12_foundBy_14 : decode cX12_foundBy 14 = .ok (.lconst 0, 1) := by decide +kernel
theorem dX12_foundBy_15 : decode cX12_foundBy 15 = .ok (.ldc2_w 323, 3) := by decide +kernel
theorem dX12_foundBy_18 : decode cX12_foundBy 18 = .ok (.invokestatic 87, 3) := by decide +kernel
theorem dX12_foundBy_21 : decode cX12_foundBy 21 = .ok (.ifCond .ne 6, 3) := by decide +kernel
theorem dX12_foundBy_24 : decode cX12_foundBy 24 = .ok (.ldc 96, 2) := by decide +kernel
theorem dX12_foundBy_26 : decode cX12_foundBy 26 = .ok (.ireturn, 1) := by decide +kernel
theorem dX12_foundBy_27 : decode cX12_foundBy 27 = .ok (.ldc2_w 325, 3) := by decide +kernel
theorem dX12_foundBy_30 : decode cX12_foundBy 30 = .ok (.lstore_n 3, 1) := by decide +kernel
theorem dX12_foundBy_31 : decode cX12_foundBy 31 = .ok (.iconst 0, 1) := by decide +kernel
theorem dX12_foundBy_32 : decode cX12_foundBy 32 = .ok (.istore 5, 2) := by decide +kernel
theorem dX12_foundBy_34 : decode cX12_foundBy 34 = .ok (.iload 5, 2) := by decide +kernel
theorem dX12_foundBy_36 : decode cX12_foundBy 36 = .ok (.iload_n 1, 1) := by decide +kernel
theorem dX12_foundBy_37 : decode cX12_foundBy 37 = .ok (.if_icmp .ge 21, 3) := by decide +kernel
theorem dX12_foundBy_40 : decode cX12_foundBy 40 = .ok (.lload_n 3, 1) := by decide +kernel
theorem dX12_foundBy_41 : decode cX12_foundBy 41 = .ok (.bipush 100, 2) := by decide +kernel
theorem dX12_foundBy_43 : decode cX12_foundBy 43 = .ok (.iload_n 2, 1) := by decide +kernel
theorem dX12_foundBy_44 : decode cX12_foundBy 44 = .ok (.isub, 1) := by decide +kernel
theorem dX12_foundBy_45 : decode cX12_foundBy 45 = .ok (.i2l, 1) := by decide +kernel
theorem dX12_foundBy_46 : decode cX12_foundBy 46 = .ok (.lmul, 1) := by decide +kernel
theorem dX12_foundBy_47 : decode cX12_foundBy 47 = .ok (.ldc2_w 323, 3) := by decide +kernel
theorem dX12_foundBy_50 : decode cX12_foundBy 50 = .ok (.ldiv, 1) := by decide +kernel
theorem dX12_foundBy_51 : decode cX12_foundBy 51 = .ok (.lstore_n 3, 1) := by decide +kernel
theorem dX12_foundBy_52 : decode cX12_foundBy 52 = .ok (.iinc 5 1, 3) := by decide +kernel
theorem dX12_foundBy_55 : decode cX12_foundBy 55 = .ok (.goto (-21), 3) := by decide +kernel
theorem dX12_foundBy_58 : decode cX12_foundBy 58 = .ok (.lload_n 3, 1) := by decide +kernel
theorem dX12_foundBy_59 : decode cX12_foundBy 59 = .ok (.l2i, 1) := by decide +kernel
theorem dX12_foundBy_60 : decode cX12_foundBy 60 = .ok (.ireturn, 1) := by decide +kernel
theorem dX12_see_0 : decode cX12_see 0 = .ok (.iload_n 1, 1) := by decide +kernel
theorem dX12_see_1 : decode cX12_see 1 = .ok (.i2l, 1) := by decide +kernel
theorem dX12_see_2 : decode cX12_see 2 = .ok (.lconst 1, 1) := by decide +kernel
theorem dX12_see_3 : decode cX12_see 3 = .ok (.ldc2_w 327, 3) := by decide +kernel
theorem dX12_see_6 : decode cX12_see 6 = .ok (.invokestatic 87, 3) := by decide +kernel
theorem dX12_see_9 : decode cX12_see 9 = .ok (.ifCond .eq 15, 3) := by decide +kernel
theorem dX12_see_12 : decode cX12_see 12 = .ok (.iload_n 2, 1) := by decide +kernel
theorem dX12_see_13 : decode cX12_see 13 = .ok (.i2l, 1) := by decide +kernel
theorem dX12_see_14 : decode cX12_see 14 = .ok (.lconst 0, 1) := by decide +kernel
theorem dX12_see_15 : decode cX12_see 15 = .ok (.ldc2_w 309, 3) := by decide +kernel
theorem dX12_see_18 : decode cX12_see 18 = .ok (.invokestatic 87, 3) := by decide +kernel
theorem dX12_see_21 : decode cX12_see 21 = .ok (.ifCond .ne 6, 3) := by decide +kernel
theorem dX12_see_24 : decode cX12_see 24 = .ok (.ldc 96, 2) := by decide +kernel
theorem dX12_see_26 : decode cX12_see 26 = .ok (.ireturn, 1) := by decide +kernel
theorem dX12_see_27 : decode cX12_see 27 = .ok (.aload_n 0, 1) := by decide +kernel
theorem dX12_see_28 : decode cX12_see 28 = .ok (.getfield 189, 3) := by decide +kernel
theorem dX12_see_31 : decode cX12_see 31 = .ok (.bipush 6, 2) := by decide +kernel
theorem dX12_see_33 : decode cX12_see 33 = .ok (.if_icmp .ne 6, 3) := by decide +kernel
theorem dX12_see_36 : decode cX12_see 36 = .ok (.ldc 100, 2) := by decide +kernel
theorem dX12_see_38 : decode cX12_see 38 = .ok (.ireturn, 1) := by decide +kernel
theorem dX12_see_39 : decode cX12_see 39 = .ok (.aload_n 0, 1) := by decide +kernel
theorem dX12_see_40 : decode cX12_see 40 = .ok (.getfield 59, 3) := by decide +kernel
theorem dX12_see_43 : decode cX12_see 43 = .ok (.aload_n 0, 1) := by decide +kernel
theorem dX12_see_44 : decode cX12_see 44 = .ok (.getfield 189, 3) := by decide +kernel
theorem dX12_see_47 : decode cX12_see 47 = .ok (.iload_n 1, 1) := by decide +kernel
theorem dX12_see_48 : decode cX12_see 48 = .ok (.iastore, 1) := by decide +kernel
theorem dX12_see_49 : decode cX12_see 49 = .ok (.aload_n 0, 1) := by decide +kernel
theorem dX12_see_50 : decode cX12_see 50 = .ok (.getfield 62, 3) := by decide +kernel
theorem dX12_see_53 : decode cX12_see 53 = .ok (.aload_n 0, 1) := by decide +kernel
theorem dX12_see_54 : decode cX12_see 54 = .ok (.getfield 189, 3) := by decide +kernel
theorem dX12_see_57 : decode cX12_see 57 = .ok (.iload_n 2, 1) := by decide +kernel
theorem dX12_see_58 : decode cX12_see 58 = .ok (.iastore, 1) := by decide +kernel
theorem dX12_see_59 : decode cX12_see 59 = .ok (.aload_n 0, 1) := by decide +kernel
theorem dX12_see_60 : decode cX12_see 60 = .ok (.dup, 1) := by decide +kernel
theorem dX12_see_61 : decode cX12_see 61 = .ok (.getfield 189, 3) := by decide +kernel
theorem dX12_see_64 : decode cX12_see 64 = .ok (.iconst 1, 1) := by decide +kernel
theorem dX12_see_65 : decode cX12_see 65 = .ok (.iadd, 1) := by decide +kernel
theorem dX12_see_66 : decode cX12_see 66 = .ok (.putfield 189, 3) := by decide +kernel
theorem dX12_see_69 : decode cX12_see 69 = .ok (.aload_n 0, 1) := by decide +kernel
theorem dX12_see_70 : decode cX12_see 70 = .ok (.getfield 189, 3) := by decide +kernel
theorem dX12_see_73 : decode cX12_see 73 = .ok (.ireturn, 1) := by decide +kernel
theorem dX12_couldBe_0 : decode cX12_couldBe 0 = .ok (.iconst 1, 1) := by decide +kernel
theorem dX12_couldBe_1 : decode cX12_couldBe 1 = .ok (.istore_n 3, 1) := by decide +kernel
theorem dX12_couldBe_2 : decode cX12_couldBe 2 = .ok (.iconst 0, 1) := by decide +kernel
theorem dX12_couldBe_3 : decode cX12_couldBe 3 = .ok (.istore 4, 2) := by decide +kernel
theorem dX12_couldBe_5 : decode cX12_couldBe 5 = .ok (.iload 4, 2) := by decide +kernel
theorem dX12_couldBe_7 : decode cX12_couldBe 7 = .ok (.aload_n 0, 1) := by decide +kernel
theorem dX12_couldBe_8 : decode cX12_couldBe 8 = .ok (.getfield 189, 3) := by decide +kernel
theorem dX12_couldBe_11 : decode cX12_couldBe 11 = .ok (.if_icmp .ge 40, 3) := by decide +kernel
theorem dX12_couldBe_14 : decode cX12_couldBe 14 = .ok (.iload_n 3, 1) := by decide +kernel
theorem dX12_couldBe_15 : decode cX12_couldBe 15 = .ok (.ifCond .eq 36, 3) := by decide +kernel
theorem dX12_couldBe_18 : decode cX12_couldBe 18 = .ok (.iload_n 1, 1) := by decide +kernel
theorem dX12_couldBe_19 : decode cX12_couldBe 19 = .ok (.aload_n 0, 1) := by decide +kernel
theorem dX12_couldBe_20 : decode cX12_couldBe 20 = .ok (.getfield 59, 3) := by decide +kernel
theorem dX12_couldBe_23 : decode cX12_couldBe 23 = .ok (.iload 4, 2) := by decide +kernel
theorem dX12_couldBe_25 : decode cX12_couldBe 25 = .ok (.iaload, 1) := by decide +kernel
theorem dX12_couldBe_26 : decode cX12_couldBe 26 = .ok (.imul, 1) := by decide +kernel
theorem dX12_couldBe_27 : decode cX12_couldBe 27 = .ok (.iload_n 2, 1) := by decide +kernel
theorem dX12_couldBe_28 : decode cX12_couldBe 28 = .ok (.iadd, 1) := by decide +kernel
theorem dX12_couldBe_29 : decode cX12_couldBe 29 = .ok (.aload_n 0, 1) := by decide +kernel
theorem dX12_couldBe_30 : decode cX12_couldBe 30 = .ok (.getfield 62, 3) := by decide +kernel
theorem dX12_couldBe_33 : decode cX12_couldBe 33 = .ok (.iload 4, 2) := by decide +kernel
theorem dX12_couldBe_35 : decode cX12_couldBe 35 = .ok (.iaload, 1) := by decide +kernel
theorem dX12_couldBe_36 : decode cX12_couldBe 36 = .ok (.if_icmp .ne 7, 3) := by decide +kernel
theorem dX12_couldBe_39 : decode cX12_couldBe 39 = .ok (.iconst 1, 1) := by decide +kernel
theorem dX12_couldBe_40 : decode cX12_couldBe 40 = .ok (.goto 4, 3) := by decide +kernel
theorem dX12_couldBe_43 : decode cX12_couldBe 43 = .ok (.iconst 0, 1) := by decide +kernel
theorem dX12_couldBe_44 : decode cX12_couldBe 44 = .ok (.istore_n 3, 1) := by decide +kernel
theorem dX12_couldBe_45 : decode cX12_couldBe 45 = .ok (.iinc 4 1, 3) := by decide +kernel
theorem dX12_couldBe_48 : decode cX12_couldBe 48 = .ok (.goto (-43), 3) := by decide +kernel
theorem dX12_couldBe_51 : decode cX12_couldBe 51 = .ok (.iload_n 3, 1) := by decide +kernel
theorem dX12_couldBe_52 : decode cX12_couldBe 52 = .ok (.ireturn, 1) := by decide +kernel
theorem dX12_rods_0 : decode cX12_rods 0 = .ok (.iload_n 1, 1) := by decide +kernel
theorem dX12_rods_1 : decode cX12_rods 1 = .ok (.i2l, 1) := by decide +kernel
theorem dX12_rods_2 : decode cX12_rods 2 = .ok (.lconst 0, 1) := by decide +kernel
theorem dX12_rods_3 : decode cX12_rods 3 = .ok (.ldc2_w 329, 3) := by decide +kernel
theorem dX12_rods_6 : decode cX12_rods 6 = .ok (.invokestatic 87, 3) := by decide +kernel
theorem dX12_rods_9 : decode cX12_rods 9 = .ok (.ifCond .ne 6, 3) := by decide +kernel
theorem dX12_rods_12 : decode cX12_rods 12 = .ok (.ldc 96, 2) := by decide +kernel
theorem dX12_rods_14 : decode cX12_rods 14 = .ok (.ireturn, 1) := by decide +kernel
theorem dX12_rods_15 : decode cX12_rods 15 = .ok (.iconst 0, 1) := by decide +kernel
theorem dX12_rods_16 : decode cX12_rods 16 = .ok (.istore_n 2, 1) := by decide +kernel
theorem dX12_rods_17 : decode cX12_rods 17 = .ok (.iconst (-1), 1) := by decide +kernel
theorem dX12_rods_18 : decode cX12_rods 18 = .ok (.istore_n 3, 1) := by decide +kernel
theorem dX12_rods_19 : decode cX12_rods 19 = .ok (.iconst (-1), 1) := by decide +kernel
theorem dX12_rods_20 : decode cX12_rods 20 = .ok (.istore 4, 2) := by decide +kernel
theorem dX12_rods_22 : decode cX12_rods 22 = .ok (.iconst 1, 1) := by decide +kernel
theorem dX12_rods_23 : decode cX12_rods 23 = .ok (.istore 5, 2) := by decide +kernel
theorem dX12_rods_25 : decode cX12_rods 25 = .ok (.iload 5, 2) := by decide +kernel
theorem dX12_rods_27 : decode cX12_rods 27 = .ok (.sipush 240, 3) := by decide +kernel
theorem dX12_rods_30 : decode cX12_rods 30 = .ok (.if_icmp .gt 68, 3) := by decide +kernel
theorem dX12_rods_33 : decode cX12_rods 33 = .ok (.bipush (-9), 2) := by decide +kernel
theorem dX12_rods_35 : decode cX12_rods 35 = .ok (.istore 6, 2) := by decide +kernel
theorem dX12_rods_37 : decode cX12_rods 37 = .ok (.iload 6, 2) := by decide +kernel
theorem dX12_rods_39 : decode cX12_rods 39 = .ok (.bipush 9, 2) := by decide +kernel
theorem dX12_rods_41 : decode cX12_rods 41 = .ok (.if_icmp .gt 51, 3) := by decide +kernel
theorem dX12_rods_44 : decode cX12_rods 44 = .ok (.aload_n 0, 1) := by decide +kernel
theorem dX12_rods_45 : decode cX12_rods 45 = .ok (.iload 5, 2) := by decide +kernel
theorem dX12_rods_47 : decode cX12_rods 47 = .ok (.iload 6, 2) := by decide +kernel
theorem dX12_rods_49 : decode cX12_rods 49 = .ok (.invokevirtual 331, 3) := by decide +kernel
theorem dX12_rods_52 : decode cX12_rods 52 = .ok (.ifCond .eq 34, 3) := by decide +kernel
theorem dX12_rods_55 : decode cX12_rods 55 = .ok (.iload_n 2, 1) := by decide +kernel
theorem dX12_rods_56 : decode cX12_rods 56 = .ok (.ifCond .ne 8, 3) := by decide +kernel
theorem dX12_rods_59 : decode cX12_rods 59 = .ok (.iload 5, 2) := by decide +kernel
theorem dX12_rods_61 : decode cX12_rods 61 = .ok (.goto 4, 3) := by decide +kernel
theorem dX12_rods_64 : decode cX12_rods 64 = .ok (.iload_n 3, 1) := by decide +kernel
theorem dX12_rods_65 : decode cX12_rods 65 = .ok (.istore_n 3, 1) := by decide +kernel
theorem dX12_rods_66 : decode cX12_rods 66 = .ok (.iload_n 2, 1) := by decide +kernel
theorem dX12_rods_67 : decode cX12_rods 67 = .ok (.ifCond .ne 12, 3) := by decide +kernel
theorem dX12_rods_70 : decode cX12_rods 70 = .ok (.iload 6, 2) := by decide +kernel
theorem dX12_rods_72 : decode cX12_rods 72 = .ok (.sipush 1000, 3) := by decide +kernel
theorem dX12_rods_75 : decode cX12_rods 75 = .ok (.iadd, 1) := by decide +kernel
theorem dX12_rods_76 : decode cX12_rods 76 = .ok (.goto 5, 3) := by decide +kernel
theorem dX12_rods_79 : decode cX12_rods 79 = .ok (.iload 4, 2) := by decide +kernel
theorem dX12_rods_81 : decode cX12_rods 81 = .ok (.istore 4, 2) := by decide +kernel
theorem dX12_rods_83 : decode cX12_rods 83 = .ok (.iinc 2 1, 3) := by decide +kernel
theorem dX12_rods_86 : decode cX12_rods 86 = .ok (.iinc 6 1, 3) := by decide +kernel
theorem dX12_rods_89 : decode cX12_rods 89 = .ok (.goto (-52), 3) := by decide +kernel
theorem dX12_rods_92 : decode cX12_rods 92 = .ok (.iinc 5 1, 3) := by decide +kernel
theorem dX12_rods_95 : decode cX12_rods 95 = .ok (.goto (-70), 3) := by decide +kernel
theorem dX12_rods_98 : decode cX12_rods 98 = .ok (.iload_n 1, 1) := by decide +kernel
theorem dX12_rods_99 : decode cX12_rods 99 = .ok (.ifCond .ne 7, 3) := by decide +kernel
theorem dX12_rods_102 : decode cX12_rods 102 = .ok (.iload_n 2, 1) := by decide +kernel
theorem dX12_rods_103 : decode cX12_rods 103 = .ok (.goto 14, 3) := by decide +kernel
theorem dX12_rods_106 : decode cX12_rods 106 = .ok (.iload_n 1, 1) := by decide +kernel
theorem dX12_rods_107 : decode cX12_rods 107 = .ok (.iconst 1, 1) := by decide +kernel
theorem dX12_rods_108 : decode cX12_rods 108 = .ok (.if_icmp .ne 7, 3) := by decide +kernel
theorem dX12_rods_111 : decode cX12_rods 111 = .ok (.iload_n 3, 1) := by decide +kernel
theorem dX12_rods_112 : decode cX12_rods 112 = .ok (.goto 5, 3) := by decide +kernel
theorem dX12_rods_115 : decode cX12_rods 115 = .ok (.iload 4, 2) := by decide +kernel
theorem dX12_rods_117 : decode cX12_rods 117 = .ok (.ireturn, 1) := by decide +kernel
theorem dX12_greatestPart_0 : decode cX12_greatestPart 0 = .ok (.iconst 0, 1) := by decide +kernel
theorem dX12_greatestPart_1 : decode cX12_greatestPart 1 = .ok (.istore_n 2, 1) := by decide +kernel
theorem dX12_greatestPart_2 : decode cX12_greatestPart 2 = .ok (.iconst 0, 1) := by decide +kernel
theorem dX12_greatestPart_3 : decode cX12_greatestPart 3 = .ok (.istore_n 3, 1) := by decide +kernel
theorem dX12_greatestPart_4 : decode cX12_greatestPart 4 = .ok (.iload_n 3, 1) := by decide +kernel
theorem dX12_greatestPart_5 : decode cX12_greatestPart 5 = .ok (.sipush 2200, 3) := by decide +kernel
theorem dX12_greatestPart_8 : decode cX12_greatestPart 8 = .ok (.if_icmp .ge 16, 3) := by decide +kernel
theorem dX12_greatestPart_11 : decode cX12_greatestPart 11 = .ok (.aload_n 0, 1) := by decide +kernel
theorem dX12_greatestPart_12 : decode cX12_greatestPart 12 = .ok (.getfield 65, 3) := by decide +kernel
theorem dX12_greatestPart_15 : decode cX12_greatestPart 15 = .ok (.iload_n 3, 1) := by decide +kernel
theorem dX12_greatestPart_16 : decode cX12_greatestPart 16 = .ok (.iconst 0, 1) := by decide +kernel
theorem dX12_greatestPart_17 : decode cX12_greatestPart 17 = .ok (.iastore, 1) := by decide +kernel
theorem dX12_greatestPart_18 : decode cX12_greatestPart 18 = .ok (.iinc 3 1, 3) := by decide +kernel
theorem dX12_greatestPart_21 : decode cX12_greatestPart 21 = .ok (.goto (-17), 3) := by decide +kernel
theorem dX12_greatestPart_24 : decode cX12_greatestPart 24 = .ok (.iconst 1, 1) := by decide +kernel
theorem dX12_greatestPart_25 : decode cX12_greatestPart 25 = .ok (.istore_n 3, 1) := by decide +kernel
theorem dX12_greatestPart_26 : decode cX12_greatestPart 26 = .ok (.iload_n 3, 1) := by decide +kernel
theorem dX12_greatestPart_27 : decode cX12_greatestPart 27 = .ok (.sipush 240, 3) := by decide +kernel
theorem dX12_greatestPart_30 : decode cX12_greatestPart 30 = .ok (.if_icmp .gt 81, 3) := by decide +kernel
theorem dX12_greatestPart_33 : decode cX12_greatestPart 33 = .ok (.bipush (-9), 2) := by decide +kernel
theorem dX12_greatestPart_35 : decode cX12_greatestPart 35 = .ok (.istore 4, 2) := by decide +kernel
theorem dX12_greatestPart_37 : decode cX12_greatestPart 37 = .ok (.iload 4, 2) := by decide +kernel
theorem dX12_greatestPart_39 : decode cX12_greatestPart 39 = .ok (.bipush 9, 2) := by decide +kernel
theorem dX12_greatestPart_41 : decode cX12_greatestPart 41 = .ok (.if_icmp .gt 64, 3) := by decide +kernel
theorem dX12_greatestPart_44 : decode cX12_greatestPart 44 = .ok (.aload_n 0, 1) := by decide +kernel
theorem dX12_greatestPart_45 : decode cX12_greatestPart 45 = .ok (.iload_n 3, 1) := by decide +kernel
theorem dX12_greatestPart_46 : decode cX12_greatestPart 46 = .ok (.iload 4, 2) := by decide +kernel
theorem dX12_greatestPart_48 : decode cX12_greatestPart 48 = .ok (.invokevirtual 331, 3) := by decide +kernel
theorem dX12_greatestPart_51 : decode cX12_greatestPart 51 = .ok (.ifCond .eq 48, 3) := by decide +kernel
theorem dX12_greatestPart_54 : decode cX12_greatestPart 54 = .ok (.iload_n 3, 1) := by decide +kernel
theorem dX12_greatestPart_55 : decode cX12_greatestPart 55 = .ok (.iload_n 1, 1) := by decide +kernel
theorem dX12_greatestPart_56 : decode cX12_greatestPart 56 = .ok (.imul, 1) := by decide +kernel
theorem dX12_greatestPart_57 : decode cX12_greatestPart 57 = .ok (.iload 4, 2) := by decide +kernel
theorem dX12_greatestPart_59 : decode cX12_greatestPart 59 = .ok (.iadd, 1) := by decide +kernel
theorem dX12_greatestPart_60 : decode cX12_greatestPart 60 = .ok (.bipush 9, 2) := by decide +kernel
theorem dX12_greatestPart_62 : decode cX12_greatestPart 62 = .ok (.iadd, 1) := by decide +kernel
theorem dX12_greatestPart_63 : decode cX12_greatestPart 63 = .ok (.istore 5, 2) := by decide +kernel
theorem dX12_greatestPart_65 : decode cX12_greatestPart 65 = .ok (.aload_n 0, 1) := by decide +kernel
theorem dX12_greatestPart_66 : decode cX12_greatestPart 66 = .ok (.getfield 65, 3) := by decide +kernel
theorem dX12_greatestPart_69 : decode cX12_greatestPart 69 = .ok (.iload 5, 2) := by decide +kernel
theorem dX12_greatestPart_71 : decode cX12_greatestPart 71 = .ok (.dup2, 1) := by decide +kernel
theorem dX12_greatestPart_72 : decode cX12_greatestPart 72 = .ok (.iaload, 1) := by decide +kernel
theorem dX12_greatestPart_73 : decode cX12_greatestPart 73 = .ok (.iconst 1, 1) := by decide +kernel
theorem dX12_greatestPart_74 : decode cX12_greatestPart 74 = .ok (.iadd, 1) := by decide +kernel
theorem dX12_greatestPart_75 : decode cX12_greatestPart 75 = .ok (.iastore, 1) := by decide +kernel
theorem dX12_greatestPart_76 : decode cX12_greatestPart 76 = .ok (.aload_n 0, 1) := by decide +kernel
theorem dX12_greatestPart_77 : decode cX12_greatestPart 77 = .ok (.getfield 65, 3) := by decide +kernel
theorem dX12_greatestPart_80 : decode cX12_greatestPart 80 = .ok (.iload 5, 2) := by decide +kernel
theorem dX12_greatestPart_82 : decode cX12_greatestPart 82 = .ok (.iaload, 1) := by decide +kernel
theorem dX12_greatestPart_83 : decode cX12_greatestPart 83 = .ok (.iload_n 2, 1) := by decide +kernel
theorem dX12_greatestPart_84 : decode cX12_greatestPart 84 = .ok (.if_icmp .le 13, 3) := by decide +kernel
theorem dX12_greatestPart_87 : decode cX12_greatestPart 87 = .ok (.aload_n 0, 1) := by decide +kernel
theorem dX12_greatestPart_88 : decode cX12_greatestPart 88 = .ok (.getfield 65, 3) := by decide +kernel
theorem dX12_greatestPart_91 : decode cX12_greatestPart 91 = .ok (.iload 5, 2) := by decide +kernel
theorem dX12_greatestPart_93 : decode cX12_greatestPart 93 = .ok (.iaload, 1) := by decide +kernel
theorem dX12_greatestPart_94 : decode cX12_greatestPart 94 = .ok (.goto 4, 3) := by decide +kernel
theorem dX12_greatestPart_97 : decode cX12_greatestPart 97 = .ok (.iload_n 2, 1) := by decide +kernel
theorem dX12_greatestPart_98 : decode cX12_greatestPart 98 = .ok (.istore_n 2, 1) := by decide +kernel
theorem dX12_greatestPart_99 : decode cX12_greatestPart 99 = .ok (.iinc 4 1, 3) := by decide +kernel
theorem dX12_greatestPart_102 : decode cX12_greatestPart 102 = .ok (.goto (-65), 3) := by decide +kernel
theorem dX12_greatestPart_105 : decode cX12_greatestPart 105 = .ok (.iinc 3 1, 3) := by decide +kernel
theorem dX12_greatestPart_108 : decode cX12_greatestPart 108 = .ok (.goto (-82), 3) := by decide +kernel
theorem dX12_greatestPart_111 : decode cX12_greatestPart 111 = .ok (.iload_n 2, 1) := by decide +kernel
theorem dX12_greatestPart_112 : decode cX12_greatestPart 112 = .ok (.ireturn, 1) := by decide +kernel
theorem dX12_door_0 : decode cX12_door 0 = .ok (.iconst (-1), 1) := by decide +kernel
theorem dX12_door_1 : decode cX12_door 1 = .ok (.istore_n 1, 1) := by decide +kernel
theorem dX12_door_2 : decode cX12_door 2 = .ok (.aload_n 0, 1) := by decide +kernel
theorem dX12_door_3 : decode cX12_door 3 = .ok (.iconst 0, 1) := by decide +kernel
theorem dX12_door_4 : decode cX12_door 4 = .ok (.invokevirtual 334, 3) := by decide +kernel
theorem dX12_door_7 : decode cX12_door 7 = .ok (.istore_n 2, 1) := by decide +kernel
theorem dX12_door_8 : decode cX12_door 8 = .ok (.iconst 1, 1) := by decide +kernel
theorem dX12_door_9 : decode cX12_door 9 = .ok (.istore_n 3, 1) := by decide +kernel
theorem dX12_door_10 : decode cX12_door 10 = .ok (.iload_n 3, 1) := by decide +kernel
theorem dX12_door_11 : decode cX12_door 11 = .ok (.bipush 10, 2) := by decide +kernel
theorem dX12_door_13 : decode cX12_door 13 = .ok (.if_icmp .ge 41, 3) := by decide +kernel
theorem dX12_door_16 : decode cX12_door 16 = .ok (.aload_n 0, 1) := by decide +kernel
theorem dX12_door_17 : decode cX12_door 17 = .ok (.iload_n 3, 1) := by decide +kernel
theorem dX12_door_18 : decode cX12_door 18 = .ok (.invokevirtual 337, 3) := by decide +kernel
theorem dX12_door_21 : decode cX12_door 21 = .ok (.istore 4, 2) := by decide +kernel
theorem dX12_door_23 : decode cX12_door 23 = .ok (.iload 4, 2) := by decide +kernel
theorem dX12_door_25 : decode cX12_door 25 = .ok (.iload_n 2, 1) := by decide +kernel
theorem dX12_door_26 : decode cX12_door 26 = .ok (.if_icmp .ge 7, 3) := by decide +kernel
theorem dX12_door_29 : decode cX12_door 29 = .ok (.iload_n 3, 1) := by decide +kernel
theorem dX12_door_30 : decode cX12_door 30 = .ok (.goto 4, 3) := by decide +kernel
theorem dX12_door_33 : decode cX12_door 33 = .ok (.iload_n 1, 1) := by decide +kernel
theorem dX12_door_34 : decode cX12_door 34 = .ok (.istore_n 1, 1) := by decide +kernel
theorem dX12_door_35 : decode cX12_door 35 = .ok (.iload 4, 2) := by decide +kernel
theorem dX12_door_37 : decode cX12_door 37 = .ok (.iload_n 2, 1) := by decide +kernel
theorem dX12_door_38 : decode cX12_door 38 = .ok (.if_icmp .ge 8, 3) := by decide +kernel
theorem dX12_door_41 : decode cX12_door 41 = .ok (.iload 4, 2) := by decide +kernel
theorem dX12_door_43 : decode cX12_door 43 = .ok (.goto 4, 3) := by decide +kernel
theorem dX12_door_46 : decode cX12_door 46 = .ok (.iload_n 2, 1) := by decide +kernel
theorem dX12_door_47 : decode cX12_door 47 = .ok (.istore_n 2, 1) := by decide +kernel
theorem dX12_door_48 : decode cX12_door 48 = .ok (.iinc 3 1, 3) := by decide +kernel
theorem dX12_door_51 : decode cX12_door 51 = .ok (.goto (-41), 3) := by decide +kernel
theorem dX12_door_54 : decode cX12_door 54 = .ok (.iload_n 1, 1) := by decide +kernel
theorem dX12_door_55 : decode cX12_door 55 = .ok (.ireturn, 1) := by decide +kernel
theorem dX12_write_0 : decode cX12_write 0 = .ok (.aload_n 0, 1) := by decide +kernel
theorem dX12_write_1 : decode cX12_write 1 = .ok (.iload_n 1, 1) := by decide +kernel
theorem dX12_write_2 : decode cX12_write 2 = .ok (.invokevirtual 220, 3) := by decide +kernel
theorem dX12_write_5 : decode cX12_write 5 = .ok (.ifCond .ne 6, 3) := by decide +kernel
theorem dX12_write_8 : decode cX12_write 8 = .ok (.ldc 216, 2) := by decide +kernel
theorem dX12_write_10 : decode cX12_write 10 = .ok (.ireturn, 1) := by decide +kernel
theorem dX12_write_11 : decode cX12_write 11 = .ok (.iload_n 2, 1) := by decide +kernel
theorem dX12_write_12 : decode cX12_write 12 = .ok (.i2l, 1) := by decide +kernel
theorem dX12_write_13 : decode cX12_write 13 = .ok (.lconst 1, 1) := by decide +kernel
theorem dX12_write_14 : decode cX12_write 14 = .ok (.ldc2_w 265, 3) := by decide +kernel
theorem dX12_write_17 : decode cX12_write 17 = .ok (.invokestatic 87, 3) := by decide +kernel
theorem dX12_write_20 : decode cX12_write 20 = .ok (.ifCond .ne 6, 3) := by decide +kernel
theorem dX12_write_23 : decode cX12_write 23 = .ok (.ldc 96, 2) := by decide +kernel
theorem dX12_write_25 : decode cX12_write 25 = .ok (.ireturn, 1) := by decide +kernel
theorem dX12_write_26 : decode cX12_write 26 = .ok (.aload_n 0, 1) := by decide +kernel
theorem dX12_write_27 : decode cX12_write 27 = .ok (.getfield 192, 3) := by decide +kernel
theorem dX12_write_30 : decode cX12_write 30 = .ok (.bipush 15, 2) := by decide +kernel
theorem dX12_write_32 : decode cX12_write 32 = .ok (.if_icmp .ne 6, 3) := by decide +kernel
theorem dX12_write_35 : decode cX12_write 35 = .ok (.ldc 100, 2) := by decide +kernel
theorem dX12_write_37 : decode cX12_write 37 = .ok (.ireturn, 1) := by decide +kernel
theorem dX12_write_38 : decode cX12_write 38 = .ok (.aload_n 0, 1) := by decide +kernel
theorem dX12_write_39 : decode cX12_write 39 = .ok (.getfield 68, 3) := by decide +kernel
theorem dX12_write_42 : decode cX12_write 42 = .ok (.aload_n 0, 1) := by decide +kernel
theorem dX12_write_43 : decode cX12_write 43 = .ok (.getfield 192, 3) := by decide +kernel
theorem dX12_write_46 : decode cX12_write 46 = .ok (.iload_n 1, 1) := by decide +kernel
theorem dX12_write_47 : decode cX12_write 47 = .ok (.iastore, 1) := by decide +kernel
theorem dX12_write_48 : decode cX12_write 48 = .ok (.aload_n 0, 1) := by decide +kernel
theorem dX12_write_49 : decode cX12_write 49 = .ok (.getfield 71, 3) := by decide +kernel
theorem dX12_write_52 : decode cX12_write 52 = .ok (.aload_n 0, 1) := by decide +kernel
theorem dX12_write_53 : decode cX12_write 53 = .ok (.getfield 192, 3) := by decide +kernel
theorem dX12_write_56 : decode cX12_write 56 = .ok (.iload_n 2, 1) := by decide +kernel
theorem dX12_write_57 : decode cX12_write 57 = .ok (.iastore, 1) := by decide +kernel
theorem dX12_write_58 : decode cX12_write 58 = .ok (.aload_n 0, 1) := by decide +kernel
theorem dX12_write_59 : decode cX12_write 59 = .ok (.dup, 1) := by decide +kernel
theorem dX12_write_60 : decode cX12_write 60 = .ok (.getfield 192, 3) := by decide +kernel
theorem dX12_write_63 : decode cX12_write 63 = .ok (.iconst 1, 1) := by decide +kernel
theorem dX12_write_64 : decode cX12_write 64 = .ok (.iadd, 1) := by decide +kernel
theorem dX12_write_65 : decode cX12_write 65 = .ok (.putfield 192, 3) := by decide +kernel
theorem dX12_write_68 : decode cX12_write 68 = .ok (.aload_n 0, 1) := by decide +kernel
theorem dX12_write_69 : decode cX12_write 69 = .ok (.getfield 192, 3) := by decide +kernel
theorem dX12_write_72 : decode cX12_write 72 = .ok (.ireturn, 1) := by decide +kernel
theorem dX12_tear_0 : decode cX12_tear 0 = .ok (.aload_n 0, 1) := by decide +kernel
theorem dX12_tear_1 : decode cX12_tear 1 = .ok (.getfield 189, 3) := by decide +kernel
theorem dX12_tear_4 : decode cX12_tear 4 = .ok (.aload_n 0, 1) := by decide +kernel
theorem dX12_tear_5 : decode cX12_tear 5 = .ok (.getfield 192, 3) := by decide +kernel
theorem dX12_tear_8 : decode cX12_tear 8 = .ok (.iadd, 1) := by decide +kernel
theorem dX12_tear_9 : decode cX12_tear 9 = .ok (.istore_n 1, 1) := by decide +kernel
theorem dX12_tear_10 : decode cX12_tear 10 = .ok (.aload_n 0, 1) := by decide +kernel
theorem dX12_tear_11 : decode cX12_tear 11 = .ok (.iconst 0, 1) := by decide +kernel
theorem dX12_tear_12 : decode cX12_tear 12 = .ok (.putfield 189, 3) := by decide +kernel
theorem dX12_tear_15 : decode cX12_tear 15 = .ok (.aload_n 0, 1) := by decide +kernel
theorem dX12_tear_16 : decode cX12_tear 16 = .ok (.iconst 0, 1) := by decide +kernel
theorem dX12_tear_17 : decode cX12_tear 17 = .ok (.putfield 192, 3) := by decide +kernel
theorem dX12_tear_20 : decode cX12_tear 20 = .ok (.iload_n 1, 1) := by decide +kernel
theorem dX12_tear_21 : decode cX12_tear 21 = .ok (.ireturn, 1) := by decide +kernel
theorem dX12_judge_0 : decode cX12_judge 0 = .ok (.iconst 0, 1) := by decide +kernel
theorem dX12_judge_1 : decode cX12_judge 1 = .ok (.istore_n 1, 1) := by decide +kernel
theorem dX12_judge_2 : decode cX12_judge 2 = .ok (.iload_n 1, 1) := by decide +kernel
theorem dX12_judge_3 : decode cX12_judge 3 = .ok (.aload_n 0, 1) := by decide +kernel
theorem dX12_judge_4 : decode cX12_judge 4 = .ok (.getfield 192, 3) := by decide +kernel
theorem dX12_judge_7 : decode cX12_judge 7 = .ok (.if_icmp .ge 34, 3) := by decide +kernel
theorem dX12_judge_10 : decode cX12_judge 10 = .ok (.aload_n 0, 1) := by decide +kernel
theorem dX12_judge_11 : decode cX12_judge 11 = .ok (.getfield 25, 3) := by decide +kernel
theorem dX12_judge_14 : decode cX12_judge 14 = .ok (.bipush 74, 2) := by decide +kernel
theorem dX12_judge_16 : decode cX12_judge 16 = .ok (.aload_n 0, 1) := by decide +kernel
theorem dX12_judge_17 : decode cX12_judge 17 = .ok (.getfield 68, 3) := by decide +kernel
theorem dX12_judge_20 : decode cX12_judge 20 = .ok (.iload_n 1, 1) := by decide +kernel
theorem dX12_judge_21 : decode cX12_judge 21 = .ok (.iaload, 1) := by decide +kernel
theorem dX12_judge_22 : decode cX12_judge 22 = .ok (.iadd, 1) := by decide +kernel
theorem dX12_judge_23 : decode cX12_judge 23 = .ok (.iaload, 1) := by decide +kernel
theorem dX12_judge_24 : decode cX12_judge 24 = .ok (.aload_n 0, 1) := by decide +kernel
theorem dX12_judge_25 : decode cX12_judge 25 = .ok (.getfield 71, 3) := by decide +kernel
theorem dX12_judge_28 : decode cX12_judge 28 = .ok (.iload_n 1, 1) := by decide +kernel
theorem dX12_judge_29 : decode cX12_judge 29 = .ok (.iaload, 1) := by decide +kernel
theorem dX12_judge_30 : decode cX12_judge 30 = .ok (.if_icmp .eq 5, 3) := by decide +kernel
theorem dX12_judge_33 : decode cX12_judge 33 = .ok (.iload_n 1, 1) := by decide +kernel
theorem dX12_judge_34 : decode cX12_judge 34 = .ok (.ireturn, 1) := by decide +kernel
theorem dX12_judge_35 : decode cX12_judge 35 = .ok (.iinc 1 1, 3) := by decide +kernel
theorem dX12_judge_38 : decode cX12_judge 38 = .ok (.goto (-36), 3) := by decide +kernel
theorem dX12_judge_41 : decode cX12_judge 41 = .ok (.iconst (-1), 1) := by decide +kernel
theorem dX12_judge_42 : decode cX12_judge 42 = .ok (.ireturn, 1) := by decide +kernel
theorem dX12_seed_0 : decode cX12_seed 0 = .ok (.iload_n 1, 1) := by decide +kernel
theorem dX12_seed_1 : decode cX12_seed 1 = .ok (.ifCond .ge 6, 3) := by decide +kernel
theorem dX12_seed_4 : decode cX12_seed 4 = .ok (.ldc 96, 2) := by decide +kernel
theorem dX12_seed_6 : decode cX12_seed 6 = .ok (.ireturn, 1) := by decide +kernel
theorem dX12_seed_7 : decode cX12_seed 7 = .ok (.aload_n 0, 1) := by decide +kernel
theorem dX12_seed_8 : decode cX12_seed 8 = .ok (.getfield 267, 3) := by decide +kernel
theorem dX12_seed_11 : decode cX12_seed 11 = .ok (.istore_n 2, 1) := by decide +kernel
theorem dX12_seed_12 : decode cX12_seed 12 = .ok (.aload_n 0, 1) := by decide +kernel
theorem dX12_seed_13 : decode cX12_seed 13 = .ok (.iload_n 1, 1) := by decide +kernel
theorem dX12_seed_14 : decode cX12_seed 14 = .ok (.putfield 267, 3) := by decide +kernel
theorem dX12_seed_17 : decode cX12_seed 17 = .ok (.iload_n 2, 1) := by decide +kernel
theorem dX12_seed_18 : decode cX12_seed 18 = .ok (.ireturn, 1) := by decide +kernel
theorem dX12_keep_0 : decode cX12_keep 0 = .ok (.iload_n 1, 1) := by decide +kernel
theorem dX12_keep_1 : decode cX12_keep 1 = .ok (.i2l, 1) := by decide +kernel
theorem dX12_keep_2 : decode cX12_keep 2 = .ok (.lconst 0, 1) := by decide +kernel
theorem dX12_keep_3 : decode cX12_keep 3 = .ok (.lconst 1, 1) := by decide +kernel
theorem dX12_keep_4 : decode cX12_keep 4 = .ok (.invokestatic 87, 3) := by decide +kernel
theorem dX12_keep_7 : decode cX12_keep 7 = .ok (.ifCond .ne 6, 3) := by decide +kernel
theorem dX12_keep_10 : decode cX12_keep 10 = .ok (.ldc 216, 2) := by decide +kernel
theorem dX12_keep_12 : decode cX12_keep 12 = .ok (.ireturn, 1) := by decide +kernel
theorem dX12_keep_13 : decode cX12_keep 13 = .ok (.iconst 0, 1) := by decide +kernel
theorem dX12_keep_14 : decode cX12_keep 14 = .ok (.istore_n 2, 1) := by decide +kernel
theorem dX12_keep_15 : decode cX12_keep 15 = .ok (.iload_n 2, 1) := by decide +kernel
theorem dX12_keep_16 : decode cX12_keep 16 = .ok (.bipush 80, 2) := by decide +kernel
theorem dX12_keep_18 : decode cX12_keep 18 = .ok (.if_icmp .ge 26, 3) := by decide +kernel
theorem dX12_keep_21 : decode cX12_keep 21 = .ok (.aload_n 0, 1) := by decide +kernel
theorem dX12_keep_22 : decode cX12_keep 22 = .ok (.getfield 74, 3) := by decide +kernel
theorem dX12_keep_25 : decode cX12_keep 25 = .ok (.bipush 81, 2) := by decide +kernel
theorem dX12_keep_27 : decode cX12_keep 27 = .ok (.iload_n 1, 1) := by decide +kernel
theorem dX12_keep_28 : decode cX12_keep 28 = .ok (.imul, 1) := by decide +kernel
theorem dX12_keep_29 : decode cX12_keep 29 = .ok (.iload_n 2, 1) := by decide +kernel
theorem dX12_keep_30 : decode cX12_keep 30 = .ok (.iadd, 1) := by decide +kernel
theorem dX12_keep_31 : decode cX12_keep 31 = .ok (.aload_n 0, 1) := by decide +kernel
theorem dX12_keep_32 : decode cX12_keep 32 = .ok (.getfield 25, 3) := by decide +kernel
theorem dX12_keep_35 : decode cX12_keep 35 = .ok (.iload_n 2, 1) := by decide +kernel
theorem dX12_keep_36 : decode cX12_keep 36 = .ok (.iaload, 1) := by decide +kernel
theorem dX12_keep_37 : decode cX12_keep 37 = .ok (.iastore, 1) := by decide +kernel
theorem dX12_keep_38 : decode cX12_keep 38 = .ok (.iinc 2 1, 3) := by decide +kernel
theorem dX12_keep_41 : decode cX12_keep 41 = .ok (.goto (-26), 3) := by decide +kernel
theorem dX12_keep_44 : decode cX12_keep 44 = .ok (.aload_n 0, 1) := by decide +kernel
theorem dX12_keep_45 : decode cX12_keep 45 = .ok (.getfield 74, 3) := by decide +kernel
theorem dX12_keep_48 : decode cX12_keep 48 = .ok (.bipush 81, 2) := by decide +kernel
theorem dX12_keep_50 : decode cX12_keep 50 = .ok (.iload_n 1, 1) := by decide +kernel
theorem dX12_keep_51 : decode cX12_keep 51 = .ok (.imul, 1) := by decide +kernel
theorem dX12_keep_52 : decode cX12_keep 52 = .ok (.bipush 80, 2) := by decide +kernel
theorem dX12_keep_54 : decode cX12_keep 54 = .ok (.iadd, 1) := by decide +kernel
theorem dX12_keep_55 : decode cX12_keep 55 = .ok (.aload_n 0, 1) := by decide +kernel
theorem dX12_keep_56 : decode cX12_keep 56 = .ok (.getfield 267, 3) := by decide +kernel
theorem dX12_keep_59 : decode cX12_keep 59 = .ok (.iastore, 1) := by decide +kernel
theorem dX12_keep_60 : decode cX12_keep 60 = .ok (.aload_n 0, 1) := by decide +kernel
theorem dX12_keep_61 : decode cX12_keep 61 = .ok (.getfield 77, 3) := by decide +kernel
theorem dX12_keep_64 : decode cX12_keep 64 = .ok (.iload_n 1, 1) := by decide +kernel
theorem dX12_keep_65 : decode cX12_keep 65 = .ok (.iconst 1, 1) := by decide +kernel
theorem dX12_keep_66 : decode cX12_keep 66 = .ok (.bastore, 1) := by decide +kernel
theorem dX12_keep_67 : decode cX12_keep 67 = .ok (.aload_n 0, 1) := by decide +kernel
theorem dX12_keep_68 : decode cX12_keep 68 = .ok (.iconst 0, 1) := by decide +kernel
theorem dX12_keep_69 : decode cX12_keep 69 = .ok (.putfield 195, 3) := by decide +kernel
theorem dX12_keep_72 : decode cX12_keep 72 = .ok (.iconst 1, 1) := by decide +kernel
theorem dX12_keep_73 : decode cX12_keep 73 = .ok (.ireturn, 1) := by decide +kernel
theorem dX12_goBack_0 : decode cX12_goBack 0 = .ok (.iload_n 1, 1) := by decide +kernel
theorem dX12_goBack_1 : decode cX12_goBack 1 = .ok (.i2l, 1) := by decide +kernel
theorem dX12_goBack_2 : decode cX12_goBack 2 = .ok (.lconst 0, 1) := by decide +kernel
theorem dX12_goBack_3 : decode cX12_goBack 3 = .ok (.lconst 1, 1) := by decide +kernel
theorem dX12_goBack_4 : decode cX12_goBack 4 = .ok (.invokestatic 87, 3) := by decide +kernel
theorem dX12_goBack_7 : decode cX12_goBack 7 = .ok (.ifCond .ne 6, 3) := by decide +kernel
theorem dX12_goBack_10 : decode cX12_goBack 10 = .ok (.ldc 216, 2) := by decide +kernel
theorem dX12_goBack_12 : decode cX12_goBack 12 = .ok (.ireturn, 1) := by decide +kernel
theorem dX12_goBack_13 : decode cX12_goBack 13 = .ok (.aload_n 0, 1) := by decide +kernel
theorem dX12_goBack_14 : decode cX12_goBack 14 = .ok (.getfield 77, 3) := by decide +kernel
theorem dX12_goBack_17 : decode cX12_goBack 17 = .ok (.iload_n 1, 1) := by decide +kernel
theorem dX12_goBack_18 : decode cX12_goBack 18 = .ok (.baload, 1) := by decide +kernel
theorem dX12_goBack_19 : decode cX12_goBack 19 = .ok (.ifCond .ne 6, 3) := by decide +kernel
theorem dX12_goBack_22 : decode cX12_goBack 22 = .ok (.ldc 212, 2) := by decide +kernel
theorem dX12_goBack_24 : decode cX12_goBack 24 = .ok (.ireturn, 1) := by decide +kernel
theorem dX12_goBack_25 : decode cX12_goBack 25 = .ok (.iconst 0, 1) := by decide +kernel
theorem dX12_goBack_26 : decode cX12_goBack 26 = .ok (.istore_n 2, 1) := by decide +kernel
theorem dX12_goBack_27 : decode cX12_goBack 27 = .ok (.iload_n 2, 1) := by decide +kernel
theorem dX12_goBack_28 : decode cX12_goBack 28 = .ok (.bipush 80, 2) := by decide +kernel
theorem dX12_goBack_30 : decode cX12_goBack 30 = .ok (.if_icmp .ge 26, 3) := by decide +kernel
theorem dX12_goBack_33 : decode cX12_goBack 33 = .ok (.aload_n 0, 1) := by decide +kernel
theorem dX12_goBack_34 : decode cX12_goBack 34 = .ok (.getfield 25, 3) := by decide +kernel
theorem dX12_goBack_37 : decode cX12_goBack 37 = .ok (.iload_n 2, 1) := by decide +kernel
theorem dX12_goBack_38 : decode cX12_goBack 38 = .ok (.aload_n 0, 1) := by decide +kernel
theorem dX12_goBack_39 : decode cX12_goBack 39 = .ok (.getfield 74, 3) := by decide +kernel
theorem dX12_goBack_42 : decode cX12_goBack 42 = .ok (.bipush 81, 2) := by decide +kernel
theorem dX12_goBack_44 : decode cX12_goBack 44 = .ok (.iload_n 1, 1) := by decide +kernel
theorem dX12_goBack_45 : decode cX12_goBack 45 = .ok (.imul, 1) := by decide +kernel
theorem dX12_goBack_46 : decode cX12_goBack 46 = .ok (.iload_n 2, 1) := by decide +kernel
theorem dX12_goBack_47 : decode cX12_goBack 47 = .ok (.iadd, 1) := by decide +kernel
theorem dX12_goBack_48 : decode cX12_goBack 48 = .ok (.iaload, 1) := by decide +kernel
theorem dX12_goBack_49 : decode cX12_goBack 49 = .ok (.iastore, 1) := by decide +kernel
theorem dX12_goBack_50 : decode cX12_goBack 50 = .ok (.iinc 2 1, 3) := by decide +kernel
theorem dX12_goBack_53 : decode cX12_goBack 53 = .ok (.goto (-26), 3) := by decide +kernel
theorem dX12_goBack_56 : decode cX12_goBack 56 = .ok (.aload_n 0, 1) := by decide +kernel
theorem dX12_goBack_57 : decode cX12_goBack 57 = .ok (.aload_n 0, 1) := by decide +kernel
theorem dX12_goBack_58 : decode cX12_goBack 58 = .ok (.getfield 74, 3) := by decide +kernel
theorem dX12_goBack_61 : decode cX12_goBack 61 = .ok (.bipush 81, 2) := by decide +kernel
theorem dX12_goBack_63 : decode cX12_goBack 63 = .ok (.iload_n 1, 1) := by decide +kernel
theorem dX12_goBack_64 : decode cX12_goBack 64 = .ok (.imul, 1) := by decide +kernel
theorem dX12_goBack_65 : decode cX12_goBack 65 = .ok (.bipush 80, 2) := by decide +kernel
theorem dX12_goBack_67 : decode cX12_goBack 67 = .ok (.iadd, 1) := by decide +kernel
theorem dX12_goBack_68 : decode cX12_goBack 68 = .ok (.iaload, 1) := by decide +kernel
theorem dX12_goBack_69 : decode cX12_goBack 69 = .ok (.putfield 267, 3) := by decide +kernel
theorem dX12_goBack_72 : decode cX12_goBack 72 = .ok (.aload_n 0, 1) := by decide +kernel
theorem dX12_goBack_73 : decode cX12_goBack 73 = .ok (.iconst 0, 1) := by decide +kernel
theorem dX12_goBack_74 : decode cX12_goBack 74 = .ok (.putfield 195, 3) := by decide +kernel
theorem dX12_goBack_77 : decode cX12_goBack 77 = .ok (.iconst 1, 1) := by decide +kernel
theorem dX12_goBack_78 : decode cX12_goBack 78 = .ok (.ireturn, 1) := by decide +kernel
