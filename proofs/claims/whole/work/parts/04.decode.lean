theorem dX11_init_0 : decode cX11_init 0 = .ok (.aload_n 0, 1) := by decide +kernel
theorem dX11_init_1 : decode cX11_init 1 = .ok (.invokespecial 1, 3) := by decide +kernel
theorem dX11_init_4 : decode cX11_init 4 = .ok (.aload_n 0, 1) := by decide +kernel
theorem dX11_init_5 : decode cX11_init 5 = .ok (.sipush 240, 3) := by decide +kernel
theorem dX11_init_8 : decode cX11_init 8 = .ok (.newarray .int, 2) := by decide +kernel
theorem dX11_init_10 : decode cX11_init 10 = .ok (.putfield 9, 3) := by decide +kernel
theorem dX11_init_13 : decode cX11_init 13 = .ok (.aload_n 0, 1) := by decide +kernel
theorem dX11_init_14 : decode cX11_init 14 = .ok (.iconst (-1), 1) := by decide +kernel
theorem dX11_init_15 : decode cX11_init 15 = .ok (.putfield 13, 3) := by decide +kernel
theorem dX11_init_18 : decode cX11_init 18 = .ok (.aload_n 0, 1) := by decide +kernel
theorem dX11_init_19 : decode cX11_init 19 = .ok (.new 17, 3) := by decide +kernel
theorem dX11_init_22 : decode cX11_init 22 = .ok (.dup, 1) := by decide +kernel
theorem dX11_init_23 : decode cX11_init 23 = .ok (.invokespecial 19, 3) := by decide +kernel
theorem dX11_init_26 : decode cX11_init 26 = .ok (.putfield 20, 3) := by decide +kernel
theorem dX11_init_29 : decode cX11_init 29 = .ok (.aload_n 0, 1) := by decide +kernel
theorem dX11_init_30 : decode cX11_init 30 = .ok (.new 24, 3) := by decide +kernel
theorem dX11_init_33 : decode cX11_init 33 = .ok (.dup, 1) := by decide +kernel
theorem dX11_init_34 : decode cX11_init 34 = .ok (.invokespecial 26, 3) := by decide +kernel
theorem dX11_init_37 : decode cX11_init 37 = .ok (.putfield 27, 3) := by decide +kernel
theorem dX11_init_40 : decode cX11_init 40 = .ok (.aload_n 0, 1) := by decide +kernel
theorem dX11_init_41 : decode cX11_init 41 = .ok (.new 24, 3) := by decide +kernel
theorem dX11_init_44 : decode cX11_init 44 = .ok (.dup, 1) := by decide +kernel
theorem dX11_init_45 : decode cX11_init 45 = .ok (.invokespecial 26, 3) := by decide +kernel
theorem dX11_init_48 : decode cX11_init 48 = .ok (.putfield 31, 3) := by decide +kernel
theorem dX11_init_51 : decode cX11_init 51 = .ok (.aload_n 0, 1) := by decide +kernel
theorem dX11_init_52 : decode cX11_init 52 = .ok (.new 34, 3) := by decide +kernel
theorem dX11_init_55 : decode cX11_init 55 = .ok (.dup, 1) := by decide +kernel
theorem dX11_init_56 : decode cX11_init 56 = .ok (.invokespecial 36, 3) := by decide +kernel
theorem dX11_init_59 : decode cX11_init 59 = .ok (.putfield 37, 3) := by decide +kernel
theorem dX11_init_62 : decode cX11_init 62 = .ok (.aload_n 0, 1) := by decide +kernel
theorem dX11_init_63 : decode cX11_init 63 = .ok (.new 41, 3) := by decide +kernel
theorem dX11_init_66 : decode cX11_init 66 = .ok (.dup, 1) := by decide +kernel
theorem dX11_init_67 : decode cX11_init 67 = .ok (.invokespecial 43, 3) := by decide +kernel
theorem dX11_init_70 : decode cX11_init 70 = .ok (.putfield 44, 3) := by decide +kernel
theorem dX11_init_73 : decode cX11_init 73 = .ok (.aload_n 0, 1) := by decide +kernel
theorem dX11_init_74 : decode cX11_init 74 = .ok (.new 48, 3) := by decide +kernel
theorem dX11_init_77 : decode cX11_init 77 = .ok (.dup, 1) := by decide +kernel
theorem dX11_init_78 : decode cX11_init 78 = .ok (.invokespecial 50, 3) := by decide +kernel
theorem dX11_init_81 : decode cX11_init 81 = .ok (.putfield 51, 3) := by decide +kernel
theorem dX11_init_84 : decode cX11_init 84 = .ok (.aload_n 0, 1) := by decide +kernel
theorem dX11_init_85 : decode cX11_init 85 = .ok (.iconst 2, 1) := by decide +kernel
theorem dX11_init_86 : decode cX11_init 86 = .ok (.anewarray 34, 3) := by decide +kernel
theorem dX11_init_89 : decode cX11_init 89 = .ok (.putfield 55, 3) := by decide +kernel
theorem dX11_init_92 : decode cX11_init 92 = .ok (.iconst 0, 1) := by decide +kernel
theorem dX11_init_93 : decode cX11_init 93 = .ok (.istore_n 1, 1) := by decide +kernel
theorem dX11_init_94 : decode cX11_init 94 = .ok (.iload_n 1, 1) := by decide +kernel
theorem dX11_init_95 : decode cX11_init 95 = .ok (.iconst 2, 1) := by decide +kernel
theorem dX11_init_96 : decode cX11_init 96 = .ok (.if_icmp .ge 22, 3) := by decide +kernel
theorem dX11_init_99 : decode cX11_init 99 = .ok (.aload_n 0, 1) := by decide +kernel
theorem dX11_init_100 : decode cX11_init 100 = .ok (.getfield 55, 3) := by decide +kernel
theorem dX11_init_103 : decode cX11_init 103 = .ok (.iload_n 1, 1) := by decide +kernel
theorem dX11_init_104 : decode cX11_init 104 = .ok (.new 34, 3) := by decide +kernel
theorem dX11_init_107 : decode cX11_init 107 = .ok (.dup, 1) := by decide +kernel
theorem dX11_init_108 : decode cX11_init 108 = .ok (.invokespecial 36, 3) := by decide +kernel
theorem dX11_init_111 : decode cX11_init 111 = .ok (.aastore, 1) := by decide +kernel
theorem dX11_init_112 : decode cX11_init 112 = .ok (.iinc 1 1, 3) := by decide +kernel
theorem dX11_init_115 : decode cX11_init 115 = .ok (.goto (-21), 3) := by decide +kernel
theorem dX11_init_118 : decode cX11_init 118 = .ok (.aload_n 0, 1) := by decide +kernel
theorem dX11_init_119 : decode cX11_init 119 = .ok (.iconst 2, 1) := by decide +kernel
theorem dX11_init_120 : decode cX11_init 120 = .ok (.newarray .boolean, 2) := by decide +kernel
theorem dX11_init_122 : decode cX11_init 122 = .ok (.putfield 59, 3) := by decide +kernel
theorem dX11_init_125 : decode cX11_init 125 = .ok (.aload_n 0, 1) := by decide +kernel
theorem dX11_init_126 : decode cX11_init 126 = .ok (.iconst 2, 1) := by decide +kernel
theorem dX11_init_127 : decode cX11_init 127 = .ok (.newarray .int, 2) := by decide +kernel
theorem dX11_init_129 : decode cX11_init 129 = .ok (.putfield 63, 3) := by decide +kernel
theorem dX11_init_132 : decode cX11_init 132 = .ok (.aload_n 0, 1) := by decide +kernel
theorem dX11_init_133 : decode cX11_init 133 = .ok (.new 66, 3) := by decide +kernel
theorem dX11_init_136 : decode cX11_init 136 = .ok (.dup, 1) := by decide +kernel
theorem dX11_init_137 : decode cX11_init 137 = .ok (.invokespecial 68, 3) := by decide +kernel
theorem dX11_init_140 : decode cX11_init 140 = .ok (.putfield 69, 3) := by decide +kernel
theorem dX11_init_143 : decode cX11_init 143 = .ok (.aload_n 0, 1) := by decide +kernel
theorem dX11_init_144 : decode cX11_init 144 = .ok (.new 73, 3) := by decide +kernel
theorem dX11_init_147 : decode cX11_init 147 = .ok (.dup, 1) := by decide +kernel
theorem dX11_init_148 : decode cX11_init 148 = .ok (.invokespecial 75, 3) := by decide +kernel
theorem dX11_init_151 : decode cX11_init 151 = .ok (.putfield 76, 3) := by decide +kernel
theorem dX11_init_154 : decode cX11_init 154 = .ok (.aload_n 0, 1) := by decide +kernel
theorem dX11_init_155 : decode cX11_init 155 = .ok (.new 80, 3) := by decide +kernel
theorem dX11_init_158 : decode cX11_init 158 = .ok (.dup, 1) := by decide +kernel
theorem dX11_init_159 : decode cX11_init 159 = .ok (.invokespecial 82, 3) := by decide +kernel
theorem dX11_init_162 : decode cX11_init 162 = .ok (.putfield 83, 3) := by decide +kernel
theorem dX11_init_165 : decode cX11_init 165 = .ok (.aload_n 0, 1) := by decide +kernel
theorem dX11_init_166 : decode cX11_init 166 = .ok (.new 87, 3) := by decide +kernel
theorem dX11_init_169 : decode cX11_init 169 = .ok (.dup, 1) := by decide +kernel
theorem dX11_init_170 : decode cX11_init 170 = .ok (.invokespecial 89, 3) := by decide +kernel
theorem dX11_init_173 : decode cX11_init 173 = .ok (.putfield 90, 3) := by decide +kernel
theorem dX11_init_176 : decode cX11_init 176 = .ok (.return_, 1) := by decide +kernel
theorem dX11_feed_0 : decode cX11_feed 0 = .ok (.iload_n 1, 1) := by decide +kernel
theorem dX11_feed_1 : decode cX11_feed 1 = .ok (.iconst 0, 1) := by decide +kernel
theorem dX11_feed_2 : decode cX11_feed 2 = .ok (.sipush 255, 3) := by decide +kernel
theorem dX11_feed_5 : decode cX11_feed 5 = .ok (.invokestatic 94, 3) := by decide +kernel
theorem dX11_feed_8 : decode cX11_feed 8 = .ok (.ifCond .ne 6, 3) := by decide +kernel
theorem dX11_feed_11 : decode cX11_feed 11 = .ok (.ldc 98, 2) := by decide +kernel
theorem dX11_feed_13 : decode cX11_feed 13 = .ok (.ireturn, 1) := by decide +kernel
theorem dX11_feed_14 : decode cX11_feed 14 = .ok (.aload_n 0, 1) := by decide +kernel
theorem dX11_feed_15 : decode cX11_feed 15 = .ok (.getfield 99, 3) := by decide +kernel
theorem dX11_feed_18 : decode cX11_feed 18 = .ok (.ifCond .lt 13, 3) := by decide +kernel
theorem dX11_feed_21 : decode cX11_feed 21 = .ok (.aload_n 0, 1) := by decide +kernel
theorem dX11_feed_22 : decode cX11_feed 22 = .ok (.getfield 99, 3) := by decide +kernel
theorem dX11_feed_25 : decode cX11_feed 25 = .ok (.sipush 240, 3) := by decide +kernel
theorem dX11_feed_28 : decode cX11_feed 28 = .ok (.if_icmp .lt 6, 3) := by decide +kernel
theorem dX11_feed_31 : decode cX11_feed 31 = .ok (.ldc 102, 2) := by decide +kernel
theorem dX11_feed_33 : decode cX11_feed 33 = .ok (.ireturn, 1) := by decide +kernel
theorem dX11_feed_34 : decode cX11_feed 34 = .ok (.aload_n 0, 1) := by decide +kernel
theorem dX11_feed_35 : decode cX11_feed 35 = .ok (.getfield 9, 3) := by decide +kernel
theorem dX11_feed_38 : decode cX11_feed 38 = .ok (.aload_n 0, 1) := by decide +kernel
theorem dX11_feed_39 : decode cX11_feed 39 = .ok (.getfield 99, 3) := by decide +kernel
theorem dX11_feed_42 : decode cX11_feed 42 = .ok (.iload_n 1, 1) := by decide +kernel
theorem dX11_feed_43 : decode cX11_feed 43 = .ok (.iastore, 1) := by decide +kernel
theorem dX11_feed_44 : decode cX11_feed 44 = .ok (.aload_n 0, 1) := by decide +kernel
theorem dX11_feed_45 : decode cX11_feed 45 = .ok (.dup, 1) := by decide +kernel
theorem dX11_feed_46 : decode cX11_feed 46 = .ok (.getfield 99, 3) := by decide +kernel
theorem dX11_feed_49 : decode cX11_feed 49 = .ok (.iconst 1, 1) := by decide +kernel
theorem dX11_feed_50 : decode cX11_feed 50 = .ok (.iadd, 1) := by decide +kernel
theorem dX11_feed_51 : decode cX11_feed 51 = .ok (.putfield 99, 3) := by decide +kernel
theorem dX11_feed_54 : decode cX11_feed 54 = .ok (.aload_n 0, 1) := by decide +kernel
theorem dX11_feed_55 : decode cX11_feed 55 = .ok (.getfield 99, 3) := by decide +kernel
theorem dX11_feed_58 : decode cX11_feed 58 = .ok (.ireturn, 1) := by decide +kernel
theorem dX11_realm_0 : decode cX11_realm 0 = .ok (.aload_n 0, 1) := by decide +kernel
theorem dX11_realm_1 : decode cX11_realm 1 = .ok (.getfield 20, 3) := by decide +kernel
theorem dX11_realm_4 : decode cX11_realm 4 = .ok (.aload_n 0, 1) := by decide +kernel
theorem dX11_realm_5 : decode cX11_realm 5 = .ok (.getfield 9, 3) := by decide +kernel
theorem dX11_realm_8 : decode cX11_realm 8 = .ok (.aload_n 0, 1) := by decide +kernel
theorem dX11_realm_9 : decode cX11_realm 9 = .ok (.getfield 99, 3) := by decide +kernel
theorem dX11_realm_12 : decode cX11_realm 12 = .ok (.aload_n 0, 1) := by decide +kernel
theorem dX11_realm_13 : decode cX11_realm 13 = .ok (.getfield 31, 3) := by decide +kernel
theorem dX11_realm_16 : decode cX11_realm 16 = .ok (.invokevirtual 103, 3) := by decide +kernel
theorem dX11_realm_19 : decode cX11_realm 19 = .ok (.aload_n 0, 1) := by decide +kernel
theorem dX11_realm_20 : decode cX11_realm 20 = .ok (.iconst 0, 1) := by decide +kernel
theorem dX11_realm_21 : decode cX11_realm 21 = .ok (.putfield 99, 3) := by decide +kernel
theorem dX11_realm_24 : decode cX11_realm 24 = .ok (.aload_n 0, 1) := by decide +kernel
theorem dX11_realm_25 : decode cX11_realm 25 = .ok (.aload_n 0, 1) := by decide +kernel
theorem dX11_realm_26 : decode cX11_realm 26 = .ok (.getfield 20, 3) := by decide +kernel
theorem dX11_realm_29 : decode cX11_realm 29 = .ok (.getfield 107, 3) := by decide +kernel
theorem dX11_realm_32 : decode cX11_realm 32 = .ok (.putfield 13, 3) := by decide +kernel
theorem dX11_realm_35 : decode cX11_realm 35 = .ok (.aload_n 0, 1) := by decide +kernel
theorem dX11_realm_36 : decode cX11_realm 36 = .ok (.getfield 20, 3) := by decide +kernel
theorem dX11_realm_39 : decode cX11_realm 39 = .ok (.getfield 108, 3) := by decide +kernel
theorem dX11_realm_42 : decode cX11_realm 42 = .ok (.ifCond .eq 14, 3) := by decide +kernel
theorem dX11_realm_45 : decode cX11_realm 45 = .ok (.bipush (-10), 2) := by decide +kernel
theorem dX11_realm_47 : decode cX11_realm 47 = .ok (.aload_n 0, 1) := by decide +kernel
theorem dX11_realm_48 : decode cX11_realm 48 = .ok (.getfield 20, 3) := by decide +kernel
theorem dX11_realm_51 : decode cX11_realm 51 = .ok (.getfield 108, 3) := by decide +kernel
theorem dX11_realm_54 : decode cX11_realm 54 = .ok (.isub, 1) := by decide +kernel
theorem dX11_realm_55 : decode cX11_realm 55 = .ok (.ireturn, 1) := by decide +kernel
theorem dX11_realm_56 : decode cX11_realm 56 = .ok (.aload_n 0, 1) := by decide +kernel
theorem dX11_realm_57 : decode cX11_realm 57 = .ok (.getfield 27, 3) := by decide +kernel
theorem dX11_realm_60 : decode cX11_realm 60 = .ok (.astore_n 1, 1) := by decide +kernel
theorem dX11_realm_61 : decode cX11_realm 61 = .ok (.aload_n 0, 1) := by decide +kernel
theorem dX11_realm_62 : decode cX11_realm 62 = .ok (.aload_n 0, 1) := by decide +kernel
theorem dX11_realm_63 : decode cX11_realm 63 = .ok (.getfield 31, 3) := by decide +kernel
theorem dX11_realm_66 : decode cX11_realm 66 = .ok (.putfield 27, 3) := by decide +kernel
theorem dX11_realm_69 : decode cX11_realm 69 = .ok (.aload_n 0, 1) := by decide +kernel
theorem dX11_realm_70 : decode cX11_realm 70 = .ok (.aload_n 1, 1) := by decide +kernel
theorem dX11_realm_71 : decode cX11_realm 71 = .ok (.putfield 31, 3) := by decide +kernel
theorem dX11_realm_74 : decode cX11_realm 74 = .ok (.aload_n 0, 1) := by decide +kernel
theorem dX11_realm_75 : decode cX11_realm 75 = .ok (.getfield 37, 3) := by decide +kernel
theorem dX11_realm_78 : decode cX11_realm 78 = .ok (.aload_n 0, 1) := by decide +kernel
theorem dX11_realm_79 : decode cX11_realm 79 = .ok (.getfield 27, 3) := by decide +kernel
theorem dX11_realm_82 : decode cX11_realm 82 = .ok (.invokevirtual 111, 3) := by decide +kernel
theorem dX11_realm_85 : decode cX11_realm 85 = .ok (.aload_n 0, 1) := by decide +kernel
theorem dX11_realm_86 : decode cX11_realm 86 = .ok (.getfield 51, 3) := by decide +kernel
theorem dX11_realm_89 : decode cX11_realm 89 = .ok (.invokevirtual 115, 3) := by decide +kernel
theorem dX11_realm_92 : decode cX11_realm 92 = .ok (.iconst 0, 1) := by decide +kernel
theorem dX11_realm_93 : decode cX11_realm 93 = .ok (.istore_n 2, 1) := by decide +kernel
theorem dX11_realm_94 : decode cX11_realm 94 = .ok (.iload_n 2, 1) := by decide +kernel
theorem dX11_realm_95 : decode cX11_realm 95 = .ok (.iconst 2, 1) := by decide +kernel
theorem dX11_realm_96 : decode cX11_realm 96 = .ok (.if_icmp .ge 16, 3) := by decide +kernel
theorem dX11_realm_99 : decode cX11_realm 99 = .ok (.aload_n 0, 1) := by decide +kernel
theorem dX11_realm_100 : decode cX11_realm 100 = .ok (.getfield 59, 3) := by decide +kernel
theorem dX11_realm_103 : decode cX11_realm 103 = .ok (.iload_n 2, 1) := by decide +kernel
theorem dX11_realm_104 : decode cX11_realm 104 = .ok (.iconst 0, 1) := by decide +kernel
theorem dX11_realm_105 : decode cX11_realm 105 = .ok (.bastore, 1) := by decide +kernel
theorem dX11_realm_106 : decode cX11_realm 106 = .ok (.iinc 2 1, 3) := by decide +kernel
theorem dX11_realm_109 : decode cX11_realm 109 = .ok (.goto (-15), 3) := by decide +kernel
theorem dX11_realm_112 : decode cX11_realm 112 = .ok (.aload_n 0, 1) := by decide +kernel
theorem dX11_realm_113 : decode cX11_realm 113 = .ok (.getfield 83, 3) := by decide +kernel
theorem dX11_realm_116 : decode cX11_realm 116 = .ok (.iconst 0, 1) := by decide +kernel
theorem dX11_realm_117 : decode cX11_realm 117 = .ok (.putfield 118, 3) := by decide +kernel
theorem dX11_realm_120 : decode cX11_realm 120 = .ok (.aload_n 0, 1) := by decide +kernel
theorem dX11_realm_121 : decode cX11_realm 121 = .ok (.getfield 90, 3) := by decide +kernel
theorem dX11_realm_124 : decode cX11_realm 124 = .ok (.iconst 0, 1) := by decide +kernel
theorem dX11_realm_125 : decode cX11_realm 125 = .ok (.putfield 121, 3) := by decide +kernel
theorem dX11_realm_128 : decode cX11_realm 128 = .ok (.aload_n 0, 1) := by decide +kernel
theorem dX11_realm_129 : decode cX11_realm 129 = .ok (.getfield 27, 3) := by decide +kernel
theorem dX11_realm_132 : decode cX11_realm 132 = .ok (.getfield 122, 3) := by decide +kernel
theorem dX11_realm_135 : decode cX11_realm 135 = .ok (.ireturn, 1) := by decide +kernel
theorem dX11_fault_0 : decode cX11_fault 0 = .ok (.aload_n 0, 1) := by decide +kernel
theorem dX11_fault_1 : decode cX11_fault 1 = .ok (.getfield 13, 3) := by decide +kernel
theorem dX11_fault_4 : decode cX11_fault 4 = .ok (.ireturn, 1) := by decide +kernel
theorem dX11_told_0 : decode cX11_told 0 = .ok (.iload_n 1, 1) := by decide +kernel
theorem dX11_told_1 : decode cX11_told 1 = .ok (.tableswitch 206 0 13 #[71, 79, 87, 95, 103, 108, 119, 130, 149, 160, 171, 182, 190, 198], 71) := by decide +kernel
theorem dX11_told_72 : decode cX11_told 72 = .ok (.aload_n 0, 1) := by decide +kernel
theorem dX11_told_73 : decode cX11_told 73 = .ok (.getfield 27, 3) := by decide +kernel
theorem dX11_told_76 : decode cX11_told 76 = .ok (.getfield 122, 3) := by decide +kernel
theorem dX11_told_79 : decode cX11_told 79 = .ok (.ireturn, 1) := by decide +kernel
theorem dX11_told_80 : decode cX11_told 80 = .ok (.aload_n 0, 1) := by decide +kernel
theorem dX11_told_81 : decode cX11_told 81 = .ok (.getfield 27, 3) := by decide +kernel
theorem dX11_told_84 : decode cX11_told 84 = .ok (.getfield 125, 3) := by decide +kernel
theorem dX11_told_87 : decode cX11_told 87 = .ok (.ireturn, 1) := by decide +kernel
theorem dX11_told_88 : decode cX11_told 88 = .ok (.aload_n 0, 1) := by decide +kernel
theorem dX11_told_89 : decode cX11_told 89 = .ok (.getfield 27, 3) := by decide +kernel
theorem dX11_told_92 : decode cX11_told 92 = .ok (.getfield 128, 3) := by decide +kernel
theorem dX11_told_95 : decode cX11_told 95 = .ok (.ireturn, 1) := by decide +kernel
theorem dX11_told_96 : decode cX11_told 96 = .ok (.aload_n 0, 1) := by decide +kernel
theorem dX11_told_97 : decode cX11_told 97 = .ok (.getfield 27, 3) := by decide +kernel
theorem dX11_told_100 : decode cX11_told 100 = .ok (.getfield 131, 3) := by decide +kernel
theorem dX11_told_103 : decode cX11_told 103 = .ok (.ireturn, 1) := by decide +kernel
theorem dX11_told_104 : decode cX11_told 104 = .ok (.aload_n 0, 1) := by decide +kernel
theorem dX11_told_105 : decode cX11_told 105 = .ok (.getfield 99, 3) := by decide +kernel
theorem dX11_told_108 : decode cX11_told 108 = .ok (.ireturn, 1) := by decide +kernel
theorem dX11_told_109 : decode cX11_told 109 = .ok (.aload_n 0, 1) := by decide +kernel
theorem dX11_told_110 : decode cX11_told 110 = .ok (.getfield 37, 3) := by decide +kernel
theorem dX11_told_113 : decode cX11_told 113 = .ok (.getfield 134, 3) := by decide +kernel
theorem dX11_told_116 : decode cX11_told 116 = .ok (.getfield 137, 3) := by decide +kernel
theorem dX11_told_119 : decode cX11_told 119 = .ok (.ireturn, 1) := by decide +kernel
theorem dX11_told_120 : decode cX11_told 120 = .ok (.aload_n 0, 1) := by decide +kernel
theorem dX11_told_121 : decode cX11_told 121 = .ok (.getfield 37, 3) := by decide +kernel
theorem dX11_told_124 : decode cX11_told 124 = .ok (.getfield 134, 3) := by decide +kernel
theorem dX11_told_127 : decode cX11_told 127 = .ok (.getfield 140, 3) := by decide +kernel
theorem dX11_told_130 : decode cX11_told 130 = .ok (.ireturn, 1) := by decide +kernel
theorem dX11_told_131 : decode cX11_told 131 = .ok (.aload_n 0, 1) := by decide +kernel
theorem dX11_told_132 : decode cX11_told 132 = .ok (.getfield 37, 3) := by decide +kernel
theorem dX11_told_135 : decode cX11_told 135 = .ok (.getfield 134, 3) := by decide +kernel
theorem dX11_told_138 : decode cX11_told 138 = .ok (.getfield 141, 3) := by decide +kernel
theorem dX11_told_141 : decode cX11_told 141 = .ok (.ifCond .eq 7, 3) := by decide +kernel
theorem dX11_told_144 : decode cX11_told 144 = .ok (.iconst 1, 1) := by decide +kernel
theorem dX11_told_145 : decode cX11_told 145 = .ok (.goto 4, 3) := by decide +kernel
theorem dX11_told_148 : decode cX11_told 148 = .ok (.iconst 0, 1) := by decide +kernel
theorem dX11_told_149 : decode cX11_told 149 = .ok (.ireturn, 1) := by decide +kernel
theorem dX11_told_150 : decode cX11_told 150 = .ok (.aload_n 0, 1) := by decide +kernel
theorem dX11_told_151 : decode cX11_told 151 = .ok (.getfield 37, 3) := by decide +kernel
theorem dX11_told_154 : decode cX11_told 154 = .ok (.getfield 145, 3) := by decide +kernel
theorem dX11_told_157 : decode cX11_told 157 = .ok (.getfield 149, 3) := by decide +kernel
theorem dX11_told_160 : decode cX11_told 160 = .ok (.ireturn, 1) := by decide +kernel
theorem dX11_told_161 : decode cX11_told 161 = .ok (.aload_n 0, 1) := by decide +kernel
theorem dX11_told_162 : decode cX11_told 162 = .ok (.getfield 37, 3) := by decide +kernel
theorem dX11_told_165 : decode cX11_told 165 = .ok (.getfield 152, 3) := by decide +kernel
theorem dX11_told_168 : decode cX11_told 168 = .ok (.getfield 156, 3) := by decide +kernel
theorem dX11_told_171 : decode cX11_told 171 = .ok (.ireturn, 1) := by decide +kernel
theorem dX11_told_172 : decode cX11_told 172 = .ok (.aload_n 0, 1) := by decide +kernel
theorem dX11_told_173 : decode cX11_told 173 = .ok (.getfield 37, 3) := by decide +kernel
theorem dX11_told_176 : decode cX11_told 176 = .ok (.getfield 145, 3) := by decide +kernel
theorem dX11_told_179 : decode cX11_told 179 = .ok (.invokevirtual 159, 3) := by decide +kernel
theorem dX11_told_182 : decode cX11_told 182 = .ok (.ireturn, 1) := by decide +kernel
theorem dX11_told_183 : decode cX11_told 183 = .ok (.aload_n 0, 1) := by decide +kernel
theorem dX11_told_184 : decode cX11_told 184 = .ok (.getfield 83, 3) := by decide +kernel
theorem dX11_told_187 : decode cX11_told 187 = .ok (.getfield 118, 3) := by decide +kernel
theorem dX11_told_190 : decode cX11_told 190 = .ok (.ireturn, 1) := by decide +kernel
theorem dX11_told_191 : decode cX11_told 191 = .ok (.aload_n 0, 1) := by decide +kernel
theorem dX11_told_192 : decode cX11_told 192 = .ok (.getfield 90, 3) := by decide +kernel
theorem dX11_told_195 : decode cX11_told 195 = .ok (.getfield 121, 3) := by decide +kernel
theorem dX11_told_198 : decode cX11_told 198 = .ok (.ireturn, 1) := by decide +kernel
theorem dX11_told_199 : decode cX11_told 199 = .ok (.aload_n 0, 1) := by decide +kernel
theorem dX11_told_200 : decode cX11_told 200 = .ok (.getfield 51, 3) := by decide +kernel
theorem dX11_told_203 : decode cX11_told 203 = .ok (.getfield 163, 3) := by decide +kernel
theorem dX11_told_206 : decode cX11_told 206 = .ok (.ireturn, 1) := by decide +kernel
theorem dX11_told_207 : decode cX11_told 207 = .ok (.ldc 98, 2) := by decide +kernel
theorem dX11_told_209 : decode cX11_told 209 = .ok (.ireturn, 1) := by decide +kernel
theorem dX11_warped_0 : decode cX11_warped 0 = .ok (.aload_n 0, 1) := by decide +kernel
theorem dX11_warped_1 : decode cX11_warped 1 = .ok (.invokevirtual 164, 3) := by decide +kernel
theorem dX11_warped_4 : decode cX11_warped 4 = .ok (.ifCond .eq 8, 3) := by decide +kernel
theorem dX11_warped_7 : decode cX11_warped 7 = .ok (.ldc 168, 2) := by decide +kernel
theorem dX11_warped_9 : decode cX11_warped 9 = .ok (.goto 17, 3) := by decide +kernel
theorem dX11_warped_12 : decode cX11_warped 12 = .ok (.aload_n 0, 1) := by decide +kernel
theorem dX11_warped_13 : decode cX11_warped 13 = .ok (.getfield 37, 3) := by decide +kernel
theorem dX11_warped_16 : decode cX11_warped 16 = .ok (.getfield 134, 3) := by decide +kernel
theorem dX11_warped_19 : decode cX11_warped 19 = .ok (.getfield 169, 3) := by decide +kernel
theorem dX11_warped_22 : decode cX11_warped 22 = .ok (.sipush 1000, 3) := by decide +kernel
theorem dX11_warped_25 : decode cX11_warped 25 = .ok (.iadd, 1) := by decide +kernel
theorem dX11_warped_26 : decode cX11_warped 26 = .ok (.ireturn, 1) := by decide +kernel
theorem dX11_nick_0 : decode cX11_nick 0 = .ok (.iload_n 1, 1) := by decide +kernel
theorem dX11_nick_1 : decode cX11_nick 1 = .ok (.iconst 0, 1) := by decide +kernel
theorem dX11_nick_2 : decode cX11_nick 2 = .ok (.aload_n 0, 1) := by decide +kernel
theorem dX11_nick_3 : decode cX11_nick 3 = .ok (.getfield 27, 3) := by decide +kernel
theorem dX11_nick_6 : decode cX11_nick 6 = .ok (.getfield 125, 3) := by decide +kernel
theorem dX11_nick_9 : decode cX11_nick 9 = .ok (.iconst 1, 1) := by decide +kernel
theorem dX11_nick_10 : decode cX11_nick 10 = .ok (.isub, 1) := by decide +kernel
theorem dX11_nick_11 : decode cX11_nick 11 = .ok (.invokestatic 94, 3) := by decide +kernel
theorem dX11_nick_14 : decode cX11_nick 14 = .ok (.ifCond .eq 15, 3) := by decide +kernel
theorem dX11_nick_17 : decode cX11_nick 17 = .ok (.aload_n 0, 1) := by decide +kernel
theorem dX11_nick_18 : decode cX11_nick 18 = .ok (.getfield 27, 3) := by decide +kernel
theorem dX11_nick_21 : decode cX11_nick 21 = .ok (.getfield 172, 3) := by decide +kernel
theorem dX11_nick_24 : decode cX11_nick 24 = .ok (.iload_n 1, 1) := by decide +kernel
theorem dX11_nick_25 : decode cX11_nick 25 = .ok (.iaload, 1) := by decide +kernel
theorem dX11_nick_26 : decode cX11_nick 26 = .ok (.goto 4, 3) := by decide +kernel
theorem dX11_nick_29 : decode cX11_nick 29 = .ok (.iconst (-1), 1) := by decide +kernel
theorem dX11_nick_30 : decode cX11_nick 30 = .ok (.ireturn, 1) := by decide +kernel
theorem dX11_office_0 : decode cX11_office 0 = .ok (.aload_n 0, 1) := by decide +kernel
theorem dX11_office_1 : decode cX11_office 1 = .ok (.iload_n 1, 1) := by decide +kernel
theorem dX11_office_2 : decode cX11_office 2 = .ok (.invokevirtual 175, 3) := by decide +kernel
theorem dX11_office_5 : decode cX11_office 5 = .ok (.ifCond .ne 6, 3) := by decide +kernel
theorem dX11_office_8 : decode cX11_office 8 = .ok (.ldc 179, 2) := by decide +kernel
theorem dX11_office_10 : decode cX11_office 10 = .ok (.ireturn, 1) := by decide +kernel
theorem dX11_office_11 : decode cX11_office 11 = .ok (.iload_n 2, 1) := by decide +kernel
theorem dX11_office_12 : decode cX11_office 12 = .ok (.tableswitch 61 0 2 #[28, 38, 48], 28) := by decide +kernel
theorem dX11_office_40 : decode cX11_office 40 = .ok (.aload_n 0, 1) := by decide +kernel
theorem dX11_office_41 : decode cX11_office 41 = .ok (.getfield 27, 3) := by decide +kernel
theorem dX11_office_44 : decode cX11_office 44 = .ok (.getfield 180, 3) := by decide +kernel
theorem dX11_office_47 : decode cX11_office 47 = .ok (.iload_n 1, 1) := by decide +kernel
theorem dX11_office_48 : decode cX11_office 48 = .ok (.iaload, 1) := by decide +kernel
theorem dX11_office_49 : decode cX11_office 49 = .ok (.ireturn, 1) := by decide +kernel
theorem dX11_office_50 : decode cX11_office 50 = .ok (.aload_n 0, 1) := by decide +kernel
theorem dX11_office_51 : decode cX11_office 51 = .ok (.getfield 27, 3) := by decide +kernel
theorem dX11_office_54 : decode cX11_office 54 = .ok (.getfield 183, 3) := by decide +kernel
theorem dX11_office_57 : decode cX11_office 57 = .ok (.iload_n 1, 1) := by decide +kernel
theorem dX11_office_58 : decode cX11_office 58 = .ok (.iaload, 1) := by decide +kernel
theorem dX11_office_59 : decode cX11_office 59 = .ok (.ireturn, 1) := by decide +kernel
theorem dX11_office_60 : decode cX11_office 60 = .ok (.aload_n 0, 1) := by decide +kernel
theorem dX11_office_61 : decode cX11_office 61 = .ok (.getfield 37, 3) := by decide +kernel
theorem dX11_office_64 : decode cX11_office 64 = .ok (.aload_n 0, 1) := by decide +kernel
theorem dX11_office_65 : decode cX11_office 65 = .ok (.getfield 27, 3) := by decide +kernel
theorem dX11_office_68 : decode cX11_office 68 = .ok (.iload_n 1, 1) := by decide +kernel
theorem dX11_office_69 : decode cX11_office 69 = .ok (.invokevirtual 186, 3) := by decide +kernel
theorem dX11_office_72 : decode cX11_office 72 = .ok (.ireturn, 1) := by decide +kernel
theorem dX11_office_73 : decode cX11_office 73 = .ok (.ldc 98, 2) := by decide +kernel
theorem dX11_office_75 : decode cX11_office 75 = .ok (.ireturn, 1) := by decide +kernel
theorem dX11_person_0 : decode cX11_person 0 = .ok (.aload_n 0, 1) := by decide +kernel
theorem dX11_person_1 : decode cX11_person 1 = .ok (.iload_n 1, 1) := by decide +kernel
theorem dX11_person_2 : decode cX11_person 2 = .ok (.invokevirtual 190, 3) := by decide +kernel
theorem dX11_person_5 : decode cX11_person 5 = .ok (.ifCond .ne 6, 3) := by decide +kernel
theorem dX11_person_8 : decode cX11_person 8 = .ok (.ldc 179, 2) := by decide +kernel
theorem dX11_person_10 : decode cX11_person 10 = .ok (.ireturn, 1) := by decide +kernel
theorem dX11_person_11 : decode cX11_person 11 = .ok (.iload_n 2, 1) := by decide +kernel
theorem dX11_person_12 : decode cX11_person 12 = .ok (.lookupswitch 58 #[(0, 28), (1, 38)], 28) := by decide +kernel
theorem dX11_person_40 : decode cX11_person 40 = .ok (.aload_n 0, 1) := by decide +kernel
theorem dX11_person_41 : decode cX11_person 41 = .ok (.getfield 37, 3) := by decide +kernel
theorem dX11_person_44 : decode cX11_person 44 = .ok (.getfield 193, 3) := by decide +kernel
theorem dX11_person_47 : decode cX11_person 47 = .ok (.iload_n 1, 1) := by decide +kernel
theorem dX11_person_48 : decode cX11_person 48 = .ok (.iaload, 1) := by decide +kernel
theorem dX11_person_49 : decode cX11_person 49 = .ok (.ireturn, 1) := by decide +kernel
theorem dX11_person_50 : decode cX11_person 50 = .ok (.aload_n 0, 1) := by decide +kernel
theorem dX11_person_51 : decode cX11_person 51 = .ok (.getfield 37, 3) := by decide +kernel
theorem dX11_person_54 : decode cX11_person 54 = .ok (.getfield 134, 3) := by decide +kernel
theorem dX11_person_57 : decode cX11_person 57 = .ok (.aload_n 0, 1) := by decide +kernel
theorem dX11_person_58 : decode cX11_person 58 = .ok (.getfield 37, 3) := by decide +kernel
theorem dX11_person_61 : decode cX11_person 61 = .ok (.getfield 193, 3) := by decide +kernel
theorem dX11_person_64 : decode cX11_person 64 = .ok (.iload_n 1, 1) := by decide +kernel
theorem dX11_person_65 : decode cX11_person 65 = .ok (.iaload, 1) := by decide +kernel
theorem dX11_person_66 : decode cX11_person 66 = .ok (.invokevirtual 196, 3) := by decide +kernel
theorem dX11_person_69 : decode cX11_person 69 = .ok (.ireturn, 1) := by decide +kernel
theorem dX11_person_70 : decode cX11_person 70 = .ok (.ldc 98, 2) := by decide +kernel
theorem dX11_person_72 : decode cX11_person 72 = .ok (.ireturn, 1) := by decide +kernel
theorem dX11_thing_0 : decode cX11_thing 0 = .ok (.iload_n 1, 1) := by decide +kernel
theorem dX11_thing_1 : decode cX11_thing 1 = .ok (.iconst 0, 1) := by decide +kernel
theorem dX11_thing_2 : decode cX11_thing 2 = .ok (.aload_n 0, 1) := by decide +kernel
theorem dX11_thing_3 : decode cX11_thing 3 = .ok (.getfield 37, 3) := by decide +kernel
theorem dX11_thing_6 : decode cX11_thing 6 = .ok (.getfield 145, 3) := by decide +kernel
theorem dX11_thing_9 : decode cX11_thing 9 = .ok (.getfield 149, 3) := by decide +kernel
theorem dX11_thing_12 : decode cX11_thing 12 = .ok (.iconst 1, 1) := by decide +kernel
theorem dX11_thing_13 : decode cX11_thing 13 = .ok (.isub, 1) := by decide +kernel
theorem dX11_thing_14 : decode cX11_thing 14 = .ok (.invokestatic 94, 3) := by decide +kernel
theorem dX11_thing_17 : decode cX11_thing 17 = .ok (.ifCond .ne 6, 3) := by decide +kernel
theorem dX11_thing_20 : decode cX11_thing 20 = .ok (.ldc 179, 2) := by decide +kernel
theorem dX11_thing_22 : decode cX11_thing 22 = .ok (.ireturn, 1) := by decide +kernel
theorem dX11_thing_23 : decode cX11_thing 23 = .ok (.iload_n 2, 1) := by decide +kernel
theorem dX11_thing_24 : decode cX11_thing 24 = .ok (.tableswitch 88 0 3 #[32, 49, 62, 75], 32) := by decide +kernel
theorem dX11_thing_56 : decode cX11_thing 56 = .ok (.aload_n 0, 1) := by decide +kernel
theorem dX11_thing_57 : decode cX11_thing 57 = .ok (.getfield 37, 3) := by decide +kernel
theorem dX11_thing_60 : decode cX11_thing 60 = .ok (.getfield 145, 3) := by decide +kernel
theorem dX11_thing_63 : decode cX11_thing 63 = .ok (.getfield 200, 3) := by decide +kernel
theorem dX11_thing_66 : decode cX11_thing 66 = .ok (.iload_n 1, 1) := by decide +kernel
theorem dX11_thing_67 : decode cX11_thing 67 = .ok (.iaload, 1) := by decide +kernel
theorem dX11_thing_68 : decode cX11_thing 68 = .ok (.sipush 1000, 3) := by decide +kernel
theorem dX11_thing_71 : decode cX11_thing 71 = .ok (.iadd, 1) := by decide +kernel
theorem dX11_thing_72 : decode cX11_thing 72 = .ok (.ireturn, 1) := by decide +kernel
theorem dX11_thing_73 : decode cX11_thing 73 = .ok (.aload_n 0, 1) := by decide +kernel
theorem dX11_thing_74 : decode cX11_thing 74 = .ok (.getfield 37, 3) := by decide +kernel
theorem dX11_thing_77 : decode cX11_thing 77 = .ok (.getfield 145, 3) := by decide +kernel
theorem dX11_thing_80 : decode cX11_thing 80 = .ok (.getfield 203, 3) := by decide +kernel
theorem dX11_thing_83 : decode cX11_thing 83 = .ok (.iload_n 1, 1) := by decide +kernel
theorem dX11_thing_84 : decode cX11_thing 84 = .ok (.iaload, 1) := by decide +kernel
theorem dX11_thing_85 : decode cX11_thing 85 = .ok (.ireturn, 1) := by decide +kernel
theorem dX11_thing_86 : decode cX11_thing 86 = .ok (.aload_n 0, 1) := by decide +kernel
theorem dX11_thing_87 : decode cX11_thing 87 = .ok (.getfield 37, 3) := by decide +kernel
theorem dX11_thing_90 : decode cX11_thing 90 = .ok (.getfield 145, 3) := by decide +kernel
theorem dX11_thing_93 : decode cX11_thing 93 = .ok (.getfield 206, 3) := by decide +kernel
theorem dX11_thing_96 : decode cX11_thing 96 = .ok (.iload_n 1, 1) := by decide +kernel
theorem dX11_thing_97 : decode cX11_thing 97 = .ok (.iaload, 1) := by decide +kernel
theorem dX11_thing_98 : decode cX11_thing 98 = .ok (.ireturn, 1) := by decide +kernel
theorem dX11_thing_99 : decode cX11_thing 99 = .ok (.aload_n 0, 1) := by decide +kernel
theorem dX11_thing_100 : decode cX11_thing 100 = .ok (.getfield 37, 3) := by decide +kernel
theorem dX11_thing_103 : decode cX11_thing 103 = .ok (.getfield 145, 3) := by decide +kernel
theorem dX11_thing_106 : decode cX11_thing 106 = .ok (.getfield 209, 3) := by decide +kernel
theorem dX11_thing_109 : decode cX11_thing 109 = .ok (.iload_n 1, 1) := by decide +kernel
theorem dX11_thing_110 : decode cX11_thing 110 = .ok (.iaload, 1) := by decide +kernel
theorem dX11_thing_111 : decode cX11_thing 111 = .ok (.ireturn, 1) := by decide +kernel
theorem dX11_thing_112 : decode cX11_thing 112 = .ok (.ldc 98, 2) := by decide +kernel
theorem dX11_thing_114 : decode cX11_thing 114 = .ok (.ireturn, 1) := by decide +kernel
theorem dX11_hand_0 : decode cX11_hand 0 = .ok (.iload_n 1, 1) := by decide +kernel
theorem dX11_hand_1 : decode cX11_hand 1 = .ok (.iconst 0, 1) := by decide +kernel
theorem dX11_hand_2 : decode cX11_hand 2 = .ok (.aload_n 0, 1) := by decide +kernel
theorem dX11_hand_3 : decode cX11_hand 3 = .ok (.getfield 37, 3) := by decide +kernel
theorem dX11_hand_6 : decode cX11_hand 6 = .ok (.getfield 152, 3) := by decide +kernel
theorem dX11_hand_9 : decode cX11_hand 9 = .ok (.getfield 156, 3) := by decide +kernel
theorem dX11_hand_12 : decode cX11_hand 12 = .ok (.iconst 1, 1) := by decide +kernel
theorem dX11_hand_13 : decode cX11_hand 13 = .ok (.isub, 1) := by decide +kernel
theorem dX11_hand_14 : decode cX11_hand 14 = .ok (.invokestatic 94, 3) := by decide +kernel
theorem dX11_hand_17 : decode cX11_hand 17 = .ok (.ifCond .eq 18, 3) := by decide +kernel
theorem dX11_hand_20 : decode cX11_hand 20 = .ok (.aload_n 0, 1) := by decide +kernel
theorem dX11_hand_21 : decode cX11_hand 21 = .ok (.getfield 37, 3) := by decide +kernel
theorem dX11_hand_24 : decode cX11_hand 24 = .ok (.getfield 152, 3) := by decide +kernel
theorem dX11_hand_27 : decode cX11_hand 27 = .ok (.getfield 212, 3) := by decide +kernel
theorem dX11_hand_30 : decode cX11_hand 30 = .ok (.iload_n 1, 1) := by decide +kernel
theorem dX11_hand_31 : decode cX11_hand 31 = .ok (.iaload, 1) := by decide +kernel
theorem dX11_hand_32 : decode cX11_hand 32 = .ok (.goto 5, 3) := by decide +kernel
theorem dX11_hand_35 : decode cX11_hand 35 = .ok (.ldc 179, 2) := by decide +kernel
theorem dX11_hand_37 : decode cX11_hand 37 = .ok (.ireturn, 1) := by decide +kernel
theorem dX11_year_0 : decode cX11_year 0 = .ok (.aload_n 0, 1) := by decide +kernel
theorem dX11_year_1 : decode cX11_year 1 = .ok (.iload_n 1, 1) := by decide +kernel
theorem dX11_year_2 : decode cX11_year 2 = .ok (.invokevirtual 215, 3) := by decide +kernel
theorem dX11_year_5 : decode cX11_year 5 = .ok (.istore_n 2, 1) := by decide +kernel
theorem dX11_year_6 : decode cX11_year 6 = .ok (.iload_n 2, 1) := by decide +kernel
theorem dX11_year_7 : decode cX11_year 7 = .ok (.ifCond .eq 5, 3) := by decide +kernel
theorem dX11_year_10 : decode cX11_year 10 = .ok (.iload_n 2, 1) := by decide +kernel
theorem dX11_year_11 : decode cX11_year 11 = .ok (.ireturn, 1) := by decide +kernel
theorem dX11_year_12 : decode cX11_year 12 = .ok (.aload_n 0, 1) := by decide +kernel
theorem dX11_year_13 : decode cX11_year 13 = .ok (.getfield 51, 3) := by decide +kernel
theorem dX11_year_16 : decode cX11_year 16 = .ok (.aload_n 0, 1) := by decide +kernel
theorem dX11_year_17 : decode cX11_year 17 = .ok (.getfield 37, 3) := by decide +kernel
theorem dX11_year_20 : decode cX11_year 20 = .ok (.invokevirtual 218, 3) := by decide +kernel
theorem dX11_year_23 : decode cX11_year 23 = .ok (.iconst 0, 1) := by decide +kernel
theorem dX11_year_24 : decode cX11_year 24 = .ok (.istore_n 3, 1) := by decide +kernel
theorem dX11_year_25 : decode cX11_year 25 = .ok (.iload_n 3, 1) := by decide +kernel
theorem dX11_year_26 : decode cX11_year 26 = .ok (.iload_n 1, 1) := by decide +kernel
theorem dX11_year_27 : decode cX11_year 27 = .ok (.if_icmp .ge 23, 3) := by decide +kernel
theorem dX11_year_30 : decode cX11_year 30 = .ok (.aload_n 0, 1) := by decide +kernel
theorem dX11_year_31 : decode cX11_year 31 = .ok (.getfield 37, 3) := by decide +kernel
theorem dX11_year_34 : decode cX11_year 34 = .ok (.getfield 134, 3) := by decide +kernel
theorem dX11_year_37 : decode cX11_year 37 = .ok (.aload_n 0, 1) := by decide +kernel
theorem dX11_year_38 : decode cX11_year 38 = .ok (.getfield 27, 3) := by decide +kernel
theorem dX11_year_41 : decode cX11_year 41 = .ok (.invokevirtual 222, 3) := by decide +kernel
theorem dX11_year_44 : decode cX11_year 44 = .ok (.iinc 3 1, 3) := by decide +kernel
theorem dX11_year_47 : decode cX11_year 47 = .ok (.goto (-22), 3) := by decide +kernel
theorem dX11_year_50 : decode cX11_year 50 = .ok (.aload_n 0, 1) := by decide +kernel
theorem dX11_year_51 : decode cX11_year 51 = .ok (.getfield 37, 3) := by decide +kernel
theorem dX11_year_54 : decode cX11_year 54 = .ok (.getfield 134, 3) := by decide +kernel
theorem dX11_year_57 : decode cX11_year 57 = .ok (.getfield 137, 3) := by decide +kernel
theorem dX11_year_60 : decode cX11_year 60 = .ok (.ireturn, 1) := by decide +kernel
theorem dX11_make_0 : decode cX11_make 0 = .ok (.iload_n 1, 1) := by decide +kernel
theorem dX11_make_1 : decode cX11_make 1 = .ok (.iconst 0, 1) := by decide +kernel
theorem dX11_make_2 : decode cX11_make 2 = .ok (.bipush 20, 2) := by decide +kernel
theorem dX11_make_4 : decode cX11_make 4 = .ok (.invokestatic 94, 3) := by decide +kernel
theorem dX11_make_7 : decode cX11_make 7 = .ok (.ifCond .eq 13, 3) := by decide +kernel
theorem dX11_make_10 : decode cX11_make 10 = .ok (.iload_n 2, 1) := by decide +kernel
theorem dX11_make_11 : decode cX11_make 11 = .ok (.iconst 0, 1) := by decide +kernel
theorem dX11_make_12 : decode cX11_make 12 = .ok (.bipush 11, 2) := by decide +kernel
theorem dX11_make_14 : decode cX11_make 14 = .ok (.invokestatic 94, 3) := by decide +kernel
theorem dX11_make_17 : decode cX11_make 17 = .ok (.ifCond .ne 6, 3) := by decide +kernel
theorem dX11_make_20 : decode cX11_make 20 = .ok (.ldc 98, 2) := by decide +kernel
theorem dX11_make_22 : decode cX11_make 22 = .ok (.ireturn, 1) := by decide +kernel
theorem dX11_make_23 : decode cX11_make 23 = .ok (.aload_n 0, 1) := by decide +kernel
theorem dX11_make_24 : decode cX11_make 24 = .ok (.invokevirtual 225, 3) := by decide +kernel
theorem dX11_make_27 : decode cX11_make 27 = .ok (.ifCond .eq 6, 3) := by decide +kernel
theorem dX11_make_30 : decode cX11_make 30 = .ok (.ldc 168, 2) := by decide +kernel
theorem dX11_make_32 : decode cX11_make 32 = .ok (.ireturn, 1) := by decide +kernel
theorem dX11_make_33 : decode cX11_make 33 = .ok (.aload_n 0, 1) := by decide +kernel
theorem dX11_make_34 : decode cX11_make 34 = .ok (.getfield 51, 3) := by decide +kernel
theorem dX11_make_37 : decode cX11_make 37 = .ok (.aload_n 0, 1) := by decide +kernel
theorem dX11_make_38 : decode cX11_make 38 = .ok (.getfield 37, 3) := by decide +kernel
theorem dX11_make_41 : decode cX11_make 41 = .ok (.invokevirtual 218, 3) := by decide +kernel
theorem dX11_make_44 : decode cX11_make 44 = .ok (.aload_n 0, 1) := by decide +kernel
theorem dX11_make_45 : decode cX11_make 45 = .ok (.getfield 37, 3) := by decide +kernel
theorem dX11_make_48 : decode cX11_make 48 = .ok (.iload_n 1, 1) := by decide +kernel
theorem dX11_make_49 : decode cX11_make 49 = .ok (.iload_n 2, 1) := by decide +kernel
theorem dX11_make_50 : decode cX11_make 50 = .ok (.invokevirtual 228, 3) := by decide +kernel
theorem dX11_make_53 : decode cX11_make 53 = .ok (.sipush 1000, 3) := by decide +kernel
theorem dX11_make_56 : decode cX11_make 56 = .ok (.iadd, 1) := by decide +kernel
theorem dX11_make_57 : decode cX11_make 57 = .ok (.ireturn, 1) := by decide +kernel
theorem dX11_warp_0 : decode cX11_warp 0 = .ok (.iload_n 1, 1) := by decide +kernel
theorem dX11_warp_1 : decode cX11_warp 1 = .ok (.bipush (-99), 2) := by decide +kernel
theorem dX11_warp_3 : decode cX11_warp 3 = .ok (.bipush 99, 2) := by decide +kernel
theorem dX11_warp_5 : decode cX11_warp 5 = .ok (.invokestatic 94, 3) := by decide +kernel
theorem dX11_warp_8 : decode cX11_warp 8 = .ok (.ifCond .ne 6, 3) := by decide +kernel
theorem dX11_warp_11 : decode cX11_warp 11 = .ok (.ldc 98, 2) := by decide +kernel
theorem dX11_warp_13 : decode cX11_warp 13 = .ok (.ireturn, 1) := by decide +kernel
theorem dX11_warp_14 : decode cX11_warp 14 = .ok (.aload_n 0, 1) := by decide +kernel
theorem dX11_warp_15 : decode cX11_warp 15 = .ok (.invokevirtual 225, 3) := by decide +kernel
theorem dX11_warp_18 : decode cX11_warp 18 = .ok (.ifCond .eq 6, 3) := by decide +kernel
theorem dX11_warp_21 : decode cX11_warp 21 = .ok (.ldc 168, 2) := by decide +kernel
theorem dX11_warp_23 : decode cX11_warp 23 = .ok (.ireturn, 1) := by decide +kernel
theorem dX11_warp_24 : decode cX11_warp 24 = .ok (.aload_n 0, 1) := by decide +kernel
theorem dX11_warp_25 : decode cX11_warp 25 = .ok (.getfield 51, 3) := by decide +kernel
theorem dX11_warp_28 : decode cX11_warp 28 = .ok (.aload_n 0, 1) := by decide +kernel
theorem dX11_warp_29 : decode cX11_warp 29 = .ok (.getfield 37, 3) := by decide +kernel
theorem dX11_warp_32 : decode cX11_warp 32 = .ok (.invokevirtual 218, 3) := by decide +kernel
theorem dX11_warp_35 : decode cX11_warp 35 = .ok (.aload_n 0, 1) := by decide +kernel
theorem dX11_warp_36 : decode cX11_warp 36 = .ok (.getfield 37, 3) := by decide +kernel
theorem dX11_warp_39 : decode cX11_warp 39 = .ok (.getfield 134, 3) := by decide +kernel
theorem dX11_warp_42 : decode cX11_warp 42 = .ok (.getfield 169, 3) := by decide +kernel
theorem dX11_warp_45 : decode cX11_warp 45 = .ok (.istore_n 2, 1) := by decide +kernel
theorem dX11_warp_46 : decode cX11_warp 46 = .ok (.aload_n 0, 1) := by decide +kernel
theorem dX11_warp_47 : decode cX11_warp 47 = .ok (.getfield 37, 3) := by decide +kernel
theorem dX11_warp_50 : decode cX11_warp 50 = .ok (.getfield 134, 3) := by decide +kernel
theorem dX11_warp_53 : decode cX11_warp 53 = .ok (.iload_n 1, 1) := by decide +kernel
theorem dX11_warp_54 : decode cX11_warp 54 = .ok (.putfield 169, 3) := by decide +kernel
theorem dX11_warp_57 : decode cX11_warp 57 = .ok (.iload_n 2, 1) := by decide +kernel
theorem dX11_warp_58 : decode cX11_warp 58 = .ok (.sipush 1000, 3) := by decide +kernel
theorem dX11_warp_61 : decode cX11_warp 61 = .ok (.iadd, 1) := by decide +kernel
theorem dX11_warp_62 : decode cX11_warp 62 = .ok (.ireturn, 1) := by decide +kernel
theorem dX11_plane_0 : decode cX11_plane 0 = .ok (.aload_n 0, 1) := by decide +kernel
theorem dX11_plane_1 : decode cX11_plane 1 = .ok (.invokevirtual 225, 3) := by decide +kernel
theorem dX11_plane_4 : decode cX11_plane 4 = .ok (.ifCond .eq 6, 3) := by decide +kernel
theorem dX11_plane_7 : decode cX11_plane 7 = .ok (.ldc 168, 2) := by decide +kernel
theorem dX11_plane_9 : decode cX11_plane 9 = .ok (.ireturn, 1) := by decide +kernel
theorem dX11_plane_10 : decode cX11_plane 10 = .ok (.aload_n 0, 1) := by decide +kernel
theorem dX11_plane_11 : decode cX11_plane 11 = .ok (.getfield 51, 3) := by decide +kernel
theorem dX11_plane_14 : decode cX11_plane 14 = .ok (.aload_n 0, 1) := by decide +kernel
theorem dX11_plane_15 : decode cX11_plane 15 = .ok (.getfield 37, 3) := by decide +kernel
theorem dX11_plane_18 : decode cX11_plane 18 = .ok (.invokevirtual 218, 3) := by decide +kernel
theorem dX11_plane_21 : decode cX11_plane 21 = .ok (.aload_n 0, 1) := by decide +kernel
theorem dX11_plane_22 : decode cX11_plane 22 = .ok (.getfield 37, 3) := by decide +kernel
theorem dX11_plane_25 : decode cX11_plane 25 = .ok (.getfield 134, 3) := by decide +kernel
theorem dX11_plane_28 : decode cX11_plane 28 = .ok (.aload_n 0, 1) := by decide +kernel
theorem dX11_plane_29 : decode cX11_plane 29 = .ok (.getfield 37, 3) := by decide +kernel
theorem dX11_plane_32 : decode cX11_plane 32 = .ok (.getfield 134, 3) := by decide +kernel
theorem dX11_plane_35 : decode cX11_plane 35 = .ok (.invokevirtual 232, 3) := by decide +kernel
theorem dX11_plane_38 : decode cX11_plane 38 = .ok (.putfield 140, 3) := by decide +kernel
theorem dX11_plane_41 : decode cX11_plane 41 = .ok (.aload_n 0, 1) := by decide +kernel
theorem dX11_plane_42 : decode cX11_plane 42 = .ok (.getfield 37, 3) := by decide +kernel
theorem dX11_plane_45 : decode cX11_plane 45 = .ok (.getfield 134, 3) := by decide +kernel
theorem dX11_plane_48 : decode cX11_plane 48 = .ok (.iconst 0, 1) := by decide +kernel
theorem dX11_plane_49 : decode cX11_plane 49 = .ok (.putfield 169, 3) := by decide +kernel
theorem dX11_plane_52 : decode cX11_plane 52 = .ok (.aload_n 0, 1) := by decide +kernel
theorem dX11_plane_53 : decode cX11_plane 53 = .ok (.getfield 37, 3) := by decide +kernel
theorem dX11_plane_56 : decode cX11_plane 56 = .ok (.getfield 134, 3) := by decide +kernel
theorem dX11_plane_59 : decode cX11_plane 59 = .ok (.getfield 140, 3) := by decide +kernel
theorem dX11_plane_62 : decode cX11_plane 62 = .ok (.ireturn, 1) := by decide +kernel
theorem dX11_lose_0 : decode cX11_lose 0 = .ok (.aload_n 0, 1) := by decide +kernel
theorem dX11_lose_1 : decode cX11_lose 1 = .ok (.invokevirtual 164, 3) := by decide +kernel
theorem dX11_lose_4 : decode cX11_lose 4 = .ok (.ifCond .eq 6, 3) := by decide +kernel
theorem dX11_lose_7 : decode cX11_lose 7 = .ok (.ldc 168, 2) := by decide +kernel
theorem dX11_lose_9 : decode cX11_lose 9 = .ok (.ireturn, 1) := by decide +kernel
theorem dX11_lose_10 : decode cX11_lose 10 = .ok (.aload_n 0, 1) := by decide +kernel
theorem dX11_lose_11 : decode cX11_lose 11 = .ok (.getfield 51, 3) := by decide +kernel
theorem dX11_lose_14 : decode cX11_lose 14 = .ok (.aload_n 0, 1) := by decide +kernel
theorem dX11_lose_15 : decode cX11_lose 15 = .ok (.getfield 37, 3) := by decide +kernel
theorem dX11_lose_18 : decode cX11_lose 18 = .ok (.invokevirtual 218, 3) := by decide +kernel
theorem dX11_lose_21 : decode cX11_lose 21 = .ok (.aload_n 0, 1) := by decide +kernel
theorem dX11_lose_22 : decode cX11_lose 22 = .ok (.getfield 37, 3) := by decide +kernel
theorem dX11_lose_25 : decode cX11_lose 25 = .ok (.getfield 134, 3) := by decide +kernel
theorem dX11_lose_28 : decode cX11_lose 28 = .ok (.getfield 141, 3) := by decide +kernel
theorem dX11_lose_31 : decode cX11_lose 31 = .ok (.ifCond .eq 7, 3) := by decide +kernel
theorem dX11_lose_34 : decode cX11_lose 34 = .ok (.iconst 1, 1) := by decide +kernel
theorem dX11_lose_35 : decode cX11_lose 35 = .ok (.goto 4, 3) := by decide +kernel
theorem dX11_lose_38 : decode cX11_lose 38 = .ok (.iconst 0, 1) := by decide +kernel
theorem dX11_lose_39 : decode cX11_lose 39 = .ok (.istore_n 2, 1) := by decide +kernel
theorem dX11_lose_40 : decode cX11_lose 40 = .ok (.aload_n 0, 1) := by decide +kernel
theorem dX11_lose_41 : decode cX11_lose 41 = .ok (.getfield 37, 3) := by decide +kernel
theorem dX11_lose_44 : decode cX11_lose 44 = .ok (.getfield 134, 3) := by decide +kernel
theorem dX11_lose_47 : decode cX11_lose 47 = .ok (.iload_n 1, 1) := by decide +kernel
theorem dX11_lose_48 : decode cX11_lose 48 = .ok (.putfield 141, 3) := by decide +kernel
theorem dX11_lose_51 : decode cX11_lose 51 = .ok (.iload_n 2, 1) := by decide +kernel
theorem dX11_lose_52 : decode cX11_lose 52 = .ok (.ireturn, 1) := by decide +kernel
theorem dX11_hold_0 : decode cX11_hold 0 = .ok (.iload_n 1, 1) := by decide +kernel
theorem dX11_hold_1 : decode cX11_hold 1 = .ok (.bipush (-20), 2) := by decide +kernel
theorem dX11_hold_3 : decode cX11_hold 3 = .ok (.bipush 20, 2) := by decide +kernel
theorem dX11_hold_5 : decode cX11_hold 5 = .ok (.invokestatic 94, 3) := by decide +kernel
theorem dX11_hold_8 : decode cX11_hold 8 = .ok (.ifCond .ne 6, 3) := by decide +kernel
theorem dX11_hold_11 : decode cX11_hold 11 = .ok (.ldc 98, 2) := by decide +kernel
theorem dX11_hold_13 : decode cX11_hold 13 = .ok (.ireturn, 1) := by decide +kernel
theorem dX11_hold_14 : decode cX11_hold 14 = .ok (.aload_n 0, 1) := by decide +kernel
theorem dX11_hold_15 : decode cX11_hold 15 = .ok (.invokevirtual 225, 3) := by decide +kernel
theorem dX11_hold_18 : decode cX11_hold 18 = .ok (.ifCond .eq 6, 3) := by decide +kernel
theorem dX11_hold_21 : decode cX11_hold 21 = .ok (.ldc 168, 2) := by decide +kernel
theorem dX11_hold_23 : decode cX11_hold 23 = .ok (.ireturn, 1) := by decide +kernel
theorem dX11_hold_24 : decode cX11_hold 24 = .ok (.aload_n 0, 1) := by decide +kernel
theorem dX11_hold_25 : decode cX11_hold 25 = .ok (.getfield 37, 3) := by decide +kernel
theorem dX11_hold_28 : decode cX11_hold 28 = .ok (.getfield 152, 3) := by decide +kernel
theorem dX11_hold_31 : decode cX11_hold 31 = .ok (.getfield 156, 3) := by decide +kernel
theorem dX11_hold_34 : decode cX11_hold 34 = .ok (.bipush 8, 2) := by decide +kernel
theorem dX11_hold_36 : decode cX11_hold 36 = .ok (.if_icmp .lt 6, 3) := by decide +kernel
theorem dX11_hold_39 : decode cX11_hold 39 = .ok (.ldc 102, 2) := by decide +kernel
theorem dX11_hold_41 : decode cX11_hold 41 = .ok (.ireturn, 1) := by decide +kernel
theorem dX11_hold_42 : decode cX11_hold 42 = .ok (.aload_n 0, 1) := by decide +kernel
theorem dX11_hold_43 : decode cX11_hold 43 = .ok (.getfield 51, 3) := by decide +kernel
theorem dX11_hold_46 : decode cX11_hold 46 = .ok (.aload_n 0, 1) := by decide +kernel
theorem dX11_hold_47 : decode cX11_hold 47 = .ok (.getfield 37, 3) := by decide +kernel
theorem dX11_hold_50 : decode cX11_hold 50 = .ok (.invokevirtual 218, 3) := by decide +kernel
theorem dX11_hold_53 : decode cX11_hold 53 = .ok (.aload_n 0, 1) := by decide +kernel
theorem dX11_hold_54 : decode cX11_hold 54 = .ok (.getfield 37, 3) := by decide +kernel
theorem dX11_hold_57 : decode cX11_hold 57 = .ok (.getfield 152, 3) := by decide +kernel
theorem dX11_hold_60 : decode cX11_hold 60 = .ok (.iconst 0, 1) := by decide +kernel
theorem dX11_hold_61 : decode cX11_hold 61 = .ok (.aload_n 0, 1) := by decide +kernel
theorem dX11_hold_62 : decode cX11_hold 62 = .ok (.getfield 37, 3) := by decide +kernel
theorem dX11_hold_65 : decode cX11_hold 65 = .ok (.getfield 134, 3) := by decide +kernel
theorem dX11_hold_68 : decode cX11_hold 68 = .ok (.getfield 140, 3) := by decide +kernel
theorem dX11_hold_71 : decode cX11_hold 71 = .ok (.iload_n 1, 1) := by decide +kernel
theorem dX11_hold_72 : decode cX11_hold 72 = .ok (.iadd, 1) := by decide +kernel
theorem dX11_hold_73 : decode cX11_hold 73 = .ok (.invokestatic 235, 3) := by decide +kernel
theorem dX11_hold_76 : decode cX11_hold 76 = .ok (.invokevirtual 240, 3) := by decide +kernel
theorem dX11_hold_79 : decode cX11_hold 79 = .ok (.aload_n 0, 1) := by decide +kernel
theorem dX11_hold_80 : decode cX11_hold 80 = .ok (.getfield 37, 3) := by decide +kernel
theorem dX11_hold_83 : decode cX11_hold 83 = .ok (.getfield 152, 3) := by decide +kernel
theorem dX11_hold_86 : decode cX11_hold 86 = .ok (.getfield 156, 3) := by decide +kernel
theorem dX11_hold_89 : decode cX11_hold 89 = .ok (.ireturn, 1) := by decide +kernel
theorem dX11_drop_0 : decode cX11_drop 0 = .ok (.aload_n 0, 1) := by decide +kernel
theorem dX11_drop_1 : decode cX11_drop 1 = .ok (.getfield 51, 3) := by decide +kernel
theorem dX11_drop_4 : decode cX11_drop 4 = .ok (.aload_n 0, 1) := by decide +kernel
theorem dX11_drop_5 : decode cX11_drop 5 = .ok (.getfield 37, 3) := by decide +kernel
theorem dX11_drop_8 : decode cX11_drop 8 = .ok (.invokevirtual 218, 3) := by decide +kernel
theorem dX11_drop_11 : decode cX11_drop 11 = .ok (.aload_n 0, 1) := by decide +kernel
theorem dX11_drop_12 : decode cX11_drop 12 = .ok (.getfield 37, 3) := by decide +kernel
theorem dX11_drop_15 : decode cX11_drop 15 = .ok (.getfield 152, 3) := by decide +kernel
theorem dX11_drop_18 : decode cX11_drop 18 = .ok (.getfield 156, 3) := by decide +kernel
theorem dX11_drop_21 : decode cX11_drop 21 = .ok (.istore_n 1, 1) := by decide +kernel
theorem dX11_drop_22 : decode cX11_drop 22 = .ok (.aload_n 0, 1) := by decide +kernel
theorem dX11_drop_23 : decode cX11_drop 23 = .ok (.getfield 37, 3) := by decide +kernel
theorem dX11_drop_26 : decode cX11_drop 26 = .ok (.getfield 152, 3) := by decide +kernel
theorem dX11_drop_29 : decode cX11_drop 29 = .ok (.iconst 0, 1) := by decide +kernel
theorem dX11_drop_30 : decode cX11_drop 30 = .ok (.putfield 156, 3) := by decide +kernel
theorem dX11_drop_33 : decode cX11_drop 33 = .ok (.iload_n 1, 1) := by decide +kernel
theorem dX11_drop_34 : decode cX11_drop 34 = .ok (.ireturn, 1) := by decide +kernel
theorem dX11_shorten_0 : decode cX11_shorten 0 = .ok (.aload_n 0, 1) := by decide +kernel
theorem dX11_shorten_1 : decode cX11_shorten 1 = .ok (.iload_n 1, 1) := by decide +kernel
theorem dX11_shorten_2 : decode cX11_shorten 2 = .ok (.invokevirtual 190, 3) := by decide +kernel
theorem dX11_shorten_5 : decode cX11_shorten 5 = .ok (.ifCond .ne 6, 3) := by decide +kernel
theorem dX11_shorten_8 : decode cX11_shorten 8 = .ok (.ldc 179, 2) := by decide +kernel
theorem dX11_shorten_10 : decode cX11_shorten 10 = .ok (.ireturn, 1) := by decide +kernel
theorem dX11_shorten_11 : decode cX11_shorten 11 = .ok (.iload_n 2, 1) := by decide +kernel
theorem dX11_shorten_12 : decode cX11_shorten 12 = .ok (.iconst 1, 1) := by decide +kernel
theorem dX11_shorten_13 : decode cX11_shorten 13 = .ok (.sipush 999, 3) := by decide +kernel
theorem dX11_shorten_16 : decode cX11_shorten 16 = .ok (.invokestatic 94, 3) := by decide +kernel
theorem dX11_shorten_19 : decode cX11_shorten 19 = .ok (.ifCond .ne 6, 3) := by decide +kernel
theorem dX11_shorten_22 : decode cX11_shorten 22 = .ok (.ldc 98, 2) := by decide +kernel
theorem dX11_shorten_24 : decode cX11_shorten 24 = .ok (.ireturn, 1) := by decide +kernel
theorem dX11_shorten_25 : decode cX11_shorten 25 = .ok (.aload_n 0, 1) := by decide +kernel
theorem dX11_shorten_26 : decode cX11_shorten 26 = .ok (.getfield 51, 3) := by decide +kernel
theorem dX11_shorten_29 : decode cX11_shorten 29 = .ok (.aload_n 0, 1) := by decide +kernel
theorem dX11_shorten_30 : decode cX11_shorten 30 = .ok (.getfield 37, 3) := by decide +kernel
theorem dX11_shorten_33 : decode cX11_shorten 33 = .ok (.invokevirtual 218, 3) := by decide +kernel
theorem dX11_shorten_36 : decode cX11_shorten 36 = .ok (.aload_n 0, 1) := by decide +kernel
theorem dX11_shorten_37 : decode cX11_shorten 37 = .ok (.getfield 37, 3) := by decide +kernel
theorem dX11_shorten_40 : decode cX11_shorten 40 = .ok (.getfield 193, 3) := by decide +kernel
theorem dX11_shorten_43 : decode cX11_shorten 43 = .ok (.iload_n 1, 1) := by decide +kernel
theorem dX11_shorten_44 : decode cX11_shorten 44 = .ok (.iconst 1, 1) := by decide +kernel
theorem dX11_shorten_45 : decode cX11_shorten 45 = .ok (.aload_n 0, 1) := by decide +kernel
theorem dX11_shorten_46 : decode cX11_shorten 46 = .ok (.getfield 37, 3) := by decide +kernel
theorem dX11_shorten_49 : decode cX11_shorten 49 = .ok (.getfield 193, 3) := by decide +kernel
theorem dX11_shorten_52 : decode cX11_shorten 52 = .ok (.iload_n 1, 1) := by decide +kernel
theorem dX11_shorten_53 : decode cX11_shorten 53 = .ok (.iaload, 1) := by decide +kernel
theorem dX11_shorten_54 : decode cX11_shorten 54 = .ok (.iload_n 2, 1) := by decide +kernel
theorem dX11_shorten_55 : decode cX11_shorten 55 = .ok (.isub, 1) := by decide +kernel
theorem dX11_shorten_56 : decode cX11_shorten 56 = .ok (.invokestatic 235, 3) := by decide +kernel
theorem dX11_shorten_59 : decode cX11_shorten 59 = .ok (.iastore, 1) := by decide +kernel
theorem dX11_shorten_60 : decode cX11_shorten 60 = .ok (.aload_n 0, 1) := by decide +kernel
theorem dX11_shorten_61 : decode cX11_shorten 61 = .ok (.getfield 37, 3) := by decide +kernel
theorem dX11_shorten_64 : decode cX11_shorten 64 = .ok (.getfield 193, 3) := by decide +kernel
theorem dX11_shorten_67 : decode cX11_shorten 67 = .ok (.iload_n 1, 1) := by decide +kernel
theorem dX11_shorten_68 : decode cX11_shorten 68 = .ok (.iaload, 1) := by decide +kernel
theorem dX11_shorten_69 : decode cX11_shorten 69 = .ok (.ireturn, 1) := by decide +kernel
theorem dX11_drift_0 : decode cX11_drift 0 = .ok (.aload_n 0, 1) := by decide +kernel
theorem dX11_drift_1 : decode cX11_drift 1 = .ok (.iload_n 1, 1) := by decide +kernel
theorem dX11_drift_2 : decode cX11_drift 2 = .ok (.invokevirtual 215, 3) := by decide +kernel
theorem dX11_drift_5 : decode cX11_drift 5 = .ok (.istore_n 2, 1) := by decide +kernel
theorem dX11_drift_6 : decode cX11_drift 6 = .ok (.iload_n 2, 1) := by decide +kernel
theorem dX11_drift_7 : decode cX11_drift 7 = .ok (.ifCond .eq 5, 3) := by decide +kernel
theorem dX11_drift_10 : decode cX11_drift 10 = .ok (.iload_n 2, 1) := by decide +kernel
theorem dX11_drift_11 : decode cX11_drift 11 = .ok (.ireturn, 1) := by decide +kernel
theorem dX11_drift_12 : decode cX11_drift 12 = .ok (.aload_n 0, 1) := by decide +kernel
theorem dX11_drift_13 : decode cX11_drift 13 = .ok (.getfield 51, 3) := by decide +kernel
theorem dX11_drift_16 : decode cX11_drift 16 = .ok (.aload_n 0, 1) := by decide +kernel
theorem dX11_drift_17 : decode cX11_drift 17 = .ok (.getfield 37, 3) := by decide +kernel
theorem dX11_drift_20 : decode cX11_drift 20 = .ok (.invokevirtual 218, 3) := by decide +kernel
theorem dX11_drift_23 : decode cX11_drift 23 = .ok (.iconst 0, 1) := by decide +kernel
theorem dX11_drift_24 : decode cX11_drift 24 = .ok (.istore_n 3, 1) := by decide +kernel
theorem dX11_drift_25 : decode cX11_drift 25 = .ok (.iload_n 3, 1) := by decide +kernel
theorem dX11_drift_26 : decode cX11_drift 26 = .ok (.iload_n 1, 1) := by decide +kernel
theorem dX11_drift_27 : decode cX11_drift 27 = .ok (.if_icmp .ge 27, 3) := by decide +kernel
theorem dX11_drift_30 : decode cX11_drift 30 = .ok (.aload_n 0, 1) := by decide +kernel
theorem dX11_drift_31 : decode cX11_drift 31 = .ok (.invokevirtual 244, 3) := by decide +kernel
theorem dX11_drift_34 : decode cX11_drift 34 = .ok (.aload_n 0, 1) := by decide +kernel
theorem dX11_drift_35 : decode cX11_drift 35 = .ok (.getfield 37, 3) := by decide +kernel
theorem dX11_drift_38 : decode cX11_drift 38 = .ok (.getfield 134, 3) := by decide +kernel
theorem dX11_drift_41 : decode cX11_drift 41 = .ok (.aload_n 0, 1) := by decide +kernel
theorem dX11_drift_42 : decode cX11_drift 42 = .ok (.getfield 27, 3) := by decide +kernel
theorem dX11_drift_45 : decode cX11_drift 45 = .ok (.invokevirtual 222, 3) := by decide +kernel
theorem dX11_drift_48 : decode cX11_drift 48 = .ok (.iinc 3 1, 3) := by decide +kernel
theorem dX11_drift_51 : decode cX11_drift 51 = .ok (.goto (-26), 3) := by decide +kernel
theorem dX11_drift_54 : decode cX11_drift 54 = .ok (.aload_n 0, 1) := by decide +kernel
theorem dX11_drift_55 : decode cX11_drift 55 = .ok (.getfield 37, 3) := by decide +kernel
theorem dX11_drift_58 : decode cX11_drift 58 = .ok (.getfield 145, 3) := by decide +kernel
theorem dX11_drift_61 : decode cX11_drift 61 = .ok (.getfield 149, 3) := by decide +kernel
theorem dX11_drift_64 : decode cX11_drift 64 = .ok (.ireturn, 1) := by decide +kernel
theorem dX11_undo_0 : decode cX11_undo 0 = .ok (.aload_n 0, 1) := by decide +kernel
theorem dX11_undo_1 : decode cX11_undo 1 = .ok (.getfield 51, 3) := by decide +kernel
theorem dX11_undo_4 : decode cX11_undo 4 = .ok (.getfield 163, 3) := by decide +kernel
theorem dX11_undo_7 : decode cX11_undo 7 = .ok (.iconst 1, 1) := by decide +kernel
theorem dX11_undo_8 : decode cX11_undo 8 = .ok (.if_icmp .ge 6, 3) := by decide +kernel
theorem dX11_undo_11 : decode cX11_undo 11 = .ok (.ldc 168, 2) := by decide +kernel
theorem dX11_undo_13 : decode cX11_undo 13 = .ok (.ireturn, 1) := by decide +kernel
theorem dX11_undo_14 : decode cX11_undo 14 = .ok (.aload_n 0, 1) := by decide +kernel
theorem dX11_undo_15 : decode cX11_undo 15 = .ok (.getfield 51, 3) := by decide +kernel
theorem dX11_undo_18 : decode cX11_undo 18 = .ok (.aload_n 0, 1) := by decide +kernel
theorem dX11_undo_19 : decode cX11_undo 19 = .ok (.getfield 37, 3) := by decide +kernel
theorem dX11_undo_22 : decode cX11_undo 22 = .ok (.invokevirtual 247, 3) := by decide +kernel
theorem dX11_undo_25 : decode cX11_undo 25 = .ok (.aload_n 0, 1) := by decide +kernel
theorem dX11_undo_26 : decode cX11_undo 26 = .ok (.getfield 51, 3) := by decide +kernel
theorem dX11_undo_29 : decode cX11_undo 29 = .ok (.getfield 163, 3) := by decide +kernel
theorem dX11_undo_32 : decode cX11_undo 32 = .ok (.ireturn, 1) := by decide +kernel
theorem dX11_longAt_0 : decode cX11_longAt 0 = .ok (.aload_n 0, 1) := by decide +kernel
theorem dX11_longAt_1 : decode cX11_longAt 1 = .ok (.iload_n 1, 1) := by decide +kernel
theorem dX11_longAt_2 : decode cX11_longAt 2 = .ok (.iload_n 2, 1) := by decide +kernel
theorem dX11_longAt_3 : decode cX11_longAt 3 = .ok (.invokevirtual 250, 3) := by decide +kernel
theorem dX11_longAt_6 : decode cX11_longAt 6 = .ok (.istore_n 3, 1) := by decide +kernel
theorem dX11_longAt_7 : decode cX11_longAt 7 = .ok (.iload_n 3, 1) := by decide +kernel
theorem dX11_longAt_8 : decode cX11_longAt 8 = .ok (.ifCond .eq 5, 3) := by decide +kernel
theorem dX11_longAt_11 : decode cX11_longAt 11 = .ok (.iload_n 3, 1) := by decide +kernel
theorem dX11_longAt_12 : decode cX11_longAt 12 = .ok (.ireturn, 1) := by decide +kernel
theorem dX11_longAt_13 : decode cX11_longAt 13 = .ok (.aload_n 0, 1) := by decide +kernel
theorem dX11_longAt_14 : decode cX11_longAt 14 = .ok (.invokevirtual 253, 3) := by decide +kernel
theorem dX11_longAt_17 : decode cX11_longAt 17 = .ok (.iconst 0, 1) := by decide +kernel
theorem dX11_longAt_18 : decode cX11_longAt 18 = .ok (.istore 4, 2) := by decide +kernel
theorem dX11_longAt_20 : decode cX11_longAt 20 = .ok (.iload 4, 2) := by decide +kernel
theorem dX11_longAt_22 : decode cX11_longAt 22 = .ok (.iload_n 1, 1) := by decide +kernel
theorem dX11_longAt_23 : decode cX11_longAt 23 = .ok (.if_icmp .ge 20, 3) := by decide +kernel
theorem dX11_longAt_26 : decode cX11_longAt 26 = .ok (.aload_n 0, 1) := by decide +kernel
theorem dX11_longAt_27 : decode cX11_longAt 27 = .ok (.getfield 44, 3) := by decide +kernel
theorem dX11_longAt_30 : decode cX11_longAt 30 = .ok (.aload_n 0, 1) := by decide +kernel
theorem dX11_longAt_31 : decode cX11_longAt 31 = .ok (.getfield 27, 3) := by decide +kernel
theorem dX11_longAt_34 : decode cX11_longAt 34 = .ok (.invokevirtual 222, 3) := by decide +kernel
theorem dX11_longAt_37 : decode cX11_longAt 37 = .ok (.iinc 4 1, 3) := by decide +kernel
theorem dX11_longAt_40 : decode cX11_longAt 40 = .ok (.goto (-20), 3) := by decide +kernel
theorem dX11_longAt_43 : decode cX11_longAt 43 = .ok (.iload_n 2, 1) := by decide +kernel
theorem dX11_longAt_44 : decode cX11_longAt 44 = .ok (.ifCond .ne 13, 3) := by decide +kernel
theorem dX11_longAt_47 : decode cX11_longAt 47 = .ok (.aload_n 0, 1) := by decide +kernel
theorem dX11_longAt_48 : decode cX11_longAt 48 = .ok (.getfield 44, 3) := by decide +kernel
theorem dX11_longAt_51 : decode cX11_longAt 51 = .ok (.getfield 140, 3) := by decide +kernel
theorem dX11_longAt_54 : decode cX11_longAt 54 = .ok (.goto 14, 3) := by decide +kernel
theorem dX11_longAt_57 : decode cX11_longAt 57 = .ok (.aload_n 0, 1) := by decide +kernel
theorem dX11_longAt_58 : decode cX11_longAt 58 = .ok (.getfield 44, 3) := by decide +kernel
theorem dX11_longAt_61 : decode cX11_longAt 61 = .ok (.getfield 169, 3) := by decide +kernel
theorem dX11_longAt_64 : decode cX11_longAt 64 = .ok (.sipush 1000, 3) := by decide +kernel
theorem dX11_longAt_67 : decode cX11_longAt 67 = .ok (.iadd, 1) := by decide +kernel
theorem dX11_longAt_68 : decode cX11_longAt 68 = .ok (.ireturn, 1) := by decide +kernel
theorem dX11_firstShort_0 : decode cX11_firstShort 0 = .ok (.iload_n 1, 1) := by decide +kernel
theorem dX11_firstShort_1 : decode cX11_firstShort 1 = .ok (.iconst 1, 1) := by decide +kernel
theorem dX11_firstShort_2 : decode cX11_firstShort 2 = .ok (.sipush 240, 3) := by decide +kernel
theorem dX11_firstShort_5 : decode cX11_firstShort 5 = .ok (.invokestatic 94, 3) := by decide +kernel
theorem dX11_firstShort_8 : decode cX11_firstShort 8 = .ok (.ifCond .ne 6, 3) := by decide +kernel
theorem dX11_firstShort_11 : decode cX11_firstShort 11 = .ok (.ldc 98, 2) := by decide +kernel
theorem dX11_firstShort_13 : decode cX11_firstShort 13 = .ok (.ireturn, 1) := by decide +kernel
theorem dX11_firstShort_14 : decode cX11_firstShort 14 = .ok (.aload_n 0, 1) := by decide +kernel
theorem dX11_firstShort_15 : decode cX11_firstShort 15 = .ok (.invokevirtual 164, 3) := by decide +kernel
theorem dX11_firstShort_18 : decode cX11_firstShort 18 = .ok (.ifCond .eq 6, 3) := by decide +kernel
theorem dX11_firstShort_21 : decode cX11_firstShort 21 = .ok (.ldc 168, 2) := by decide +kernel
theorem dX11_firstShort_23 : decode cX11_firstShort 23 = .ok (.ireturn, 1) := by decide +kernel
theorem dX11_firstShort_24 : decode cX11_firstShort 24 = .ok (.aload_n 0, 1) := by decide +kernel
theorem dX11_firstShort_25 : decode cX11_firstShort 25 = .ok (.invokevirtual 253, 3) := by decide +kernel
theorem dX11_firstShort_28 : decode cX11_firstShort 28 = .ok (.iconst 0, 1) := by decide +kernel
theorem dX11_firstShort_29 : decode cX11_firstShort 29 = .ok (.istore_n 2, 1) := by decide +kernel
theorem dX11_firstShort_30 : decode cX11_firstShort 30 = .ok (.iload_n 2, 1) := by decide +kernel
theorem dX11_firstShort_31 : decode cX11_firstShort 31 = .ok (.sipush 200, 3) := by decide +kernel
theorem dX11_firstShort_34 : decode cX11_firstShort 34 = .ok (.if_icmp .gt 33, 3) := by decide +kernel
theorem dX11_firstShort_37 : decode cX11_firstShort 37 = .ok (.aload_n 0, 1) := by decide +kernel
theorem dX11_firstShort_38 : decode cX11_firstShort 38 = .ok (.getfield 44, 3) := by decide +kernel
theorem dX11_firstShort_41 : decode cX11_firstShort 41 = .ok (.getfield 140, 3) := by decide +kernel
theorem dX11_firstShort_44 : decode cX11_firstShort 44 = .ok (.iload_n 1, 1) := by decide +kernel
theorem dX11_firstShort_45 : decode cX11_firstShort 45 = .ok (.if_icmp .ge 5, 3) := by decide +kernel
theorem dX11_firstShort_48 : decode cX11_firstShort 48 = .ok (.iload_n 2, 1) := by decide +kernel
theorem dX11_firstShort_49 : decode cX11_firstShort 49 = .ok (.ireturn, 1) := by decide +kernel
theorem dX11_firstShort_50 : decode cX11_firstShort 50 = .ok (.aload_n 0, 1) := by decide +kernel
theorem dX11_firstShort_51 : decode cX11_firstShort 51 = .ok (.getfield 44, 3) := by decide +kernel
theorem dX11_firstShort_54 : decode cX11_firstShort 54 = .ok (.aload_n 0, 1) := by decide +kernel
theorem dX11_firstShort_55 : decode cX11_firstShort 55 = .ok (.getfield 27, 3) := by decide +kernel
theorem dX11_firstShort_58 : decode cX11_firstShort 58 = .ok (.invokevirtual 222, 3) := by decide +kernel
theorem dX11_firstShort_61 : decode cX11_firstShort 61 = .ok (.iinc 2 1, 3) := by decide +kernel
theorem dX11_firstShort_64 : decode cX11_firstShort 64 = .ok (.goto (-34), 3) := by decide +kernel
theorem dX11_firstShort_67 : decode cX11_firstShort 67 = .ok (.iconst (-1), 1) := by decide +kernel
theorem dX11_firstShort_68 : decode cX11_firstShort 68 = .ok (.ireturn, 1) := by decide +kernel
theorem dX11_planeWhen_0 : decode cX11_planeWhen 0 = .ok (.aload_n 0, 1) := by decide +kernel
theorem dX11_planeWhen_1 : decode cX11_planeWhen 1 = .ok (.iload_n 1, 1) := by decide +kernel
theorem dX11_planeWhen_2 : decode cX11_planeWhen 2 = .ok (.iload_n 2, 1) := by decide +kernel
theorem dX11_planeWhen_3 : decode cX11_planeWhen 3 = .ok (.invokevirtual 250, 3) := by decide +kernel
theorem dX11_planeWhen_6 : decode cX11_planeWhen 6 = .ok (.istore_n 3, 1) := by decide +kernel
theorem dX11_planeWhen_7 : decode cX11_planeWhen 7 = .ok (.iload_n 3, 1) := by decide +kernel
theorem dX11_planeWhen_8 : decode cX11_planeWhen 8 = .ok (.ifCond .eq 5, 3) := by decide +kernel
theorem dX11_planeWhen_11 : decode cX11_planeWhen 11 = .ok (.iload_n 3, 1) := by decide +kernel
theorem dX11_planeWhen_12 : decode cX11_planeWhen 12 = .ok (.ireturn, 1) := by decide +kernel
theorem dX11_planeWhen_13 : decode cX11_planeWhen 13 = .ok (.aload_n 0, 1) := by decide +kernel
theorem dX11_planeWhen_14 : decode cX11_planeWhen 14 = .ok (.invokevirtual 253, 3) := by decide +kernel
theorem dX11_planeWhen_17 : decode cX11_planeWhen 17 = .ok (.iconst 0, 1) := by decide +kernel
theorem dX11_planeWhen_18 : decode cX11_planeWhen 18 = .ok (.istore 4, 2) := by decide +kernel
theorem dX11_planeWhen_20 : decode cX11_planeWhen 20 = .ok (.aload_n 0, 1) := by decide +kernel
theorem dX11_planeWhen_21 : decode cX11_planeWhen 21 = .ok (.getfield 44, 3) := by decide +kernel
theorem dX11_planeWhen_24 : decode cX11_planeWhen 24 = .ok (.invokevirtual 232, 3) := by decide +kernel
theorem dX11_planeWhen_27 : decode cX11_planeWhen 27 = .ok (.istore 5, 2) := by decide +kernel
theorem dX11_planeWhen_29 : decode cX11_planeWhen 29 = .ok (.iconst 1, 1) := by decide +kernel
theorem dX11_planeWhen_30 : decode cX11_planeWhen 30 = .ok (.istore 6, 2) := by decide +kernel
theorem dX11_planeWhen_32 : decode cX11_planeWhen 32 = .ok (.iload 6, 2) := by decide +kernel
theorem dX11_planeWhen_34 : decode cX11_planeWhen 34 = .ok (.iload_n 1, 1) := by decide +kernel
theorem dX11_planeWhen_35 : decode cX11_planeWhen 35 = .ok (.if_icmp .gt 45, 3) := by decide +kernel
theorem dX11_planeWhen_38 : decode cX11_planeWhen 38 = .ok (.aload_n 0, 1) := by decide +kernel
theorem dX11_planeWhen_39 : decode cX11_planeWhen 39 = .ok (.getfield 44, 3) := by decide +kernel
theorem dX11_planeWhen_42 : decode cX11_planeWhen 42 = .ok (.aload_n 0, 1) := by decide +kernel
theorem dX11_planeWhen_43 : decode cX11_planeWhen 43 = .ok (.getfield 27, 3) := by decide +kernel
theorem dX11_planeWhen_46 : decode cX11_planeWhen 46 = .ok (.invokevirtual 222, 3) := by decide +kernel
theorem dX11_planeWhen_49 : decode cX11_planeWhen 49 = .ok (.aload_n 0, 1) := by decide +kernel
theorem dX11_planeWhen_50 : decode cX11_planeWhen 50 = .ok (.getfield 44, 3) := by decide +kernel
theorem dX11_planeWhen_53 : decode cX11_planeWhen 53 = .ok (.invokevirtual 232, 3) := by decide +kernel
theorem dX11_planeWhen_56 : decode cX11_planeWhen 56 = .ok (.iload 5, 2) := by decide +kernel
theorem dX11_planeWhen_58 : decode cX11_planeWhen 58 = .ok (.if_icmp .le 16, 3) := by decide +kernel
theorem dX11_planeWhen_61 : decode cX11_planeWhen 61 = .ok (.iload 6, 2) := by decide +kernel
theorem dX11_planeWhen_63 : decode cX11_planeWhen 63 = .ok (.istore 4, 2) := by decide +kernel
theorem dX11_planeWhen_65 : decode cX11_planeWhen 65 = .ok (.aload_n 0, 1) := by decide +kernel
theorem dX11_planeWhen_66 : decode cX11_planeWhen 66 = .ok (.getfield 44, 3) := by decide +kernel
theorem dX11_planeWhen_69 : decode cX11_planeWhen 69 = .ok (.invokevirtual 232, 3) := by decide +kernel
theorem dX11_planeWhen_72 : decode cX11_planeWhen 72 = .ok (.istore 5, 2) := by decide +kernel
theorem dX11_planeWhen_74 : decode cX11_planeWhen 74 = .ok (.iinc 6 1, 3) := by decide +kernel
theorem dX11_planeWhen_77 : decode cX11_planeWhen 77 = .ok (.goto (-45), 3) := by decide +kernel
theorem dX11_planeWhen_80 : decode cX11_planeWhen 80 = .ok (.iload_n 2, 1) := by decide +kernel
theorem dX11_planeWhen_81 : decode cX11_planeWhen 81 = .ok (.ifCond .ne 8, 3) := by decide +kernel
theorem dX11_planeWhen_84 : decode cX11_planeWhen 84 = .ok (.iload 4, 2) := by decide +kernel
theorem dX11_planeWhen_86 : decode cX11_planeWhen 86 = .ok (.goto 5, 3) := by decide +kernel
theorem dX11_planeWhen_89 : decode cX11_planeWhen 89 = .ok (.iload 5, 2) := by decide +kernel
theorem dX11_planeWhen_91 : decode cX11_planeWhen 91 = .ok (.ireturn, 1) := by decide +kernel
theorem dX11_had_0 : decode cX11_had 0 = .ok (.iload_n 1, 1) := by decide +kernel
theorem dX11_had_1 : decode cX11_had 1 = .ok (.iconst 0, 1) := by decide +kernel
theorem dX11_had_2 : decode cX11_had 2 = .ok (.sipush 999, 3) := by decide +kernel
theorem dX11_had_5 : decode cX11_had 5 = .ok (.invokestatic 94, 3) := by decide +kernel
theorem dX11_had_8 : decode cX11_had 8 = .ok (.ifCond .ne 6, 3) := by decide +kernel
theorem dX11_had_11 : decode cX11_had 11 = .ok (.ldc 98, 2) := by decide +kernel
theorem dX11_had_13 : decode cX11_had 13 = .ok (.ireturn, 1) := by decide +kernel
theorem dX11_had_14 : decode cX11_had 14 = .ok (.aload_n 0, 1) := by decide +kernel
theorem dX11_had_15 : decode cX11_had 15 = .ok (.invokevirtual 164, 3) := by decide +kernel
theorem dX11_had_18 : decode cX11_had 18 = .ok (.ifCond .eq 6, 3) := by decide +kernel
theorem dX11_had_21 : decode cX11_had 21 = .ok (.ldc 168, 2) := by decide +kernel
theorem dX11_had_23 : decode cX11_had 23 = .ok (.ireturn, 1) := by decide +kernel
theorem dX11_had_24 : decode cX11_had 24 = .ok (.aload_n 0, 1) := by decide +kernel
theorem dX11_had_25 : decode cX11_had 25 = .ok (.getfield 69, 3) := by decide +kernel
theorem dX11_had_28 : decode cX11_had 28 = .ok (.aload_n 0, 1) := by decide +kernel
theorem dX11_had_29 : decode cX11_had 29 = .ok (.getfield 27, 3) := by decide +kernel
theorem dX11_had_32 : decode cX11_had 32 = .ok (.aload_n 0, 1) := by decide +kernel
theorem dX11_had_33 : decode cX11_had 33 = .ok (.getfield 37, 3) := by decide +kernel
theorem dX11_had_36 : decode cX11_had 36 = .ok (.getfield 134, 3) := by decide +kernel
theorem dX11_had_39 : decode cX11_had 39 = .ok (.getfield 140, 3) := by decide +kernel
theorem dX11_had_42 : decode cX11_had 42 = .ok (.invokevirtual 256, 3) := by decide +kernel
theorem dX11_had_45 : decode cX11_had 45 = .ok (.aload_n 0, 1) := by decide +kernel
theorem dX11_had_46 : decode cX11_had 46 = .ok (.getfield 69, 3) := by decide +kernel
theorem dX11_had_49 : decode cX11_had 49 = .ok (.bipush 20, 2) := by decide +kernel
theorem dX11_had_51 : decode cX11_had 51 = .ok (.invokevirtual 260, 3) := by decide +kernel
theorem dX11_had_54 : decode cX11_had 54 = .ok (.aload_n 0, 1) := by decide +kernel
theorem dX11_had_55 : decode cX11_had 55 = .ok (.getfield 69, 3) := by decide +kernel
theorem dX11_had_58 : decode cX11_had 58 = .ok (.getfield 263, 3) := by decide +kernel
theorem dX11_had_61 : decode cX11_had 61 = .ok (.iload_n 1, 1) := by decide +kernel
theorem dX11_had_62 : decode cX11_had 62 = .ok (.iaload, 1) := by decide +kernel
theorem dX11_had_63 : decode cX11_had 63 = .ok (.ireturn, 1) := by decide +kernel
theorem dX11_parts_0 : decode cX11_parts 0 = .ok (.aload_n 0, 1) := by decide +kernel
theorem dX11_parts_1 : decode cX11_parts 1 = .ok (.invokevirtual 164, 3) := by decide +kernel
theorem dX11_parts_4 : decode cX11_parts 4 = .ok (.ifCond .eq 6, 3) := by decide +kernel
theorem dX11_parts_7 : decode cX11_parts 7 = .ok (.ldc 168, 2) := by decide +kernel
theorem dX11_parts_9 : decode cX11_parts 9 = .ok (.ireturn, 1) := by decide +kernel
theorem dX11_parts_10 : decode cX11_parts 10 = .ok (.aload_n 0, 1) := by decide +kernel
theorem dX11_parts_11 : decode cX11_parts 11 = .ok (.getfield 69, 3) := by decide +kernel
theorem dX11_parts_14 : decode cX11_parts 14 = .ok (.aload_n 0, 1) := by decide +kernel
theorem dX11_parts_15 : decode cX11_parts 15 = .ok (.getfield 27, 3) := by decide +kernel
theorem dX11_parts_18 : decode cX11_parts 18 = .ok (.aload_n 0, 1) := by decide +kernel
theorem dX11_parts_19 : decode cX11_parts 19 = .ok (.getfield 37, 3) := by decide +kernel
theorem dX11_parts_22 : decode cX11_parts 22 = .ok (.getfield 134, 3) := by decide +kernel
theorem dX11_parts_25 : decode cX11_parts 25 = .ok (.getfield 140, 3) := by decide +kernel
theorem dX11_parts_28 : decode cX11_parts 28 = .ok (.invokevirtual 256, 3) := by decide +kernel
theorem dX11_parts_31 : decode cX11_parts 31 = .ok (.aload_n 0, 1) := by decide +kernel
theorem dX11_parts_32 : decode cX11_parts 32 = .ok (.getfield 69, 3) := by decide +kernel
theorem dX11_parts_35 : decode cX11_parts 35 = .ok (.iconst 2, 1) := by decide +kernel
theorem dX11_parts_36 : decode cX11_parts 36 = .ok (.invokevirtual 260, 3) := by decide +kernel
theorem dX11_parts_39 : decode cX11_parts 39 = .ok (.iconst 0, 1) := by decide +kernel
theorem dX11_parts_40 : decode cX11_parts 40 = .ok (.istore_n 2, 1) := by decide +kernel
theorem dX11_parts_41 : decode cX11_parts 41 = .ok (.iconst 1, 1) := by decide +kernel
theorem dX11_parts_42 : decode cX11_parts 42 = .ok (.istore_n 3, 1) := by decide +kernel
theorem dX11_parts_43 : decode cX11_parts 43 = .ok (.iload_n 3, 1) := by decide +kernel
theorem dX11_parts_44 : decode cX11_parts 44 = .ok (.aload_n 0, 1) := by decide +kernel
theorem dX11_parts_45 : decode cX11_parts 45 = .ok (.getfield 37, 3) := by decide +kernel
theorem dX11_parts_48 : decode cX11_parts 48 = .ok (.getfield 134, 3) := by decide +kernel
theorem dX11_parts_51 : decode cX11_parts 51 = .ok (.getfield 140, 3) := by decide +kernel
theorem dX11_parts_54 : decode cX11_parts 54 = .ok (.if_icmp .gt 39, 3) := by decide +kernel
theorem dX11_parts_57 : decode cX11_parts 57 = .ok (.iload_n 3, 1) := by decide +kernel
theorem dX11_parts_58 : decode cX11_parts 58 = .ok (.sipush 999, 3) := by decide +kernel
theorem dX11_parts_61 : decode cX11_parts 61 = .ok (.if_icmp .gt 32, 3) := by decide +kernel
theorem dX11_parts_64 : decode cX11_parts 64 = .ok (.aload_n 0, 1) := by decide +kernel
theorem dX11_parts_65 : decode cX11_parts 65 = .ok (.getfield 69, 3) := by decide +kernel
theorem dX11_parts_68 : decode cX11_parts 68 = .ok (.getfield 263, 3) := by decide +kernel
theorem dX11_parts_71 : decode cX11_parts 71 = .ok (.iload_n 3, 1) := by decide +kernel
theorem dX11_parts_72 : decode cX11_parts 72 = .ok (.iaload, 1) := by decide +kernel
theorem dX11_parts_73 : decode cX11_parts 73 = .ok (.iconst (-1), 1) := by decide +kernel
theorem dX11_parts_74 : decode cX11_parts 74 = .ok (.if_icmp .eq 13, 3) := by decide +kernel
theorem dX11_parts_77 : decode cX11_parts 77 = .ok (.iload_n 2, 1) := by decide +kernel
theorem dX11_parts_78 : decode cX11_parts 78 = .ok (.iload_n 1, 1) := by decide +kernel
theorem dX11_parts_79 : decode cX11_parts 79 = .ok (.if_icmp .ne 5, 3) := by decide +kernel
theorem dX11_parts_82 : decode cX11_parts 82 = .ok (.iload_n 3, 1) := by decide +kernel
theorem dX11_parts_83 : decode cX11_parts 83 = .ok (.ireturn, 1) := by decide +kernel
theorem dX11_parts_84 : decode cX11_parts 84 = .ok (.iinc 2 1, 3) := by decide +kernel
theorem dX11_parts_87 : decode cX11_parts 87 = .ok (.iinc 3 1, 3) := by decide +kernel
theorem dX11_parts_90 : decode cX11_parts 90 = .ok (.goto (-47), 3) := by decide +kernel
theorem dX11_parts_93 : decode cX11_parts 93 = .ok (.iload_n 1, 1) := by decide +kernel
theorem dX11_parts_94 : decode cX11_parts 94 = .ok (.iconst (-1), 1) := by decide +kernel
theorem dX11_parts_95 : decode cX11_parts 95 = .ok (.if_icmp .ne 7, 3) := by decide +kernel
theorem dX11_parts_98 : decode cX11_parts 98 = .ok (.iload_n 2, 1) := by decide +kernel
theorem dX11_parts_99 : decode cX11_parts 99 = .ok (.goto 4, 3) := by decide +kernel
theorem dX11_parts_102 : decode cX11_parts 102 = .ok (.iconst (-1), 1) := by decide +kernel
theorem dX11_parts_103 : decode cX11_parts 103 = .ok (.ireturn, 1) := by decide +kernel
theorem dX11_fold_0 : decode cX11_fold 0 = .ok (.iload_n 1, 1) := by decide +kernel
theorem dX11_fold_1 : decode cX11_fold 1 = .ok (.iconst 0, 1) := by decide +kernel
theorem dX11_fold_2 : decode cX11_fold 2 = .ok (.sipush 999, 3) := by decide +kernel
theorem dX11_fold_5 : decode cX11_fold 5 = .ok (.invokestatic 94, 3) := by decide +kernel
theorem dX11_fold_8 : decode cX11_fold 8 = .ok (.ifCond .ne 6, 3) := by decide +kernel
theorem dX11_fold_11 : decode cX11_fold 11 = .ok (.ldc 98, 2) := by decide +kernel
theorem dX11_fold_13 : decode cX11_fold 13 = .ok (.ireturn, 1) := by decide +kernel
theorem dX11_fold_14 : decode cX11_fold 14 = .ok (.iload_n 1, 1) := by decide +kernel
theorem dX11_fold_15 : decode cX11_fold 15 = .ok (.iconst 2, 1) := by decide +kernel
theorem dX11_fold_16 : decode cX11_fold 16 = .ok (.irem, 1) := by decide +kernel
theorem dX11_fold_17 : decode cX11_fold 17 = .ok (.ifCond .ne 9, 3) := by decide +kernel
theorem dX11_fold_20 : decode cX11_fold 20 = .ok (.iload_n 1, 1) := by decide +kernel
theorem dX11_fold_21 : decode cX11_fold 21 = .ok (.iconst 2, 1) := by decide +kernel
theorem dX11_fold_22 : decode cX11_fold 22 = .ok (.idiv, 1) := by decide +kernel
theorem dX11_fold_23 : decode cX11_fold 23 = .ok (.goto 4, 3) := by decide +kernel
theorem dX11_fold_26 : decode cX11_fold 26 = .ok (.iconst (-1), 1) := by decide +kernel
theorem dX11_fold_27 : decode cX11_fold 27 = .ok (.ireturn, 1) := by decide +kernel
theorem dX11_posts_0 : decode cX11_posts 0 = .ok (.iload_n 1, 1) := by decide +kernel
theorem dX11_posts_1 : decode cX11_posts 1 = .ok (.iconst (-1), 1) := by decide +kernel
theorem dX11_posts_2 : decode cX11_posts 2 = .ok (.if_icmp .eq 14, 3) := by decide +kernel
theorem dX11_posts_5 : decode cX11_posts 5 = .ok (.aload_n 0, 1) := by decide +kernel
theorem dX11_posts_6 : decode cX11_posts 6 = .ok (.iload_n 1, 1) := by decide +kernel
theorem dX11_posts_7 : decode cX11_posts 7 = .ok (.invokevirtual 175, 3) := by decide +kernel
theorem dX11_posts_10 : decode cX11_posts 10 = .ok (.ifCond .ne 6, 3) := by decide +kernel
theorem dX11_posts_13 : decode cX11_posts 13 = .ok (.ldc 179, 2) := by decide +kernel
theorem dX11_posts_15 : decode cX11_posts 15 = .ok (.ireturn, 1) := by decide +kernel
theorem dX11_posts_16 : decode cX11_posts 16 = .ok (.aload_n 0, 1) := by decide +kernel
theorem dX11_posts_17 : decode cX11_posts 17 = .ok (.getfield 76, 3) := by decide +kernel
theorem dX11_posts_20 : decode cX11_posts 20 = .ok (.aload_n 0, 1) := by decide +kernel
theorem dX11_posts_21 : decode cX11_posts 21 = .ok (.getfield 27, 3) := by decide +kernel
theorem dX11_posts_24 : decode cX11_posts 24 = .ok (.aload_n 0, 1) := by decide +kernel
theorem dX11_posts_25 : decode cX11_posts 25 = .ok (.getfield 37, 3) := by decide +kernel
theorem dX11_posts_28 : decode cX11_posts 28 = .ok (.invokevirtual 266, 3) := by decide +kernel
theorem dX11_posts_31 : decode cX11_posts 31 = .ok (.iload_n 1, 1) := by decide +kernel
theorem dX11_posts_32 : decode cX11_posts 32 = .ok (.iconst (-1), 1) := by decide +kernel
theorem dX11_posts_33 : decode cX11_posts 33 = .ok (.if_icmp .ne 15, 3) := by decide +kernel
theorem dX11_posts_36 : decode cX11_posts 36 = .ok (.aload_n 0, 1) := by decide +kernel
theorem dX11_posts_37 : decode cX11_posts 37 = .ok (.getfield 76, 3) := by decide +kernel
theorem dX11_posts_40 : decode cX11_posts 40 = .ok (.iconst 0, 1) := by decide +kernel
theorem dX11_posts_41 : decode cX11_posts 41 = .ok (.iconst 0, 1) := by decide +kernel
theorem dX11_posts_42 : decode cX11_posts 42 = .ok (.invokevirtual 270, 3) := by decide +kernel
theorem dX11_posts_45 : decode cX11_posts 45 = .ok (.goto 11, 3) := by decide +kernel
theorem dX11_posts_48 : decode cX11_posts 48 = .ok (.aload_n 0, 1) := by decide +kernel
theorem dX11_posts_49 : decode cX11_posts 49 = .ok (.getfield 76, 3) := by decide +kernel
theorem dX11_posts_52 : decode cX11_posts 52 = .ok (.iload_n 1, 1) := by decide +kernel
theorem dX11_posts_53 : decode cX11_posts 53 = .ok (.invokevirtual 273, 3) := by decide +kernel
theorem dX11_posts_56 : decode cX11_posts 56 = .ok (.ireturn, 1) := by decide +kernel
theorem dX11_toShorten_0 : decode cX11_toShorten 0 = .ok (.aload_n 0, 1) := by decide +kernel
theorem dX11_toShorten_1 : decode cX11_toShorten 1 = .ok (.iload_n 1, 1) := by decide +kernel
theorem dX11_toShorten_2 : decode cX11_toShorten 2 = .ok (.invokevirtual 190, 3) := by decide +kernel
theorem dX11_toShorten_5 : decode cX11_toShorten 5 = .ok (.ifCond .eq 11, 3) := by decide +kernel
theorem dX11_toShorten_8 : decode cX11_toShorten 8 = .ok (.aload_n 0, 1) := by decide +kernel
theorem dX11_toShorten_9 : decode cX11_toShorten 9 = .ok (.iload_n 2, 1) := by decide +kernel
theorem dX11_toShorten_10 : decode cX11_toShorten 10 = .ok (.invokevirtual 175, 3) := by decide +kernel
theorem dX11_toShorten_13 : decode cX11_toShorten 13 = .ok (.ifCond .ne 6, 3) := by decide +kernel
theorem dX11_toShorten_16 : decode cX11_toShorten 16 = .ok (.ldc 179, 2) := by decide +kernel
theorem dX11_toShorten_18 : decode cX11_toShorten 18 = .ok (.ireturn, 1) := by decide +kernel
theorem dX11_toShorten_19 : decode cX11_toShorten 19 = .ok (.aload_n 0, 1) := by decide +kernel
theorem dX11_toShorten_20 : decode cX11_toShorten 20 = .ok (.getfield 37, 3) := by decide +kernel
theorem dX11_toShorten_23 : decode cX11_toShorten 23 = .ok (.getfield 193, 3) := by decide +kernel
theorem dX11_toShorten_26 : decode cX11_toShorten 26 = .ok (.iload_n 1, 1) := by decide +kernel
theorem dX11_toShorten_27 : decode cX11_toShorten 27 = .ok (.iaload, 1) := by decide +kernel
theorem dX11_toShorten_28 : decode cX11_toShorten 28 = .ok (.istore_n 3, 1) := by decide +kernel
theorem dX11_toShorten_29 : decode cX11_toShorten 29 = .ok (.iconst 0, 1) := by decide +kernel
theorem dX11_toShorten_30 : decode cX11_toShorten 30 = .ok (.istore 4, 2) := by decide +kernel
theorem dX11_toShorten_32 : decode cX11_toShorten 32 = .ok (.iload 4, 2) := by decide +kernel
theorem dX11_toShorten_34 : decode cX11_toShorten 34 = .ok (.iload_n 3, 1) := by decide +kernel
theorem dX11_toShorten_35 : decode cX11_toShorten 35 = .ok (.if_icmp .ge 45, 3) := by decide +kernel
theorem dX11_toShorten_38 : decode cX11_toShorten 38 = .ok (.iload 4, 2) := by decide +kernel
theorem dX11_toShorten_40 : decode cX11_toShorten 40 = .ok (.sipush 999, 3) := by decide +kernel
theorem dX11_toShorten_43 : decode cX11_toShorten 43 = .ok (.if_icmp .ge 37, 3) := by decide +kernel
theorem dX11_toShorten_46 : decode cX11_toShorten 46 = .ok (.aload_n 0, 1) := by decide +kernel
theorem dX11_toShorten_47 : decode cX11_toShorten 47 = .ok (.getfield 27, 3) := by decide +kernel
theorem dX11_toShorten_50 : decode cX11_toShorten 50 = .ok (.iload_n 2, 1) := by decide +kernel
theorem dX11_toShorten_51 : decode cX11_toShorten 51 = .ok (.aload_n 0, 1) := by decide +kernel
theorem dX11_toShorten_52 : decode cX11_toShorten 52 = .ok (.getfield 37, 3) := by decide +kernel
theorem dX11_toShorten_55 : decode cX11_toShorten 55 = .ok (.getfield 134, 3) := by decide +kernel
theorem dX11_toShorten_58 : decode cX11_toShorten 58 = .ok (.iload_n 3, 1) := by decide +kernel
theorem dX11_toShorten_59 : decode cX11_toShorten 59 = .ok (.iload 4, 2) := by decide +kernel
theorem dX11_toShorten_61 : decode cX11_toShorten 61 = .ok (.isub, 1) := by decide +kernel
theorem dX11_toShorten_62 : decode cX11_toShorten 62 = .ok (.invokevirtual 196, 3) := by decide +kernel
theorem dX11_toShorten_65 : decode cX11_toShorten 65 = .ok (.invokevirtual 276, 3) := by decide +kernel
theorem dX11_toShorten_68 : decode cX11_toShorten 68 = .ok (.ifCond .eq 6, 3) := by decide +kernel
theorem dX11_toShorten_71 : decode cX11_toShorten 71 = .ok (.iload 4, 2) := by decide +kernel
theorem dX11_toShorten_73 : decode cX11_toShorten 73 = .ok (.ireturn, 1) := by decide +kernel
theorem dX11_toShorten_74 : decode cX11_toShorten 74 = .ok (.iinc 4 1, 3) := by decide +kernel
theorem dX11_toShorten_77 : decode cX11_toShorten 77 = .ok (.goto (-45), 3) := by decide +kernel
theorem dX11_toShorten_80 : decode cX11_toShorten 80 = .ok (.iconst (-1), 1) := by decide +kernel
theorem dX11_toShorten_81 : decode cX11_toShorten 81 = .ok (.ireturn, 1) := by decide +kernel
theorem dX11_wasWarped_0 : decode cX11_wasWarped 0 = .ok (.iload_n 1, 1) := by decide +kernel
theorem dX11_wasWarped_1 : decode cX11_wasWarped 1 = .ok (.iconst 0, 1) := by decide +kernel
theorem dX11_wasWarped_2 : decode cX11_wasWarped 2 = .ok (.sipush 9999, 3) := by decide +kernel
theorem dX11_wasWarped_5 : decode cX11_wasWarped 5 = .ok (.invokestatic 94, 3) := by decide +kernel
theorem dX11_wasWarped_8 : decode cX11_wasWarped 8 = .ok (.ifCond .eq 23, 3) := by decide +kernel
theorem dX11_wasWarped_11 : decode cX11_wasWarped 11 = .ok (.iload_n 2, 1) := by decide +kernel
theorem dX11_wasWarped_12 : decode cX11_wasWarped 12 = .ok (.iconst 1, 1) := by decide +kernel
theorem dX11_wasWarped_13 : decode cX11_wasWarped 13 = .ok (.sipush 240, 3) := by decide +kernel
theorem dX11_wasWarped_16 : decode cX11_wasWarped 16 = .ok (.invokestatic 94, 3) := by decide +kernel
theorem dX11_wasWarped_19 : decode cX11_wasWarped 19 = .ok (.ifCond .eq 12, 3) := by decide +kernel
theorem dX11_wasWarped_22 : decode cX11_wasWarped 22 = .ok (.iload_n 3, 1) := by decide +kernel
theorem dX11_wasWarped_23 : decode cX11_wasWarped 23 = .ok (.iconst 0, 1) := by decide +kernel
theorem dX11_wasWarped_24 : decode cX11_wasWarped 24 = .ok (.iconst 1, 1) := by decide +kernel
theorem dX11_wasWarped_25 : decode cX11_wasWarped 25 = .ok (.invokestatic 94, 3) := by decide +kernel
theorem dX11_wasWarped_28 : decode cX11_wasWarped 28 = .ok (.ifCond .ne 6, 3) := by decide +kernel
theorem dX11_wasWarped_31 : decode cX11_wasWarped 31 = .ok (.ldc 98, 2) := by decide +kernel
theorem dX11_wasWarped_33 : decode cX11_wasWarped 33 = .ok (.ireturn, 1) := by decide +kernel
theorem dX11_wasWarped_34 : decode cX11_wasWarped 34 = .ok (.bipush (-99), 2) := by decide +kernel
theorem dX11_wasWarped_36 : decode cX11_wasWarped 36 = .ok (.istore 4, 2) := by decide +kernel
theorem dX11_wasWarped_38 : decode cX11_wasWarped 38 = .ok (.bipush 99, 2) := by decide +kernel
theorem dX11_wasWarped_40 : decode cX11_wasWarped 40 = .ok (.istore 5, 2) := by decide +kernel
theorem dX11_wasWarped_42 : decode cX11_wasWarped 42 = .ok (.iconst 0, 1) := by decide +kernel
theorem dX11_wasWarped_43 : decode cX11_wasWarped 43 = .ok (.istore 6, 2) := by decide +kernel
theorem dX11_wasWarped_45 : decode cX11_wasWarped 45 = .ok (.iload 6, 2) := by decide +kernel
theorem dX11_wasWarped_47 : decode cX11_wasWarped 47 = .ok (.aload_n 0, 1) := by decide +kernel
theorem dX11_wasWarped_48 : decode cX11_wasWarped 48 = .ok (.getfield 37, 3) := by decide +kernel
theorem dX11_wasWarped_51 : decode cX11_wasWarped 51 = .ok (.getfield 145, 3) := by decide +kernel
theorem dX11_wasWarped_54 : decode cX11_wasWarped 54 = .ok (.getfield 149, 3) := by decide +kernel
theorem dX11_wasWarped_57 : decode cX11_wasWarped 57 = .ok (.if_icmp .ge 59, 3) := by decide +kernel
theorem dX11_wasWarped_60 : decode cX11_wasWarped 60 = .ok (.aload_n 0, 1) := by decide +kernel
theorem dX11_wasWarped_61 : decode cX11_wasWarped 61 = .ok (.getfield 37, 3) := by decide +kernel
theorem dX11_wasWarped_64 : decode cX11_wasWarped 64 = .ok (.getfield 145, 3) := by decide +kernel
theorem dX11_wasWarped_67 : decode cX11_wasWarped 67 = .ok (.getfield 209, 3) := by decide +kernel
theorem dX11_wasWarped_70 : decode cX11_wasWarped 70 = .ok (.iload 6, 2) := by decide +kernel
theorem dX11_wasWarped_72 : decode cX11_wasWarped 72 = .ok (.iaload, 1) := by decide +kernel
theorem dX11_wasWarped_73 : decode cX11_wasWarped 73 = .ok (.iload_n 1, 1) := by decide +kernel
theorem dX11_wasWarped_74 : decode cX11_wasWarped 74 = .ok (.if_icmp .ne 36, 3) := by decide +kernel
theorem dX11_wasWarped_77 : decode cX11_wasWarped 77 = .ok (.aload_n 0, 1) := by decide +kernel
theorem dX11_wasWarped_78 : decode cX11_wasWarped 78 = .ok (.getfield 37, 3) := by decide +kernel
theorem dX11_wasWarped_81 : decode cX11_wasWarped 81 = .ok (.getfield 145, 3) := by decide +kernel
theorem dX11_wasWarped_84 : decode cX11_wasWarped 84 = .ok (.iload 6, 2) := by decide +kernel
theorem dX11_wasWarped_86 : decode cX11_wasWarped 86 = .ok (.iload_n 2, 1) := by decide +kernel
theorem dX11_wasWarped_87 : decode cX11_wasWarped 87 = .ok (.invokevirtual 280, 3) := by decide +kernel
theorem dX11_wasWarped_90 : decode cX11_wasWarped 90 = .ok (.istore 7, 2) := by decide +kernel
theorem dX11_wasWarped_92 : decode cX11_wasWarped 92 = .ok (.iload 4, 2) := by decide +kernel
theorem dX11_wasWarped_94 : decode cX11_wasWarped 94 = .ok (.iload 7, 2) := by decide +kernel
theorem dX11_wasWarped_96 : decode cX11_wasWarped 96 = .ok (.invokestatic 235, 3) := by decide +kernel
theorem dX11_wasWarped_99 : decode cX11_wasWarped 99 = .ok (.istore 4, 2) := by decide +kernel
theorem dX11_wasWarped_101 : decode cX11_wasWarped 101 = .ok (.iload 5, 2) := by decide +kernel
theorem dX11_wasWarped_103 : decode cX11_wasWarped 103 = .ok (.iload 7, 2) := by decide +kernel
theorem dX11_wasWarped_105 : decode cX11_wasWarped 105 = .ok (.invokestatic 283, 3) := by decide +kernel
theorem dX11_wasWarped_108 : decode cX11_wasWarped 108 = .ok (.istore 5, 2) := by decide +kernel
theorem dX11_wasWarped_110 : decode cX11_wasWarped 110 = .ok (.iinc 6 1, 3) := by decide +kernel
theorem dX11_wasWarped_113 : decode cX11_wasWarped 113 = .ok (.goto (-68), 3) := by decide +kernel
theorem dX11_wasWarped_116 : decode cX11_wasWarped 116 = .ok (.iload_n 3, 1) := by decide +kernel
theorem dX11_wasWarped_117 : decode cX11_wasWarped 117 = .ok (.ifCond .ne 15, 3) := by decide +kernel
theorem dX11_wasWarped_120 : decode cX11_wasWarped 120 = .ok (.iconst 0, 1) := by decide +kernel
theorem dX11_wasWarped_121 : decode cX11_wasWarped 121 = .ok (.iload 5, 2) := by decide +kernel
theorem dX11_wasWarped_123 : decode cX11_wasWarped 123 = .ok (.iload 4, 2) := by decide +kernel
theorem dX11_wasWarped_125 : decode cX11_wasWarped 125 = .ok (.isub, 1) := by decide +kernel
theorem dX11_wasWarped_126 : decode cX11_wasWarped 126 = .ok (.iconst 1, 1) := by decide +kernel
theorem dX11_wasWarped_127 : decode cX11_wasWarped 127 = .ok (.iadd, 1) := by decide +kernel
theorem dX11_wasWarped_128 : decode cX11_wasWarped 128 = .ok (.invokestatic 235, 3) := by decide +kernel
theorem dX11_wasWarped_131 : decode cX11_wasWarped 131 = .ok (.ireturn, 1) := by decide +kernel
theorem dX11_wasWarped_132 : decode cX11_wasWarped 132 = .ok (.iload 4, 2) := by decide +kernel
theorem dX11_wasWarped_134 : decode cX11_wasWarped 134 = .ok (.iload 5, 2) := by decide +kernel
theorem dX11_wasWarped_136 : decode cX11_wasWarped 136 = .ok (.if_icmp .gt 12, 3) := by decide +kernel
theorem dX11_wasWarped_139 : decode cX11_wasWarped 139 = .ok (.iload 4, 2) := by decide +kernel
theorem dX11_wasWarped_141 : decode cX11_wasWarped 141 = .ok (.sipush 1000, 3) := by decide +kernel
theorem dX11_wasWarped_144 : decode cX11_wasWarped 144 = .ok (.iadd, 1) := by decide +kernel
theorem dX11_wasWarped_145 : decode cX11_wasWarped 145 = .ok (.goto 4, 3) := by decide +kernel
theorem dX11_wasWarped_148 : decode cX11_wasWarped 148 = .ok (.iconst (-1), 1) := by decide +kernel
theorem dX11_wasWarped_149 : decode cX11_wasWarped 149 = .ok (.ireturn, 1) := by decide +kernel
theorem dX11_alike_0 : decode cX11_alike 0 = .ok (.aload_n 0, 1) := by decide +kernel
theorem dX11_alike_1 : decode cX11_alike 1 = .ok (.getfield 37, 3) := by decide +kernel
theorem dX11_alike_4 : decode cX11_alike 4 = .ok (.getfield 145, 3) := by decide +kernel
theorem dX11_alike_7 : decode cX11_alike 7 = .ok (.iload_n 1, 1) := by decide +kernel
theorem dX11_alike_8 : decode cX11_alike 8 = .ok (.invokevirtual 286, 3) := by decide +kernel
theorem dX11_alike_11 : decode cX11_alike 11 = .ok (.ireturn, 1) := by decide +kernel
theorem dX11_hands_0 : decode cX11_hands 0 = .ok (.iload_n 1, 1) := by decide +kernel
theorem dX11_hands_1 : decode cX11_hands 1 = .ok (.tableswitch 95 0 3 #[31, 42, 53, 74], 31) := by decide +kernel
theorem dX11_hands_32 : decode cX11_hands 32 = .ok (.aload_n 0, 1) := by decide +kernel
theorem dX11_hands_33 : decode cX11_hands 33 = .ok (.getfield 37, 3) := by decide +kernel
theorem dX11_hands_36 : decode cX11_hands 36 = .ok (.getfield 152, 3) := by decide +kernel
theorem dX11_hands_39 : decode cX11_hands 39 = .ok (.invokevirtual 289, 3) := by decide +kernel
theorem dX11_hands_42 : decode cX11_hands 42 = .ok (.ireturn, 1) := by decide +kernel
theorem dX11_hands_43 : decode cX11_hands 43 = .ok (.aload_n 0, 1) := by decide +kernel
theorem dX11_hands_44 : decode cX11_hands 44 = .ok (.getfield 37, 3) := by decide +kernel
theorem dX11_hands_47 : decode cX11_hands 47 = .ok (.getfield 152, 3) := by decide +kernel
theorem dX11_hands_50 : decode cX11_hands 50 = .ok (.invokevirtual 292, 3) := by decide +kernel
theorem dX11_hands_53 : decode cX11_hands 53 = .ok (.ireturn, 1) := by decide +kernel
theorem dX11_hands_54 : decode cX11_hands 54 = .ok (.aload_n 0, 1) := by decide +kernel
theorem dX11_hands_55 : decode cX11_hands 55 = .ok (.getfield 37, 3) := by decide +kernel
theorem dX11_hands_58 : decode cX11_hands 58 = .ok (.getfield 152, 3) := by decide +kernel
theorem dX11_hands_61 : decode cX11_hands 61 = .ok (.aload_n 0, 1) := by decide +kernel
theorem dX11_hands_62 : decode cX11_hands 62 = .ok (.getfield 37, 3) := by decide +kernel
theorem dX11_hands_65 : decode cX11_hands 65 = .ok (.getfield 152, 3) := by decide +kernel
theorem dX11_hands_68 : decode cX11_hands 68 = .ok (.invokevirtual 289, 3) := by decide +kernel
theorem dX11_hands_71 : decode cX11_hands 71 = .ok (.invokevirtual 295, 3) := by decide +kernel
theorem dX11_hands_74 : decode cX11_hands 74 = .ok (.ireturn, 1) := by decide +kernel
theorem dX11_hands_75 : decode cX11_hands 75 = .ok (.aload_n 0, 1) := by decide +kernel
theorem dX11_hands_76 : decode cX11_hands 76 = .ok (.getfield 37, 3) := by decide +kernel
theorem dX11_hands_79 : decode cX11_hands 79 = .ok (.getfield 152, 3) := by decide +kernel
theorem dX11_hands_82 : decode cX11_hands 82 = .ok (.aload_n 0, 1) := by decide +kernel
theorem dX11_hands_83 : decode cX11_hands 83 = .ok (.getfield 37, 3) := by decide +kernel
theorem dX11_hands_86 : decode cX11_hands 86 = .ok (.getfield 134, 3) := by decide +kernel
theorem dX11_hands_89 : decode cX11_hands 89 = .ok (.getfield 140, 3) := by decide +kernel
theorem dX11_hands_92 : decode cX11_hands 92 = .ok (.invokevirtual 298, 3) := by decide +kernel
theorem dX11_hands_95 : decode cX11_hands 95 = .ok (.ireturn, 1) := by decide +kernel
theorem dX11_hands_96 : decode cX11_hands 96 = .ok (.ldc 98, 2) := by decide +kernel
theorem dX11_hands_98 : decode cX11_hands 98 = .ok (.ireturn, 1) := by decide +kernel
theorem dX11_tens_0 : decode cX11_tens 0 = .ok (.iload_n 1, 1) := by decide +kernel
theorem dX11_tens_1 : decode cX11_tens 1 = .ok (.iconst 0, 1) := by decide +kernel
theorem dX11_tens_2 : decode cX11_tens 2 = .ok (.sipush 999, 3) := by decide +kernel
theorem dX11_tens_5 : decode cX11_tens 5 = .ok (.invokestatic 94, 3) := by decide +kernel
theorem dX11_tens_8 : decode cX11_tens 8 = .ok (.ifCond .eq 22, 3) := by decide +kernel
theorem dX11_tens_11 : decode cX11_tens 11 = .ok (.iload_n 2, 1) := by decide +kernel
theorem dX11_tens_12 : decode cX11_tens 12 = .ok (.iconst 0, 1) := by decide +kernel
theorem dX11_tens_13 : decode cX11_tens 13 = .ok (.bipush 11, 2) := by decide +kernel
theorem dX11_tens_15 : decode cX11_tens 15 = .ok (.invokestatic 94, 3) := by decide +kernel
theorem dX11_tens_18 : decode cX11_tens 18 = .ok (.ifCond .eq 12, 3) := by decide +kernel
theorem dX11_tens_21 : decode cX11_tens 21 = .ok (.iload_n 3, 1) := by decide +kernel
theorem dX11_tens_22 : decode cX11_tens 22 = .ok (.iconst 0, 1) := by decide +kernel
theorem dX11_tens_23 : decode cX11_tens 23 = .ok (.iconst 1, 1) := by decide +kernel
theorem dX11_tens_24 : decode cX11_tens 24 = .ok (.invokestatic 94, 3) := by decide +kernel
theorem dX11_tens_27 : decode cX11_tens 27 = .ok (.ifCond .ne 6, 3) := by decide +kernel
theorem dX11_tens_30 : decode cX11_tens 30 = .ok (.ldc 98, 2) := by decide +kernel
theorem dX11_tens_32 : decode cX11_tens 32 = .ok (.ireturn, 1) := by decide +kernel
theorem dX11_tens_33 : decode cX11_tens 33 = .ok (.bipush 10, 2) := by decide +kernel
theorem dX11_tens_35 : decode cX11_tens 35 = .ok (.bipush 12, 2) := by decide +kernel
theorem dX11_tens_37 : decode cX11_tens 37 = .ok (.iload_n 1, 1) := by decide +kernel
theorem dX11_tens_38 : decode cX11_tens 38 = .ok (.imul, 1) := by decide +kernel
theorem dX11_tens_39 : decode cX11_tens 39 = .ok (.iload_n 2, 1) := by decide +kernel
theorem dX11_tens_40 : decode cX11_tens 40 = .ok (.iadd, 1) := by decide +kernel
theorem dX11_tens_41 : decode cX11_tens 41 = .ok (.imul, 1) := by decide +kernel
theorem dX11_tens_42 : decode cX11_tens 42 = .ok (.istore 4, 2) := by decide +kernel
theorem dX11_tens_44 : decode cX11_tens 44 = .ok (.iload_n 3, 1) := by decide +kernel
theorem dX11_tens_45 : decode cX11_tens 45 = .ok (.ifCond .ne 11, 3) := by decide +kernel
theorem dX11_tens_48 : decode cX11_tens 48 = .ok (.iload 4, 2) := by decide +kernel
theorem dX11_tens_50 : decode cX11_tens 50 = .ok (.bipush 12, 2) := by decide +kernel
theorem dX11_tens_52 : decode cX11_tens 52 = .ok (.idiv, 1) := by decide +kernel
theorem dX11_tens_53 : decode cX11_tens 53 = .ok (.goto 8, 3) := by decide +kernel
theorem dX11_tens_56 : decode cX11_tens 56 = .ok (.iload 4, 2) := by decide +kernel
theorem dX11_tens_58 : decode cX11_tens 58 = .ok (.bipush 12, 2) := by decide +kernel
theorem dX11_tens_60 : decode cX11_tens 60 = .ok (.irem, 1) := by decide +kernel
theorem dX11_tens_61 : decode cX11_tens 61 = .ok (.ireturn, 1) := by decide +kernel
theorem dX11_lean_0 : decode cX11_lean 0 = .ok (.iload_n 1, 1) := by decide +kernel
theorem dX11_lean_1 : decode cX11_lean 1 = .ok (.iconst 0, 1) := by decide +kernel
theorem dX11_lean_2 : decode cX11_lean 2 = .ok (.sipush 999, 3) := by decide +kernel
theorem dX11_lean_5 : decode cX11_lean 5 = .ok (.invokestatic 94, 3) := by decide +kernel
theorem dX11_lean_8 : decode cX11_lean 8 = .ok (.ifCond .eq 23, 3) := by decide +kernel
theorem dX11_lean_11 : decode cX11_lean 11 = .ok (.iload_n 2, 1) := by decide +kernel
theorem dX11_lean_12 : decode cX11_lean 12 = .ok (.iconst 0, 1) := by decide +kernel
theorem dX11_lean_13 : decode cX11_lean 13 = .ok (.bipush 99, 2) := by decide +kernel
theorem dX11_lean_15 : decode cX11_lean 15 = .ok (.invokestatic 94, 3) := by decide +kernel
theorem dX11_lean_18 : decode cX11_lean 18 = .ok (.ifCond .eq 13, 3) := by decide +kernel
theorem dX11_lean_21 : decode cX11_lean 21 = .ok (.iload_n 3, 1) := by decide +kernel
theorem dX11_lean_22 : decode cX11_lean 22 = .ok (.iconst 0, 1) := by decide +kernel
theorem dX11_lean_23 : decode cX11_lean 23 = .ok (.bipush 99, 2) := by decide +kernel
theorem dX11_lean_25 : decode cX11_lean 25 = .ok (.invokestatic 94, 3) := by decide +kernel
theorem dX11_lean_28 : decode cX11_lean 28 = .ok (.ifCond .ne 6, 3) := by decide +kernel
theorem dX11_lean_31 : decode cX11_lean 31 = .ok (.ldc 98, 2) := by decide +kernel
theorem dX11_lean_33 : decode cX11_lean 33 = .ok (.ireturn, 1) := by decide +kernel
theorem dX11_lean_34 : decode cX11_lean 34 = .ok (.iload_n 1, 1) := by decide +kernel
theorem dX11_lean_35 : decode cX11_lean 35 = .ok (.ifCond .ne 5, 3) := by decide +kernel
theorem dX11_lean_38 : decode cX11_lean 38 = .ok (.iconst 0, 1) := by decide +kernel
theorem dX11_lean_39 : decode cX11_lean 39 = .ok (.ireturn, 1) := by decide +kernel
theorem dX11_lean_40 : decode cX11_lean 40 = .ok (.iload_n 2, 1) := by decide +kernel
theorem dX11_lean_41 : decode cX11_lean 41 = .ok (.iload_n 3, 1) := by decide +kernel
theorem dX11_lean_42 : decode cX11_lean 42 = .ok (.iadd, 1) := by decide +kernel
theorem dX11_lean_43 : decode cX11_lean 43 = .ok (.istore 4, 2) := by decide +kernel
theorem dX11_lean_45 : decode cX11_lean 45 = .ok (.iload 4, 2) := by decide +kernel
theorem dX11_lean_47 : decode cX11_lean 47 = .ok (.iconst 1, 1) := by decide +kernel
theorem dX11_lean_48 : decode cX11_lean 48 = .ok (.if_icmp .ge 7, 3) := by decide +kernel
theorem dX11_lean_51 : decode cX11_lean 51 = .ok (.iconst (-1), 1) := by decide +kernel
theorem dX11_lean_52 : decode cX11_lean 52 = .ok (.goto 12, 3) := by decide +kernel
theorem dX11_lean_55 : decode cX11_lean 55 = .ok (.iload_n 1, 1) := by decide +kernel
theorem dX11_lean_56 : decode cX11_lean 56 = .ok (.iload 4, 2) := by decide +kernel
theorem dX11_lean_58 : decode cX11_lean 58 = .ok (.iadd, 1) := by decide +kernel
theorem dX11_lean_59 : decode cX11_lean 59 = .ok (.iconst 1, 1) := by decide +kernel
theorem dX11_lean_60 : decode cX11_lean 60 = .ok (.isub, 1) := by decide +kernel
theorem dX11_lean_61 : decode cX11_lean 61 = .ok (.iload 4, 2) := by decide +kernel
theorem dX11_lean_63 : decode cX11_lean 63 = .ok (.idiv, 1) := by decide +kernel
theorem dX11_lean_64 : decode cX11_lean 64 = .ok (.ireturn, 1) := by decide +kernel
theorem dX11_foundBy_0 : decode cX11_foundBy 0 = .ok (.iload_n 1, 1) := by decide +kernel
theorem dX11_foundBy_1 : decode cX11_foundBy 1 = .ok (.iconst 0, 1) := by decide +kernel
theorem dX11_foundBy_2 : decode cX11_foundBy 2 = .ok (.bipush 60, 2) := by decide +kernel
theorem dX11_foundBy_4 : decode cX11_foundBy 4 = .ok (.invokestatic 94, 3) := by decide +kernel
theorem dX11_foundBy_7 : decode cX11_foundBy 7 = .ok (.ifCond .eq 13, 3) := by decide +kernel
theorem dX11_foundBy_10 : decode cX11_foundBy 10 = .ok (.iload_n 2, 1) := by decide +kernel
theorem dX11_foundBy_11 : decode cX11_foundBy 11 = .ok (.iconst 0, 1) := by decide +kernel
theorem dX11_foundBy_12 : decode cX11_foundBy 12 = .ok (.bipush 100, 2) := by decide +kernel
theorem dX11_foundBy_14 : decode cX11_foundBy 14 = .ok (.invokestatic 94, 3) := by decide +kernel
theorem dX11_foundBy_17 : decode cX11_foundBy 17 = .ok (.ifCond .ne 6, 3) := by decide +kernel
theorem dX11_foundBy_20 : decode cX11_foundBy 20 = .ok (.ldc 98, 2) := by decide +kernel
theorem dX11_foundBy_22 : decode cX11_foundBy 22 = .ok (.ireturn, 1) := by decide +kernel
theorem dX11_foundBy_23 : decode cX11_foundBy 23 = .ok (.ldc2_w 301, 3) := by decide +kernel
theorem dX11_foundBy_26 : decode cX11_foundBy 26 = .ok (.lstore_n 3, 1) := by decide +kernel
theorem dX11_foundBy_27 : decode cX11_foundBy 27 = .ok (.iconst 0, 1) := by decide +kernel
theorem dX11_foundBy_28 : decode cX11_foundBy 28 = .ok (.istore 5, 2) := by decide +kernel
theorem dX11_foundBy_30 : decode cX11_foundBy 30 = .ok (.iload 5, 2) := by decide +kernel
theorem dX11_foundBy_32 : decode cX11_foundBy 32 = .ok (.iload_n 1, 1) := by decide +kernel
theorem dX11_foundBy_33 : decode cX11_foundBy 33 = .ok (.if_icmp .ge 21, 3) := by decide +kernel
theorem dX11_foundBy_36 : decode cX11_foundBy 36 = .ok (.lload_n 3, 1) := by decide +kernel
theorem dX11_foundBy_37 : decode cX11_foundBy 37 = .ok (.bipush 100, 2) := by decide +kernel
theorem dX11_foundBy_39 : decode cX11_foundBy 39 = .ok (.iload_n 2, 1) := by decide +kernel
theorem dX11_foundBy_40 : decode cX11_foundBy 40 = .ok (.isub, 1) := by decide +kernel
theorem dX11_foundBy_41 : decode cX11_foundBy 41 = .ok (.i2l, 1) := by decide +kernel
theorem dX11_foundBy_42 : decode cX11_foundBy 42 = .ok (.lmul, 1) := by decide +kernel
theorem dX11_foundBy_43 : decode cX11_foundBy 43 = .ok (.ldc2_w 303, 3) := by decide +kernel
theorem dX11_foundBy_46 : decode cX11_foundBy 46 = .ok (.ldiv, 1) := by decide +kernel
theorem dX11_foundBy_47 : decode cX11_foundBy 47 = .ok (.lstore_n 3, 1) := by decide +kernel
theorem dX11_foundBy_48 : decode cX11_foundBy 48 = .ok (.iinc 5 1, 3) := by decide +kernel
theorem dX11_foundBy_51 : decode cX11_foundBy 51 = .ok (.goto (-21), 3) := by decide +kernel
theorem dX11_foundBy_54 : decode cX11_foundBy 54 = .ok (.lload_n 3, 1) := by decide +kernel
theorem dX11_foundBy_55 : decode cX11_foundBy 55 = .ok (.l2i, 1) := by decide +kernel
theorem dX11_foundBy_56 : decode cX11_foundBy 56 = .ok (.ireturn, 1) := by decide +kernel
theorem dX11_see_0 : decode cX11_see 0 = .ok (.iload_n 1, 1) := by decide +kernel
theorem dX11_see_1 : decode cX11_see 1 = .ok (.iconst 1, 1) := by decide +kernel
theorem dX11_see_2 : decode cX11_see 2 = .ok (.bipush 9, 2) := by decide +kernel
theorem dX11_see_4 : decode cX11_see 4 = .ok (.invokestatic 94, 3) := by decide +kernel
theorem dX11_see_7 : decode cX11_see 7 = .ok (.ifCond .eq 14, 3) := by decide +kernel
theorem dX11_see_10 : decode cX11_see 10 = .ok (.iload_n 2, 1) := by decide +kernel
theorem dX11_see_11 : decode cX11_see 11 = .ok (.iconst 0, 1) := by decide +kernel
theorem dX11_see_12 : decode cX11_see 12 = .ok (.sipush 9999, 3) := by decide +kernel
theorem dX11_see_15 : decode cX11_see 15 = .ok (.invokestatic 94, 3) := by decide +kernel
theorem dX11_see_18 : decode cX11_see 18 = .ok (.ifCond .ne 6, 3) := by decide +kernel
theorem dX11_see_21 : decode cX11_see 21 = .ok (.ldc 98, 2) := by decide +kernel
theorem dX11_see_23 : decode cX11_see 23 = .ok (.ireturn, 1) := by decide +kernel
theorem dX11_see_24 : decode cX11_see 24 = .ok (.aload_n 0, 1) := by decide +kernel
theorem dX11_see_25 : decode cX11_see 25 = .ok (.getfield 83, 3) := by decide +kernel
theorem dX11_see_28 : decode cX11_see 28 = .ok (.getfield 118, 3) := by decide +kernel
theorem dX11_see_31 : decode cX11_see 31 = .ok (.bipush 6, 2) := by decide +kernel
theorem dX11_see_33 : decode cX11_see 33 = .ok (.if_icmp .lt 6, 3) := by decide +kernel
theorem dX11_see_36 : decode cX11_see 36 = .ok (.ldc 102, 2) := by decide +kernel
theorem dX11_see_38 : decode cX11_see 38 = .ok (.ireturn, 1) := by decide +kernel
theorem dX11_see_39 : decode cX11_see 39 = .ok (.aload_n 0, 1) := by decide +kernel
theorem dX11_see_40 : decode cX11_see 40 = .ok (.getfield 83, 3) := by decide +kernel
theorem dX11_see_43 : decode cX11_see 43 = .ok (.iload_n 1, 1) := by decide +kernel
theorem dX11_see_44 : decode cX11_see 44 = .ok (.iload_n 2, 1) := by decide +kernel
theorem dX11_see_45 : decode cX11_see 45 = .ok (.invokevirtual 305, 3) := by decide +kernel
theorem dX11_see_48 : decode cX11_see 48 = .ok (.aload_n 0, 1) := by decide +kernel
theorem dX11_see_49 : decode cX11_see 49 = .ok (.getfield 83, 3) := by decide +kernel
theorem dX11_see_52 : decode cX11_see 52 = .ok (.getfield 118, 3) := by decide +kernel
theorem dX11_see_55 : decode cX11_see 55 = .ok (.ireturn, 1) := by decide +kernel
theorem dX11_rods_0 : decode cX11_rods 0 = .ok (.iload_n 1, 1) := by decide +kernel
theorem dX11_rods_1 : decode cX11_rods 1 = .ok (.iconst 0, 1) := by decide +kernel
theorem dX11_rods_2 : decode cX11_rods 2 = .ok (.iconst 2, 1) := by decide +kernel
theorem dX11_rods_3 : decode cX11_rods 3 = .ok (.invokestatic 94, 3) := by decide +kernel
theorem dX11_rods_6 : decode cX11_rods 6 = .ok (.ifCond .ne 6, 3) := by decide +kernel
theorem dX11_rods_9 : decode cX11_rods 9 = .ok (.ldc 98, 2) := by decide +kernel
theorem dX11_rods_11 : decode cX11_rods 11 = .ok (.ireturn, 1) := by decide +kernel
theorem dX11_rods_12 : decode cX11_rods 12 = .ok (.aload_n 0, 1) := by decide +kernel
theorem dX11_rods_13 : decode cX11_rods 13 = .ok (.getfield 83, 3) := by decide +kernel
theorem dX11_rods_16 : decode cX11_rods 16 = .ok (.invokevirtual 308, 3) := by decide +kernel
theorem dX11_rods_19 : decode cX11_rods 19 = .ok (.istore_n 2, 1) := by decide +kernel
theorem dX11_rods_20 : decode cX11_rods 20 = .ok (.iload_n 1, 1) := by decide +kernel
theorem dX11_rods_21 : decode cX11_rods 21 = .ok (.ifCond .ne 5, 3) := by decide +kernel
theorem dX11_rods_24 : decode cX11_rods 24 = .ok (.iload_n 2, 1) := by decide +kernel
theorem dX11_rods_25 : decode cX11_rods 25 = .ok (.ireturn, 1) := by decide +kernel
theorem dX11_rods_26 : decode cX11_rods 26 = .ok (.aload_n 0, 1) := by decide +kernel
theorem dX11_rods_27 : decode cX11_rods 27 = .ok (.getfield 83, 3) := by decide +kernel
theorem dX11_rods_30 : decode cX11_rods 30 = .ok (.invokevirtual 311, 3) := by decide +kernel
theorem dX11_rods_33 : decode cX11_rods 33 = .ok (.istore_n 3, 1) := by decide +kernel
theorem dX11_rods_34 : decode cX11_rods 34 = .ok (.iload_n 3, 1) := by decide +kernel
theorem dX11_rods_35 : decode cX11_rods 35 = .ok (.iconst (-1), 1) := by decide +kernel
theorem dX11_rods_36 : decode cX11_rods 36 = .ok (.if_icmp .ne 5, 3) := by decide +kernel
theorem dX11_rods_39 : decode cX11_rods 39 = .ok (.iconst (-1), 1) := by decide +kernel
theorem dX11_rods_40 : decode cX11_rods 40 = .ok (.ireturn, 1) := by decide +kernel
theorem dX11_rods_41 : decode cX11_rods 41 = .ok (.iload_n 1, 1) := by decide +kernel
theorem dX11_rods_42 : decode cX11_rods 42 = .ok (.iconst 1, 1) := by decide +kernel
theorem dX11_rods_43 : decode cX11_rods 43 = .ok (.if_icmp .ne 7, 3) := by decide +kernel
theorem dX11_rods_46 : decode cX11_rods 46 = .ok (.iload_n 3, 1) := by decide +kernel
theorem dX11_rods_47 : decode cX11_rods 47 = .ok (.goto 16, 3) := by decide +kernel
theorem dX11_rods_50 : decode cX11_rods 50 = .ok (.aload_n 0, 1) := by decide +kernel
theorem dX11_rods_51 : decode cX11_rods 51 = .ok (.getfield 83, 3) := by decide +kernel
theorem dX11_rods_54 : decode cX11_rods 54 = .ok (.getfield 314, 3) := by decide +kernel
theorem dX11_rods_57 : decode cX11_rods 57 = .ok (.iload_n 3, 1) := by decide +kernel
theorem dX11_rods_58 : decode cX11_rods 58 = .ok (.iaload, 1) := by decide +kernel
theorem dX11_rods_59 : decode cX11_rods 59 = .ok (.sipush 1000, 3) := by decide +kernel
theorem dX11_rods_62 : decode cX11_rods 62 = .ok (.iadd, 1) := by decide +kernel
theorem dX11_rods_63 : decode cX11_rods 63 = .ok (.ireturn, 1) := by decide +kernel
theorem dX11_door_0 : decode cX11_door 0 = .ok (.aload_n 0, 1) := by decide +kernel
theorem dX11_door_1 : decode cX11_door 1 = .ok (.getfield 83, 3) := by decide +kernel
theorem dX11_door_4 : decode cX11_door 4 = .ok (.invokevirtual 317, 3) := by decide +kernel
theorem dX11_door_7 : decode cX11_door 7 = .ok (.ireturn, 1) := by decide +kernel
theorem dX11_write_0 : decode cX11_write 0 = .ok (.aload_n 0, 1) := by decide +kernel
theorem dX11_write_1 : decode cX11_write 1 = .ok (.iload_n 1, 1) := by decide +kernel
theorem dX11_write_2 : decode cX11_write 2 = .ok (.invokevirtual 190, 3) := by decide +kernel
theorem dX11_write_5 : decode cX11_write 5 = .ok (.ifCond .ne 6, 3) := by decide +kernel
theorem dX11_write_8 : decode cX11_write 8 = .ok (.ldc 179, 2) := by decide +kernel
theorem dX11_write_10 : decode cX11_write 10 = .ok (.ireturn, 1) := by decide +kernel
theorem dX11_write_11 : decode cX11_write 11 = .ok (.iload_n 2, 1) := by decide +kernel
theorem dX11_write_12 : decode cX11_write 12 = .ok (.iconst 1, 1) := by decide +kernel
theorem dX11_write_13 : decode cX11_write 13 = .ok (.sipush 999, 3) := by decide +kernel
theorem dX11_write_16 : decode cX11_write 16 = .ok (.invokestatic 94, 3) := by decide +kernel
theorem dX11_write_19 : decode cX11_write 19 = .ok (.ifCond .ne 6, 3) := by decide +kernel
theorem dX11_write_22 : decode cX11_write 22 = .ok (.ldc 98, 2) := by decide +kernel
theorem dX11_write_24 : decode cX11_write 24 = .ok (.ireturn, 1) := by decide +kernel
theorem dX11_write_25 : decode cX11_write 25 = .ok (.aload_n 0, 1) := by decide +kernel
theorem dX11_write_26 : decode cX11_write 26 = .ok (.getfield 90, 3) := by decide +kernel
theorem dX11_write_29 : decode cX11_write 29 = .ok (.getfield 121, 3) := by decide +kernel
theorem dX11_write_32 : decode cX11_write 32 = .ok (.bipush 15, 2) := by decide +kernel
theorem dX11_write_34 : decode cX11_write 34 = .ok (.if_icmp .lt 6, 3) := by decide +kernel
theorem dX11_write_37 : decode cX11_write 37 = .ok (.ldc 102, 2) := by decide +kernel
theorem dX11_write_39 : decode cX11_write 39 = .ok (.ireturn, 1) := by decide +kernel
theorem dX11_write_40 : decode cX11_write 40 = .ok (.aload_n 0, 1) := by decide +kernel
theorem dX11_write_41 : decode cX11_write 41 = .ok (.getfield 90, 3) := by decide +kernel
theorem dX11_write_44 : decode cX11_write 44 = .ok (.iload_n 1, 1) := by decide +kernel
theorem dX11_write_45 : decode cX11_write 45 = .ok (.iload_n 2, 1) := by decide +kernel
theorem dX11_write_46 : decode cX11_write 46 = .ok (.invokevirtual 320, 3) := by decide +kernel
theorem dX11_write_49 : decode cX11_write 49 = .ok (.aload_n 0, 1) := by decide +kernel
theorem dX11_write_50 : decode cX11_write 50 = .ok (.getfield 90, 3) := by decide +kernel
theorem dX11_write_53 : decode cX11_write 53 = .ok (.getfield 121, 3) := by decide +kernel
theorem dX11_write_56 : decode cX11_write 56 = .ok (.ireturn, 1) := by decide +kernel
theorem dX11_tear_0 : decode cX11_tear 0 = .ok (.aload_n 0, 1) := by decide +kernel
theorem dX11_tear_1 : decode cX11_tear 1 = .ok (.getfield 83, 3) := by decide +kernel
theorem dX11_tear_4 : decode cX11_tear 4 = .ok (.getfield 118, 3) := by decide +kernel
theorem dX11_tear_7 : decode cX11_tear 7 = .ok (.aload_n 0, 1) := by decide +kernel
theorem dX11_tear_8 : decode cX11_tear 8 = .ok (.getfield 90, 3) := by decide +kernel
theorem dX11_tear_11 : decode cX11_tear 11 = .ok (.getfield 121, 3) := by decide +kernel
theorem dX11_tear_14 : decode cX11_tear 14 = .ok (.iadd, 1) := by decide +kernel
theorem dX11_tear_15 : decode cX11_tear 15 = .ok (.istore_n 1, 1) := by decide +kernel
theorem dX11_tear_16 : decode cX11_tear 16 = .ok (.aload_n 0, 1) := by decide +kernel
theorem dX11_tear_17 : decode cX11_tear 17 = .ok (.getfield 83, 3) := by decide +kernel
theorem dX11_tear_20 : decode cX11_tear 20 = .ok (.iconst 0, 1) := by decide +kernel
theorem dX11_tear_21 : decode cX11_tear 21 = .ok (.putfield 118, 3) := by decide +kernel
theorem dX11_tear_24 : decode cX11_tear 24 = .ok (.aload_n 0, 1) := by decide +kernel
theorem dX11_tear_25 : decode cX11_tear 25 = .ok (.getfield 90, 3) := by decide +kernel
theorem dX11_tear_28 : decode cX11_tear 28 = .ok (.iconst 0, 1) := by decide +kernel
theorem dX11_tear_29 : decode cX11_tear 29 = .ok (.putfield 121, 3) := by decide +kernel
theorem dX11_tear_32 : decode cX11_tear 32 = .ok (.iload_n 1, 1) := by decide +kernel
theorem dX11_tear_33 : decode cX11_tear 33 = .ok (.ireturn, 1) := by decide +kernel
theorem dX11_judge_0 : decode cX11_judge 0 = .ok (.aload_n 0, 1) := by decide +kernel
theorem dX11_judge_1 : decode cX11_judge 1 = .ok (.getfield 90, 3) := by decide +kernel
theorem dX11_judge_4 : decode cX11_judge 4 = .ok (.aload_n 0, 1) := by decide +kernel
theorem dX11_judge_5 : decode cX11_judge 5 = .ok (.getfield 37, 3) := by decide +kernel
theorem dX11_judge_8 : decode cX11_judge 8 = .ok (.invokevirtual 321, 3) := by decide +kernel
theorem dX11_judge_11 : decode cX11_judge 11 = .ok (.ireturn, 1) := by decide +kernel
theorem dX11_seed_0 : decode cX11_seed 0 = .ok (.iload_n 1, 1) := by decide +kernel
theorem dX11_seed_1 : decode cX11_seed 1 = .ok (.ifCond .ge 6, 3) := by decide +kernel
theorem dX11_seed_4 : decode cX11_seed 4 = .ok (.ldc 98, 2) := by decide +kernel
theorem dX11_seed_6 : decode cX11_seed 6 = .ok (.ireturn, 1) := by decide +kernel
theorem dX11_seed_7 : decode cX11_seed 7 = .ok (.aload_n 0, 1) := by decide +kernel
theorem dX11_seed_8 : decode cX11_seed 8 = .ok (.getfield 325, 3) := by decide +kernel
theorem dX11_seed_11 : decode cX11_seed 11 = .ok (.istore_n 2, 1) := by decide +kernel
theorem dX11_seed_12 : decode cX11_seed 12 = .ok (.aload_n 0, 1) := by decide +kernel
theorem dX11_seed_13 : decode cX11_seed 13 = .ok (.iload_n 1, 1) := by decide +kernel
theorem dX11_seed_14 : decode cX11_seed 14 = .ok (.putfield 325, 3) := by decide +kernel
theorem dX11_seed_17 : decode cX11_seed 17 = .ok (.iload_n 2, 1) := by decide +kernel
theorem dX11_seed_18 : decode cX11_seed 18 = .ok (.ireturn, 1) := by decide +kernel
theorem dX11_keep_0 : decode cX11_keep 0 = .ok (.iload_n 1, 1) := by decide +kernel
theorem dX11_keep_1 : decode cX11_keep 1 = .ok (.iconst 0, 1) := by decide +kernel
theorem dX11_keep_2 : decode cX11_keep 2 = .ok (.iconst 1, 1) := by decide +kernel
theorem dX11_keep_3 : decode cX11_keep 3 = .ok (.invokestatic 94, 3) := by decide +kernel
theorem dX11_keep_6 : decode cX11_keep 6 = .ok (.ifCond .ne 6, 3) := by decide +kernel
theorem dX11_keep_9 : decode cX11_keep 9 = .ok (.ldc 179, 2) := by decide +kernel
theorem dX11_keep_11 : decode cX11_keep 11 = .ok (.ireturn, 1) := by decide +kernel
theorem dX11_keep_12 : decode cX11_keep 12 = .ok (.aload_n 0, 1) := by decide +kernel
theorem dX11_keep_13 : decode cX11_keep 13 = .ok (.getfield 55, 3) := by decide +kernel
theorem dX11_keep_16 : decode cX11_keep 16 = .ok (.iload_n 1, 1) := by decide +kernel
theorem dX11_keep_17 : decode cX11_keep 17 = .ok (.aaload, 1) := by decide +kernel
theorem dX11_keep_18 : decode cX11_keep 18 = .ok (.aload_n 0, 1) := by decide +kernel
theorem dX11_keep_19 : decode cX11_keep 19 = .ok (.getfield 37, 3) := by decide +kernel
theorem dX11_keep_22 : decode cX11_keep 22 = .ok (.invokevirtual 328, 3) := by decide +kernel
theorem dX11_keep_25 : decode cX11_keep 25 = .ok (.aload_n 0, 1) := by decide +kernel
theorem dX11_keep_26 : decode cX11_keep 26 = .ok (.getfield 63, 3) := by decide +kernel
theorem dX11_keep_29 : decode cX11_keep 29 = .ok (.iload_n 1, 1) := by decide +kernel
theorem dX11_keep_30 : decode cX11_keep 30 = .ok (.aload_n 0, 1) := by decide +kernel
theorem dX11_keep_31 : decode cX11_keep 31 = .ok (.getfield 325, 3) := by decide +kernel
theorem dX11_keep_34 : decode cX11_keep 34 = .ok (.iastore, 1) := by decide +kernel
theorem dX11_keep_35 : decode cX11_keep 35 = .ok (.aload_n 0, 1) := by decide +kernel
theorem dX11_keep_36 : decode cX11_keep 36 = .ok (.getfield 59, 3) := by decide +kernel
theorem dX11_keep_39 : decode cX11_keep 39 = .ok (.iload_n 1, 1) := by decide +kernel
theorem dX11_keep_40 : decode cX11_keep 40 = .ok (.iconst 1, 1) := by decide +kernel
theorem dX11_keep_41 : decode cX11_keep 41 = .ok (.bastore, 1) := by decide +kernel
theorem dX11_keep_42 : decode cX11_keep 42 = .ok (.aload_n 0, 1) := by decide +kernel
theorem dX11_keep_43 : decode cX11_keep 43 = .ok (.getfield 51, 3) := by decide +kernel
theorem dX11_keep_46 : decode cX11_keep 46 = .ok (.invokevirtual 115, 3) := by decide +kernel
theorem dX11_keep_49 : decode cX11_keep 49 = .ok (.iconst 1, 1) := by decide +kernel
theorem dX11_keep_50 : decode cX11_keep 50 = .ok (.ireturn, 1) := by decide +kernel
theorem dX11_goBack_0 : decode cX11_goBack 0 = .ok (.iload_n 1, 1) := by decide +kernel
theorem dX11_goBack_1 : decode cX11_goBack 1 = .ok (.iconst 0, 1) := by decide +kernel
theorem dX11_goBack_2 : decode cX11_goBack 2 = .ok (.iconst 1, 1) := by decide +kernel
theorem dX11_goBack_3 : decode cX11_goBack 3 = .ok (.invokestatic 94, 3) := by decide +kernel
theorem dX11_goBack_6 : decode cX11_goBack 6 = .ok (.ifCond .ne 6, 3) := by decide +kernel
theorem dX11_goBack_9 : decode cX11_goBack 9 = .ok (.ldc 179, 2) := by decide +kernel
theorem dX11_goBack_11 : decode cX11_goBack 11 = .ok (.ireturn, 1) := by decide +kernel
theorem dX11_goBack_12 : decode cX11_goBack 12 = .ok (.aload_n 0, 1) := by decide +kernel
theorem dX11_goBack_13 : decode cX11_goBack 13 = .ok (.getfield 59, 3) := by decide +kernel
theorem dX11_goBack_16 : decode cX11_goBack 16 = .ok (.iload_n 1, 1) := by decide +kernel
theorem dX11_goBack_17 : decode cX11_goBack 17 = .ok (.baload, 1) := by decide +kernel
theorem dX11_goBack_18 : decode cX11_goBack 18 = .ok (.ifCond .ne 6, 3) := by decide +kernel
theorem dX11_goBack_21 : decode cX11_goBack 21 = .ok (.ldc 168, 2) := by decide +kernel
theorem dX11_goBack_23 : decode cX11_goBack 23 = .ok (.ireturn, 1) := by decide +kernel
theorem dX11_goBack_24 : decode cX11_goBack 24 = .ok (.aload_n 0, 1) := by decide +kernel
theorem dX11_goBack_25 : decode cX11_goBack 25 = .ok (.getfield 37, 3) := by decide +kernel
theorem dX11_goBack_28 : decode cX11_goBack 28 = .ok (.aload_n 0, 1) := by decide +kernel
theorem dX11_goBack_29 : decode cX11_goBack 29 = .ok (.getfield 55, 3) := by decide +kernel
theorem dX11_goBack_32 : decode cX11_goBack 32 = .ok (.iload_n 1, 1) := by decide +kernel
theorem dX11_goBack_33 : decode cX11_goBack 33 = .ok (.aaload, 1) := by decide +kernel
theorem dX11_goBack_34 : decode cX11_goBack 34 = .ok (.invokevirtual 328, 3) := by decide +kernel
theorem dX11_goBack_37 : decode cX11_goBack 37 = .ok (.aload_n 0, 1) := by decide +kernel
theorem dX11_goBack_38 : decode cX11_goBack 38 = .ok (.aload_n 0, 1) := by decide +kernel
theorem dX11_goBack_39 : decode cX11_goBack 39 = .ok (.getfield 63, 3) := by decide +kernel
theorem dX11_goBack_42 : decode cX11_goBack 42 = .ok (.iload_n 1, 1) := by decide +kernel
theorem dX11_goBack_43 : decode cX11_goBack 43 = .ok (.iaload, 1) := by decide +kernel
theorem dX11_goBack_44 : decode cX11_goBack 44 = .ok (.putfield 325, 3) := by decide +kernel
theorem dX11_goBack_47 : decode cX11_goBack 47 = .ok (.aload_n 0, 1) := by decide +kernel
theorem dX11_goBack_48 : decode cX11_goBack 48 = .ok (.getfield 51, 3) := by decide +kernel
theorem dX11_goBack_51 : decode cX11_goBack 51 = .ok (.invokevirtual 115, 3) := by decide +kernel
theorem dX11_goBack_54 : decode cX11_goBack 54 = .ok (.iconst 1, 1) := by decide +kernel
theorem dX11_goBack_55 : decode cX11_goBack 55 = .ok (.ireturn, 1) := by decide +kernel
theorem dX11_within_0 : decode cX11_within 0 = .ok (.iload_n 0, 1) := by decide +kernel
theorem dX11_within_1 : decode cX11_within 1 = .ok (.iload_n 1, 1) := by decide +kernel
theorem dX11_within_2 : decode cX11_within 2 = .ok (.if_icmp .lt 12, 3) := by decide +kernel
theorem dX11_within_5 : decode cX11_within 5 = .ok (.iload_n 0, 1) := by decide +kernel
theorem dX11_within_6 : decode cX11_within 6 = .ok (.iload_n 2, 1) := by decide +kernel
theorem dX11_within_7 : decode cX11_within 7 = .ok (.if_icmp .gt 7, 3) := by decide +kernel
theorem dX11_within_10 : decode cX11_within 10 = .ok (.iconst 1, 1) := by decide +kernel
theorem dX11_within_11 : decode cX11_within 11 = .ok (.goto 4, 3) := by decide +kernel
theorem dX11_within_14 : decode cX11_within 14 = .ok (.iconst 0, 1) := by decide +kernel
theorem dX11_within_15 : decode cX11_within 15 = .ok (.ireturn, 1) := by decide +kernel
theorem dX11_noRealm_0 : decode cX11_noRealm 0 = .ok (.aload_n 0, 1) := by decide +kernel
theorem dX11_noRealm_1 : decode cX11_noRealm 1 = .ok (.getfield 27, 3) := by decide +kernel
theorem dX11_noRealm_4 : decode cX11_noRealm 4 = .ok (.getfield 122, 3) := by decide +kernel
theorem dX11_noRealm_7 : decode cX11_noRealm 7 = .ok (.iconst 1, 1) := by decide +kernel
theorem dX11_noRealm_8 : decode cX11_noRealm 8 = .ok (.if_icmp .ge 7, 3) := by decide +kernel
theorem dX11_noRealm_11 : decode cX11_noRealm 11 = .ok (.iconst 1, 1) := by decide +kernel
theorem dX11_noRealm_12 : decode cX11_noRealm 12 = .ok (.goto 4, 3) := by decide +kernel
theorem dX11_noRealm_15 : decode cX11_noRealm 15 = .ok (.iconst 0, 1) := by decide +kernel
theorem dX11_noRealm_16 : decode cX11_noRealm 16 = .ok (.ireturn, 1) := by decide +kernel
theorem dX11_noRodAtHand_0 : decode cX11_noRodAtHand 0 = .ok (.aload_n 0, 1) := by decide +kernel
theorem dX11_noRodAtHand_1 : decode cX11_noRodAtHand 1 = .ok (.invokevirtual 164, 3) := by decide +kernel
theorem dX11_noRodAtHand_4 : decode cX11_noRodAtHand 4 = .ok (.ifCond .ne 16, 3) := by decide +kernel
theorem dX11_noRodAtHand_7 : decode cX11_noRodAtHand 7 = .ok (.aload_n 0, 1) := by decide +kernel
theorem dX11_noRodAtHand_8 : decode cX11_noRodAtHand 8 = .ok (.getfield 37, 3) := by decide +kernel
theorem dX11_noRodAtHand_11 : decode cX11_noRodAtHand 11 = .ok (.getfield 134, 3) := by decide +kernel
theorem dX11_noRodAtHand_14 : decode cX11_noRodAtHand 14 = .ok (.getfield 141, 3) := by decide +kernel
theorem dX11_noRodAtHand_17 : decode cX11_noRodAtHand 17 = .ok (.ifCond .eq 7, 3) := by decide +kernel
theorem dX11_noRodAtHand_20 : decode cX11_noRodAtHand 20 = .ok (.iconst 1, 1) := by decide +kernel
theorem dX11_noRodAtHand_21 : decode cX11_noRodAtHand 21 = .ok (.goto 4, 3) := by decide +kernel
theorem dX11_noRodAtHand_24 : decode cX11_noRodAtHand 24 = .ok (.iconst 0, 1) := by decide +kernel
theorem dX11_noRodAtHand_25 : decode cX11_noRodAtHand 25 = .ok (.ireturn, 1) := by decide +kernel
theorem dX11_isOffice_0 : decode cX11_isOffice 0 = .ok (.iload_n 1, 1) := by decide +kernel
theorem dX11_isOffice_1 : decode cX11_isOffice 1 = .ok (.iconst 0, 1) := by decide +kernel
theorem dX11_isOffice_2 : decode cX11_isOffice 2 = .ok (.aload_n 0, 1) := by decide +kernel
theorem dX11_isOffice_3 : decode cX11_isOffice 3 = .ok (.getfield 27, 3) := by decide +kernel
theorem dX11_isOffice_6 : decode cX11_isOffice 6 = .ok (.getfield 128, 3) := by decide +kernel
theorem dX11_isOffice_9 : decode cX11_isOffice 9 = .ok (.iconst 1, 1) := by decide +kernel
theorem dX11_isOffice_10 : decode cX11_isOffice 10 = .ok (.isub, 1) := by decide +kernel
theorem dX11_isOffice_11 : decode cX11_isOffice 11 = .ok (.invokestatic 94, 3) := by decide +kernel
theorem dX11_isOffice_14 : decode cX11_isOffice 14 = .ok (.ireturn, 1) := by decide +kernel
theorem dX11_isPerson_0 : decode cX11_isPerson 0 = .ok (.iload_n 1, 1) := by decide +kernel
theorem dX11_isPerson_1 : decode cX11_isPerson 1 = .ok (.iconst 0, 1) := by decide +kernel
theorem dX11_isPerson_2 : decode cX11_isPerson 2 = .ok (.aload_n 0, 1) := by decide +kernel
theorem dX11_isPerson_3 : decode cX11_isPerson 3 = .ok (.getfield 27, 3) := by decide +kernel
theorem dX11_isPerson_6 : decode cX11_isPerson 6 = .ok (.getfield 131, 3) := by decide +kernel
theorem dX11_isPerson_9 : decode cX11_isPerson 9 = .ok (.iconst 1, 1) := by decide +kernel
theorem dX11_isPerson_10 : decode cX11_isPerson 10 = .ok (.isub, 1) := by decide +kernel
theorem dX11_isPerson_11 : decode cX11_isPerson 11 = .ok (.invokestatic 94, 3) := by decide +kernel
theorem dX11_isPerson_14 : decode cX11_isPerson 14 = .ok (.ireturn, 1) := by decide +kernel
theorem dX11_refusalOfYears_0 : decode cX11_refusalOfYears 0 = .ok (.iload_n 1, 1) := by decide +kernel
theorem dX11_refusalOfYears_1 : decode cX11_refusalOfYears 1 = .ok (.iconst 1, 1) := by decide +kernel
theorem dX11_refusalOfYears_2 : decode cX11_refusalOfYears 2 = .ok (.bipush 60, 2) := by decide +kernel
theorem dX11_refusalOfYears_4 : decode cX11_refusalOfYears 4 = .ok (.invokestatic 94, 3) := by decide +kernel
theorem dX11_refusalOfYears_7 : decode cX11_refusalOfYears 7 = .ok (.ifCond .ne 6, 3) := by decide +kernel
theorem dX11_refusalOfYears_10 : decode cX11_refusalOfYears 10 = .ok (.ldc 98, 2) := by decide +kernel
theorem dX11_refusalOfYears_12 : decode cX11_refusalOfYears 12 = .ok (.ireturn, 1) := by decide +kernel
theorem dX11_refusalOfYears_13 : decode cX11_refusalOfYears 13 = .ok (.aload_n 0, 1) := by decide +kernel
theorem dX11_refusalOfYears_14 : decode cX11_refusalOfYears 14 = .ok (.invokevirtual 164, 3) := by decide +kernel
theorem dX11_refusalOfYears_17 : decode cX11_refusalOfYears 17 = .ok (.ifCond .eq 6, 3) := by decide +kernel
theorem dX11_refusalOfYears_20 : decode cX11_refusalOfYears 20 = .ok (.ldc 168, 2) := by decide +kernel
theorem dX11_refusalOfYears_22 : decode cX11_refusalOfYears 22 = .ok (.ireturn, 1) := by decide +kernel
theorem dX11_refusalOfYears_23 : decode cX11_refusalOfYears 23 = .ok (.aload_n 0, 1) := by decide +kernel
theorem dX11_refusalOfYears_24 : decode cX11_refusalOfYears 24 = .ok (.getfield 37, 3) := by decide +kernel
theorem dX11_refusalOfYears_27 : decode cX11_refusalOfYears 27 = .ok (.getfield 134, 3) := by decide +kernel
theorem dX11_refusalOfYears_30 : decode cX11_refusalOfYears 30 = .ok (.getfield 137, 3) := by decide +kernel
theorem dX11_refusalOfYears_33 : decode cX11_refusalOfYears 33 = .ok (.sipush 9000, 3) := by decide +kernel
theorem dX11_refusalOfYears_36 : decode cX11_refusalOfYears 36 = .ok (.if_icmp .le 8, 3) := by decide +kernel
theorem dX11_refusalOfYears_39 : decode cX11_refusalOfYears 39 = .ok (.ldc 102, 2) := by decide +kernel
theorem dX11_refusalOfYears_41 : decode cX11_refusalOfYears 41 = .ok (.goto 4, 3) := by decide +kernel
theorem dX11_refusalOfYears_44 : decode cX11_refusalOfYears 44 = .ok (.iconst 0, 1) := by decide +kernel
theorem dX11_refusalOfYears_45 : decode cX11_refusalOfYears 45 = .ok (.ireturn, 1) := by decide +kernel
theorem dX11_refusalOfTrial_0 : decode cX11_refusalOfTrial 0 = .ok (.iload_n 1, 1) := by decide +kernel
theorem dX11_refusalOfTrial_1 : decode cX11_refusalOfTrial 1 = .ok (.iconst 0, 1) := by decide +kernel
theorem dX11_refusalOfTrial_2 : decode cX11_refusalOfTrial 2 = .ok (.bipush 60, 2) := by decide +kernel
theorem dX11_refusalOfTrial_4 : decode cX11_refusalOfTrial 4 = .ok (.invokestatic 94, 3) := by decide +kernel
theorem dX11_refusalOfTrial_7 : decode cX11_refusalOfTrial 7 = .ok (.ifCond .eq 12, 3) := by decide +kernel
theorem dX11_refusalOfTrial_10 : decode cX11_refusalOfTrial 10 = .ok (.iload_n 2, 1) := by decide +kernel
theorem dX11_refusalOfTrial_11 : decode cX11_refusalOfTrial 11 = .ok (.iconst 0, 1) := by decide +kernel
theorem dX11_refusalOfTrial_12 : decode cX11_refusalOfTrial 12 = .ok (.iconst 1, 1) := by decide +kernel
theorem dX11_refusalOfTrial_13 : decode cX11_refusalOfTrial 13 = .ok (.invokestatic 94, 3) := by decide +kernel
theorem dX11_refusalOfTrial_16 : decode cX11_refusalOfTrial 16 = .ok (.ifCond .ne 6, 3) := by decide +kernel
theorem dX11_refusalOfTrial_19 : decode cX11_refusalOfTrial 19 = .ok (.ldc 98, 2) := by decide +kernel
theorem dX11_refusalOfTrial_21 : decode cX11_refusalOfTrial 21 = .ok (.ireturn, 1) := by decide +kernel
theorem dX11_refusalOfTrial_22 : decode cX11_refusalOfTrial 22 = .ok (.aload_n 0, 1) := by decide +kernel
theorem dX11_refusalOfTrial_23 : decode cX11_refusalOfTrial 23 = .ok (.invokevirtual 164, 3) := by decide +kernel
theorem dX11_refusalOfTrial_26 : decode cX11_refusalOfTrial 26 = .ok (.ifCond .eq 8, 3) := by decide +kernel
theorem dX11_refusalOfTrial_29 : decode cX11_refusalOfTrial 29 = .ok (.ldc 168, 2) := by decide +kernel
theorem dX11_refusalOfTrial_31 : decode cX11_refusalOfTrial 31 = .ok (.goto 4, 3) := by decide +kernel
theorem dX11_refusalOfTrial_34 : decode cX11_refusalOfTrial 34 = .ok (.iconst 0, 1) := by decide +kernel
theorem dX11_refusalOfTrial_35 : decode cX11_refusalOfTrial 35 = .ok (.ireturn, 1) := by decide +kernel
theorem dX11_draw_0 : decode cX11_draw 0 = .ok (.aload_n 0, 1) := by decide +kernel
theorem dX11_draw_1 : decode cX11_draw 1 = .ok (.aload_n 0, 1) := by decide +kernel
theorem dX11_draw_2 : decode cX11_draw 2 = .ok (.getfield 325, 3) := by decide +kernel
theorem dX11_draw_5 : decode cX11_draw 5 = .ok (.i2l, 1) := by decide +kernel
theorem dX11_draw_6 : decode cX11_draw 6 = .ok (.ldc2_w 331, 3) := by decide +kernel
theorem dX11_draw_9 : decode cX11_draw 9 = .ok (.lmul, 1) := by decide +kernel
theorem dX11_draw_10 : decode cX11_draw 10 = .ok (.ldc2_w 333, 3) := by decide +kernel
theorem dX11_draw_13 : decode cX11_draw 13 = .ok (.ladd, 1) := by decide +kernel
theorem dX11_draw_14 : decode cX11_draw 14 = .ok (.ldc2_w 335, 3) := by decide +kernel
theorem dX11_draw_17 : decode cX11_draw 17 = .ok (.land, 1) := by decide +kernel
theorem dX11_draw_18 : decode cX11_draw 18 = .ok (.l2i, 1) := by decide +kernel
theorem dX11_draw_19 : decode cX11_draw 19 = .ok (.putfield 325, 3) := by decide +kernel
theorem dX11_draw_22 : decode cX11_draw 22 = .ok (.iload_n 1, 1) := by decide +kernel
theorem dX11_draw_23 : decode cX11_draw 23 = .ok (.iconst 1, 1) := by decide +kernel
theorem dX11_draw_24 : decode cX11_draw 24 = .ok (.if_icmp .ge 7, 3) := by decide +kernel
theorem dX11_draw_27 : decode cX11_draw 27 = .ok (.iconst 0, 1) := by decide +kernel
theorem dX11_draw_28 : decode cX11_draw 28 = .ok (.goto 13, 3) := by decide +kernel
theorem dX11_draw_31 : decode cX11_draw 31 = .ok (.aload_n 0, 1) := by decide +kernel
theorem dX11_draw_32 : decode cX11_draw 32 = .ok (.getfield 325, 3) := by decide +kernel
theorem dX11_draw_35 : decode cX11_draw 35 = .ok (.ldc_w 337, 3) := by decide +kernel
theorem dX11_draw_38 : decode cX11_draw 38 = .ok (.idiv, 1) := by decide +kernel
theorem dX11_draw_39 : decode cX11_draw 39 = .ok (.iload_n 1, 1) := by decide +kernel
theorem dX11_draw_40 : decode cX11_draw 40 = .ok (.irem, 1) := by decide +kernel
theorem dX11_draw_41 : decode cX11_draw 41 = .ok (.ireturn, 1) := by decide +kernel
theorem dX11_meetChance_0 : decode cX11_meetChance 0 = .ok (.aload_n 0, 1) := by decide +kernel
theorem dX11_meetChance_1 : decode cX11_meetChance 1 = .ok (.bipush 8, 2) := by decide +kernel
theorem dX11_meetChance_3 : decode cX11_meetChance 3 = .ok (.invokevirtual 338, 3) := by decide +kernel
theorem dX11_meetChance_6 : decode cX11_meetChance 6 = .ok (.tableswitch 72 0 3 #[30, 44, 58, 65], 30) := by decide +kernel
theorem dX11_meetChance_36 : decode cX11_meetChance 36 = .ok (.aload_n 0, 1) := by decide +kernel
theorem dX11_meetChance_37 : decode cX11_meetChance 37 = .ok (.getfield 37, 3) := by decide +kernel
theorem dX11_meetChance_40 : decode cX11_meetChance 40 = .ok (.getfield 134, 3) := by decide +kernel
theorem dX11_meetChance_43 : decode cX11_meetChance 43 = .ok (.iconst 1, 1) := by decide +kernel
theorem dX11_meetChance_44 : decode cX11_meetChance 44 = .ok (.putfield 141, 3) := by decide +kernel
theorem dX11_meetChance_47 : decode cX11_meetChance 47 = .ok (.goto 31, 3) := by decide +kernel
theorem dX11_meetChance_50 : decode cX11_meetChance 50 = .ok (.aload_n 0, 1) := by decide +kernel
theorem dX11_meetChance_51 : decode cX11_meetChance 51 = .ok (.getfield 37, 3) := by decide +kernel
theorem dX11_meetChance_54 : decode cX11_meetChance 54 = .ok (.getfield 134, 3) := by decide +kernel
theorem dX11_meetChance_57 : decode cX11_meetChance 57 = .ok (.iconst 0, 1) := by decide +kernel
theorem dX11_meetChance_58 : decode cX11_meetChance 58 = .ok (.putfield 141, 3) := by decide +kernel
theorem dX11_meetChance_61 : decode cX11_meetChance 61 = .ok (.goto 17, 3) := by decide +kernel
theorem dX11_meetChance_64 : decode cX11_meetChance 64 = .ok (.aload_n 0, 1) := by decide +kernel
theorem dX11_meetChance_65 : decode cX11_meetChance 65 = .ok (.invokevirtual 341, 3) := by decide +kernel
theorem dX11_meetChance_68 : decode cX11_meetChance 68 = .ok (.goto 10, 3) := by decide +kernel
theorem dX11_meetChance_71 : decode cX11_meetChance 71 = .ok (.aload_n 0, 1) := by decide +kernel
theorem dX11_meetChance_72 : decode cX11_meetChance 72 = .ok (.invokevirtual 344, 3) := by decide +kernel
theorem dX11_meetChance_75 : decode cX11_meetChance 75 = .ok (.goto 3, 3) := by decide +kernel
theorem dX11_meetChance_78 : decode cX11_meetChance 78 = .ok (.return_, 1) := by decide +kernel
theorem dX11_bendByDraw_0 : decode cX11_bendByDraw 0 = .ok (.aload_n 0, 1) := by decide +kernel
theorem dX11_bendByDraw_1 : decode cX11_bendByDraw 1 = .ok (.bipush 21, 2) := by decide +kernel
theorem dX11_bendByDraw_3 : decode cX11_bendByDraw 3 = .ok (.invokevirtual 338, 3) := by decide +kernel
theorem dX11_bendByDraw_6 : decode cX11_bendByDraw 6 = .ok (.bipush 10, 2) := by decide +kernel
theorem dX11_bendByDraw_8 : decode cX11_bendByDraw 8 = .ok (.isub, 1) := by decide +kernel
theorem dX11_bendByDraw_9 : decode cX11_bendByDraw 9 = .ok (.istore_n 1, 1) := by decide +kernel
theorem dX11_bendByDraw_10 : decode cX11_bendByDraw 10 = .ok (.aload_n 0, 1) := by decide +kernel
theorem dX11_bendByDraw_11 : decode cX11_bendByDraw 11 = .ok (.getfield 37, 3) := by decide +kernel
theorem dX11_bendByDraw_14 : decode cX11_bendByDraw 14 = .ok (.getfield 134, 3) := by decide +kernel
theorem dX11_bendByDraw_17 : decode cX11_bendByDraw 17 = .ok (.getfield 141, 3) := by decide +kernel
theorem dX11_bendByDraw_20 : decode cX11_bendByDraw 20 = .ok (.ifCond .ne 14, 3) := by decide +kernel
theorem dX11_bendByDraw_23 : decode cX11_bendByDraw 23 = .ok (.aload_n 0, 1) := by decide +kernel
theorem dX11_bendByDraw_24 : decode cX11_bendByDraw 24 = .ok (.getfield 37, 3) := by decide +kernel
theorem dX11_bendByDraw_27 : decode cX11_bendByDraw 27 = .ok (.getfield 134, 3) := by decide +kernel
theorem dX11_bendByDraw_30 : decode cX11_bendByDraw 30 = .ok (.iload_n 1, 1) := by decide +kernel
theorem dX11_bendByDraw_31 : decode cX11_bendByDraw 31 = .ok (.putfield 169, 3) := by decide +kernel
theorem dX11_bendByDraw_34 : decode cX11_bendByDraw 34 = .ok (.return_, 1) := by decide +kernel
theorem dX11_produceByDraw_0 : decode cX11_produceByDraw 0 = .ok (.aload_n 0, 1) := by decide +kernel
theorem dX11_produceByDraw_1 : decode cX11_produceByDraw 1 = .ok (.bipush 10, 2) := by decide +kernel
theorem dX11_produceByDraw_3 : decode cX11_produceByDraw 3 = .ok (.invokevirtual 338, 3) := by decide +kernel
theorem dX11_produceByDraw_6 : decode cX11_produceByDraw 6 = .ok (.istore_n 1, 1) := by decide +kernel
theorem dX11_produceByDraw_7 : decode cX11_produceByDraw 7 = .ok (.aload_n 0, 1) := by decide +kernel
theorem dX11_produceByDraw_8 : decode cX11_produceByDraw 8 = .ok (.getfield 37, 3) := by decide +kernel
theorem dX11_produceByDraw_11 : decode cX11_produceByDraw 11 = .ok (.getfield 134, 3) := by decide +kernel
theorem dX11_produceByDraw_14 : decode cX11_produceByDraw 14 = .ok (.getfield 141, 3) := by decide +kernel
theorem dX11_produceByDraw_17 : decode cX11_produceByDraw 17 = .ok (.ifCond .ne 13, 3) := by decide +kernel
theorem dX11_produceByDraw_20 : decode cX11_produceByDraw 20 = .ok (.aload_n 0, 1) := by decide +kernel
theorem dX11_produceByDraw_21 : decode cX11_produceByDraw 21 = .ok (.getfield 37, 3) := by decide +kernel
theorem dX11_produceByDraw_24 : decode cX11_produceByDraw 24 = .ok (.iload_n 1, 1) := by decide +kernel
theorem dX11_produceByDraw_25 : decode cX11_produceByDraw 25 = .ok (.iconst 0, 1) := by decide +kernel
theorem dX11_produceByDraw_26 : decode cX11_produceByDraw 26 = .ok (.invokevirtual 228, 3) := by decide +kernel
theorem dX11_produceByDraw_29 : decode cX11_produceByDraw 29 = .ok (.pop, 1) := by decide +kernel
theorem dX11_produceByDraw_30 : decode cX11_produceByDraw 30 = .ok (.return_, 1) := by decide +kernel
theorem dX11_beginTrial_0 : decode cX11_beginTrial 0 = .ok (.aload_n 0, 1) := by decide +kernel
theorem dX11_beginTrial_1 : decode cX11_beginTrial 1 = .ok (.getfield 44, 3) := by decide +kernel
theorem dX11_beginTrial_4 : decode cX11_beginTrial 4 = .ok (.aload_n 0, 1) := by decide +kernel
theorem dX11_beginTrial_5 : decode cX11_beginTrial 5 = .ok (.getfield 37, 3) := by decide +kernel
theorem dX11_beginTrial_8 : decode cX11_beginTrial 8 = .ok (.getfield 134, 3) := by decide +kernel
theorem dX11_beginTrial_11 : decode cX11_beginTrial 11 = .ok (.invokevirtual 347, 3) := by decide +kernel
theorem dX11_beginTrial_14 : decode cX11_beginTrial 14 = .ok (.aload_n 0, 1) := by decide +kernel
theorem dX11_beginTrial_15 : decode cX11_beginTrial 15 = .ok (.getfield 44, 3) := by decide +kernel
theorem dX11_beginTrial_18 : decode cX11_beginTrial 18 = .ok (.iconst 0, 1) := by decide +kernel
theorem dX11_beginTrial_19 : decode cX11_beginTrial 19 = .ok (.putfield 141, 3) := by decide +kernel
theorem dX11_beginTrial_22 : decode cX11_beginTrial 22 = .ok (.return_, 1) := by decide +kernel
