theorem dX12_init_0 : decode cX12_init 0 = .ok (.aload_n 0, 1) := by decide +kernel
theorem dX12_init_1 : decode cX12_init 1 = .ok (.invokespecial 1, 3) := by decide +kernel
theorem dX12_init_4 : decode cX12_init 4 = .ok (.aload_n 0, 1) := by decide +kernel
theorem dX12_init_5 : decode cX12_init 5 = .ok (.iconst 5, 1) := by decide +kernel
theorem dX12_init_6 : decode cX12_init 6 = .ok (.newarray .int, 2) := by decide +kernel
theorem dX12_init_8 : decode cX12_init 8 = .ok (.putfield 7, 3) := by decide +kernel
theorem dX12_init_11 : decode cX12_init 11 = .ok (.aload_n 0, 1) := by decide +kernel
theorem dX12_init_12 : decode cX12_init 12 = .ok (.bipush 6, 2) := by decide +kernel
theorem dX12_init_14 : decode cX12_init 14 = .ok (.newarray .int, 2) := by decide +kernel
theorem dX12_init_16 : decode cX12_init 16 = .ok (.putfield 13, 3) := by decide +kernel
theorem dX12_init_19 : decode cX12_init 19 = .ok (.aload_n 0, 1) := by decide +kernel
theorem dX12_init_20 : decode cX12_init 20 = .ok (.bipush 6, 2) := by decide +kernel
theorem dX12_init_22 : decode cX12_init 22 = .ok (.newarray .int, 2) := by decide +kernel
theorem dX12_init_24 : decode cX12_init 24 = .ok (.putfield 16, 3) := by decide +kernel
theorem dX12_init_27 : decode cX12_init 27 = .ok (.aload_n 0, 1) := by decide +kernel
theorem dX12_init_28 : decode cX12_init 28 = .ok (.bipush 6, 2) := by decide +kernel
theorem dX12_init_30 : decode cX12_init 30 = .ok (.newarray .int, 2) := by decide +kernel
theorem dX12_init_32 : decode cX12_init 32 = .ok (.putfield 19, 3) := by decide +kernel
theorem dX12_init_35 : decode cX12_init 35 = .ok (.aload_n 0, 1) := by decide +kernel
theorem dX12_init_36 : decode cX12_init 36 = .ok (.bipush 12, 2) := by decide +kernel
theorem dX12_init_38 : decode cX12_init 38 = .ok (.newarray .int, 2) := by decide +kernel
theorem dX12_init_40 : decode cX12_init 40 = .ok (.putfield 22, 3) := by decide +kernel
theorem dX12_init_43 : decode cX12_init 43 = .ok (.aload_n 0, 1) := by decide +kernel
theorem dX12_init_44 : decode cX12_init 44 = .ok (.bipush 80, 2) := by decide +kernel
theorem dX12_init_46 : decode cX12_init 46 = .ok (.newarray .int, 2) := by decide +kernel
theorem dX12_init_48 : decode cX12_init 48 = .ok (.putfield 25, 3) := by decide +kernel
theorem dX12_init_51 : decode cX12_init 51 = .ok (.aload_n 0, 1) := by decide +kernel
theorem dX12_init_52 : decode cX12_init 52 = .ok (.sipush 240, 3) := by decide +kernel
theorem dX12_init_55 : decode cX12_init 55 = .ok (.newarray .int, 2) := by decide +kernel
theorem dX12_init_57 : decode cX12_init 57 = .ok (.putfield 28, 3) := by decide +kernel
theorem dX12_init_60 : decode cX12_init 60 = .ok (.aload_n 0, 1) := by decide +kernel
theorem dX12_init_61 : decode cX12_init 61 = .ok (.iconst (-1), 1) := by decide +kernel
theorem dX12_init_62 : decode cX12_init 62 = .ok (.putfield 31, 3) := by decide +kernel
theorem dX12_init_65 : decode cX12_init 65 = .ok (.aload_n 0, 1) := by decide +kernel
theorem dX12_init_66 : decode cX12_init 66 = .ok (.iconst 5, 1) := by decide +kernel
theorem dX12_init_67 : decode cX12_init 67 = .ok (.newarray .int, 2) := by decide +kernel
theorem dX12_init_69 : decode cX12_init 69 = .ok (.putfield 35, 3) := by decide +kernel
theorem dX12_init_72 : decode cX12_init 72 = .ok (.aload_n 0, 1) := by decide +kernel
theorem dX12_init_73 : decode cX12_init 73 = .ok (.bipush 6, 2) := by decide +kernel
theorem dX12_init_75 : decode cX12_init 75 = .ok (.newarray .int, 2) := by decide +kernel
theorem dX12_init_77 : decode cX12_init 77 = .ok (.putfield 38, 3) := by decide +kernel
theorem dX12_init_80 : decode cX12_init 80 = .ok (.aload_n 0, 1) := by decide +kernel
theorem dX12_init_81 : decode cX12_init 81 = .ok (.bipush 6, 2) := by decide +kernel
theorem dX12_init_83 : decode cX12_init 83 = .ok (.newarray .int, 2) := by decide +kernel
theorem dX12_init_85 : decode cX12_init 85 = .ok (.putfield 41, 3) := by decide +kernel
theorem dX12_init_88 : decode cX12_init 88 = .ok (.aload_n 0, 1) := by decide +kernel
theorem dX12_init_89 : decode cX12_init 89 = .ok (.bipush 6, 2) := by decide +kernel
theorem dX12_init_91 : decode cX12_init 91 = .ok (.newarray .int, 2) := by decide +kernel
theorem dX12_init_93 : decode cX12_init 93 = .ok (.putfield 44, 3) := by decide +kernel
theorem dX12_init_96 : decode cX12_init 96 = .ok (.aload_n 0, 1) := by decide +kernel
theorem dX12_init_97 : decode cX12_init 97 = .ok (.bipush 12, 2) := by decide +kernel
theorem dX12_init_99 : decode cX12_init 99 = .ok (.newarray .int, 2) := by decide +kernel
theorem dX12_init_101 : decode cX12_init 101 = .ok (.putfield 47, 3) := by decide +kernel
theorem dX12_init_104 : decode cX12_init 104 = .ok (.aload_n 0, 1) := by decide +kernel
theorem dX12_init_105 : decode cX12_init 105 = .ok (.sipush 1280, 3) := by decide +kernel
theorem dX12_init_108 : decode cX12_init 108 = .ok (.newarray .int, 2) := by decide +kernel
theorem dX12_init_110 : decode cX12_init 110 = .ok (.putfield 50, 3) := by decide +kernel
theorem dX12_init_113 : decode cX12_init 113 = .ok (.aload_n 0, 1) := by decide +kernel
theorem dX12_init_114 : decode cX12_init 114 = .ok (.sipush 1000, 3) := by decide +kernel
theorem dX12_init_117 : decode cX12_init 117 = .ok (.newarray .int, 2) := by decide +kernel
theorem dX12_init_119 : decode cX12_init 119 = .ok (.putfield 53, 3) := by decide +kernel
theorem dX12_init_122 : decode cX12_init 122 = .ok (.aload_n 0, 1) := by decide +kernel
theorem dX12_init_123 : decode cX12_init 123 = .ok (.sipush 448, 3) := by decide +kernel
theorem dX12_init_126 : decode cX12_init 126 = .ok (.newarray .int, 2) := by decide +kernel
theorem dX12_init_128 : decode cX12_init 128 = .ok (.putfield 56, 3) := by decide +kernel
theorem dX12_init_131 : decode cX12_init 131 = .ok (.aload_n 0, 1) := by decide +kernel
theorem dX12_init_132 : decode cX12_init 132 = .ok (.bipush 6, 2) := by decide +kernel
theorem dX12_init_134 : decode cX12_init 134 = .ok (.newarray .int, 2) := by decide +kernel
theorem dX12_init_136 : decode cX12_init 136 = .ok (.putfield 59, 3) := by decide +kernel
theorem dX12_init_139 : decode cX12_init 139 = .ok (.aload_n 0, 1) := by decide +kernel
theorem dX12_init_140 : decode cX12_init 140 = .ok (.bipush 6, 2) := by decide +kernel
theorem dX12_init_142 : decode cX12_init 142 = .ok (.newarray .int, 2) := by decide +kernel
theorem dX12_init_144 : decode cX12_init 144 = .ok (.putfield 62, 3) := by decide +kernel
theorem dX12_init_147 : decode cX12_init 147 = .ok (.aload_n 0, 1) := by decide +kernel
theorem dX12_init_148 : decode cX12_init 148 = .ok (.sipush 2200, 3) := by decide +kernel
theorem dX12_init_151 : decode cX12_init 151 = .ok (.newarray .int, 2) := by decide +kernel
theorem dX12_init_153 : decode cX12_init 153 = .ok (.putfield 65, 3) := by decide +kernel
theorem dX12_init_156 : decode cX12_init 156 = .ok (.aload_n 0, 1) := by decide +kernel
theorem dX12_init_157 : decode cX12_init 157 = .ok (.bipush 15, 2) := by decide +kernel
theorem dX12_init_159 : decode cX12_init 159 = .ok (.newarray .int, 2) := by decide +kernel
theorem dX12_init_161 : decode cX12_init 161 = .ok (.putfield 68, 3) := by decide +kernel
theorem dX12_init_164 : decode cX12_init 164 = .ok (.aload_n 0, 1) := by decide +kernel
theorem dX12_init_165 : decode cX12_init 165 = .ok (.bipush 15, 2) := by decide +kernel
theorem dX12_init_167 : decode cX12_init 167 = .ok (.newarray .int, 2) := by decide +kernel
theorem dX12_init_169 : decode cX12_init 169 = .ok (.putfield 71, 3) := by decide +kernel
theorem dX12_init_172 : decode cX12_init 172 = .ok (.aload_n 0, 1) := by decide +kernel
theorem dX12_init_173 : decode cX12_init 173 = .ok (.sipush 162, 3) := by decide +kernel
theorem dX12_init_176 : decode cX12_init 176 = .ok (.newarray .int, 2) := by decide +kernel
theorem dX12_init_178 : decode cX12_init 178 = .ok (.putfield 74, 3) := by decide +kernel
theorem dX12_init_181 : decode cX12_init 181 = .ok (.aload_n 0, 1) := by decide +kernel
theorem dX12_init_182 : decode cX12_init 182 = .ok (.iconst 2, 1) := by decide +kernel
theorem dX12_init_183 : decode cX12_init 183 = .ok (.newarray .boolean, 2) := by decide +kernel
theorem dX12_init_185 : decode cX12_init 185 = .ok (.putfield 77, 3) := by decide +kernel
theorem dX12_init_188 : decode cX12_init 188 = .ok (.aload_n 0, 1) := by decide +kernel
theorem dX12_init_189 : decode cX12_init 189 = .ok (.iconst 0, 1) := by decide +kernel
theorem dX12_init_190 : decode cX12_init 190 = .ok (.putfield 81, 3) := by decide +kernel
theorem dX12_init_193 : decode cX12_init 193 = .ok (.return_, 1) := by decide +kernel
theorem dX12_in_0 : decode cX12_in 0 = .ok (.lload_n 0, 1) := by decide +kernel
theorem dX12_in_1 : decode cX12_in 1 = .ok (.lload_n 2, 1) := by decide +kernel
theorem dX12_in_2 : decode cX12_in 2 = .ok (.lcmp, 1) := by decide +kernel
theorem dX12_in_3 : decode cX12_in 3 = .ok (.ifCond .lt 14, 3) := by decide +kernel
theorem dX12_in_6 : decode cX12_in 6 = .ok (.lload_n 0, 1) := by decide +kernel
theorem dX12_in_7 : decode cX12_in 7 = .ok (.lload 4, 2) := by decide +kernel
theorem dX12_in_9 : decode cX12_in 9 = .ok (.lcmp, 1) := by decide +kernel
theorem dX12_in_10 : decode cX12_in 10 = .ok (.ifCond .gt 7, 3) := by decide +kernel
theorem dX12_in_13 : decode cX12_in 13 = .ok (.iconst 1, 1) := by decide +kernel
theorem dX12_in_14 : decode cX12_in 14 = .ok (.goto 4, 3) := by decide +kernel
theorem dX12_in_17 : decode cX12_in 17 = .ok (.iconst 0, 1) := by decide +kernel
theorem dX12_in_18 : decode cX12_in 18 = .ok (.ireturn, 1) := by decide +kernel
theorem dX12_has_0 : decode cX12_has 0 = .ok (.iload_n 0, 1) := by decide +kernel
theorem dX12_has_1 : decode cX12_has 1 = .ok (.iload_n 1, 1) := by decide +kernel
theorem dX12_has_2 : decode cX12_has 2 = .ok (.ishr, 1) := by decide +kernel
theorem dX12_has_3 : decode cX12_has 3 = .ok (.iconst 1, 1) := by decide +kernel
theorem dX12_has_4 : decode cX12_has 4 = .ok (.iand, 1) := by decide +kernel
theorem dX12_has_5 : decode cX12_has 5 = .ok (.iconst 1, 1) := by decide +kernel
theorem dX12_has_6 : decode cX12_has 6 = .ok (.if_icmp .ne 7, 3) := by decide +kernel
theorem dX12_has_9 : decode cX12_has 9 = .ok (.iconst 1, 1) := by decide +kernel
theorem dX12_has_10 : decode cX12_has 10 = .ok (.goto 4, 3) := by decide +kernel
theorem dX12_has_13 : decode cX12_has 13 = .ok (.iconst 0, 1) := by decide +kernel
theorem dX12_has_14 : decode cX12_has 14 = .ok (.ireturn, 1) := by decide +kernel
theorem dX12_size_0 : decode cX12_size 0 = .ok (.iload_n 0, 1) := by decide +kernel
theorem dX12_size_1 : decode cX12_size 1 = .ok (.ifCond .ge 8, 3) := by decide +kernel
theorem dX12_size_4 : decode cX12_size 4 = .ok (.iload_n 0, 1) := by decide +kernel
theorem dX12_size_5 : decode cX12_size 5 = .ok (.ineg, 1) := by decide +kernel
theorem dX12_size_6 : decode cX12_size 6 = .ok (.goto 4, 3) := by decide +kernel
theorem dX12_size_9 : decode cX12_size 9 = .ok (.iload_n 0, 1) := by decide +kernel
theorem dX12_size_10 : decode cX12_size 10 = .ok (.ireturn, 1) := by decide +kernel
theorem dX12_isRealm_0 : decode cX12_isRealm 0 = .ok (.aload_n 0, 1) := by decide +kernel
theorem dX12_isRealm_1 : decode cX12_isRealm 1 = .ok (.getfield 81, 3) := by decide +kernel
theorem dX12_isRealm_4 : decode cX12_isRealm 4 = .ok (.ifCond .le 7, 3) := by decide +kernel
theorem dX12_isRealm_7 : decode cX12_isRealm 7 = .ok (.iconst 1, 1) := by decide +kernel
theorem dX12_isRealm_8 : decode cX12_isRealm 8 = .ok (.goto 4, 3) := by decide +kernel
theorem dX12_isRealm_11 : decode cX12_isRealm 11 = .ok (.iconst 0, 1) := by decide +kernel
theorem dX12_isRealm_12 : decode cX12_isRealm 12 = .ok (.ireturn, 1) := by decide +kernel
theorem dX12_isOffice_0 : decode cX12_isOffice 0 = .ok (.iload_n 1, 1) := by decide +kernel
theorem dX12_isOffice_1 : decode cX12_isOffice 1 = .ok (.i2l, 1) := by decide +kernel
theorem dX12_isOffice_2 : decode cX12_isOffice 2 = .ok (.lconst 0, 1) := by decide +kernel
theorem dX12_isOffice_3 : decode cX12_isOffice 3 = .ok (.aload_n 0, 1) := by decide +kernel
theorem dX12_isOffice_4 : decode cX12_isOffice 4 = .ok (.getfield 84, 3) := by decide +kernel
theorem dX12_isOffice_7 : decode cX12_isOffice 7 = .ok (.iconst 1, 1) := by decide +kernel
theorem dX12_isOffice_8 : decode cX12_isOffice 8 = .ok (.isub, 1) := by decide +kernel
theorem dX12_isOffice_9 : decode cX12_isOffice 9 = .ok (.i2l, 1) := by decide +kernel
theorem dX12_isOffice_10 : decode cX12_isOffice 10 = .ok (.invokestatic 87, 3) := by decide +kernel
theorem dX12_isOffice_13 : decode cX12_isOffice 13 = .ok (.ireturn, 1) := by decide +kernel
theorem dX12_isPerson_0 : decode cX12_isPerson 0 = .ok (.iload_n 1, 1) := by decide +kernel
theorem dX12_isPerson_1 : decode cX12_isPerson 1 = .ok (.i2l, 1) := by decide +kernel
theorem dX12_isPerson_2 : decode cX12_isPerson 2 = .ok (.lconst 0, 1) := by decide +kernel
theorem dX12_isPerson_3 : decode cX12_isPerson 3 = .ok (.aload_n 0, 1) := by decide +kernel
theorem dX12_isPerson_4 : decode cX12_isPerson 4 = .ok (.getfield 91, 3) := by decide +kernel
theorem dX12_isPerson_7 : decode cX12_isPerson 7 = .ok (.iconst 1, 1) := by decide +kernel
theorem dX12_isPerson_8 : decode cX12_isPerson 8 = .ok (.isub, 1) := by decide +kernel
theorem dX12_isPerson_9 : decode cX12_isPerson 9 = .ok (.i2l, 1) := by decide +kernel
theorem dX12_isPerson_10 : decode cX12_isPerson 10 = .ok (.invokestatic 87, 3) := by decide +kernel
theorem dX12_isPerson_13 : decode cX12_isPerson 13 = .ok (.ireturn, 1) := by decide +kernel
theorem dX12_feed_0 : decode cX12_feed 0 = .ok (.iload_n 1, 1) := by decide +kernel
theorem dX12_feed_1 : decode cX12_feed 1 = .ok (.i2l, 1) := by decide +kernel
theorem dX12_feed_2 : decode cX12_feed 2 = .ok (.lconst 0, 1) := by decide +kernel
theorem dX12_feed_3 : decode cX12_feed 3 = .ok (.ldc2_w 94, 3) := by decide +kernel
theorem dX12_feed_6 : decode cX12_feed 6 = .ok (.invokestatic 87, 3) := by decide +kernel
theorem dX12_feed_9 : decode cX12_feed 9 = .ok (.ifCond .ne 6, 3) := by decide +kernel
theorem dX12_feed_12 : decode cX12_feed 12 = .ok (.ldc 96, 2) := by decide +kernel
theorem dX12_feed_14 : decode cX12_feed 14 = .ok (.ireturn, 1) := by decide +kernel
theorem dX12_feed_15 : decode cX12_feed 15 = .ok (.aload_n 0, 1) := by decide +kernel
theorem dX12_feed_16 : decode cX12_feed 16 = .ok (.getfield 97, 3) := by decide +kernel
theorem dX12_feed_19 : decode cX12_feed 19 = .ok (.sipush 240, 3) := by decide +kernel
theorem dX12_feed_22 : decode cX12_feed 22 = .ok (.if_icmp .ne 6, 3) := by decide +kernel
theorem dX12_feed_25 : decode cX12_feed 25 = .ok (.ldc 100, 2) := by decide +kernel
theorem dX12_feed_27 : decode cX12_feed 27 = .ok (.ireturn, 1) := by decide +kernel
theorem dX12_feed_28 : decode cX12_feed 28 = .ok (.aload_n 0, 1) := by decide +kernel
theorem dX12_feed_29 : decode cX12_feed 29 = .ok (.getfield 28, 3) := by decide +kernel
theorem dX12_feed_32 : decode cX12_feed 32 = .ok (.aload_n 0, 1) := by decide +kernel
theorem dX12_feed_33 : decode cX12_feed 33 = .ok (.getfield 97, 3) := by decide +kernel
theorem dX12_feed_36 : decode cX12_feed 36 = .ok (.iload_n 1, 1) := by decide +kernel
theorem dX12_feed_37 : decode cX12_feed 37 = .ok (.iastore, 1) := by decide +kernel
theorem dX12_feed_38 : decode cX12_feed 38 = .ok (.aload_n 0, 1) := by decide +kernel
theorem dX12_feed_39 : decode cX12_feed 39 = .ok (.dup, 1) := by decide +kernel
theorem dX12_feed_40 : decode cX12_feed 40 = .ok (.getfield 97, 3) := by decide +kernel
theorem dX12_feed_43 : decode cX12_feed 43 = .ok (.iconst 1, 1) := by decide +kernel
theorem dX12_feed_44 : decode cX12_feed 44 = .ok (.iadd, 1) := by decide +kernel
theorem dX12_feed_45 : decode cX12_feed 45 = .ok (.putfield 97, 3) := by decide +kernel
theorem dX12_feed_48 : decode cX12_feed 48 = .ok (.aload_n 0, 1) := by decide +kernel
theorem dX12_feed_49 : decode cX12_feed 49 = .ok (.getfield 97, 3) := by decide +kernel
theorem dX12_feed_52 : decode cX12_feed 52 = .ok (.ireturn, 1) := by decide +kernel
theorem dX12_here_0 : decode cX12_here 0 = .ok (.aload_n 0, 1) := by decide +kernel
theorem dX12_here_1 : decode cX12_here 1 = .ok (.getfield 101, 3) := by decide +kernel
theorem dX12_here_4 : decode cX12_here 4 = .ok (.aload_n 0, 1) := by decide +kernel
theorem dX12_here_5 : decode cX12_here 5 = .ok (.getfield 97, 3) := by decide +kernel
theorem dX12_here_8 : decode cX12_here 8 = .ok (.if_icmp .ge 30, 3) := by decide +kernel
theorem dX12_here_11 : decode cX12_here 11 = .ok (.aload_n 0, 1) := by decide +kernel
theorem dX12_here_12 : decode cX12_here 12 = .ok (.getfield 28, 3) := by decide +kernel
theorem dX12_here_15 : decode cX12_here 15 = .ok (.aload_n 0, 1) := by decide +kernel
theorem dX12_here_16 : decode cX12_here 16 = .ok (.getfield 101, 3) := by decide +kernel
theorem dX12_here_19 : decode cX12_here 19 = .ok (.iaload, 1) := by decide +kernel
theorem dX12_here_20 : decode cX12_here 20 = .ok (.bipush 32, 2) := by decide +kernel
theorem dX12_here_22 : decode cX12_here 22 = .ok (.if_icmp .ne 16, 3) := by decide +kernel
theorem dX12_here_25 : decode cX12_here 25 = .ok (.aload_n 0, 1) := by decide +kernel
theorem dX12_here_26 : decode cX12_here 26 = .ok (.dup, 1) := by decide +kernel
theorem dX12_here_27 : decode cX12_here 27 = .ok (.getfield 101, 3) := by decide +kernel
theorem dX12_here_30 : decode cX12_here 30 = .ok (.iconst 1, 1) := by decide +kernel
theorem dX12_here_31 : decode cX12_here 31 = .ok (.iadd, 1) := by decide +kernel
theorem dX12_here_32 : decode cX12_here 32 = .ok (.putfield 101, 3) := by decide +kernel
theorem dX12_here_35 : decode cX12_here 35 = .ok (.goto (-35), 3) := by decide +kernel
theorem dX12_here_38 : decode cX12_here 38 = .ok (.aload_n 0, 1) := by decide +kernel
theorem dX12_here_39 : decode cX12_here 39 = .ok (.getfield 101, 3) := by decide +kernel
theorem dX12_here_42 : decode cX12_here 42 = .ok (.aload_n 0, 1) := by decide +kernel
theorem dX12_here_43 : decode cX12_here 43 = .ok (.getfield 97, 3) := by decide +kernel
theorem dX12_here_46 : decode cX12_here 46 = .ok (.if_icmp .ge 15, 3) := by decide +kernel
theorem dX12_here_49 : decode cX12_here 49 = .ok (.aload_n 0, 1) := by decide +kernel
theorem dX12_here_50 : decode cX12_here 50 = .ok (.getfield 28, 3) := by decide +kernel
theorem dX12_here_53 : decode cX12_here 53 = .ok (.aload_n 0, 1) := by decide +kernel
theorem dX12_here_54 : decode cX12_here 54 = .ok (.getfield 101, 3) := by decide +kernel
theorem dX12_here_57 : decode cX12_here 57 = .ok (.iaload, 1) := by decide +kernel
theorem dX12_here_58 : decode cX12_here 58 = .ok (.goto 4, 3) := by decide +kernel
theorem dX12_here_61 : decode cX12_here 61 = .ok (.iconst (-1), 1) := by decide +kernel
theorem dX12_here_62 : decode cX12_here 62 = .ok (.ireturn, 1) := by decide +kernel
theorem dX12_fails_0 : decode cX12_fails 0 = .ok (.aload_n 0, 1) := by decide +kernel
theorem dX12_fails_1 : decode cX12_fails 1 = .ok (.iload_n 2, 1) := by decide +kernel
theorem dX12_fails_2 : decode cX12_fails 2 = .ok (.putfield 31, 3) := by decide +kernel
theorem dX12_fails_5 : decode cX12_fails 5 = .ok (.iload_n 1, 1) := by decide +kernel
theorem dX12_fails_6 : decode cX12_fails 6 = .ok (.ireturn, 1) := by decide +kernel
theorem dX12_takeNumber_0 : decode cX12_takeNumber 0 = .ok (.aload_n 0, 1) := by decide +kernel
theorem dX12_takeNumber_1 : decode cX12_takeNumber 1 = .ok (.invokevirtual 104, 3) := by decide +kernel
theorem dX12_takeNumber_4 : decode cX12_takeNumber 4 = .ok (.istore_n 3, 1) := by decide +kernel
theorem dX12_takeNumber_5 : decode cX12_takeNumber 5 = .ok (.iload_n 3, 1) := by decide +kernel
theorem dX12_takeNumber_6 : decode cX12_takeNumber 6 = .ok (.i2l, 1) := by decide +kernel
theorem dX12_takeNumber_7 : decode cX12_takeNumber 7 = .ok (.ldc2_w 108, 3) := by decide +kernel
theorem dX12_takeNumber_10 : decode cX12_takeNumber 10 = .ok (.ldc2_w 110, 3) := by decide +kernel
theorem dX12_takeNumber_13 : decode cX12_takeNumber 13 = .ok (.invokestatic 87, 3) := by decide +kernel
theorem dX12_takeNumber_16 : decode cX12_takeNumber 16 = .ok (.ifCond .ne 13, 3) := by decide +kernel
theorem dX12_takeNumber_19 : decode cX12_takeNumber 19 = .ok (.aload_n 0, 1) := by decide +kernel
theorem dX12_takeNumber_20 : decode cX12_takeNumber 20 = .ok (.iconst 1, 1) := by decide +kernel
theorem dX12_takeNumber_21 : decode cX12_takeNumber 21 = .ok (.aload_n 0, 1) := by decide +kernel
theorem dX12_takeNumber_22 : decode cX12_takeNumber 22 = .ok (.getfield 101, 3) := by decide +kernel
theorem dX12_takeNumber_25 : decode cX12_takeNumber 25 = .ok (.invokevirtual 112, 3) := by decide +kernel
theorem dX12_takeNumber_28 : decode cX12_takeNumber 28 = .ok (.ireturn, 1) := by decide +kernel
theorem dX12_takeNumber_29 : decode cX12_takeNumber 29 = .ok (.aload_n 0, 1) := by decide +kernel
theorem dX12_takeNumber_30 : decode cX12_takeNumber 30 = .ok (.aload_n 0, 1) := by decide +kernel
theorem dX12_takeNumber_31 : decode cX12_takeNumber 31 = .ok (.getfield 101, 3) := by decide +kernel
theorem dX12_takeNumber_34 : decode cX12_takeNumber 34 = .ok (.putfield 116, 3) := by decide +kernel
theorem dX12_takeNumber_37 : decode cX12_takeNumber 37 = .ok (.aload_n 0, 1) := by decide +kernel
theorem dX12_takeNumber_38 : decode cX12_takeNumber 38 = .ok (.iconst 0, 1) := by decide +kernel
theorem dX12_takeNumber_39 : decode cX12_takeNumber 39 = .ok (.putfield 119, 3) := by decide +kernel
theorem dX12_takeNumber_42 : decode cX12_takeNumber 42 = .ok (.aload_n 0, 1) := by decide +kernel
theorem dX12_takeNumber_43 : decode cX12_takeNumber 43 = .ok (.getfield 101, 3) := by decide +kernel
theorem dX12_takeNumber_46 : decode cX12_takeNumber 46 = .ok (.aload_n 0, 1) := by decide +kernel
theorem dX12_takeNumber_47 : decode cX12_takeNumber 47 = .ok (.getfield 97, 3) := by decide +kernel
theorem dX12_takeNumber_50 : decode cX12_takeNumber 50 = .ok (.if_icmp .ge 79, 3) := by decide +kernel
theorem dX12_takeNumber_53 : decode cX12_takeNumber 53 = .ok (.aload_n 0, 1) := by decide +kernel
theorem dX12_takeNumber_54 : decode cX12_takeNumber 54 = .ok (.getfield 28, 3) := by decide +kernel
theorem dX12_takeNumber_57 : decode cX12_takeNumber 57 = .ok (.aload_n 0, 1) := by decide +kernel
theorem dX12_takeNumber_58 : decode cX12_takeNumber 58 = .ok (.getfield 101, 3) := by decide +kernel
theorem dX12_takeNumber_61 : decode cX12_takeNumber 61 = .ok (.iaload, 1) := by decide +kernel
theorem dX12_takeNumber_62 : decode cX12_takeNumber 62 = .ok (.i2l, 1) := by decide +kernel
theorem dX12_takeNumber_63 : decode cX12_takeNumber 63 = .ok (.ldc2_w 108, 3) := by decide +kernel
theorem dX12_takeNumber_66 : decode cX12_takeNumber 66 = .ok (.ldc2_w 110, 3) := by decide +kernel
theorem dX12_takeNumber_69 : decode cX12_takeNumber 69 = .ok (.invokestatic 87, 3) := by decide +kernel
theorem dX12_takeNumber_72 : decode cX12_takeNumber 72 = .ok (.ifCond .eq 57, 3) := by decide +kernel
theorem dX12_takeNumber_75 : decode cX12_takeNumber 75 = .ok (.aload_n 0, 1) := by decide +kernel
theorem dX12_takeNumber_76 : decode cX12_takeNumber 76 = .ok (.aload_n 0, 1) := by decide +kernel
theorem dX12_takeNumber_77 : decode cX12_takeNumber 77 = .ok (.getfield 119, 3) := by decide +kernel
theorem dX12_takeNumber_80 : decode cX12_takeNumber 80 = .ok (.sipush 10000, 3) := by decide +kernel
theorem dX12_takeNumber_83 : decode cX12_takeNumber 83 = .ok (.if_icmp .le 10, 3) := by decide +kernel
theorem dX12_takeNumber_86 : decode cX12_takeNumber 86 = .ok (.aload_n 0, 1) := by decide +kernel
theorem dX12_takeNumber_87 : decode cX12_takeNumber 87 = .ok (.getfield 119, 3) := by decide +kernel
theorem dX12_takeNumber_90 : decode cX12_takeNumber 90 = .ok (.goto 23, 3) := by decide +kernel
theorem dX12_takeNumber_93 : decode cX12_takeNumber 93 = .ok (.bipush 10, 2) := by decide +kernel
theorem dX12_takeNumber_95 : decode cX12_takeNumber 95 = .ok (.aload_n 0, 1) := by decide +kernel
theorem dX12_takeNumber_96 : decode cX12_takeNumber 96 = .ok (.getfield 119, 3) := by decide +kernel
theorem dX12_takeNumber_99 : decode cX12_takeNumber 99 = .ok (.imul, 1) := by decide +kernel
theorem dX12_takeNumber_100 : decode cX12_takeNumber 100 = .ok (.aload_n 0, 1) := by decide +kernel
theorem dX12_takeNumber_101 : decode cX12_takeNumber 101 = .ok (.getfield 28, 3) := by decide +kernel
theorem dX12_takeNumber_104 : decode cX12_takeNumber 104 = .ok (.aload_n 0, 1) := by decide +kernel
theorem dX12_takeNumber_105 : decode cX12_takeNumber 105 = .ok (.getfield 101, 3) := by decide +kernel
theorem dX12_takeNumber_108 : decode cX12_takeNumber 108 = .ok (.iaload, 1) := by decide +kernel
theorem dX12_takeNumber_109 : decode cX12_takeNumber 109 = .ok (.iadd, 1) := by decide +kernel
theorem dX12_takeNumber_110 : decode cX12_takeNumber 110 = .ok (.bipush 48, 2) := by decide +kernel
theorem dX12_takeNumber_112 : decode cX12_takeNumber 112 = .ok (.isub, 1) := by decide +kernel
theorem dX12_takeNumber_113 : decode cX12_takeNumber 113 = .ok (.putfield 119, 3) := by decide +kernel
theorem dX12_takeNumber_116 : decode cX12_takeNumber 116 = .ok (.aload_n 0, 1) := by decide +kernel
theorem dX12_takeNumber_117 : decode cX12_takeNumber 117 = .ok (.dup, 1) := by decide +kernel
theorem dX12_takeNumber_118 : decode cX12_takeNumber 118 = .ok (.getfield 101, 3) := by decide +kernel
theorem dX12_takeNumber_121 : decode cX12_takeNumber 121 = .ok (.iconst 1, 1) := by decide +kernel
theorem dX12_takeNumber_122 : decode cX12_takeNumber 122 = .ok (.iadd, 1) := by decide +kernel
theorem dX12_takeNumber_123 : decode cX12_takeNumber 123 = .ok (.putfield 101, 3) := by decide +kernel
theorem dX12_takeNumber_126 : decode cX12_takeNumber 126 = .ok (.goto (-84), 3) := by decide +kernel
theorem dX12_takeNumber_129 : decode cX12_takeNumber 129 = .ok (.aload_n 0, 1) := by decide +kernel
theorem dX12_takeNumber_130 : decode cX12_takeNumber 130 = .ok (.getfield 101, 3) := by decide +kernel
theorem dX12_takeNumber_133 : decode cX12_takeNumber 133 = .ok (.aload_n 0, 1) := by decide +kernel
theorem dX12_takeNumber_134 : decode cX12_takeNumber 134 = .ok (.getfield 116, 3) := by decide +kernel
theorem dX12_takeNumber_137 : decode cX12_takeNumber 137 = .ok (.isub, 1) := by decide +kernel
theorem dX12_takeNumber_138 : decode cX12_takeNumber 138 = .ok (.iconst 3, 1) := by decide +kernel
theorem dX12_takeNumber_139 : decode cX12_takeNumber 139 = .ok (.if_icmp .gt 18, 3) := by decide +kernel
theorem dX12_takeNumber_142 : decode cX12_takeNumber 142 = .ok (.aload_n 0, 1) := by decide +kernel
theorem dX12_takeNumber_143 : decode cX12_takeNumber 143 = .ok (.getfield 119, 3) := by decide +kernel
theorem dX12_takeNumber_146 : decode cX12_takeNumber 146 = .ok (.i2l, 1) := by decide +kernel
theorem dX12_takeNumber_147 : decode cX12_takeNumber 147 = .ok (.iload_n 1, 1) := by decide +kernel
theorem dX12_takeNumber_148 : decode cX12_takeNumber 148 = .ok (.i2l, 1) := by decide +kernel
theorem dX12_takeNumber_149 : decode cX12_takeNumber 149 = .ok (.iload_n 2, 1) := by decide +kernel
theorem dX12_takeNumber_150 : decode cX12_takeNumber 150 = .ok (.i2l, 1) := by decide +kernel
theorem dX12_takeNumber_151 : decode cX12_takeNumber 151 = .ok (.invokestatic 87, 3) := by decide +kernel
theorem dX12_takeNumber_154 : decode cX12_takeNumber 154 = .ok (.ifCond .ne 15, 3) := by decide +kernel
theorem dX12_takeNumber_157 : decode cX12_takeNumber 157 = .ok (.aload_n 0, 1) := by decide +kernel
theorem dX12_takeNumber_158 : decode cX12_takeNumber 158 = .ok (.iconst 2, 1) := by decide +kernel
theorem dX12_takeNumber_159 : decode cX12_takeNumber 159 = .ok (.aload_n 0, 1) := by decide +kernel
theorem dX12_takeNumber_160 : decode cX12_takeNumber 160 = .ok (.getfield 116, 3) := by decide +kernel
theorem dX12_takeNumber_163 : decode cX12_takeNumber 163 = .ok (.invokevirtual 112, 3) := by decide +kernel
theorem dX12_takeNumber_166 : decode cX12_takeNumber 166 = .ok (.goto 4, 3) := by decide +kernel
theorem dX12_takeNumber_169 : decode cX12_takeNumber 169 = .ok (.iconst 0, 1) := by decide +kernel
theorem dX12_takeNumber_170 : decode cX12_takeNumber 170 = .ok (.ireturn, 1) := by decide +kernel
theorem dX12_into_0 : decode cX12_into 0 = .ok (.aload_n 0, 1) := by decide +kernel
theorem dX12_into_1 : decode cX12_into 1 = .ok (.iload_n 3, 1) := by decide +kernel
theorem dX12_into_2 : decode cX12_into 2 = .ok (.iload 4, 2) := by decide +kernel
theorem dX12_into_4 : decode cX12_into 4 = .ok (.invokevirtual 122, 3) := by decide +kernel
theorem dX12_into_7 : decode cX12_into 7 = .ok (.istore 5, 2) := by decide +kernel
theorem dX12_into_9 : decode cX12_into 9 = .ok (.aload_n 1, 1) := by decide +kernel
theorem dX12_into_10 : decode cX12_into 10 = .ok (.iload_n 2, 1) := by decide +kernel
theorem dX12_into_11 : decode cX12_into 11 = .ok (.aload_n 0, 1) := by decide +kernel
theorem dX12_into_12 : decode cX12_into 12 = .ok (.getfield 119, 3) := by decide +kernel
theorem dX12_into_15 : decode cX12_into 15 = .ok (.iastore, 1) := by decide +kernel
theorem dX12_into_16 : decode cX12_into 16 = .ok (.iload 5, 2) := by decide +kernel
theorem dX12_into_18 : decode cX12_into 18 = .ok (.ireturn, 1) := by decide +kernel
theorem dX12_takeRod_0 : decode cX12_takeRod 0 = .ok (.aload_n 0, 1) := by decide +kernel
theorem dX12_takeRod_1 : decode cX12_takeRod 1 = .ok (.bipush 12, 2) := by decide +kernel
theorem dX12_takeRod_3 : decode cX12_takeRod 3 = .ok (.sipush 240, 3) := by decide +kernel
theorem dX12_takeRod_6 : decode cX12_takeRod 6 = .ok (.invokevirtual 122, 3) := by decide +kernel
theorem dX12_takeRod_9 : decode cX12_takeRod 9 = .ok (.istore_n 1, 1) := by decide +kernel
theorem dX12_takeRod_10 : decode cX12_takeRod 10 = .ok (.aload_n 0, 1) := by decide +kernel
theorem dX12_takeRod_11 : decode cX12_takeRod 11 = .ok (.aload_n 0, 1) := by decide +kernel
theorem dX12_takeRod_12 : decode cX12_takeRod 12 = .ok (.getfield 119, 3) := by decide +kernel
theorem dX12_takeRod_15 : decode cX12_takeRod 15 = .ok (.putfield 125, 3) := by decide +kernel
theorem dX12_takeRod_18 : decode cX12_takeRod 18 = .ok (.iload_n 1, 1) := by decide +kernel
theorem dX12_takeRod_19 : decode cX12_takeRod 19 = .ok (.ifCond .le 7, 3) := by decide +kernel
theorem dX12_takeRod_22 : decode cX12_takeRod 22 = .ok (.iload_n 1, 1) := by decide +kernel
theorem dX12_takeRod_23 : decode cX12_takeRod 23 = .ok (.goto 10, 3) := by decide +kernel
theorem dX12_takeRod_26 : decode cX12_takeRod 26 = .ok (.aload_n 0, 1) := by decide +kernel
theorem dX12_takeRod_27 : decode cX12_takeRod 27 = .ok (.iconst 0, 1) := by decide +kernel
theorem dX12_takeRod_28 : decode cX12_takeRod 28 = .ok (.bipush 9, 2) := by decide +kernel
theorem dX12_takeRod_30 : decode cX12_takeRod 30 = .ok (.invokevirtual 122, 3) := by decide +kernel
theorem dX12_takeRod_33 : decode cX12_takeRod 33 = .ok (.istore_n 1, 1) := by decide +kernel
theorem dX12_takeRod_34 : decode cX12_takeRod 34 = .ok (.aload_n 0, 1) := by decide +kernel
theorem dX12_takeRod_35 : decode cX12_takeRod 35 = .ok (.aload_n 0, 1) := by decide +kernel
theorem dX12_takeRod_36 : decode cX12_takeRod 36 = .ok (.getfield 119, 3) := by decide +kernel
theorem dX12_takeRod_39 : decode cX12_takeRod 39 = .ok (.putfield 128, 3) := by decide +kernel
theorem dX12_takeRod_42 : decode cX12_takeRod 42 = .ok (.iload_n 1, 1) := by decide +kernel
theorem dX12_takeRod_43 : decode cX12_takeRod 43 = .ok (.ireturn, 1) := by decide +kernel
theorem dX12_takeNick_0 : decode cX12_takeNick 0 = .ok (.aload_n 0, 1) := by decide +kernel
theorem dX12_takeNick_1 : decode cX12_takeNick 1 = .ok (.aload_n 0, 1) := by decide +kernel
theorem dX12_takeNick_2 : decode cX12_takeNick 2 = .ok (.getfield 35, 3) := by decide +kernel
theorem dX12_takeNick_5 : decode cX12_takeNick 5 = .ok (.aload_n 0, 1) := by decide +kernel
theorem dX12_takeNick_6 : decode cX12_takeNick 6 = .ok (.getfield 131, 3) := by decide +kernel
theorem dX12_takeNick_9 : decode cX12_takeNick 9 = .ok (.iconst 1, 1) := by decide +kernel
theorem dX12_takeNick_10 : decode cX12_takeNick 10 = .ok (.sipush 239, 3) := by decide +kernel
theorem dX12_takeNick_13 : decode cX12_takeNick 13 = .ok (.invokevirtual 134, 3) := by decide +kernel
theorem dX12_takeNick_16 : decode cX12_takeNick 16 = .ok (.istore_n 1, 1) := by decide +kernel
theorem dX12_takeNick_17 : decode cX12_takeNick 17 = .ok (.iconst 0, 1) := by decide +kernel
theorem dX12_takeNick_18 : decode cX12_takeNick 18 = .ok (.istore_n 2, 1) := by decide +kernel
theorem dX12_takeNick_19 : decode cX12_takeNick 19 = .ok (.iload_n 2, 1) := by decide +kernel
theorem dX12_takeNick_20 : decode cX12_takeNick 20 = .ok (.aload_n 0, 1) := by decide +kernel
theorem dX12_takeNick_21 : decode cX12_takeNick 21 = .ok (.getfield 131, 3) := by decide +kernel
theorem dX12_takeNick_24 : decode cX12_takeNick 24 = .ok (.if_icmp .ge 45, 3) := by decide +kernel
theorem dX12_takeNick_27 : decode cX12_takeNick 27 = .ok (.iload_n 1, 1) := by decide +kernel
theorem dX12_takeNick_28 : decode cX12_takeNick 28 = .ok (.ifCond .ne 41, 3) := by decide +kernel
theorem dX12_takeNick_31 : decode cX12_takeNick 31 = .ok (.aload_n 0, 1) := by decide +kernel
theorem dX12_takeNick_32 : decode cX12_takeNick 32 = .ok (.getfield 35, 3) := by decide +kernel
theorem dX12_takeNick_35 : decode cX12_takeNick 35 = .ok (.iload_n 2, 1) := by decide +kernel
theorem dX12_takeNick_36 : decode cX12_takeNick 36 = .ok (.iaload, 1) := by decide +kernel
theorem dX12_takeNick_37 : decode cX12_takeNick 37 = .ok (.aload_n 0, 1) := by decide +kernel
theorem dX12_takeNick_38 : decode cX12_takeNick 38 = .ok (.getfield 35, 3) := by decide +kernel
theorem dX12_takeNick_41 : decode cX12_takeNick 41 = .ok (.aload_n 0, 1) := by decide +kernel
theorem dX12_takeNick_42 : decode cX12_takeNick 42 = .ok (.getfield 131, 3) := by decide +kernel
theorem dX12_takeNick_45 : decode cX12_takeNick 45 = .ok (.iaload, 1) := by decide +kernel
theorem dX12_takeNick_46 : decode cX12_takeNick 46 = .ok (.if_icmp .ne 15, 3) := by decide +kernel
theorem dX12_takeNick_49 : decode cX12_takeNick 49 = .ok (.aload_n 0, 1) := by decide +kernel
theorem dX12_takeNick_50 : decode cX12_takeNick 50 = .ok (.iconst 4, 1) := by decide +kernel
theorem dX12_takeNick_51 : decode cX12_takeNick 51 = .ok (.aload_n 0, 1) := by decide +kernel
theorem dX12_takeNick_52 : decode cX12_takeNick 52 = .ok (.getfield 116, 3) := by decide +kernel
theorem dX12_takeNick_55 : decode cX12_takeNick 55 = .ok (.invokevirtual 112, 3) := by decide +kernel
theorem dX12_takeNick_58 : decode cX12_takeNick 58 = .ok (.goto 4, 3) := by decide +kernel
theorem dX12_takeNick_61 : decode cX12_takeNick 61 = .ok (.iconst 0, 1) := by decide +kernel
theorem dX12_takeNick_62 : decode cX12_takeNick 62 = .ok (.istore_n 1, 1) := by decide +kernel
theorem dX12_takeNick_63 : decode cX12_takeNick 63 = .ok (.iinc 2 1, 3) := by decide +kernel
theorem dX12_takeNick_66 : decode cX12_takeNick 66 = .ok (.goto (-47), 3) := by decide +kernel
theorem dX12_takeNick_69 : decode cX12_takeNick 69 = .ok (.aload_n 0, 1) := by decide +kernel
theorem dX12_takeNick_70 : decode cX12_takeNick 70 = .ok (.dup, 1) := by decide +kernel
theorem dX12_takeNick_71 : decode cX12_takeNick 71 = .ok (.getfield 131, 3) := by decide +kernel
theorem dX12_takeNick_74 : decode cX12_takeNick 74 = .ok (.iconst 1, 1) := by decide +kernel
theorem dX12_takeNick_75 : decode cX12_takeNick 75 = .ok (.iadd, 1) := by decide +kernel
theorem dX12_takeNick_76 : decode cX12_takeNick 76 = .ok (.putfield 131, 3) := by decide +kernel
theorem dX12_takeNick_79 : decode cX12_takeNick 79 = .ok (.iload_n 1, 1) := by decide +kernel
theorem dX12_takeNick_80 : decode cX12_takeNick 80 = .ok (.ireturn, 1) := by decide +kernel
theorem dX12_takeOffice_0 : decode cX12_takeOffice 0 = .ok (.aload_n 0, 1) := by decide +kernel
theorem dX12_takeOffice_1 : decode cX12_takeOffice 1 = .ok (.getfield 138, 3) := by decide +kernel
theorem dX12_takeOffice_4 : decode cX12_takeOffice 4 = .ok (.istore_n 1, 1) := by decide +kernel
theorem dX12_takeOffice_5 : decode cX12_takeOffice 5 = .ok (.aload_n 0, 1) := by decide +kernel
theorem dX12_takeOffice_6 : decode cX12_takeOffice 6 = .ok (.dup, 1) := by decide +kernel
theorem dX12_takeOffice_7 : decode cX12_takeOffice 7 = .ok (.getfield 138, 3) := by decide +kernel
theorem dX12_takeOffice_10 : decode cX12_takeOffice 10 = .ok (.iconst 1, 1) := by decide +kernel
theorem dX12_takeOffice_11 : decode cX12_takeOffice 11 = .ok (.iadd, 1) := by decide +kernel
theorem dX12_takeOffice_12 : decode cX12_takeOffice 12 = .ok (.putfield 138, 3) := by decide +kernel
theorem dX12_takeOffice_15 : decode cX12_takeOffice 15 = .ok (.aload_n 0, 1) := by decide +kernel
theorem dX12_takeOffice_16 : decode cX12_takeOffice 16 = .ok (.aload_n 0, 1) := by decide +kernel
theorem dX12_takeOffice_17 : decode cX12_takeOffice 17 = .ok (.getfield 38, 3) := by decide +kernel
theorem dX12_takeOffice_20 : decode cX12_takeOffice 20 = .ok (.iload_n 1, 1) := by decide +kernel
theorem dX12_takeOffice_21 : decode cX12_takeOffice 21 = .ok (.iconst 1, 1) := by decide +kernel
theorem dX12_takeOffice_22 : decode cX12_takeOffice 22 = .ok (.bipush 99, 2) := by decide +kernel
theorem dX12_takeOffice_24 : decode cX12_takeOffice 24 = .ok (.invokevirtual 134, 3) := by decide +kernel
theorem dX12_takeOffice_27 : decode cX12_takeOffice 27 = .ok (.istore_n 2, 1) := by decide +kernel
theorem dX12_takeOffice_28 : decode cX12_takeOffice 28 = .ok (.iload_n 2, 1) := by decide +kernel
theorem dX12_takeOffice_29 : decode cX12_takeOffice 29 = .ok (.ifCond .le 7, 3) := by decide +kernel
theorem dX12_takeOffice_32 : decode cX12_takeOffice 32 = .ok (.iload_n 2, 1) := by decide +kernel
theorem dX12_takeOffice_33 : decode cX12_takeOffice 33 = .ok (.goto 20, 3) := by decide +kernel
theorem dX12_takeOffice_36 : decode cX12_takeOffice 36 = .ok (.aload_n 0, 1) := by decide +kernel
theorem dX12_takeOffice_37 : decode cX12_takeOffice 37 = .ok (.aload_n 0, 1) := by decide +kernel
theorem dX12_takeOffice_38 : decode cX12_takeOffice 38 = .ok (.getfield 41, 3) := by decide +kernel
theorem dX12_takeOffice_41 : decode cX12_takeOffice 41 = .ok (.iload_n 1, 1) := by decide +kernel
theorem dX12_takeOffice_42 : decode cX12_takeOffice 42 = .ok (.aload_n 0, 1) := by decide +kernel
theorem dX12_takeOffice_43 : decode cX12_takeOffice 43 = .ok (.getfield 38, 3) := by decide +kernel
theorem dX12_takeOffice_46 : decode cX12_takeOffice 46 = .ok (.iload_n 1, 1) := by decide +kernel
theorem dX12_takeOffice_47 : decode cX12_takeOffice 47 = .ok (.iaload, 1) := by decide +kernel
theorem dX12_takeOffice_48 : decode cX12_takeOffice 48 = .ok (.bipush 99, 2) := by decide +kernel
theorem dX12_takeOffice_50 : decode cX12_takeOffice 50 = .ok (.invokevirtual 134, 3) := by decide +kernel
theorem dX12_takeOffice_53 : decode cX12_takeOffice 53 = .ok (.ireturn, 1) := by decide +kernel
theorem dX12_takePerson_0 : decode cX12_takePerson 0 = .ok (.aload_n 0, 1) := by decide +kernel
theorem dX12_takePerson_1 : decode cX12_takePerson 1 = .ok (.dup, 1) := by decide +kernel
theorem dX12_takePerson_2 : decode cX12_takePerson 2 = .ok (.getfield 141, 3) := by decide +kernel
theorem dX12_takePerson_5 : decode cX12_takePerson 5 = .ok (.iconst 1, 1) := by decide +kernel
theorem dX12_takePerson_6 : decode cX12_takePerson 6 = .ok (.iadd, 1) := by decide +kernel
theorem dX12_takePerson_7 : decode cX12_takePerson 7 = .ok (.putfield 141, 3) := by decide +kernel
theorem dX12_takePerson_10 : decode cX12_takePerson 10 = .ok (.aload_n 0, 1) := by decide +kernel
theorem dX12_takePerson_11 : decode cX12_takePerson 11 = .ok (.aload_n 0, 1) := by decide +kernel
theorem dX12_takePerson_12 : decode cX12_takePerson 12 = .ok (.getfield 44, 3) := by decide +kernel
theorem dX12_takePerson_15 : decode cX12_takePerson 15 = .ok (.aload_n 0, 1) := by decide +kernel
theorem dX12_takePerson_16 : decode cX12_takePerson 16 = .ok (.getfield 141, 3) := by decide +kernel
theorem dX12_takePerson_19 : decode cX12_takePerson 19 = .ok (.iconst 1, 1) := by decide +kernel
theorem dX12_takePerson_20 : decode cX12_takePerson 20 = .ok (.isub, 1) := by decide +kernel
theorem dX12_takePerson_21 : decode cX12_takePerson 21 = .ok (.iconst 1, 1) := by decide +kernel
theorem dX12_takePerson_22 : decode cX12_takePerson 22 = .ok (.sipush 999, 3) := by decide +kernel
theorem dX12_takePerson_25 : decode cX12_takePerson 25 = .ok (.invokevirtual 134, 3) := by decide +kernel
theorem dX12_takePerson_28 : decode cX12_takePerson 28 = .ok (.ireturn, 1) := by decide +kernel
theorem dX12_takeSways_0 : decode cX12_takeSways 0 = .ok (.aload_n 0, 1) := by decide +kernel
theorem dX12_takeSways_1 : decode cX12_takeSways 1 = .ok (.aload_n 0, 1) := by decide +kernel
theorem dX12_takeSways_2 : decode cX12_takeSways 2 = .ok (.getfield 47, 3) := by decide +kernel
theorem dX12_takeSways_5 : decode cX12_takeSways 5 = .ok (.iconst 0, 1) := by decide +kernel
theorem dX12_takeSways_6 : decode cX12_takeSways 6 = .ok (.iconst 0, 1) := by decide +kernel
theorem dX12_takeSways_7 : decode cX12_takeSways 7 = .ok (.bipush 9, 2) := by decide +kernel
theorem dX12_takeSways_9 : decode cX12_takeSways 9 = .ok (.invokevirtual 134, 3) := by decide +kernel
theorem dX12_takeSways_12 : decode cX12_takeSways 12 = .ok (.istore_n 1, 1) := by decide +kernel
theorem dX12_takeSways_13 : decode cX12_takeSways 13 = .ok (.aload_n 0, 1) := by decide +kernel
theorem dX12_takeSways_14 : decode cX12_takeSways 14 = .ok (.iconst 1, 1) := by decide +kernel
theorem dX12_takeSways_15 : decode cX12_takeSways 15 = .ok (.putfield 144, 3) := by decide +kernel
theorem dX12_takeSways_18 : decode cX12_takeSways 18 = .ok (.iload_n 1, 1) := by decide +kernel
theorem dX12_takeSways_19 : decode cX12_takeSways 19 = .ok (.ifCond .ne 70, 3) := by decide +kernel
theorem dX12_takeSways_22 : decode cX12_takeSways 22 = .ok (.aload_n 0, 1) := by decide +kernel
theorem dX12_takeSways_23 : decode cX12_takeSways 23 = .ok (.invokevirtual 104, 3) := by decide +kernel
theorem dX12_takeSways_26 : decode cX12_takeSways 26 = .ok (.bipush 44, 2) := by decide +kernel
theorem dX12_takeSways_28 : decode cX12_takeSways 28 = .ok (.if_icmp .ne 61, 3) := by decide +kernel
theorem dX12_takeSways_31 : decode cX12_takeSways 31 = .ok (.aload_n 0, 1) := by decide +kernel
theorem dX12_takeSways_32 : decode cX12_takeSways 32 = .ok (.getfield 144, 3) := by decide +kernel
theorem dX12_takeSways_35 : decode cX12_takeSways 35 = .ok (.bipush 12, 2) := by decide +kernel
theorem dX12_takeSways_37 : decode cX12_takeSways 37 = .ok (.if_icmp .ne 13, 3) := by decide +kernel
theorem dX12_takeSways_40 : decode cX12_takeSways 40 = .ok (.aload_n 0, 1) := by decide +kernel
theorem dX12_takeSways_41 : decode cX12_takeSways 41 = .ok (.iconst 1, 1) := by decide +kernel
theorem dX12_takeSways_42 : decode cX12_takeSways 42 = .ok (.aload_n 0, 1) := by decide +kernel
theorem dX12_takeSways_43 : decode cX12_takeSways 43 = .ok (.getfield 101, 3) := by decide +kernel
theorem dX12_takeSways_46 : decode cX12_takeSways 46 = .ok (.invokevirtual 112, 3) := by decide +kernel
theorem dX12_takeSways_49 : decode cX12_takeSways 49 = .ok (.ireturn, 1) := by decide +kernel
theorem dX12_takeSways_50 : decode cX12_takeSways 50 = .ok (.aload_n 0, 1) := by decide +kernel
theorem dX12_takeSways_51 : decode cX12_takeSways 51 = .ok (.dup, 1) := by decide +kernel
theorem dX12_takeSways_52 : decode cX12_takeSways 52 = .ok (.getfield 101, 3) := by decide +kernel
theorem dX12_takeSways_55 : decode cX12_takeSways 55 = .ok (.iconst 1, 1) := by decide +kernel
theorem dX12_takeSways_56 : decode cX12_takeSways 56 = .ok (.iadd, 1) := by decide +kernel
theorem dX12_takeSways_57 : decode cX12_takeSways 57 = .ok (.putfield 101, 3) := by decide +kernel
theorem dX12_takeSways_60 : decode cX12_takeSways 60 = .ok (.aload_n 0, 1) := by decide +kernel
theorem dX12_takeSways_61 : decode cX12_takeSways 61 = .ok (.aload_n 0, 1) := by decide +kernel
theorem dX12_takeSways_62 : decode cX12_takeSways 62 = .ok (.getfield 47, 3) := by decide +kernel
theorem dX12_takeSways_65 : decode cX12_takeSways 65 = .ok (.aload_n 0, 1) := by decide +kernel
theorem dX12_takeSways_66 : decode cX12_takeSways 66 = .ok (.getfield 144, 3) := by decide +kernel
theorem dX12_takeSways_69 : decode cX12_takeSways 69 = .ok (.iconst 0, 1) := by decide +kernel
theorem dX12_takeSways_70 : decode cX12_takeSways 70 = .ok (.bipush 9, 2) := by decide +kernel
theorem dX12_takeSways_72 : decode cX12_takeSways 72 = .ok (.invokevirtual 134, 3) := by decide +kernel
theorem dX12_takeSways_75 : decode cX12_takeSways 75 = .ok (.istore_n 1, 1) := by decide +kernel
theorem dX12_takeSways_76 : decode cX12_takeSways 76 = .ok (.aload_n 0, 1) := by decide +kernel
theorem dX12_takeSways_77 : decode cX12_takeSways 77 = .ok (.dup, 1) := by decide +kernel
theorem dX12_takeSways_78 : decode cX12_takeSways 78 = .ok (.getfield 144, 3) := by decide +kernel
theorem dX12_takeSways_81 : decode cX12_takeSways 81 = .ok (.iconst 1, 1) := by decide +kernel
theorem dX12_takeSways_82 : decode cX12_takeSways 82 = .ok (.iadd, 1) := by decide +kernel
theorem dX12_takeSways_83 : decode cX12_takeSways 83 = .ok (.putfield 144, 3) := by decide +kernel
theorem dX12_takeSways_86 : decode cX12_takeSways 86 = .ok (.goto (-68), 3) := by decide +kernel
theorem dX12_takeSways_89 : decode cX12_takeSways 89 = .ok (.iload_n 1, 1) := by decide +kernel
theorem dX12_takeSways_90 : decode cX12_takeSways 90 = .ok (.ireturn, 1) := by decide +kernel
theorem dX12_isFull_0 : decode cX12_isFull 0 = .ok (.iload_n 1, 1) := by decide +kernel
theorem dX12_isFull_1 : decode cX12_isFull 1 = .ok (.tableswitch 88 0 3 #[31, 44, 58, 73], 31) := by decide +kernel
theorem dX12_isFull_32 : decode cX12_isFull 32 = .ok (.aload_n 0, 1) := by decide +kernel
theorem dX12_isFull_33 : decode cX12_isFull 33 = .ok (.getfield 125, 3) := by decide +kernel
theorem dX12_isFull_36 : decode cX12_isFull 36 = .ok (.ifCond .le 7, 3) := by decide +kernel
theorem dX12_isFull_39 : decode cX12_isFull 39 = .ok (.iconst 1, 1) := by decide +kernel
theorem dX12_isFull_40 : decode cX12_isFull 40 = .ok (.goto 4, 3) := by decide +kernel
theorem dX12_isFull_43 : decode cX12_isFull 43 = .ok (.iconst 0, 1) := by decide +kernel
theorem dX12_isFull_44 : decode cX12_isFull 44 = .ok (.ireturn, 1) := by decide +kernel
theorem dX12_isFull_45 : decode cX12_isFull 45 = .ok (.aload_n 0, 1) := by decide +kernel
theorem dX12_isFull_46 : decode cX12_isFull 46 = .ok (.getfield 131, 3) := by decide +kernel
theorem dX12_isFull_49 : decode cX12_isFull 49 = .ok (.iconst 5, 1) := by decide +kernel
theorem dX12_isFull_50 : decode cX12_isFull 50 = .ok (.if_icmp .ne 7, 3) := by decide +kernel
theorem dX12_isFull_53 : decode cX12_isFull 53 = .ok (.iconst 1, 1) := by decide +kernel
theorem dX12_isFull_54 : decode cX12_isFull 54 = .ok (.goto 4, 3) := by decide +kernel
theorem dX12_isFull_57 : decode cX12_isFull 57 = .ok (.iconst 0, 1) := by decide +kernel
theorem dX12_isFull_58 : decode cX12_isFull 58 = .ok (.ireturn, 1) := by decide +kernel
theorem dX12_isFull_59 : decode cX12_isFull 59 = .ok (.aload_n 0, 1) := by decide +kernel
theorem dX12_isFull_60 : decode cX12_isFull 60 = .ok (.getfield 138, 3) := by decide +kernel
theorem dX12_isFull_63 : decode cX12_isFull 63 = .ok (.bipush 6, 2) := by decide +kernel
theorem dX12_isFull_65 : decode cX12_isFull 65 = .ok (.if_icmp .ne 7, 3) := by decide +kernel
theorem dX12_isFull_68 : decode cX12_isFull 68 = .ok (.iconst 1, 1) := by decide +kernel
theorem dX12_isFull_69 : decode cX12_isFull 69 = .ok (.goto 4, 3) := by decide +kernel
theorem dX12_isFull_72 : decode cX12_isFull 72 = .ok (.iconst 0, 1) := by decide +kernel
theorem dX12_isFull_73 : decode cX12_isFull 73 = .ok (.ireturn, 1) := by decide +kernel
theorem dX12_isFull_74 : decode cX12_isFull 74 = .ok (.aload_n 0, 1) := by decide +kernel
theorem dX12_isFull_75 : decode cX12_isFull 75 = .ok (.getfield 141, 3) := by decide +kernel
theorem dX12_isFull_78 : decode cX12_isFull 78 = .ok (.bipush 6, 2) := by decide +kernel
theorem dX12_isFull_80 : decode cX12_isFull 80 = .ok (.if_icmp .ne 7, 3) := by decide +kernel
theorem dX12_isFull_83 : decode cX12_isFull 83 = .ok (.iconst 1, 1) := by decide +kernel
theorem dX12_isFull_84 : decode cX12_isFull 84 = .ok (.goto 4, 3) := by decide +kernel
theorem dX12_isFull_87 : decode cX12_isFull 87 = .ok (.iconst 0, 1) := by decide +kernel
theorem dX12_isFull_88 : decode cX12_isFull 88 = .ok (.ireturn, 1) := by decide +kernel
theorem dX12_isFull_89 : decode cX12_isFull 89 = .ok (.aload_n 0, 1) := by decide +kernel
theorem dX12_isFull_90 : decode cX12_isFull 90 = .ok (.getfield 144, 3) := by decide +kernel
theorem dX12_isFull_93 : decode cX12_isFull 93 = .ok (.ifCond .le 7, 3) := by decide +kernel
theorem dX12_isFull_96 : decode cX12_isFull 96 = .ok (.iconst 1, 1) := by decide +kernel
theorem dX12_isFull_97 : decode cX12_isFull 97 = .ok (.goto 4, 3) := by decide +kernel
theorem dX12_isFull_100 : decode cX12_isFull 100 = .ok (.iconst 0, 1) := by decide +kernel
theorem dX12_isFull_101 : decode cX12_isFull 101 = .ok (.ireturn, 1) := by decide +kernel
theorem dX12_takeBody_0 : decode cX12_takeBody 0 = .ok (.iload_n 1, 1) := by decide +kernel
theorem dX12_takeBody_1 : decode cX12_takeBody 1 = .ok (.tableswitch 51 0 3 #[31, 36, 41, 46], 31) := by decide +kernel
theorem dX12_takeBody_32 : decode cX12_takeBody 32 = .ok (.aload_n 0, 1) := by decide +kernel
theorem dX12_takeBody_33 : decode cX12_takeBody 33 = .ok (.invokevirtual 147, 3) := by decide +kernel
theorem dX12_takeBody_36 : decode cX12_takeBody 36 = .ok (.ireturn, 1) := by decide +kernel
theorem dX12_takeBody_37 : decode cX12_takeBody 37 = .ok (.aload_n 0, 1) := by decide +kernel
theorem dX12_takeBody_38 : decode cX12_takeBody 38 = .ok (.invokevirtual 150, 3) := by decide +kernel
theorem dX12_takeBody_41 : decode cX12_takeBody 41 = .ok (.ireturn, 1) := by decide +kernel
theorem dX12_takeBody_42 : decode cX12_takeBody 42 = .ok (.aload_n 0, 1) := by decide +kernel
theorem dX12_takeBody_43 : decode cX12_takeBody 43 = .ok (.invokevirtual 153, 3) := by decide +kernel
theorem dX12_takeBody_46 : decode cX12_takeBody 46 = .ok (.ireturn, 1) := by decide +kernel
theorem dX12_takeBody_47 : decode cX12_takeBody 47 = .ok (.aload_n 0, 1) := by decide +kernel
theorem dX12_takeBody_48 : decode cX12_takeBody 48 = .ok (.invokevirtual 156, 3) := by decide +kernel
theorem dX12_takeBody_51 : decode cX12_takeBody 51 = .ok (.ireturn, 1) := by decide +kernel
theorem dX12_takeBody_52 : decode cX12_takeBody 52 = .ok (.aload_n 0, 1) := by decide +kernel
theorem dX12_takeBody_53 : decode cX12_takeBody 53 = .ok (.invokevirtual 159, 3) := by decide +kernel
theorem dX12_takeBody_56 : decode cX12_takeBody 56 = .ok (.ireturn, 1) := by decide +kernel
theorem dX12_takeClause_0 : decode cX12_takeClause 0 = .ok (.aload_n 0, 1) := by decide +kernel
theorem dX12_takeClause_1 : decode cX12_takeClause 1 = .ok (.invokevirtual 104, 3) := by decide +kernel
theorem dX12_takeClause_4 : decode cX12_takeClause 4 = .ok (.istore_n 1, 1) := by decide +kernel
theorem dX12_takeClause_5 : decode cX12_takeClause 5 = .ok (.iload_n 1, 1) := by decide +kernel
theorem dX12_takeClause_6 : decode cX12_takeClause 6 = .ok (.bipush 114, 2) := by decide +kernel
theorem dX12_takeClause_8 : decode cX12_takeClause 8 = .ok (.if_icmp .ne 7, 3) := by decide +kernel
theorem dX12_takeClause_11 : decode cX12_takeClause 11 = .ok (.iconst 0, 1) := by decide +kernel
theorem dX12_takeClause_12 : decode cX12_takeClause 12 = .ok (.goto 44, 3) := by decide +kernel
theorem dX12_takeClause_15 : decode cX12_takeClause 15 = .ok (.iload_n 1, 1) := by decide +kernel
theorem dX12_takeClause_16 : decode cX12_takeClause 16 = .ok (.bipush 110, 2) := by decide +kernel
theorem dX12_takeClause_18 : decode cX12_takeClause 18 = .ok (.if_icmp .ne 7, 3) := by decide +kernel
theorem dX12_takeClause_21 : decode cX12_takeClause 21 = .ok (.iconst 1, 1) := by decide +kernel
theorem dX12_takeClause_22 : decode cX12_takeClause 22 = .ok (.goto 34, 3) := by decide +kernel
theorem dX12_takeClause_25 : decode cX12_takeClause 25 = .ok (.iload_n 1, 1) := by decide +kernel
theorem dX12_takeClause_26 : decode cX12_takeClause 26 = .ok (.bipush 111, 2) := by decide +kernel
theorem dX12_takeClause_28 : decode cX12_takeClause 28 = .ok (.if_icmp .ne 7, 3) := by decide +kernel
theorem dX12_takeClause_31 : decode cX12_takeClause 31 = .ok (.iconst 2, 1) := by decide +kernel
theorem dX12_takeClause_32 : decode cX12_takeClause 32 = .ok (.goto 24, 3) := by decide +kernel
theorem dX12_takeClause_35 : decode cX12_takeClause 35 = .ok (.iload_n 1, 1) := by decide +kernel
theorem dX12_takeClause_36 : decode cX12_takeClause 36 = .ok (.bipush 112, 2) := by decide +kernel
theorem dX12_takeClause_38 : decode cX12_takeClause 38 = .ok (.if_icmp .ne 7, 3) := by decide +kernel
theorem dX12_takeClause_41 : decode cX12_takeClause 41 = .ok (.iconst 3, 1) := by decide +kernel
theorem dX12_takeClause_42 : decode cX12_takeClause 42 = .ok (.goto 14, 3) := by decide +kernel
theorem dX12_takeClause_45 : decode cX12_takeClause 45 = .ok (.iload_n 1, 1) := by decide +kernel
theorem dX12_takeClause_46 : decode cX12_takeClause 46 = .ok (.bipush 100, 2) := by decide +kernel
theorem dX12_takeClause_48 : decode cX12_takeClause 48 = .ok (.if_icmp .ne 7, 3) := by decide +kernel
theorem dX12_takeClause_51 : decode cX12_takeClause 51 = .ok (.iconst 4, 1) := by decide +kernel
theorem dX12_takeClause_52 : decode cX12_takeClause 52 = .ok (.goto 4, 3) := by decide +kernel
theorem dX12_takeClause_55 : decode cX12_takeClause 55 = .ok (.iconst (-1), 1) := by decide +kernel
theorem dX12_takeClause_56 : decode cX12_takeClause 56 = .ok (.istore_n 2, 1) := by decide +kernel
theorem dX12_takeClause_57 : decode cX12_takeClause 57 = .ok (.iload_n 2, 1) := by decide +kernel
theorem dX12_takeClause_58 : decode cX12_takeClause 58 = .ok (.ifCond .lt 14, 3) := by decide +kernel
theorem dX12_takeClause_61 : decode cX12_takeClause 61 = .ok (.iload_n 2, 1) := by decide +kernel
theorem dX12_takeClause_62 : decode cX12_takeClause 62 = .ok (.ifCond .le 20, 3) := by decide +kernel
theorem dX12_takeClause_65 : decode cX12_takeClause 65 = .ok (.aload_n 0, 1) := by decide +kernel
theorem dX12_takeClause_66 : decode cX12_takeClause 66 = .ok (.getfield 125, 3) := by decide +kernel
theorem dX12_takeClause_69 : decode cX12_takeClause 69 = .ok (.ifCond .ne 13, 3) := by decide +kernel
theorem dX12_takeClause_72 : decode cX12_takeClause 72 = .ok (.aload_n 0, 1) := by decide +kernel
theorem dX12_takeClause_73 : decode cX12_takeClause 73 = .ok (.iconst 1, 1) := by decide +kernel
theorem dX12_takeClause_74 : decode cX12_takeClause 74 = .ok (.aload_n 0, 1) := by decide +kernel
theorem dX12_takeClause_75 : decode cX12_takeClause 75 = .ok (.getfield 101, 3) := by decide +kernel
theorem dX12_takeClause_78 : decode cX12_takeClause 78 = .ok (.invokevirtual 112, 3) := by decide +kernel
theorem dX12_takeClause_81 : decode cX12_takeClause 81 = .ok (.ireturn, 1) := by decide +kernel
theorem dX12_takeClause_82 : decode cX12_takeClause 82 = .ok (.aload_n 0, 1) := by decide +kernel
theorem dX12_takeClause_83 : decode cX12_takeClause 83 = .ok (.iload_n 2, 1) := by decide +kernel
theorem dX12_takeClause_84 : decode cX12_takeClause 84 = .ok (.invokevirtual 162, 3) := by decide +kernel
theorem dX12_takeClause_87 : decode cX12_takeClause 87 = .ok (.ifCond .eq 13, 3) := by decide +kernel
theorem dX12_takeClause_90 : decode cX12_takeClause 90 = .ok (.aload_n 0, 1) := by decide +kernel
theorem dX12_takeClause_91 : decode cX12_takeClause 91 = .ok (.iconst 3, 1) := by decide +kernel
theorem dX12_takeClause_92 : decode cX12_takeClause 92 = .ok (.aload_n 0, 1) := by decide +kernel
theorem dX12_takeClause_93 : decode cX12_takeClause 93 = .ok (.getfield 101, 3) := by decide +kernel
theorem dX12_takeClause_96 : decode cX12_takeClause 96 = .ok (.invokevirtual 112, 3) := by decide +kernel
theorem dX12_takeClause_99 : decode cX12_takeClause 99 = .ok (.ireturn, 1) := by decide +kernel
theorem dX12_takeClause_100 : decode cX12_takeClause 100 = .ok (.aload_n 0, 1) := by decide +kernel
theorem dX12_takeClause_101 : decode cX12_takeClause 101 = .ok (.dup, 1) := by decide +kernel
theorem dX12_takeClause_102 : decode cX12_takeClause 102 = .ok (.getfield 101, 3) := by decide +kernel
theorem dX12_takeClause_105 : decode cX12_takeClause 105 = .ok (.iconst 1, 1) := by decide +kernel
theorem dX12_takeClause_106 : decode cX12_takeClause 106 = .ok (.iadd, 1) := by decide +kernel
theorem dX12_takeClause_107 : decode cX12_takeClause 107 = .ok (.putfield 101, 3) := by decide +kernel
theorem dX12_takeClause_110 : decode cX12_takeClause 110 = .ok (.aload_n 0, 1) := by decide +kernel
theorem dX12_takeClause_111 : decode cX12_takeClause 111 = .ok (.iload_n 2, 1) := by decide +kernel
theorem dX12_takeClause_112 : decode cX12_takeClause 112 = .ok (.invokevirtual 166, 3) := by decide +kernel
theorem dX12_takeClause_115 : decode cX12_takeClause 115 = .ok (.istore_n 3, 1) := by decide +kernel
theorem dX12_takeClause_116 : decode cX12_takeClause 116 = .ok (.iload_n 3, 1) := by decide +kernel
theorem dX12_takeClause_117 : decode cX12_takeClause 117 = .ok (.ifCond .ne 22, 3) := by decide +kernel
theorem dX12_takeClause_120 : decode cX12_takeClause 120 = .ok (.aload_n 0, 1) := by decide +kernel
theorem dX12_takeClause_121 : decode cX12_takeClause 121 = .ok (.invokevirtual 104, 3) := by decide +kernel
theorem dX12_takeClause_124 : decode cX12_takeClause 124 = .ok (.bipush 59, 2) := by decide +kernel
theorem dX12_takeClause_126 : decode cX12_takeClause 126 = .ok (.if_icmp .eq 13, 3) := by decide +kernel
theorem dX12_takeClause_129 : decode cX12_takeClause 129 = .ok (.aload_n 0, 1) := by decide +kernel
theorem dX12_takeClause_130 : decode cX12_takeClause 130 = .ok (.iconst 1, 1) := by decide +kernel
theorem dX12_takeClause_131 : decode cX12_takeClause 131 = .ok (.aload_n 0, 1) := by decide +kernel
theorem dX12_takeClause_132 : decode cX12_takeClause 132 = .ok (.getfield 101, 3) := by decide +kernel
theorem dX12_takeClause_135 : decode cX12_takeClause 135 = .ok (.invokevirtual 112, 3) := by decide +kernel
theorem dX12_takeClause_138 : decode cX12_takeClause 138 = .ok (.ireturn, 1) := by decide +kernel
theorem dX12_takeClause_139 : decode cX12_takeClause 139 = .ok (.aload_n 0, 1) := by decide +kernel
theorem dX12_takeClause_140 : decode cX12_takeClause 140 = .ok (.dup, 1) := by decide +kernel
theorem dX12_takeClause_141 : decode cX12_takeClause 141 = .ok (.getfield 101, 3) := by decide +kernel
theorem dX12_takeClause_144 : decode cX12_takeClause 144 = .ok (.iconst 1, 1) := by decide +kernel
theorem dX12_takeClause_145 : decode cX12_takeClause 145 = .ok (.iadd, 1) := by decide +kernel
theorem dX12_takeClause_146 : decode cX12_takeClause 146 = .ok (.putfield 101, 3) := by decide +kernel
theorem dX12_takeClause_149 : decode cX12_takeClause 149 = .ok (.iload_n 3, 1) := by decide +kernel
theorem dX12_takeClause_150 : decode cX12_takeClause 150 = .ok (.ireturn, 1) := by decide +kernel
theorem dX12_copyRow_0 : decode cX12_copyRow 0 = .ok (.iconst 0, 1) := by decide +kernel
theorem dX12_copyRow_1 : decode cX12_copyRow 1 = .ok (.istore_n 3, 1) := by decide +kernel
theorem dX12_copyRow_2 : decode cX12_copyRow 2 = .ok (.iload_n 3, 1) := by decide +kernel
theorem dX12_copyRow_3 : decode cX12_copyRow 3 = .ok (.iload_n 2, 1) := by decide +kernel
theorem dX12_copyRow_4 : decode cX12_copyRow 4 = .ok (.if_icmp .ge 15, 3) := by decide +kernel
theorem dX12_copyRow_7 : decode cX12_copyRow 7 = .ok (.aload_n 1, 1) := by decide +kernel
theorem dX12_copyRow_8 : decode cX12_copyRow 8 = .ok (.iload_n 3, 1) := by decide +kernel
theorem dX12_copyRow_9 : decode cX12_copyRow 9 = .ok (.aload_n 0, 1) := by decide +kernel
theorem dX12_copyRow_10 : decode cX12_copyRow 10 = .ok (.iload_n 3, 1) := by decide +kernel
theorem dX12_copyRow_11 : decode cX12_copyRow 11 = .ok (.iaload, 1) := by decide +kernel
theorem dX12_copyRow_12 : decode cX12_copyRow 12 = .ok (.iastore, 1) := by decide +kernel
theorem dX12_copyRow_13 : decode cX12_copyRow 13 = .ok (.iinc 3 1, 3) := by decide +kernel
theorem dX12_copyRow_16 : decode cX12_copyRow 16 = .ok (.goto (-14), 3) := by decide +kernel
theorem dX12_copyRow_19 : decode cX12_copyRow 19 = .ok (.return_, 1) := by decide +kernel
theorem dX12_takeRead_0 : decode cX12_takeRead 0 = .ok (.aload_n 0, 1) := by decide +kernel
theorem dX12_takeRead_1 : decode cX12_takeRead 1 = .ok (.aload_n 0, 1) := by decide +kernel
theorem dX12_takeRead_2 : decode cX12_takeRead 2 = .ok (.getfield 125, 3) := by decide +kernel
theorem dX12_takeRead_5 : decode cX12_takeRead 5 = .ok (.putfield 81, 3) := by decide +kernel
theorem dX12_takeRead_8 : decode cX12_takeRead 8 = .ok (.aload_n 0, 1) := by decide +kernel
theorem dX12_takeRead_9 : decode cX12_takeRead 9 = .ok (.aload_n 0, 1) := by decide +kernel
theorem dX12_takeRead_10 : decode cX12_takeRead 10 = .ok (.getfield 128, 3) := by decide +kernel
theorem dX12_takeRead_13 : decode cX12_takeRead 13 = .ok (.putfield 170, 3) := by decide +kernel
theorem dX12_takeRead_16 : decode cX12_takeRead 16 = .ok (.aload_n 0, 1) := by decide +kernel
theorem dX12_takeRead_17 : decode cX12_takeRead 17 = .ok (.aload_n 0, 1) := by decide +kernel
theorem dX12_takeRead_18 : decode cX12_takeRead 18 = .ok (.getfield 131, 3) := by decide +kernel
theorem dX12_takeRead_21 : decode cX12_takeRead 21 = .ok (.putfield 173, 3) := by decide +kernel
theorem dX12_takeRead_24 : decode cX12_takeRead 24 = .ok (.aload_n 0, 1) := by decide +kernel
theorem dX12_takeRead_25 : decode cX12_takeRead 25 = .ok (.aload_n 0, 1) := by decide +kernel
theorem dX12_takeRead_26 : decode cX12_takeRead 26 = .ok (.getfield 138, 3) := by decide +kernel
theorem dX12_takeRead_29 : decode cX12_takeRead 29 = .ok (.putfield 84, 3) := by decide +kernel
theorem dX12_takeRead_32 : decode cX12_takeRead 32 = .ok (.aload_n 0, 1) := by decide +kernel
theorem dX12_takeRead_33 : decode cX12_takeRead 33 = .ok (.aload_n 0, 1) := by decide +kernel
theorem dX12_takeRead_34 : decode cX12_takeRead 34 = .ok (.getfield 141, 3) := by decide +kernel
theorem dX12_takeRead_37 : decode cX12_takeRead 37 = .ok (.putfield 91, 3) := by decide +kernel
theorem dX12_takeRead_40 : decode cX12_takeRead 40 = .ok (.aload_n 0, 1) := by decide +kernel
theorem dX12_takeRead_41 : decode cX12_takeRead 41 = .ok (.aload_n 0, 1) := by decide +kernel
theorem dX12_takeRead_42 : decode cX12_takeRead 42 = .ok (.getfield 144, 3) := by decide +kernel
theorem dX12_takeRead_45 : decode cX12_takeRead 45 = .ok (.putfield 176, 3) := by decide +kernel
theorem dX12_takeRead_48 : decode cX12_takeRead 48 = .ok (.aload_n 0, 1) := by decide +kernel
theorem dX12_takeRead_49 : decode cX12_takeRead 49 = .ok (.getfield 35, 3) := by decide +kernel
theorem dX12_takeRead_52 : decode cX12_takeRead 52 = .ok (.aload_n 0, 1) := by decide +kernel
theorem dX12_takeRead_53 : decode cX12_takeRead 53 = .ok (.getfield 7, 3) := by decide +kernel
theorem dX12_takeRead_56 : decode cX12_takeRead 56 = .ok (.aload_n 0, 1) := by decide +kernel
theorem dX12_takeRead_57 : decode cX12_takeRead 57 = .ok (.getfield 173, 3) := by decide +kernel
theorem dX12_takeRead_60 : decode cX12_takeRead 60 = .ok (.invokestatic 179, 3) := by decide +kernel
theorem dX12_takeRead_63 : decode cX12_takeRead 63 = .ok (.aload_n 0, 1) := by decide +kernel
theorem dX12_takeRead_64 : decode cX12_takeRead 64 = .ok (.getfield 38, 3) := by decide +kernel
theorem dX12_takeRead_67 : decode cX12_takeRead 67 = .ok (.aload_n 0, 1) := by decide +kernel
theorem dX12_takeRead_68 : decode cX12_takeRead 68 = .ok (.getfield 13, 3) := by decide +kernel
theorem dX12_takeRead_71 : decode cX12_takeRead 71 = .ok (.aload_n 0, 1) := by decide +kernel
theorem dX12_takeRead_72 : decode cX12_takeRead 72 = .ok (.getfield 84, 3) := by decide +kernel
theorem dX12_takeRead_75 : decode cX12_takeRead 75 = .ok (.invokestatic 179, 3) := by decide +kernel
theorem dX12_takeRead_78 : decode cX12_takeRead 78 = .ok (.aload_n 0, 1) := by decide +kernel
theorem dX12_takeRead_79 : decode cX12_takeRead 79 = .ok (.getfield 41, 3) := by decide +kernel
theorem dX12_takeRead_82 : decode cX12_takeRead 82 = .ok (.aload_n 0, 1) := by decide +kernel
theorem dX12_takeRead_83 : decode cX12_takeRead 83 = .ok (.getfield 16, 3) := by decide +kernel
theorem dX12_takeRead_86 : decode cX12_takeRead 86 = .ok (.aload_n 0, 1) := by decide +kernel
theorem dX12_takeRead_87 : decode cX12_takeRead 87 = .ok (.getfield 84, 3) := by decide +kernel
theorem dX12_takeRead_90 : decode cX12_takeRead 90 = .ok (.invokestatic 179, 3) := by decide +kernel
theorem dX12_takeRead_93 : decode cX12_takeRead 93 = .ok (.aload_n 0, 1) := by decide +kernel
theorem dX12_takeRead_94 : decode cX12_takeRead 94 = .ok (.getfield 44, 3) := by decide +kernel
theorem dX12_takeRead_97 : decode cX12_takeRead 97 = .ok (.aload_n 0, 1) := by decide +kernel
theorem dX12_takeRead_98 : decode cX12_takeRead 98 = .ok (.getfield 19, 3) := by decide +kernel
theorem dX12_takeRead_101 : decode cX12_takeRead 101 = .ok (.aload_n 0, 1) := by decide +kernel
theorem dX12_takeRead_102 : decode cX12_takeRead 102 = .ok (.getfield 91, 3) := by decide +kernel
theorem dX12_takeRead_105 : decode cX12_takeRead 105 = .ok (.invokestatic 179, 3) := by decide +kernel
theorem dX12_takeRead_108 : decode cX12_takeRead 108 = .ok (.aload_n 0, 1) := by decide +kernel
theorem dX12_takeRead_109 : decode cX12_takeRead 109 = .ok (.getfield 47, 3) := by decide +kernel
theorem dX12_takeRead_112 : decode cX12_takeRead 112 = .ok (.aload_n 0, 1) := by decide +kernel
theorem dX12_takeRead_113 : decode cX12_takeRead 113 = .ok (.getfield 22, 3) := by decide +kernel
theorem dX12_takeRead_116 : decode cX12_takeRead 116 = .ok (.aload_n 0, 1) := by decide +kernel
theorem dX12_takeRead_117 : decode cX12_takeRead 117 = .ok (.getfield 176, 3) := by decide +kernel
theorem dX12_takeRead_120 : decode cX12_takeRead 120 = .ok (.invokestatic 179, 3) := by decide +kernel
theorem dX12_takeRead_123 : decode cX12_takeRead 123 = .ok (.iconst 0, 1) := by decide +kernel
theorem dX12_takeRead_124 : decode cX12_takeRead 124 = .ok (.istore_n 1, 1) := by decide +kernel
theorem dX12_takeRead_125 : decode cX12_takeRead 125 = .ok (.iload_n 1, 1) := by decide +kernel
theorem dX12_takeRead_126 : decode cX12_takeRead 126 = .ok (.bipush 80, 2) := by decide +kernel
theorem dX12_takeRead_128 : decode cX12_takeRead 128 = .ok (.if_icmp .ge 16, 3) := by decide +kernel
theorem dX12_takeRead_131 : decode cX12_takeRead 131 = .ok (.aload_n 0, 1) := by decide +kernel
theorem dX12_takeRead_132 : decode cX12_takeRead 132 = .ok (.getfield 25, 3) := by decide +kernel
theorem dX12_takeRead_135 : decode cX12_takeRead 135 = .ok (.iload_n 1, 1) := by decide +kernel
theorem dX12_takeRead_136 : decode cX12_takeRead 136 = .ok (.iconst 0, 1) := by decide +kernel
theorem dX12_takeRead_137 : decode cX12_takeRead 137 = .ok (.iastore, 1) := by decide +kernel
theorem dX12_takeRead_138 : decode cX12_takeRead 138 = .ok (.iinc 1 1, 3) := by decide +kernel
theorem dX12_takeRead_141 : decode cX12_takeRead 141 = .ok (.goto (-16), 3) := by decide +kernel
theorem dX12_takeRead_144 : decode cX12_takeRead 144 = .ok (.aload_n 0, 1) := by decide +kernel
theorem dX12_takeRead_145 : decode cX12_takeRead 145 = .ok (.getfield 25, 3) := by decide +kernel
theorem dX12_takeRead_148 : decode cX12_takeRead 148 = .ok (.iconst 0, 1) := by decide +kernel
theorem dX12_takeRead_149 : decode cX12_takeRead 149 = .ok (.aload_n 0, 1) := by decide +kernel
theorem dX12_takeRead_150 : decode cX12_takeRead 150 = .ok (.getfield 81, 3) := by decide +kernel
theorem dX12_takeRead_153 : decode cX12_takeRead 153 = .ok (.iastore, 1) := by decide +kernel
theorem dX12_takeRead_154 : decode cX12_takeRead 154 = .ok (.iconst 0, 1) := by decide +kernel
theorem dX12_takeRead_155 : decode cX12_takeRead 155 = .ok (.istore_n 1, 1) := by decide +kernel
theorem dX12_takeRead_156 : decode cX12_takeRead 156 = .ok (.iload_n 1, 1) := by decide +kernel
theorem dX12_takeRead_157 : decode cX12_takeRead 157 = .ok (.aload_n 0, 1) := by decide +kernel
theorem dX12_takeRead_158 : decode cX12_takeRead 158 = .ok (.getfield 91, 3) := by decide +kernel
theorem dX12_takeRead_161 : decode cX12_takeRead 161 = .ok (.if_icmp .ge 24, 3) := by decide +kernel
theorem dX12_takeRead_164 : decode cX12_takeRead 164 = .ok (.aload_n 0, 1) := by decide +kernel
theorem dX12_takeRead_165 : decode cX12_takeRead 165 = .ok (.getfield 25, 3) := by decide +kernel
theorem dX12_takeRead_168 : decode cX12_takeRead 168 = .ok (.bipush 74, 2) := by decide +kernel
theorem dX12_takeRead_170 : decode cX12_takeRead 170 = .ok (.iload_n 1, 1) := by decide +kernel
theorem dX12_takeRead_171 : decode cX12_takeRead 171 = .ok (.iadd, 1) := by decide +kernel
theorem dX12_takeRead_172 : decode cX12_takeRead 172 = .ok (.aload_n 0, 1) := by decide +kernel
theorem dX12_takeRead_173 : decode cX12_takeRead 173 = .ok (.getfield 19, 3) := by decide +kernel
theorem dX12_takeRead_176 : decode cX12_takeRead 176 = .ok (.iload_n 1, 1) := by decide +kernel
theorem dX12_takeRead_177 : decode cX12_takeRead 177 = .ok (.iaload, 1) := by decide +kernel
theorem dX12_takeRead_178 : decode cX12_takeRead 178 = .ok (.iastore, 1) := by decide +kernel
theorem dX12_takeRead_179 : decode cX12_takeRead 179 = .ok (.iinc 1 1, 3) := by decide +kernel
theorem dX12_takeRead_182 : decode cX12_takeRead 182 = .ok (.goto (-26), 3) := by decide +kernel
theorem dX12_takeRead_185 : decode cX12_takeRead 185 = .ok (.return_, 1) := by decide +kernel
theorem dX12_realm_0 : decode cX12_realm 0 = .ok (.aload_n 0, 1) := by decide +kernel
theorem dX12_realm_1 : decode cX12_realm 1 = .ok (.iconst (-1), 1) := by decide +kernel
theorem dX12_realm_2 : decode cX12_realm 2 = .ok (.putfield 31, 3) := by decide +kernel
theorem dX12_realm_5 : decode cX12_realm 5 = .ok (.aload_n 0, 1) := by decide +kernel
theorem dX12_realm_6 : decode cX12_realm 6 = .ok (.iconst 0, 1) := by decide +kernel
theorem dX12_realm_7 : decode cX12_realm 7 = .ok (.putfield 101, 3) := by decide +kernel
theorem dX12_realm_10 : decode cX12_realm 10 = .ok (.aload_n 0, 1) := by decide +kernel
theorem dX12_realm_11 : decode cX12_realm 11 = .ok (.iconst 0, 1) := by decide +kernel
theorem dX12_realm_12 : decode cX12_realm 12 = .ok (.putfield 125, 3) := by decide +kernel
theorem dX12_realm_15 : decode cX12_realm 15 = .ok (.aload_n 0, 1) := by decide +kernel
theorem dX12_realm_16 : decode cX12_realm 16 = .ok (.iconst 0, 1) := by decide +kernel
theorem dX12_realm_17 : decode cX12_realm 17 = .ok (.putfield 131, 3) := by decide +kernel
theorem dX12_realm_20 : decode cX12_realm 20 = .ok (.aload_n 0, 1) := by decide +kernel
theorem dX12_realm_21 : decode cX12_realm 21 = .ok (.iconst 0, 1) := by decide +kernel
theorem dX12_realm_22 : decode cX12_realm 22 = .ok (.putfield 138, 3) := by decide +kernel
theorem dX12_realm_25 : decode cX12_realm 25 = .ok (.aload_n 0, 1) := by decide +kernel
theorem dX12_realm_26 : decode cX12_realm 26 = .ok (.iconst 0, 1) := by decide +kernel
theorem dX12_realm_27 : decode cX12_realm 27 = .ok (.putfield 141, 3) := by decide +kernel
theorem dX12_realm_30 : decode cX12_realm 30 = .ok (.aload_n 0, 1) := by decide +kernel
theorem dX12_realm_31 : decode cX12_realm 31 = .ok (.iconst 0, 1) := by decide +kernel
theorem dX12_realm_32 : decode cX12_realm 32 = .ok (.putfield 144, 3) := by decide +kernel
theorem dX12_realm_35 : decode cX12_realm 35 = .ok (.iconst 0, 1) := by decide +kernel
theorem dX12_realm_36 : decode cX12_realm 36 = .ok (.istore_n 1, 1) := by decide +kernel
theorem dX12_realm_37 : decode cX12_realm 37 = .ok (.iload_n 1, 1) := by decide +kernel
theorem dX12_realm_38 : decode cX12_realm 38 = .ok (.ifCond .ne 18, 3) := by decide +kernel
theorem dX12_realm_41 : decode cX12_realm 41 = .ok (.aload_n 0, 1) := by decide +kernel
theorem dX12_realm_42 : decode cX12_realm 42 = .ok (.invokevirtual 104, 3) := by decide +kernel
theorem dX12_realm_45 : decode cX12_realm 45 = .ok (.ifCond .lt 11, 3) := by decide +kernel
theorem dX12_realm_48 : decode cX12_realm 48 = .ok (.aload_n 0, 1) := by decide +kernel
theorem dX12_realm_49 : decode cX12_realm 49 = .ok (.invokevirtual 183, 3) := by decide +kernel
theorem dX12_realm_52 : decode cX12_realm 52 = .ok (.istore_n 1, 1) := by decide +kernel
theorem dX12_realm_53 : decode cX12_realm 53 = .ok (.goto (-16), 3) := by decide +kernel
theorem dX12_realm_56 : decode cX12_realm 56 = .ok (.aload_n 0, 1) := by decide +kernel
theorem dX12_realm_57 : decode cX12_realm 57 = .ok (.iconst 0, 1) := by decide +kernel
theorem dX12_realm_58 : decode cX12_realm 58 = .ok (.putfield 97, 3) := by decide +kernel
theorem dX12_realm_61 : decode cX12_realm 61 = .ok (.iload_n 1, 1) := by decide +kernel
theorem dX12_realm_62 : decode cX12_realm 62 = .ok (.ifCond .le 8, 3) := by decide +kernel
theorem dX12_realm_65 : decode cX12_realm 65 = .ok (.bipush (-10), 2) := by decide +kernel
theorem dX12_realm_67 : decode cX12_realm 67 = .ok (.iload_n 1, 1) := by decide +kernel
theorem dX12_realm_68 : decode cX12_realm 68 = .ok (.isub, 1) := by decide +kernel
theorem dX12_realm_69 : decode cX12_realm 69 = .ok (.ireturn, 1) := by decide +kernel
theorem dX12_realm_70 : decode cX12_realm 70 = .ok (.aload_n 0, 1) := by decide +kernel
theorem dX12_realm_71 : decode cX12_realm 71 = .ok (.invokevirtual 186, 3) := by decide +kernel
theorem dX12_realm_74 : decode cX12_realm 74 = .ok (.aload_n 0, 1) := by decide +kernel
theorem dX12_realm_75 : decode cX12_realm 75 = .ok (.iconst 0, 1) := by decide +kernel
theorem dX12_realm_76 : decode cX12_realm 76 = .ok (.putfield 189, 3) := by decide +kernel
theorem dX12_realm_79 : decode cX12_realm 79 = .ok (.aload_n 0, 1) := by decide +kernel
theorem dX12_realm_80 : decode cX12_realm 80 = .ok (.iconst 0, 1) := by decide +kernel
theorem dX12_realm_81 : decode cX12_realm 81 = .ok (.putfield 192, 3) := by decide +kernel
theorem dX12_realm_84 : decode cX12_realm 84 = .ok (.aload_n 0, 1) := by decide +kernel
theorem dX12_realm_85 : decode cX12_realm 85 = .ok (.iconst 0, 1) := by decide +kernel
theorem dX12_realm_86 : decode cX12_realm 86 = .ok (.putfield 195, 3) := by decide +kernel
theorem dX12_realm_89 : decode cX12_realm 89 = .ok (.aload_n 0, 1) := by decide +kernel
theorem dX12_realm_90 : decode cX12_realm 90 = .ok (.getfield 77, 3) := by decide +kernel
theorem dX12_realm_93 : decode cX12_realm 93 = .ok (.iconst 0, 1) := by decide +kernel
theorem dX12_realm_94 : decode cX12_realm 94 = .ok (.iconst 0, 1) := by decide +kernel
theorem dX12_realm_95 : decode cX12_realm 95 = .ok (.bastore, 1) := by decide +kernel
theorem dX12_realm_96 : decode cX12_realm 96 = .ok (.aload_n 0, 1) := by decide +kernel
theorem dX12_realm_97 : decode cX12_realm 97 = .ok (.getfield 77, 3) := by decide +kernel
theorem dX12_realm_100 : decode cX12_realm 100 = .ok (.iconst 1, 1) := by decide +kernel
theorem dX12_realm_101 : decode cX12_realm 101 = .ok (.iconst 0, 1) := by decide +kernel
theorem dX12_realm_102 : decode cX12_realm 102 = .ok (.bastore, 1) := by decide +kernel
theorem dX12_realm_103 : decode cX12_realm 103 = .ok (.aload_n 0, 1) := by decide +kernel
theorem dX12_realm_104 : decode cX12_realm 104 = .ok (.getfield 81, 3) := by decide +kernel
theorem dX12_realm_107 : decode cX12_realm 107 = .ok (.ireturn, 1) := by decide +kernel
theorem dX12_fault_0 : decode cX12_fault 0 = .ok (.aload_n 0, 1) := by decide +kernel
theorem dX12_fault_1 : decode cX12_fault 1 = .ok (.getfield 31, 3) := by decide +kernel
theorem dX12_fault_4 : decode cX12_fault 4 = .ok (.ireturn, 1) := by decide +kernel
theorem dX12_swayOf_0 : decode cX12_swayOf 0 = .ok (.aload_n 0, 1) := by decide +kernel
theorem dX12_swayOf_1 : decode cX12_swayOf 1 = .ok (.getfield 176, 3) := by decide +kernel
theorem dX12_swayOf_4 : decode cX12_swayOf 4 = .ok (.ifCond .ne 7, 3) := by decide +kernel
theorem dX12_swayOf_7 : decode cX12_swayOf 7 = .ok (.iconst 0, 1) := by decide +kernel
theorem dX12_swayOf_8 : decode cX12_swayOf 8 = .ok (.goto 16, 3) := by decide +kernel
theorem dX12_swayOf_11 : decode cX12_swayOf 11 = .ok (.aload_n 0, 1) := by decide +kernel
theorem dX12_swayOf_12 : decode cX12_swayOf 12 = .ok (.getfield 22, 3) := by decide +kernel
theorem dX12_swayOf_15 : decode cX12_swayOf 15 = .ok (.iload_n 1, 1) := by decide +kernel
theorem dX12_swayOf_16 : decode cX12_swayOf 16 = .ok (.aload_n 0, 1) := by decide +kernel
theorem dX12_swayOf_17 : decode cX12_swayOf 17 = .ok (.getfield 176, 3) := by decide +kernel
theorem dX12_swayOf_20 : decode cX12_swayOf 20 = .ok (.irem, 1) := by decide +kernel
theorem dX12_swayOf_21 : decode cX12_swayOf 21 = .ok (.iaload, 1) := by decide +kernel
theorem dX12_swayOf_22 : decode cX12_swayOf 22 = .ok (.iconst 4, 1) := by decide +kernel
theorem dX12_swayOf_23 : decode cX12_swayOf 23 = .ok (.isub, 1) := by decide +kernel
theorem dX12_swayOf_24 : decode cX12_swayOf 24 = .ok (.ireturn, 1) := by decide +kernel
theorem dX12_bound_0 : decode cX12_bound 0 = .ok (.iload_n 0, 1) := by decide +kernel
theorem dX12_bound_1 : decode cX12_bound 1 = .ok (.bipush 99, 2) := by decide +kernel
theorem dX12_bound_3 : decode cX12_bound 3 = .ok (.if_icmp .le 8, 3) := by decide +kernel
theorem dX12_bound_6 : decode cX12_bound 6 = .ok (.bipush 99, 2) := by decide +kernel
theorem dX12_bound_8 : decode cX12_bound 8 = .ok (.goto 15, 3) := by decide +kernel
theorem dX12_bound_11 : decode cX12_bound 11 = .ok (.iload_n 0, 1) := by decide +kernel
theorem dX12_bound_12 : decode cX12_bound 12 = .ok (.bipush (-99), 2) := by decide +kernel
theorem dX12_bound_14 : decode cX12_bound 14 = .ok (.if_icmp .ge 8, 3) := by decide +kernel
theorem dX12_bound_17 : decode cX12_bound 17 = .ok (.bipush (-99), 2) := by decide +kernel
theorem dX12_bound_19 : decode cX12_bound 19 = .ok (.goto 4, 3) := by decide +kernel
theorem dX12_bound_22 : decode cX12_bound 22 = .ok (.iload_n 0, 1) := by decide +kernel
theorem dX12_bound_23 : decode cX12_bound 23 = .ok (.ireturn, 1) := by decide +kernel
theorem dX12_measuredBy_0 : decode cX12_measuredBy 0 = .ok (.bipush 10, 2) := by decide +kernel
theorem dX12_measuredBy_2 : decode cX12_measuredBy 2 = .ok (.iload_n 1, 1) := by decide +kernel
theorem dX12_measuredBy_3 : decode cX12_measuredBy 3 = .ok (.imul, 1) := by decide +kernel
theorem dX12_measuredBy_4 : decode cX12_measuredBy 4 = .ok (.aload_n 0, 1) := by decide +kernel
theorem dX12_measuredBy_5 : decode cX12_measuredBy 5 = .ok (.getfield 25, 3) := by decide +kernel
theorem dX12_measuredBy_8 : decode cX12_measuredBy 8 = .ok (.iconst 0, 1) := by decide +kernel
theorem dX12_measuredBy_9 : decode cX12_measuredBy 9 = .ok (.iaload, 1) := by decide +kernel
theorem dX12_measuredBy_10 : decode cX12_measuredBy 10 = .ok (.idiv, 1) := by decide +kernel
theorem dX12_measuredBy_11 : decode cX12_measuredBy 11 = .ok (.ireturn, 1) := by decide +kernel
theorem dX12_fits_0 : decode cX12_fits 0 = .ok (.aload_n 0, 1) := by decide +kernel
theorem dX12_fits_1 : decode cX12_fits 1 = .ok (.iload_n 2, 1) := by decide +kernel
theorem dX12_fits_2 : decode cX12_fits 2 = .ok (.invokevirtual 198, 3) := by decide +kernel
theorem dX12_fits_5 : decode cX12_fits 5 = .ok (.i2l, 1) := by decide +kernel
theorem dX12_fits_6 : decode cX12_fits 6 = .ok (.aload_n 0, 1) := by decide +kernel
theorem dX12_fits_7 : decode cX12_fits 7 = .ok (.getfield 13, 3) := by decide +kernel
theorem dX12_fits_10 : decode cX12_fits 10 = .ok (.iload_n 1, 1) := by decide +kernel
theorem dX12_fits_11 : decode cX12_fits 11 = .ok (.iaload, 1) := by decide +kernel
theorem dX12_fits_12 : decode cX12_fits 12 = .ok (.i2l, 1) := by decide +kernel
theorem dX12_fits_13 : decode cX12_fits 13 = .ok (.aload_n 0, 1) := by decide +kernel
theorem dX12_fits_14 : decode cX12_fits 14 = .ok (.getfield 16, 3) := by decide +kernel
theorem dX12_fits_17 : decode cX12_fits 17 = .ok (.iload_n 1, 1) := by decide +kernel
theorem dX12_fits_18 : decode cX12_fits 18 = .ok (.iaload, 1) := by decide +kernel
theorem dX12_fits_19 : decode cX12_fits 19 = .ok (.i2l, 1) := by decide +kernel
theorem dX12_fits_20 : decode cX12_fits 20 = .ok (.invokestatic 87, 3) := by decide +kernel
theorem dX12_fits_23 : decode cX12_fits 23 = .ok (.ireturn, 1) := by decide +kernel
theorem dX12_fitsOf_0 : decode cX12_fitsOf 0 = .ok (.iconst 0, 1) := by decide +kernel
theorem dX12_fitsOf_1 : decode cX12_fitsOf 1 = .ok (.istore_n 2, 1) := by decide +kernel
theorem dX12_fitsOf_2 : decode cX12_fitsOf 2 = .ok (.iconst 0, 1) := by decide +kernel
theorem dX12_fitsOf_3 : decode cX12_fitsOf 3 = .ok (.istore_n 3, 1) := by decide +kernel
theorem dX12_fitsOf_4 : decode cX12_fitsOf 4 = .ok (.iload_n 3, 1) := by decide +kernel
theorem dX12_fitsOf_5 : decode cX12_fitsOf 5 = .ok (.aload_n 0, 1) := by decide +kernel
theorem dX12_fitsOf_6 : decode cX12_fitsOf 6 = .ok (.getfield 91, 3) := by decide +kernel
theorem dX12_fitsOf_9 : decode cX12_fitsOf 9 = .ok (.if_icmp .ge 36, 3) := by decide +kernel
theorem dX12_fitsOf_12 : decode cX12_fitsOf 12 = .ok (.iload_n 2, 1) := by decide +kernel
theorem dX12_fitsOf_13 : decode cX12_fitsOf 13 = .ok (.aload_n 0, 1) := by decide +kernel
theorem dX12_fitsOf_14 : decode cX12_fitsOf 14 = .ok (.iload_n 1, 1) := by decide +kernel
theorem dX12_fitsOf_15 : decode cX12_fitsOf 15 = .ok (.aload_n 0, 1) := by decide +kernel
theorem dX12_fitsOf_16 : decode cX12_fitsOf 16 = .ok (.getfield 25, 3) := by decide +kernel
theorem dX12_fitsOf_19 : decode cX12_fitsOf 19 = .ok (.bipush 74, 2) := by decide +kernel
theorem dX12_fitsOf_21 : decode cX12_fitsOf 21 = .ok (.iload_n 3, 1) := by decide +kernel
theorem dX12_fitsOf_22 : decode cX12_fitsOf 22 = .ok (.iadd, 1) := by decide +kernel
theorem dX12_fitsOf_23 : decode cX12_fitsOf 23 = .ok (.iaload, 1) := by decide +kernel
theorem dX12_fitsOf_24 : decode cX12_fitsOf 24 = .ok (.invokevirtual 201, 3) := by decide +kernel
theorem dX12_fitsOf_27 : decode cX12_fitsOf 27 = .ok (.ifCond .eq 9, 3) := by decide +kernel
theorem dX12_fitsOf_30 : decode cX12_fitsOf 30 = .ok (.iconst 1, 1) := by decide +kernel
theorem dX12_fitsOf_31 : decode cX12_fitsOf 31 = .ok (.iload_n 3, 1) := by decide +kernel
theorem dX12_fitsOf_32 : decode cX12_fitsOf 32 = .ok (.ishl, 1) := by decide +kernel
theorem dX12_fitsOf_33 : decode cX12_fitsOf 33 = .ok (.goto 4, 3) := by decide +kernel
theorem dX12_fitsOf_36 : decode cX12_fitsOf 36 = .ok (.iconst 0, 1) := by decide +kernel
theorem dX12_fitsOf_37 : decode cX12_fitsOf 37 = .ok (.ior, 1) := by decide +kernel
theorem dX12_fitsOf_38 : decode cX12_fitsOf 38 = .ok (.istore_n 2, 1) := by decide +kernel
theorem dX12_fitsOf_39 : decode cX12_fitsOf 39 = .ok (.iinc 3 1, 3) := by decide +kernel
theorem dX12_fitsOf_42 : decode cX12_fitsOf 42 = .ok (.goto (-38), 3) := by decide +kernel
theorem dX12_fitsOf_45 : decode cX12_fitsOf 45 = .ok (.iload_n 2, 1) := by decide +kernel
theorem dX12_fitsOf_46 : decode cX12_fitsOf 46 = .ok (.ireturn, 1) := by decide +kernel
theorem dX12_longest_0 : decode cX12_longest 0 = .ok (.iconst (-1), 1) := by decide +kernel
theorem dX12_longest_1 : decode cX12_longest 1 = .ok (.istore_n 1, 1) := by decide +kernel
theorem dX12_longest_2 : decode cX12_longest 2 = .ok (.iconst 0, 1) := by decide +kernel
theorem dX12_longest_3 : decode cX12_longest 3 = .ok (.istore_n 2, 1) := by decide +kernel
theorem dX12_longest_4 : decode cX12_longest 4 = .ok (.iload_n 2, 1) := by decide +kernel
theorem dX12_longest_5 : decode cX12_longest 5 = .ok (.aload_n 0, 1) := by decide +kernel
theorem dX12_longest_6 : decode cX12_longest 6 = .ok (.getfield 25, 3) := by decide +kernel
theorem dX12_longest_9 : decode cX12_longest 9 = .ok (.iconst 4, 1) := by decide +kernel
theorem dX12_longest_10 : decode cX12_longest 10 = .ok (.iaload, 1) := by decide +kernel
theorem dX12_longest_11 : decode cX12_longest 11 = .ok (.if_icmp .ge 40, 3) := by decide +kernel
theorem dX12_longest_14 : decode cX12_longest 14 = .ok (.iload_n 1, 1) := by decide +kernel
theorem dX12_longest_15 : decode cX12_longest 15 = .ok (.ifCond .lt 24, 3) := by decide +kernel
theorem dX12_longest_18 : decode cX12_longest 18 = .ok (.aload_n 0, 1) := by decide +kernel
theorem dX12_longest_19 : decode cX12_longest 19 = .ok (.getfield 25, 3) := by decide +kernel
theorem dX12_longest_22 : decode cX12_longest 22 = .ok (.bipush 6, 2) := by decide +kernel
theorem dX12_longest_24 : decode cX12_longest 24 = .ok (.iload_n 2, 1) := by decide +kernel
theorem dX12_longest_25 : decode cX12_longest 25 = .ok (.iadd, 1) := by decide +kernel
theorem dX12_longest_26 : decode cX12_longest 26 = .ok (.iaload, 1) := by decide +kernel
theorem dX12_longest_27 : decode cX12_longest 27 = .ok (.aload_n 0, 1) := by decide +kernel
theorem dX12_longest_28 : decode cX12_longest 28 = .ok (.getfield 25, 3) := by decide +kernel
theorem dX12_longest_31 : decode cX12_longest 31 = .ok (.bipush 6, 2) := by decide +kernel
theorem dX12_longest_33 : decode cX12_longest 33 = .ok (.iload_n 1, 1) := by decide +kernel
theorem dX12_longest_34 : decode cX12_longest 34 = .ok (.iadd, 1) := by decide +kernel
theorem dX12_longest_35 : decode cX12_longest 35 = .ok (.iaload, 1) := by decide +kernel
theorem dX12_longest_36 : decode cX12_longest 36 = .ok (.if_icmp .le 7, 3) := by decide +kernel
theorem dX12_longest_39 : decode cX12_longest 39 = .ok (.iload_n 2, 1) := by decide +kernel
theorem dX12_longest_40 : decode cX12_longest 40 = .ok (.goto 4, 3) := by decide +kernel
theorem dX12_longest_43 : decode cX12_longest 43 = .ok (.iload_n 1, 1) := by decide +kernel
theorem dX12_longest_44 : decode cX12_longest 44 = .ok (.istore_n 1, 1) := by decide +kernel
theorem dX12_longest_45 : decode cX12_longest 45 = .ok (.iinc 2 1, 3) := by decide +kernel
theorem dX12_longest_48 : decode cX12_longest 48 = .ok (.goto (-44), 3) := by decide +kernel
theorem dX12_longest_51 : decode cX12_longest 51 = .ok (.iload_n 1, 1) := by decide +kernel
theorem dX12_longest_52 : decode cX12_longest 52 = .ok (.ireturn, 1) := by decide +kernel
theorem dX12_told_0 : decode cX12_told 0 = .ok (.iload_n 1, 1) := by decide +kernel
theorem dX12_told_1 : decode cX12_told 1 = .ok (.tableswitch 151 0 13 #[71, 76, 81, 86, 91, 96, 103, 110, 117, 124, 131, 136, 141, 146], 71) := by decide +kernel
theorem dX12_told_72 : decode cX12_told 72 = .ok (.aload_n 0, 1) := by decide +kernel
theorem dX12_told_73 : decode cX12_told 73 = .ok (.getfield 81, 3) := by decide +kernel
theorem dX12_told_76 : decode cX12_told 76 = .ok (.ireturn, 1) := by decide +kernel
theorem dX12_told_77 : decode cX12_told 77 = .ok (.aload_n 0, 1) := by decide +kernel
theorem dX12_told_78 : decode cX12_told 78 = .ok (.getfield 173, 3) := by decide +kernel
theorem dX12_told_81 : decode cX12_told 81 = .ok (.ireturn, 1) := by decide +kernel
theorem dX12_told_82 : decode cX12_told 82 = .ok (.aload_n 0, 1) := by decide +kernel
theorem dX12_told_83 : decode cX12_told 83 = .ok (.getfield 84, 3) := by decide +kernel
theorem dX12_told_86 : decode cX12_told 86 = .ok (.ireturn, 1) := by decide +kernel
theorem dX12_told_87 : decode cX12_told 87 = .ok (.aload_n 0, 1) := by decide +kernel
theorem dX12_told_88 : decode cX12_told 88 = .ok (.getfield 91, 3) := by decide +kernel
theorem dX12_told_91 : decode cX12_told 91 = .ok (.ireturn, 1) := by decide +kernel
theorem dX12_told_92 : decode cX12_told 92 = .ok (.aload_n 0, 1) := by decide +kernel
theorem dX12_told_93 : decode cX12_told 93 = .ok (.getfield 97, 3) := by decide +kernel
theorem dX12_told_96 : decode cX12_told 96 = .ok (.ireturn, 1) := by decide +kernel
theorem dX12_told_97 : decode cX12_told 97 = .ok (.aload_n 0, 1) := by decide +kernel
theorem dX12_told_98 : decode cX12_told 98 = .ok (.getfield 25, 3) := by decide +kernel
theorem dX12_told_101 : decode cX12_told 101 = .ok (.iconst 3, 1) := by decide +kernel
theorem dX12_told_102 : decode cX12_told 102 = .ok (.iaload, 1) := by decide +kernel
theorem dX12_told_103 : decode cX12_told 103 = .ok (.ireturn, 1) := by decide +kernel
theorem dX12_told_104 : decode cX12_told 104 = .ok (.aload_n 0, 1) := by decide +kernel
theorem dX12_told_105 : decode cX12_told 105 = .ok (.getfield 25, 3) := by decide +kernel
theorem dX12_told_108 : decode cX12_told 108 = .ok (.iconst 0, 1) := by decide +kernel
theorem dX12_told_109 : decode cX12_told 109 = .ok (.iaload, 1) := by decide +kernel
theorem dX12_told_110 : decode cX12_told 110 = .ok (.ireturn, 1) := by decide +kernel
theorem dX12_told_111 : decode cX12_told 111 = .ok (.aload_n 0, 1) := by decide +kernel
theorem dX12_told_112 : decode cX12_told 112 = .ok (.getfield 25, 3) := by decide +kernel
theorem dX12_told_115 : decode cX12_told 115 = .ok (.iconst 2, 1) := by decide +kernel
theorem dX12_told_116 : decode cX12_told 116 = .ok (.iaload, 1) := by decide +kernel
theorem dX12_told_117 : decode cX12_told 117 = .ok (.ireturn, 1) := by decide +kernel
theorem dX12_told_118 : decode cX12_told 118 = .ok (.aload_n 0, 1) := by decide +kernel
theorem dX12_told_119 : decode cX12_told 119 = .ok (.getfield 25, 3) := by decide +kernel
theorem dX12_told_122 : decode cX12_told 122 = .ok (.iconst 4, 1) := by decide +kernel
theorem dX12_told_123 : decode cX12_told 123 = .ok (.iaload, 1) := by decide +kernel
theorem dX12_told_124 : decode cX12_told 124 = .ok (.ireturn, 1) := by decide +kernel
theorem dX12_told_125 : decode cX12_told 125 = .ok (.aload_n 0, 1) := by decide +kernel
theorem dX12_told_126 : decode cX12_told 126 = .ok (.getfield 25, 3) := by decide +kernel
theorem dX12_told_129 : decode cX12_told 129 = .ok (.iconst 5, 1) := by decide +kernel
theorem dX12_told_130 : decode cX12_told 130 = .ok (.iaload, 1) := by decide +kernel
theorem dX12_told_131 : decode cX12_told 131 = .ok (.ireturn, 1) := by decide +kernel
theorem dX12_told_132 : decode cX12_told 132 = .ok (.aload_n 0, 1) := by decide +kernel
theorem dX12_told_133 : decode cX12_told 133 = .ok (.invokevirtual 205, 3) := by decide +kernel
theorem dX12_told_136 : decode cX12_told 136 = .ok (.ireturn, 1) := by decide +kernel
theorem dX12_told_137 : decode cX12_told 137 = .ok (.aload_n 0, 1) := by decide +kernel
theorem dX12_told_138 : decode cX12_told 138 = .ok (.getfield 189, 3) := by decide +kernel
theorem dX12_told_141 : decode cX12_told 141 = .ok (.ireturn, 1) := by decide +kernel
theorem dX12_told_142 : decode cX12_told 142 = .ok (.aload_n 0, 1) := by decide +kernel
theorem dX12_told_143 : decode cX12_told 143 = .ok (.getfield 192, 3) := by decide +kernel
theorem dX12_told_146 : decode cX12_told 146 = .ok (.ireturn, 1) := by decide +kernel
theorem dX12_told_147 : decode cX12_told 147 = .ok (.aload_n 0, 1) := by decide +kernel
theorem dX12_told_148 : decode cX12_told 148 = .ok (.getfield 195, 3) := by decide +kernel
theorem dX12_told_151 : decode cX12_told 151 = .ok (.ireturn, 1) := by decide +kernel
theorem dX12_told_152 : decode cX12_told 152 = .ok (.ldc 96, 2) := by decide +kernel
theorem dX12_told_154 : decode cX12_told 154 = .ok (.ireturn, 1) := by decide +kernel
theorem dX12_warped_0 : decode cX12_warped 0 = .ok (.aload_n 0, 1) := by decide +kernel
theorem dX12_warped_1 : decode cX12_warped 1 = .ok (.invokevirtual 208, 3) := by decide +kernel
theorem dX12_warped_4 : decode cX12_warped 4 = .ok (.ifCond .eq 16, 3) := by decide +kernel
theorem dX12_warped_7 : decode cX12_warped 7 = .ok (.aload_n 0, 1) := by decide +kernel
theorem dX12_warped_8 : decode cX12_warped 8 = .ok (.getfield 25, 3) := by decide +kernel
theorem dX12_warped_11 : decode cX12_warped 11 = .ok (.iconst 1, 1) := by decide +kernel
theorem dX12_warped_12 : decode cX12_warped 12 = .ok (.iaload, 1) := by decide +kernel
theorem dX12_warped_13 : decode cX12_warped 13 = .ok (.sipush 1000, 3) := by decide +kernel
theorem dX12_warped_16 : decode cX12_warped 16 = .ok (.iadd, 1) := by decide +kernel
theorem dX12_warped_17 : decode cX12_warped 17 = .ok (.goto 5, 3) := by decide +kernel
theorem dX12_warped_20 : decode cX12_warped 20 = .ok (.ldc 212, 2) := by decide +kernel
theorem dX12_warped_22 : decode cX12_warped 22 = .ok (.ireturn, 1) := by decide +kernel
theorem dX12_nick_0 : decode cX12_nick 0 = .ok (.iload_n 1, 1) := by decide +kernel
theorem dX12_nick_1 : decode cX12_nick 1 = .ok (.i2l, 1) := by decide +kernel
theorem dX12_nick_2 : decode cX12_nick 2 = .ok (.lconst 0, 1) := by decide +kernel
theorem dX12_nick_3 : decode cX12_nick 3 = .ok (.aload_n 0, 1) := by decide +kernel
theorem dX12_nick_4 : decode cX12_nick 4 = .ok (.getfield 173, 3) := by decide +kernel
theorem dX12_nick_7 : decode cX12_nick 7 = .ok (.iconst 1, 1) := by decide +kernel
theorem dX12_nick_8 : decode cX12_nick 8 = .ok (.isub, 1) := by decide +kernel
theorem dX12_nick_9 : decode cX12_nick 9 = .ok (.i2l, 1) := by decide +kernel
theorem dX12_nick_10 : decode cX12_nick 10 = .ok (.invokestatic 87, 3) := by decide +kernel
theorem dX12_nick_13 : decode cX12_nick 13 = .ok (.ifCond .eq 12, 3) := by decide +kernel
theorem dX12_nick_16 : decode cX12_nick 16 = .ok (.aload_n 0, 1) := by decide +kernel
theorem dX12_nick_17 : decode cX12_nick 17 = .ok (.getfield 7, 3) := by decide +kernel
theorem dX12_nick_20 : decode cX12_nick 20 = .ok (.iload_n 1, 1) := by decide +kernel
theorem dX12_nick_21 : decode cX12_nick 21 = .ok (.iaload, 1) := by decide +kernel
theorem dX12_nick_22 : decode cX12_nick 22 = .ok (.goto 4, 3) := by decide +kernel
theorem dX12_nick_25 : decode cX12_nick 25 = .ok (.iconst (-1), 1) := by decide +kernel
theorem dX12_nick_26 : decode cX12_nick 26 = .ok (.ireturn, 1) := by decide +kernel
theorem dX12_office_0 : decode cX12_office 0 = .ok (.aload_n 0, 1) := by decide +kernel
theorem dX12_office_1 : decode cX12_office 1 = .ok (.iload_n 1, 1) := by decide +kernel
theorem dX12_office_2 : decode cX12_office 2 = .ok (.invokevirtual 213, 3) := by decide +kernel
theorem dX12_office_5 : decode cX12_office 5 = .ok (.ifCond .ne 6, 3) := by decide +kernel
theorem dX12_office_8 : decode cX12_office 8 = .ok (.ldc 216, 2) := by decide +kernel
theorem dX12_office_10 : decode cX12_office 10 = .ok (.ireturn, 1) := by decide +kernel
theorem dX12_office_11 : decode cX12_office 11 = .ok (.iload_n 2, 1) := by decide +kernel
theorem dX12_office_12 : decode cX12_office 12 = .ok (.tableswitch 48 0 2 #[28, 35, 42], 28) := by decide +kernel
theorem dX12_office_40 : decode cX12_office 40 = .ok (.aload_n 0, 1) := by decide +kernel
theorem dX12_office_41 : decode cX12_office 41 = .ok (.getfield 13, 3) := by decide +kernel
theorem dX12_office_44 : decode cX12_office 44 = .ok (.iload_n 1, 1) := by decide +kernel
theorem dX12_office_45 : decode cX12_office 45 = .ok (.iaload, 1) := by decide +kernel
theorem dX12_office_46 : decode cX12_office 46 = .ok (.ireturn, 1) := by decide +kernel
theorem dX12_office_47 : decode cX12_office 47 = .ok (.aload_n 0, 1) := by decide +kernel
theorem dX12_office_48 : decode cX12_office 48 = .ok (.getfield 16, 3) := by decide +kernel
theorem dX12_office_51 : decode cX12_office 51 = .ok (.iload_n 1, 1) := by decide +kernel
theorem dX12_office_52 : decode cX12_office 52 = .ok (.iaload, 1) := by decide +kernel
theorem dX12_office_53 : decode cX12_office 53 = .ok (.ireturn, 1) := by decide +kernel
theorem dX12_office_54 : decode cX12_office 54 = .ok (.aload_n 0, 1) := by decide +kernel
theorem dX12_office_55 : decode cX12_office 55 = .ok (.iload_n 1, 1) := by decide +kernel
theorem dX12_office_56 : decode cX12_office 56 = .ok (.invokevirtual 217, 3) := by decide +kernel
theorem dX12_office_59 : decode cX12_office 59 = .ok (.ireturn, 1) := by decide +kernel
theorem dX12_office_60 : decode cX12_office 60 = .ok (.ldc 96, 2) := by decide +kernel
theorem dX12_office_62 : decode cX12_office 62 = .ok (.ireturn, 1) := by decide +kernel
theorem dX12_person_0 : decode cX12_person 0 = .ok (.aload_n 0, 1) := by decide +kernel
theorem dX12_person_1 : decode cX12_person 1 = .ok (.iload_n 1, 1) := by decide +kernel
theorem dX12_person_2 : decode cX12_person 2 = .ok (.invokevirtual 220, 3) := by decide +kernel
theorem dX12_person_5 : decode cX12_person 5 = .ok (.ifCond .ne 6, 3) := by decide +kernel
theorem dX12_person_8 : decode cX12_person 8 = .ok (.ldc 216, 2) := by decide +kernel
theorem dX12_person_10 : decode cX12_person 10 = .ok (.ireturn, 1) := by decide +kernel
theorem dX12_person_11 : decode cX12_person 11 = .ok (.iload_n 2, 1) := by decide +kernel
theorem dX12_person_12 : decode cX12_person 12 = .ok (.lookupswitch 52 #[(0, 28), (1, 38)], 28) := by decide +kernel
theorem dX12_person_40 : decode cX12_person 40 = .ok (.aload_n 0, 1) := by decide +kernel
theorem dX12_person_41 : decode cX12_person 41 = .ok (.getfield 25, 3) := by decide +kernel
theorem dX12_person_44 : decode cX12_person 44 = .ok (.bipush 74, 2) := by decide +kernel
theorem dX12_person_46 : decode cX12_person 46 = .ok (.iload_n 1, 1) := by decide +kernel
theorem dX12_person_47 : decode cX12_person 47 = .ok (.iadd, 1) := by decide +kernel
theorem dX12_person_48 : decode cX12_person 48 = .ok (.iaload, 1) := by decide +kernel
theorem dX12_person_49 : decode cX12_person 49 = .ok (.ireturn, 1) := by decide +kernel
theorem dX12_person_50 : decode cX12_person 50 = .ok (.aload_n 0, 1) := by decide +kernel
theorem dX12_person_51 : decode cX12_person 51 = .ok (.aload_n 0, 1) := by decide +kernel
theorem dX12_person_52 : decode cX12_person 52 = .ok (.getfield 25, 3) := by decide +kernel
theorem dX12_person_55 : decode cX12_person 55 = .ok (.bipush 74, 2) := by decide +kernel
theorem dX12_person_57 : decode cX12_person 57 = .ok (.iload_n 1, 1) := by decide +kernel
theorem dX12_person_58 : decode cX12_person 58 = .ok (.iadd, 1) := by decide +kernel
theorem dX12_person_59 : decode cX12_person 59 = .ok (.iaload, 1) := by decide +kernel
theorem dX12_person_60 : decode cX12_person 60 = .ok (.invokevirtual 198, 3) := by decide +kernel
theorem dX12_person_63 : decode cX12_person 63 = .ok (.ireturn, 1) := by decide +kernel
theorem dX12_person_64 : decode cX12_person 64 = .ok (.ldc 96, 2) := by decide +kernel
theorem dX12_person_66 : decode cX12_person 66 = .ok (.ireturn, 1) := by decide +kernel
theorem dX12_thing_0 : decode cX12_thing 0 = .ok (.iload_n 1, 1) := by decide +kernel
theorem dX12_thing_1 : decode cX12_thing 1 = .ok (.i2l, 1) := by decide +kernel
theorem dX12_thing_2 : decode cX12_thing 2 = .ok (.lconst 0, 1) := by decide +kernel
theorem dX12_thing_3 : decode cX12_thing 3 = .ok (.aload_n 0, 1) := by decide +kernel
theorem dX12_thing_4 : decode cX12_thing 4 = .ok (.getfield 25, 3) := by decide +kernel
theorem dX12_thing_7 : decode cX12_thing 7 = .ok (.iconst 4, 1) := by decide +kernel
theorem dX12_thing_8 : decode cX12_thing 8 = .ok (.iaload, 1) := by decide +kernel
theorem dX12_thing_9 : decode cX12_thing 9 = .ok (.iconst 1, 1) := by decide +kernel
theorem dX12_thing_10 : decode cX12_thing 10 = .ok (.isub, 1) := by decide +kernel
theorem dX12_thing_11 : decode cX12_thing 11 = .ok (.i2l, 1) := by decide +kernel
theorem dX12_thing_12 : decode cX12_thing 12 = .ok (.invokestatic 87, 3) := by decide +kernel
theorem dX12_thing_15 : decode cX12_thing 15 = .ok (.ifCond .ne 6, 3) := by decide +kernel
theorem dX12_thing_18 : decode cX12_thing 18 = .ok (.ldc 216, 2) := by decide +kernel
theorem dX12_thing_20 : decode cX12_thing 20 = .ok (.ireturn, 1) := by decide +kernel
theorem dX12_thing_21 : decode cX12_thing 21 = .ok (.iload_n 2, 1) := by decide +kernel
theorem dX12_thing_22 : decode cX12_thing 22 = .ok (.tableswitch 80 0 3 #[30, 44, 57, 70], 30) := by decide +kernel
theorem dX12_thing_52 : decode cX12_thing 52 = .ok (.aload_n 0, 1) := by decide +kernel
theorem dX12_thing_53 : decode cX12_thing 53 = .ok (.getfield 25, 3) := by decide +kernel
theorem dX12_thing_56 : decode cX12_thing 56 = .ok (.bipush 6, 2) := by decide +kernel
theorem dX12_thing_58 : decode cX12_thing 58 = .ok (.iload_n 1, 1) := by decide +kernel
theorem dX12_thing_59 : decode cX12_thing 59 = .ok (.iadd, 1) := by decide +kernel
theorem dX12_thing_60 : decode cX12_thing 60 = .ok (.iaload, 1) := by decide +kernel
theorem dX12_thing_61 : decode cX12_thing 61 = .ok (.sipush 1000, 3) := by decide +kernel
theorem dX12_thing_64 : decode cX12_thing 64 = .ok (.iadd, 1) := by decide +kernel
theorem dX12_thing_65 : decode cX12_thing 65 = .ok (.ireturn, 1) := by decide +kernel
theorem dX12_thing_66 : decode cX12_thing 66 = .ok (.aload_n 0, 1) := by decide +kernel
theorem dX12_thing_67 : decode cX12_thing 67 = .ok (.getfield 25, 3) := by decide +kernel
theorem dX12_thing_70 : decode cX12_thing 70 = .ok (.bipush 26, 2) := by decide +kernel
theorem dX12_thing_72 : decode cX12_thing 72 = .ok (.iload_n 1, 1) := by decide +kernel
theorem dX12_thing_73 : decode cX12_thing 73 = .ok (.iadd, 1) := by decide +kernel
theorem dX12_thing_74 : decode cX12_thing 74 = .ok (.iaload, 1) := by decide +kernel
theorem dX12_thing_75 : decode cX12_thing 75 = .ok (.bipush 12, 2) := by decide +kernel
theorem dX12_thing_77 : decode cX12_thing 77 = .ok (.idiv, 1) := by decide +kernel
theorem dX12_thing_78 : decode cX12_thing 78 = .ok (.ireturn, 1) := by decide +kernel
theorem dX12_thing_79 : decode cX12_thing 79 = .ok (.aload_n 0, 1) := by decide +kernel
theorem dX12_thing_80 : decode cX12_thing 80 = .ok (.getfield 25, 3) := by decide +kernel
theorem dX12_thing_83 : decode cX12_thing 83 = .ok (.bipush 26, 2) := by decide +kernel
theorem dX12_thing_85 : decode cX12_thing 85 = .ok (.iload_n 1, 1) := by decide +kernel
theorem dX12_thing_86 : decode cX12_thing 86 = .ok (.iadd, 1) := by decide +kernel
theorem dX12_thing_87 : decode cX12_thing 87 = .ok (.iaload, 1) := by decide +kernel
theorem dX12_thing_88 : decode cX12_thing 88 = .ok (.bipush 12, 2) := by decide +kernel
theorem dX12_thing_90 : decode cX12_thing 90 = .ok (.irem, 1) := by decide +kernel
theorem dX12_thing_91 : decode cX12_thing 91 = .ok (.ireturn, 1) := by decide +kernel
theorem dX12_thing_92 : decode cX12_thing 92 = .ok (.aload_n 0, 1) := by decide +kernel
theorem dX12_thing_93 : decode cX12_thing 93 = .ok (.getfield 25, 3) := by decide +kernel
theorem dX12_thing_96 : decode cX12_thing 96 = .ok (.bipush 46, 2) := by decide +kernel
theorem dX12_thing_98 : decode cX12_thing 98 = .ok (.iload_n 1, 1) := by decide +kernel
theorem dX12_thing_99 : decode cX12_thing 99 = .ok (.iadd, 1) := by decide +kernel
theorem dX12_thing_100 : decode cX12_thing 100 = .ok (.iaload, 1) := by decide +kernel
theorem dX12_thing_101 : decode cX12_thing 101 = .ok (.ireturn, 1) := by decide +kernel
theorem dX12_thing_102 : decode cX12_thing 102 = .ok (.ldc 96, 2) := by decide +kernel
theorem dX12_thing_104 : decode cX12_thing 104 = .ok (.ireturn, 1) := by decide +kernel
theorem dX12_hand_0 : decode cX12_hand 0 = .ok (.iload_n 1, 1) := by decide +kernel
theorem dX12_hand_1 : decode cX12_hand 1 = .ok (.i2l, 1) := by decide +kernel
theorem dX12_hand_2 : decode cX12_hand 2 = .ok (.lconst 0, 1) := by decide +kernel
theorem dX12_hand_3 : decode cX12_hand 3 = .ok (.aload_n 0, 1) := by decide +kernel
theorem dX12_hand_4 : decode cX12_hand 4 = .ok (.getfield 25, 3) := by decide +kernel
theorem dX12_hand_7 : decode cX12_hand 7 = .ok (.iconst 5, 1) := by decide +kernel
theorem dX12_hand_8 : decode cX12_hand 8 = .ok (.iaload, 1) := by decide +kernel
theorem dX12_hand_9 : decode cX12_hand 9 = .ok (.iconst 1, 1) := by decide +kernel
theorem dX12_hand_10 : decode cX12_hand 10 = .ok (.isub, 1) := by decide +kernel
theorem dX12_hand_11 : decode cX12_hand 11 = .ok (.i2l, 1) := by decide +kernel
theorem dX12_hand_12 : decode cX12_hand 12 = .ok (.invokestatic 87, 3) := by decide +kernel
theorem dX12_hand_15 : decode cX12_hand 15 = .ok (.ifCond .eq 15, 3) := by decide +kernel
theorem dX12_hand_18 : decode cX12_hand 18 = .ok (.aload_n 0, 1) := by decide +kernel
theorem dX12_hand_19 : decode cX12_hand 19 = .ok (.getfield 25, 3) := by decide +kernel
theorem dX12_hand_22 : decode cX12_hand 22 = .ok (.bipush 66, 2) := by decide +kernel
theorem dX12_hand_24 : decode cX12_hand 24 = .ok (.iload_n 1, 1) := by decide +kernel
theorem dX12_hand_25 : decode cX12_hand 25 = .ok (.iadd, 1) := by decide +kernel
theorem dX12_hand_26 : decode cX12_hand 26 = .ok (.iaload, 1) := by decide +kernel
theorem dX12_hand_27 : decode cX12_hand 27 = .ok (.goto 5, 3) := by decide +kernel
theorem dX12_hand_30 : decode cX12_hand 30 = .ok (.ldc 216, 2) := by decide +kernel
theorem dX12_hand_32 : decode cX12_hand 32 = .ok (.ireturn, 1) := by decide +kernel
theorem dX12_remember_0 : decode cX12_remember 0 = .ok (.aload_n 0, 1) := by decide +kernel
theorem dX12_remember_1 : decode cX12_remember 1 = .ok (.getfield 195, 3) := by decide +kernel
theorem dX12_remember_4 : decode cX12_remember 4 = .ok (.bipush 16, 2) := by decide +kernel
theorem dX12_remember_6 : decode cX12_remember 6 = .ok (.if_icmp .ne 44, 3) := by decide +kernel
theorem dX12_remember_9 : decode cX12_remember 9 = .ok (.bipush 80, 2) := by decide +kernel
theorem dX12_remember_11 : decode cX12_remember 11 = .ok (.istore_n 1, 1) := by decide +kernel
theorem dX12_remember_12 : decode cX12_remember 12 = .ok (.iload_n 1, 1) := by decide +kernel
theorem dX12_remember_13 : decode cX12_remember 13 = .ok (.sipush 1280, 3) := by decide +kernel
theorem dX12_remember_16 : decode cX12_remember 16 = .ok (.if_icmp .ge 24, 3) := by decide +kernel
theorem dX12_remember_19 : decode cX12_remember 19 = .ok (.aload_n 0, 1) := by decide +kernel
theorem dX12_remember_20 : decode cX12_remember 20 = .ok (.getfield 50, 3) := by decide +kernel
theorem dX12_remember_23 : decode cX12_remember 23 = .ok (.iload_n 1, 1) := by decide +kernel
theorem dX12_remember_24 : decode cX12_remember 24 = .ok (.bipush 80, 2) := by decide +kernel
theorem dX12_remember_26 : decode cX12_remember 26 = .ok (.isub, 1) := by decide +kernel
theorem dX12_remember_27 : decode cX12_remember 27 = .ok (.aload_n 0, 1) := by decide +kernel
theorem dX12_remember_28 : decode cX12_remember 28 = .ok (.getfield 50, 3) := by decide +kernel
theorem dX12_remember_31 : decode cX12_remember 31 = .ok (.iload_n 1, 1) := by decide +kernel
theorem dX12_remember_32 : decode cX12_remember 32 = .ok (.iaload, 1) := by decide +kernel
theorem dX12_remember_33 : decode cX12_remember 33 = .ok (.iastore, 1) := by decide +kernel
theorem dX12_remember_34 : decode cX12_remember 34 = .ok (.iinc 1 1, 3) := by decide +kernel
theorem dX12_remember_37 : decode cX12_remember 37 = .ok (.goto (-25), 3) := by decide +kernel
theorem dX12_remember_40 : decode cX12_remember 40 = .ok (.aload_n 0, 1) := by decide +kernel
theorem dX12_remember_41 : decode cX12_remember 41 = .ok (.dup, 1) := by decide +kernel
theorem dX12_remember_42 : decode cX12_remember 42 = .ok (.getfield 195, 3) := by decide +kernel
theorem dX12_remember_45 : decode cX12_remember 45 = .ok (.iconst 1, 1) := by decide +kernel
theorem dX12_remember_46 : decode cX12_remember 46 = .ok (.isub, 1) := by decide +kernel
theorem dX12_remember_47 : decode cX12_remember 47 = .ok (.putfield 195, 3) := by decide +kernel
theorem dX12_remember_50 : decode cX12_remember 50 = .ok (.iconst 0, 1) := by decide +kernel
theorem dX12_remember_51 : decode cX12_remember 51 = .ok (.istore_n 1, 1) := by decide +kernel
theorem dX12_remember_52 : decode cX12_remember 52 = .ok (.iload_n 1, 1) := by decide +kernel
theorem dX12_remember_53 : decode cX12_remember 53 = .ok (.bipush 80, 2) := by decide +kernel
theorem dX12_remember_55 : decode cX12_remember 55 = .ok (.if_icmp .ge 29, 3) := by decide +kernel
theorem dX12_remember_58 : decode cX12_remember 58 = .ok (.aload_n 0, 1) := by decide +kernel
theorem dX12_remember_59 : decode cX12_remember 59 = .ok (.getfield 50, 3) := by decide +kernel
theorem dX12_remember_62 : decode cX12_remember 62 = .ok (.bipush 80, 2) := by decide +kernel
theorem dX12_remember_64 : decode cX12_remember 64 = .ok (.aload_n 0, 1) := by decide +kernel
theorem dX12_remember_65 : decode cX12_remember 65 = .ok (.getfield 195, 3) := by decide +kernel
theorem dX12_remember_68 : decode cX12_remember 68 = .ok (.imul, 1) := by decide +kernel
theorem dX12_remember_69 : decode cX12_remember 69 = .ok (.iload_n 1, 1) := by decide +kernel
theorem dX12_remember_70 : decode cX12_remember 70 = .ok (.iadd, 1) := by decide +kernel
theorem dX12_remember_71 : decode cX12_remember 71 = .ok (.aload_n 0, 1) := by decide +kernel
theorem dX12_remember_72 : decode cX12_remember 72 = .ok (.getfield 25, 3) := by decide +kernel
theorem dX12_remember_75 : decode cX12_remember 75 = .ok (.iload_n 1, 1) := by decide +kernel
theorem dX12_remember_76 : decode cX12_remember 76 = .ok (.iaload, 1) := by decide +kernel
theorem dX12_remember_77 : decode cX12_remember 77 = .ok (.iastore, 1) := by decide +kernel
theorem dX12_remember_78 : decode cX12_remember 78 = .ok (.iinc 1 1, 3) := by decide +kernel
theorem dX12_remember_81 : decode cX12_remember 81 = .ok (.goto (-29), 3) := by decide +kernel
theorem dX12_remember_84 : decode cX12_remember 84 = .ok (.aload_n 0, 1) := by decide +kernel
theorem dX12_remember_85 : decode cX12_remember 85 = .ok (.dup, 1) := by decide +kernel
theorem dX12_remember_86 : decode cX12_remember 86 = .ok (.getfield 195, 3) := by decide +kernel
theorem dX12_remember_89 : decode cX12_remember 89 = .ok (.iconst 1, 1) := by decide +kernel
theorem dX12_remember_90 : decode cX12_remember 90 = .ok (.iadd, 1) := by decide +kernel
theorem dX12_remember_91 : decode cX12_remember 91 = .ok (.putfield 195, 3) := by decide +kernel
theorem dX12_remember_94 : decode cX12_remember 94 = .ok (.return_, 1) := by decide +kernel
theorem dX12_pass_0 : decode cX12_pass 0 = .ok (.aload_n 0, 1) := by decide +kernel
theorem dX12_pass_1 : decode cX12_pass 1 = .ok (.getfield 25, 3) := by decide +kernel
theorem dX12_pass_4 : decode cX12_pass 4 = .ok (.iconst 2, 1) := by decide +kernel
theorem dX12_pass_5 : decode cX12_pass 5 = .ok (.iaload, 1) := by decide +kernel
theorem dX12_pass_6 : decode cX12_pass 6 = .ok (.ifCond .ne 63, 3) := by decide +kernel
theorem dX12_pass_9 : decode cX12_pass 9 = .ok (.aload_n 0, 1) := by decide +kernel
theorem dX12_pass_10 : decode cX12_pass 10 = .ok (.getfield 25, 3) := by decide +kernel
theorem dX12_pass_13 : decode cX12_pass 13 = .ok (.iconst 1, 1) := by decide +kernel
theorem dX12_pass_14 : decode cX12_pass 14 = .ok (.aload_n 0, 1) := by decide +kernel
theorem dX12_pass_15 : decode cX12_pass 15 = .ok (.getfield 25, 3) := by decide +kernel
theorem dX12_pass_18 : decode cX12_pass 18 = .ok (.iconst 1, 1) := by decide +kernel
theorem dX12_pass_19 : decode cX12_pass 19 = .ok (.iaload, 1) := by decide +kernel
theorem dX12_pass_20 : decode cX12_pass 20 = .ok (.aload_n 0, 1) := by decide +kernel
theorem dX12_pass_21 : decode cX12_pass 21 = .ok (.aload_n 0, 1) := by decide +kernel
theorem dX12_pass_22 : decode cX12_pass 22 = .ok (.getfield 25, 3) := by decide +kernel
theorem dX12_pass_25 : decode cX12_pass 25 = .ok (.iconst 3, 1) := by decide +kernel
theorem dX12_pass_26 : decode cX12_pass 26 = .ok (.iaload, 1) := by decide +kernel
theorem dX12_pass_27 : decode cX12_pass 27 = .ok (.invokevirtual 223, 3) := by decide +kernel
theorem dX12_pass_30 : decode cX12_pass 30 = .ok (.iadd, 1) := by decide +kernel
theorem dX12_pass_31 : decode cX12_pass 31 = .ok (.invokestatic 226, 3) := by decide +kernel
theorem dX12_pass_34 : decode cX12_pass 34 = .ok (.iastore, 1) := by decide +kernel
theorem dX12_pass_35 : decode cX12_pass 35 = .ok (.aload_n 0, 1) := by decide +kernel
theorem dX12_pass_36 : decode cX12_pass 36 = .ok (.getfield 25, 3) := by decide +kernel
theorem dX12_pass_39 : decode cX12_pass 39 = .ok (.iconst 0, 1) := by decide +kernel
theorem dX12_pass_40 : decode cX12_pass 40 = .ok (.aload_n 0, 1) := by decide +kernel
theorem dX12_pass_41 : decode cX12_pass 41 = .ok (.getfield 25, 3) := by decide +kernel
theorem dX12_pass_44 : decode cX12_pass 44 = .ok (.iconst 0, 1) := by decide +kernel
theorem dX12_pass_45 : decode cX12_pass 45 = .ok (.iaload, 1) := by decide +kernel
theorem dX12_pass_46 : decode cX12_pass 46 = .ok (.aload_n 0, 1) := by decide +kernel
theorem dX12_pass_47 : decode cX12_pass 47 = .ok (.getfield 170, 3) := by decide +kernel
theorem dX12_pass_50 : decode cX12_pass 50 = .ok (.if_icmp .le 17, 3) := by decide +kernel
theorem dX12_pass_53 : decode cX12_pass 53 = .ok (.aload_n 0, 1) := by decide +kernel
theorem dX12_pass_54 : decode cX12_pass 54 = .ok (.getfield 25, 3) := by decide +kernel
theorem dX12_pass_57 : decode cX12_pass 57 = .ok (.iconst 0, 1) := by decide +kernel
theorem dX12_pass_58 : decode cX12_pass 58 = .ok (.iaload, 1) := by decide +kernel
theorem dX12_pass_59 : decode cX12_pass 59 = .ok (.aload_n 0, 1) := by decide +kernel
theorem dX12_pass_60 : decode cX12_pass 60 = .ok (.getfield 170, 3) := by decide +kernel
theorem dX12_pass_63 : decode cX12_pass 63 = .ok (.isub, 1) := by decide +kernel
theorem dX12_pass_64 : decode cX12_pass 64 = .ok (.goto 4, 3) := by decide +kernel
theorem dX12_pass_67 : decode cX12_pass 67 = .ok (.iconst 1, 1) := by decide +kernel
theorem dX12_pass_68 : decode cX12_pass 68 = .ok (.iastore, 1) := by decide +kernel
theorem dX12_pass_69 : decode cX12_pass 69 = .ok (.aload_n 0, 1) := by decide +kernel
theorem dX12_pass_70 : decode cX12_pass 70 = .ok (.getfield 25, 3) := by decide +kernel
theorem dX12_pass_73 : decode cX12_pass 73 = .ok (.iconst 3, 1) := by decide +kernel
theorem dX12_pass_74 : decode cX12_pass 74 = .ok (.dup2, 1) := by decide +kernel
theorem dX12_pass_75 : decode cX12_pass 75 = .ok (.iaload, 1) := by decide +kernel
theorem dX12_pass_76 : decode cX12_pass 76 = .ok (.iconst 1, 1) := by decide +kernel
theorem dX12_pass_77 : decode cX12_pass 77 = .ok (.iadd, 1) := by decide +kernel
theorem dX12_pass_78 : decode cX12_pass 78 = .ok (.iastore, 1) := by decide +kernel
theorem dX12_pass_79 : decode cX12_pass 79 = .ok (.return_, 1) := by decide +kernel
theorem dX12_yearsRefused_0 : decode cX12_yearsRefused 0 = .ok (.iload_n 1, 1) := by decide +kernel
theorem dX12_yearsRefused_1 : decode cX12_yearsRefused 1 = .ok (.i2l, 1) := by decide +kernel
theorem dX12_yearsRefused_2 : decode cX12_yearsRefused 2 = .ok (.lconst 1, 1) := by decide +kernel
theorem dX12_yearsRefused_3 : decode cX12_yearsRefused 3 = .ok (.ldc2_w 229, 3) := by decide +kernel
theorem dX12_yearsRefused_6 : decode cX12_yearsRefused 6 = .ok (.invokestatic 87, 3) := by decide +kernel
theorem dX12_yearsRefused_9 : decode cX12_yearsRefused 9 = .ok (.ifCond .ne 6, 3) := by decide +kernel
theorem dX12_yearsRefused_12 : decode cX12_yearsRefused 12 = .ok (.ldc 96, 2) := by decide +kernel
theorem dX12_yearsRefused_14 : decode cX12_yearsRefused 14 = .ok (.ireturn, 1) := by decide +kernel
theorem dX12_yearsRefused_15 : decode cX12_yearsRefused 15 = .ok (.aload_n 0, 1) := by decide +kernel
theorem dX12_yearsRefused_16 : decode cX12_yearsRefused 16 = .ok (.invokevirtual 208, 3) := by decide +kernel
theorem dX12_yearsRefused_19 : decode cX12_yearsRefused 19 = .ok (.ifCond .ne 8, 3) := by decide +kernel
theorem dX12_yearsRefused_22 : decode cX12_yearsRefused 22 = .ok (.ldc 212, 2) := by decide +kernel
theorem dX12_yearsRefused_24 : decode cX12_yearsRefused 24 = .ok (.goto 21, 3) := by decide +kernel
theorem dX12_yearsRefused_27 : decode cX12_yearsRefused 27 = .ok (.aload_n 0, 1) := by decide +kernel
theorem dX12_yearsRefused_28 : decode cX12_yearsRefused 28 = .ok (.getfield 25, 3) := by decide +kernel
theorem dX12_yearsRefused_31 : decode cX12_yearsRefused 31 = .ok (.iconst 3, 1) := by decide +kernel
theorem dX12_yearsRefused_32 : decode cX12_yearsRefused 32 = .ok (.iaload, 1) := by decide +kernel
theorem dX12_yearsRefused_33 : decode cX12_yearsRefused 33 = .ok (.sipush 9000, 3) := by decide +kernel
theorem dX12_yearsRefused_36 : decode cX12_yearsRefused 36 = .ok (.if_icmp .le 8, 3) := by decide +kernel
theorem dX12_yearsRefused_39 : decode cX12_yearsRefused 39 = .ok (.ldc 100, 2) := by decide +kernel
theorem dX12_yearsRefused_41 : decode cX12_yearsRefused 41 = .ok (.goto 4, 3) := by decide +kernel
theorem dX12_yearsRefused_44 : decode cX12_yearsRefused 44 = .ok (.iconst 0, 1) := by decide +kernel
theorem dX12_yearsRefused_45 : decode cX12_yearsRefused 45 = .ok (.ireturn, 1) := by decide +kernel
theorem dX12_year_0 : decode cX12_year 0 = .ok (.aload_n 0, 1) := by decide +kernel
theorem dX12_year_1 : decode cX12_year 1 = .ok (.iload_n 1, 1) := by decide +kernel
theorem dX12_year_2 : decode cX12_year 2 = .ok (.invokevirtual 231, 3) := by decide +kernel
theorem dX12_year_5 : decode cX12_year 5 = .ok (.istore_n 2, 1) := by decide +kernel
theorem dX12_year_6 : decode cX12_year 6 = .ok (.iload_n 2, 1) := by decide +kernel
theorem dX12_year_7 : decode cX12_year 7 = .ok (.ifCond .eq 5, 3) := by decide +kernel
theorem dX12_year_10 : decode cX12_year 10 = .ok (.iload_n 2, 1) := by decide +kernel
theorem dX12_year_11 : decode cX12_year 11 = .ok (.ireturn, 1) := by decide +kernel
theorem dX12_year_12 : decode cX12_year 12 = .ok (.aload_n 0, 1) := by decide +kernel
theorem dX12_year_13 : decode cX12_year 13 = .ok (.invokevirtual 234, 3) := by decide +kernel
theorem dX12_year_16 : decode cX12_year 16 = .ok (.iconst 0, 1) := by decide +kernel
theorem dX12_year_17 : decode cX12_year 17 = .ok (.istore_n 3, 1) := by decide +kernel
theorem dX12_year_18 : decode cX12_year 18 = .ok (.iload_n 3, 1) := by decide +kernel
theorem dX12_year_19 : decode cX12_year 19 = .ok (.iload_n 1, 1) := by decide +kernel
theorem dX12_year_20 : decode cX12_year 20 = .ok (.if_icmp .ge 13, 3) := by decide +kernel
theorem dX12_year_23 : decode cX12_year 23 = .ok (.aload_n 0, 1) := by decide +kernel
theorem dX12_year_24 : decode cX12_year 24 = .ok (.invokevirtual 237, 3) := by decide +kernel
theorem dX12_year_27 : decode cX12_year 27 = .ok (.iinc 3 1, 3) := by decide +kernel
theorem dX12_year_30 : decode cX12_year 30 = .ok (.goto (-12), 3) := by decide +kernel
theorem dX12_year_33 : decode cX12_year 33 = .ok (.aload_n 0, 1) := by decide +kernel
theorem dX12_year_34 : decode cX12_year 34 = .ok (.getfield 25, 3) := by decide +kernel
theorem dX12_year_37 : decode cX12_year 37 = .ok (.iconst 3, 1) := by decide +kernel
theorem dX12_year_38 : decode cX12_year 38 = .ok (.iaload, 1) := by decide +kernel
theorem dX12_year_39 : decode cX12_year 39 = .ok (.ireturn, 1) := by decide +kernel
theorem dX12_canUse_0 : decode cX12_canUse 0 = .ok (.aload_n 0, 1) := by decide +kernel
theorem dX12_canUse_1 : decode cX12_canUse 1 = .ok (.invokevirtual 208, 3) := by decide +kernel
theorem dX12_canUse_4 : decode cX12_canUse 4 = .ok (.ifCond .eq 16, 3) := by decide +kernel
theorem dX12_canUse_7 : decode cX12_canUse 7 = .ok (.aload_n 0, 1) := by decide +kernel
theorem dX12_canUse_8 : decode cX12_canUse 8 = .ok (.getfield 25, 3) := by decide +kernel
theorem dX12_canUse_11 : decode cX12_canUse 11 = .ok (.iconst 2, 1) := by decide +kernel
theorem dX12_canUse_12 : decode cX12_canUse 12 = .ok (.iaload, 1) := by decide +kernel
theorem dX12_canUse_13 : decode cX12_canUse 13 = .ok (.ifCond .ne 7, 3) := by decide +kernel
theorem dX12_canUse_16 : decode cX12_canUse 16 = .ok (.iconst 1, 1) := by decide +kernel
theorem dX12_canUse_17 : decode cX12_canUse 17 = .ok (.goto 4, 3) := by decide +kernel
theorem dX12_canUse_20 : decode cX12_canUse 20 = .ok (.iconst 0, 1) := by decide +kernel
theorem dX12_canUse_21 : decode cX12_canUse 21 = .ok (.ireturn, 1) := by decide +kernel
theorem dX12_madeBy_0 : decode cX12_madeBy 0 = .ok (.iload_n 0, 1) := by decide +kernel
theorem dX12_madeBy_1 : decode cX12_madeBy 1 = .ok (.iload_n 1, 1) := by decide +kernel
theorem dX12_madeBy_2 : decode cX12_madeBy 2 = .ok (.imul, 1) := by decide +kernel
theorem dX12_madeBy_3 : decode cX12_madeBy 3 = .ok (.bipush 12, 2) := by decide +kernel
theorem dX12_madeBy_5 : decode cX12_madeBy 5 = .ok (.idiv, 1) := by decide +kernel
theorem dX12_madeBy_6 : decode cX12_madeBy 6 = .ok (.ireturn, 1) := by decide +kernel
theorem dX12_makeNow_0 : decode cX12_makeNow 0 = .ok (.aload_n 0, 1) := by decide +kernel
theorem dX12_makeNow_1 : decode cX12_makeNow 1 = .ok (.getfield 25, 3) := by decide +kernel
theorem dX12_makeNow_4 : decode cX12_makeNow 4 = .ok (.iconst 4, 1) := by decide +kernel
theorem dX12_makeNow_5 : decode cX12_makeNow 5 = .ok (.iaload, 1) := by decide +kernel
theorem dX12_makeNow_6 : decode cX12_makeNow 6 = .ok (.bipush 20, 2) := by decide +kernel
theorem dX12_makeNow_8 : decode cX12_makeNow 8 = .ok (.if_icmp .ne 87, 3) := by decide +kernel
theorem dX12_makeNow_11 : decode cX12_makeNow 11 = .ok (.iconst 1, 1) := by decide +kernel
theorem dX12_makeNow_12 : decode cX12_makeNow 12 = .ok (.istore_n 2, 1) := by decide +kernel
theorem dX12_makeNow_13 : decode cX12_makeNow 13 = .ok (.iload_n 2, 1) := by decide +kernel
theorem dX12_makeNow_14 : decode cX12_makeNow 14 = .ok (.bipush 20, 2) := by decide +kernel
theorem dX12_makeNow_16 : decode cX12_makeNow 16 = .ok (.if_icmp .ge 69, 3) := by decide +kernel
theorem dX12_makeNow_19 : decode cX12_makeNow 19 = .ok (.aload_n 0, 1) := by decide +kernel
theorem dX12_makeNow_20 : decode cX12_makeNow 20 = .ok (.getfield 25, 3) := by decide +kernel
theorem dX12_makeNow_23 : decode cX12_makeNow 23 = .ok (.bipush 6, 2) := by decide +kernel
theorem dX12_makeNow_25 : decode cX12_makeNow 25 = .ok (.iload_n 2, 1) := by decide +kernel
theorem dX12_makeNow_26 : decode cX12_makeNow 26 = .ok (.iadd, 1) := by decide +kernel
theorem dX12_makeNow_27 : decode cX12_makeNow 27 = .ok (.iconst 1, 1) := by decide +kernel
theorem dX12_makeNow_28 : decode cX12_makeNow 28 = .ok (.isub, 1) := by decide +kernel
theorem dX12_makeNow_29 : decode cX12_makeNow 29 = .ok (.aload_n 0, 1) := by decide +kernel
theorem dX12_makeNow_30 : decode cX12_makeNow 30 = .ok (.getfield 25, 3) := by decide +kernel
theorem dX12_makeNow_33 : decode cX12_makeNow 33 = .ok (.bipush 6, 2) := by decide +kernel
theorem dX12_makeNow_35 : decode cX12_makeNow 35 = .ok (.iload_n 2, 1) := by decide +kernel
theorem dX12_makeNow_36 : decode cX12_makeNow 36 = .ok (.iadd, 1) := by decide +kernel
theorem dX12_makeNow_37 : decode cX12_makeNow 37 = .ok (.iaload, 1) := by decide +kernel
theorem dX12_makeNow_38 : decode cX12_makeNow 38 = .ok (.iastore, 1) := by decide +kernel
theorem dX12_makeNow_39 : decode cX12_makeNow 39 = .ok (.aload_n 0, 1) := by decide +kernel
theorem dX12_makeNow_40 : decode cX12_makeNow 40 = .ok (.getfield 25, 3) := by decide +kernel
theorem dX12_makeNow_43 : decode cX12_makeNow 43 = .ok (.bipush 26, 2) := by decide +kernel
theorem dX12_makeNow_45 : decode cX12_makeNow 45 = .ok (.iload_n 2, 1) := by decide +kernel
theorem dX12_makeNow_46 : decode cX12_makeNow 46 = .ok (.iadd, 1) := by decide +kernel
theorem dX12_makeNow_47 : decode cX12_makeNow 47 = .ok (.iconst 1, 1) := by decide +kernel
theorem dX12_makeNow_48 : decode cX12_makeNow 48 = .ok (.isub, 1) := by decide +kernel
theorem dX12_makeNow_49 : decode cX12_makeNow 49 = .ok (.aload_n 0, 1) := by decide +kernel
theorem dX12_makeNow_50 : decode cX12_makeNow 50 = .ok (.getfield 25, 3) := by decide +kernel
theorem dX12_makeNow_53 : decode cX12_makeNow 53 = .ok (.bipush 26, 2) := by decide +kernel
theorem dX12_makeNow_55 : decode cX12_makeNow 55 = .ok (.iload_n 2, 1) := by decide +kernel
theorem dX12_makeNow_56 : decode cX12_makeNow 56 = .ok (.iadd, 1) := by decide +kernel
theorem dX12_makeNow_57 : decode cX12_makeNow 57 = .ok (.iaload, 1) := by decide +kernel
theorem dX12_makeNow_58 : decode cX12_makeNow 58 = .ok (.iastore, 1) := by decide +kernel
theorem dX12_makeNow_59 : decode cX12_makeNow 59 = .ok (.aload_n 0, 1) := by decide +kernel
theorem dX12_makeNow_60 : decode cX12_makeNow 60 = .ok (.getfield 25, 3) := by decide +kernel
theorem dX12_makeNow_63 : decode cX12_makeNow 63 = .ok (.bipush 46, 2) := by decide +kernel
theorem dX12_makeNow_65 : decode cX12_makeNow 65 = .ok (.iload_n 2, 1) := by decide +kernel
theorem dX12_makeNow_66 : decode cX12_makeNow 66 = .ok (.iadd, 1) := by decide +kernel
theorem dX12_makeNow_67 : decode cX12_makeNow 67 = .ok (.iconst 1, 1) := by decide +kernel
theorem dX12_makeNow_68 : decode cX12_makeNow 68 = .ok (.isub, 1) := by decide +kernel
theorem dX12_makeNow_69 : decode cX12_makeNow 69 = .ok (.aload_n 0, 1) := by decide +kernel
theorem dX12_makeNow_70 : decode cX12_makeNow 70 = .ok (.getfield 25, 3) := by decide +kernel
theorem dX12_makeNow_73 : decode cX12_makeNow 73 = .ok (.bipush 46, 2) := by decide +kernel
theorem dX12_makeNow_75 : decode cX12_makeNow 75 = .ok (.iload_n 2, 1) := by decide +kernel
theorem dX12_makeNow_76 : decode cX12_makeNow 76 = .ok (.iadd, 1) := by decide +kernel
theorem dX12_makeNow_77 : decode cX12_makeNow 77 = .ok (.iaload, 1) := by decide +kernel
theorem dX12_makeNow_78 : decode cX12_makeNow 78 = .ok (.iastore, 1) := by decide +kernel
theorem dX12_makeNow_79 : decode cX12_makeNow 79 = .ok (.iinc 2 1, 3) := by decide +kernel
theorem dX12_makeNow_82 : decode cX12_makeNow 82 = .ok (.goto (-69), 3) := by decide +kernel
theorem dX12_makeNow_85 : decode cX12_makeNow 85 = .ok (.aload_n 0, 1) := by decide +kernel
theorem dX12_makeNow_86 : decode cX12_makeNow 86 = .ok (.getfield 25, 3) := by decide +kernel
theorem dX12_makeNow_89 : decode cX12_makeNow 89 = .ok (.iconst 4, 1) := by decide +kernel
theorem dX12_makeNow_90 : decode cX12_makeNow 90 = .ok (.dup2, 1) := by decide +kernel
theorem dX12_makeNow_91 : decode cX12_makeNow 91 = .ok (.iaload, 1) := by decide +kernel
theorem dX12_makeNow_92 : decode cX12_makeNow 92 = .ok (.iconst 1, 1) := by decide +kernel
theorem dX12_makeNow_93 : decode cX12_makeNow 93 = .ok (.isub, 1) := by decide +kernel
theorem dX12_makeNow_94 : decode cX12_makeNow 94 = .ok (.iastore, 1) := by decide +kernel
theorem dX12_makeNow_95 : decode cX12_makeNow 95 = .ok (.aload_n 0, 1) := by decide +kernel
theorem dX12_makeNow_96 : decode cX12_makeNow 96 = .ok (.getfield 25, 3) := by decide +kernel
theorem dX12_makeNow_99 : decode cX12_makeNow 99 = .ok (.iconst 0, 1) := by decide +kernel
theorem dX12_makeNow_100 : decode cX12_makeNow 100 = .ok (.iaload, 1) := by decide +kernel
theorem dX12_makeNow_101 : decode cX12_makeNow 101 = .ok (.iload_n 1, 1) := by decide +kernel
theorem dX12_makeNow_102 : decode cX12_makeNow 102 = .ok (.invokestatic 240, 3) := by decide +kernel
theorem dX12_makeNow_105 : decode cX12_makeNow 105 = .ok (.aload_n 0, 1) := by decide +kernel
theorem dX12_makeNow_106 : decode cX12_makeNow 106 = .ok (.getfield 25, 3) := by decide +kernel
theorem dX12_makeNow_109 : decode cX12_makeNow 109 = .ok (.iconst 1, 1) := by decide +kernel
theorem dX12_makeNow_110 : decode cX12_makeNow 110 = .ok (.iaload, 1) := by decide +kernel
theorem dX12_makeNow_111 : decode cX12_makeNow 111 = .ok (.iadd, 1) := by decide +kernel
theorem dX12_makeNow_112 : decode cX12_makeNow 112 = .ok (.istore_n 2, 1) := by decide +kernel
theorem dX12_makeNow_113 : decode cX12_makeNow 113 = .ok (.aload_n 0, 1) := by decide +kernel
theorem dX12_makeNow_114 : decode cX12_makeNow 114 = .ok (.getfield 25, 3) := by decide +kernel
theorem dX12_makeNow_117 : decode cX12_makeNow 117 = .ok (.bipush 6, 2) := by decide +kernel
theorem dX12_makeNow_119 : decode cX12_makeNow 119 = .ok (.aload_n 0, 1) := by decide +kernel
theorem dX12_makeNow_120 : decode cX12_makeNow 120 = .ok (.getfield 25, 3) := by decide +kernel
theorem dX12_makeNow_123 : decode cX12_makeNow 123 = .ok (.iconst 4, 1) := by decide +kernel
theorem dX12_makeNow_124 : decode cX12_makeNow 124 = .ok (.iaload, 1) := by decide +kernel
theorem dX12_makeNow_125 : decode cX12_makeNow 125 = .ok (.iadd, 1) := by decide +kernel
theorem dX12_makeNow_126 : decode cX12_makeNow 126 = .ok (.iload_n 2, 1) := by decide +kernel
theorem dX12_makeNow_127 : decode cX12_makeNow 127 = .ok (.iastore, 1) := by decide +kernel
theorem dX12_makeNow_128 : decode cX12_makeNow 128 = .ok (.aload_n 0, 1) := by decide +kernel
theorem dX12_makeNow_129 : decode cX12_makeNow 129 = .ok (.getfield 25, 3) := by decide +kernel
theorem dX12_makeNow_132 : decode cX12_makeNow 132 = .ok (.bipush 26, 2) := by decide +kernel
theorem dX12_makeNow_134 : decode cX12_makeNow 134 = .ok (.aload_n 0, 1) := by decide +kernel
theorem dX12_makeNow_135 : decode cX12_makeNow 135 = .ok (.getfield 25, 3) := by decide +kernel
theorem dX12_makeNow_138 : decode cX12_makeNow 138 = .ok (.iconst 4, 1) := by decide +kernel
theorem dX12_makeNow_139 : decode cX12_makeNow 139 = .ok (.iaload, 1) := by decide +kernel
theorem dX12_makeNow_140 : decode cX12_makeNow 140 = .ok (.iadd, 1) := by decide +kernel
theorem dX12_makeNow_141 : decode cX12_makeNow 141 = .ok (.iload_n 1, 1) := by decide +kernel
theorem dX12_makeNow_142 : decode cX12_makeNow 142 = .ok (.iastore, 1) := by decide +kernel
theorem dX12_makeNow_143 : decode cX12_makeNow 143 = .ok (.aload_n 0, 1) := by decide +kernel
theorem dX12_makeNow_144 : decode cX12_makeNow 144 = .ok (.getfield 25, 3) := by decide +kernel
theorem dX12_makeNow_147 : decode cX12_makeNow 147 = .ok (.bipush 46, 2) := by decide +kernel
theorem dX12_makeNow_149 : decode cX12_makeNow 149 = .ok (.aload_n 0, 1) := by decide +kernel
theorem dX12_makeNow_150 : decode cX12_makeNow 150 = .ok (.getfield 25, 3) := by decide +kernel
theorem dX12_makeNow_153 : decode cX12_makeNow 153 = .ok (.iconst 4, 1) := by decide +kernel
theorem dX12_makeNow_154 : decode cX12_makeNow 154 = .ok (.iaload, 1) := by decide +kernel
theorem dX12_makeNow_155 : decode cX12_makeNow 155 = .ok (.iadd, 1) := by decide +kernel
theorem dX12_makeNow_156 : decode cX12_makeNow 156 = .ok (.aload_n 0, 1) := by decide +kernel
theorem dX12_makeNow_157 : decode cX12_makeNow 157 = .ok (.getfield 25, 3) := by decide +kernel
theorem dX12_makeNow_160 : decode cX12_makeNow 160 = .ok (.iconst 3, 1) := by decide +kernel
theorem dX12_makeNow_161 : decode cX12_makeNow 161 = .ok (.iaload, 1) := by decide +kernel
theorem dX12_makeNow_162 : decode cX12_makeNow 162 = .ok (.iastore, 1) := by decide +kernel
theorem dX12_makeNow_163 : decode cX12_makeNow 163 = .ok (.aload_n 0, 1) := by decide +kernel
theorem dX12_makeNow_164 : decode cX12_makeNow 164 = .ok (.getfield 25, 3) := by decide +kernel
theorem dX12_makeNow_167 : decode cX12_makeNow 167 = .ok (.iconst 4, 1) := by decide +kernel
theorem dX12_makeNow_168 : decode cX12_makeNow 168 = .ok (.dup2, 1) := by decide +kernel
theorem dX12_makeNow_169 : decode cX12_makeNow 169 = .ok (.iaload, 1) := by decide +kernel
theorem dX12_makeNow_170 : decode cX12_makeNow 170 = .ok (.iconst 1, 1) := by decide +kernel
theorem dX12_makeNow_171 : decode cX12_makeNow 171 = .ok (.iadd, 1) := by decide +kernel
theorem dX12_makeNow_172 : decode cX12_makeNow 172 = .ok (.iastore, 1) := by decide +kernel
theorem dX12_makeNow_173 : decode cX12_makeNow 173 = .ok (.iload_n 2, 1) := by decide +kernel
theorem dX12_makeNow_174 : decode cX12_makeNow 174 = .ok (.ireturn, 1) := by decide +kernel
theorem dX12_make_0 : decode cX12_make 0 = .ok (.iload_n 1, 1) := by decide +kernel
theorem dX12_make_1 : decode cX12_make 1 = .ok (.i2l, 1) := by decide +kernel
theorem dX12_make_2 : decode cX12_make 2 = .ok (.lconst 0, 1) := by decide +kernel
theorem dX12_make_3 : decode cX12_make 3 = .ok (.ldc2_w 243, 3) := by decide +kernel
theorem dX12_make_6 : decode cX12_make 6 = .ok (.invokestatic 87, 3) := by decide +kernel
theorem dX12_make_9 : decode cX12_make 9 = .ok (.ifCond .eq 15, 3) := by decide +kernel
theorem dX12_make_12 : decode cX12_make 12 = .ok (.iload_n 2, 1) := by decide +kernel
theorem dX12_make_13 : decode cX12_make 13 = .ok (.i2l, 1) := by decide +kernel
theorem dX12_make_14 : decode cX12_make 14 = .ok (.lconst 0, 1) := by decide +kernel
theorem dX12_make_15 : decode cX12_make 15 = .ok (.ldc2_w 245, 3) := by decide +kernel
theorem dX12_make_18 : decode cX12_make 18 = .ok (.invokestatic 87, 3) := by decide +kernel
theorem dX12_make_21 : decode cX12_make 21 = .ok (.ifCond .ne 6, 3) := by decide +kernel
theorem dX12_make_24 : decode cX12_make 24 = .ok (.ldc 96, 2) := by decide +kernel
theorem dX12_make_26 : decode cX12_make 26 = .ok (.ireturn, 1) := by decide +kernel
theorem dX12_make_27 : decode cX12_make 27 = .ok (.aload_n 0, 1) := by decide +kernel
theorem dX12_make_28 : decode cX12_make 28 = .ok (.invokevirtual 247, 3) := by decide +kernel
theorem dX12_make_31 : decode cX12_make 31 = .ok (.ifCond .ne 6, 3) := by decide +kernel
theorem dX12_make_34 : decode cX12_make 34 = .ok (.ldc 212, 2) := by decide +kernel
theorem dX12_make_36 : decode cX12_make 36 = .ok (.ireturn, 1) := by decide +kernel
theorem dX12_make_37 : decode cX12_make 37 = .ok (.aload_n 0, 1) := by decide +kernel
theorem dX12_make_38 : decode cX12_make 38 = .ok (.invokevirtual 234, 3) := by decide +kernel
theorem dX12_make_41 : decode cX12_make 41 = .ok (.aload_n 0, 1) := by decide +kernel
theorem dX12_make_42 : decode cX12_make 42 = .ok (.bipush 12, 2) := by decide +kernel
theorem dX12_make_44 : decode cX12_make 44 = .ok (.iload_n 1, 1) := by decide +kernel
theorem dX12_make_45 : decode cX12_make 45 = .ok (.imul, 1) := by decide +kernel
theorem dX12_make_46 : decode cX12_make 46 = .ok (.iload_n 2, 1) := by decide +kernel
theorem dX12_make_47 : decode cX12_make 47 = .ok (.iadd, 1) := by decide +kernel
theorem dX12_make_48 : decode cX12_make 48 = .ok (.invokevirtual 250, 3) := by decide +kernel
theorem dX12_make_51 : decode cX12_make 51 = .ok (.sipush 1000, 3) := by decide +kernel
theorem dX12_make_54 : decode cX12_make 54 = .ok (.iadd, 1) := by decide +kernel
theorem dX12_make_55 : decode cX12_make 55 = .ok (.ireturn, 1) := by decide +kernel
theorem dX12_warp_0 : decode cX12_warp 0 = .ok (.iload_n 1, 1) := by decide +kernel
theorem dX12_warp_1 : decode cX12_warp 1 = .ok (.i2l, 1) := by decide +kernel
theorem dX12_warp_2 : decode cX12_warp 2 = .ok (.ldc2_w 253, 3) := by decide +kernel
theorem dX12_warp_5 : decode cX12_warp 5 = .ok (.ldc2_w 255, 3) := by decide +kernel
theorem dX12_warp_8 : decode cX12_warp 8 = .ok (.invokestatic 87, 3) := by decide +kernel
theorem dX12_warp_11 : decode cX12_warp 11 = .ok (.ifCond .ne 6, 3) := by decide +kernel
theorem dX12_warp_14 : decode cX12_warp 14 = .ok (.ldc 96, 2) := by decide +kernel
theorem dX12_warp_16 : decode cX12_warp 16 = .ok (.ireturn, 1) := by decide +kernel
theorem dX12_warp_17 : decode cX12_warp 17 = .ok (.aload_n 0, 1) := by decide +kernel
theorem dX12_warp_18 : decode cX12_warp 18 = .ok (.invokevirtual 247, 3) := by decide +kernel
theorem dX12_warp_21 : decode cX12_warp 21 = .ok (.ifCond .ne 6, 3) := by decide +kernel
theorem dX12_warp_24 : decode cX12_warp 24 = .ok (.ldc 212, 2) := by decide +kernel
theorem dX12_warp_26 : decode cX12_warp 26 = .ok (.ireturn, 1) := by decide +kernel
theorem dX12_warp_27 : decode cX12_warp 27 = .ok (.aload_n 0, 1) := by decide +kernel
theorem dX12_warp_28 : decode cX12_warp 28 = .ok (.invokevirtual 234, 3) := by decide +kernel
theorem dX12_warp_31 : decode cX12_warp 31 = .ok (.aload_n 0, 1) := by decide +kernel
theorem dX12_warp_32 : decode cX12_warp 32 = .ok (.getfield 25, 3) := by decide +kernel
theorem dX12_warp_35 : decode cX12_warp 35 = .ok (.iconst 1, 1) := by decide +kernel
theorem dX12_warp_36 : decode cX12_warp 36 = .ok (.iaload, 1) := by decide +kernel
theorem dX12_warp_37 : decode cX12_warp 37 = .ok (.istore_n 2, 1) := by decide +kernel
theorem dX12_warp_38 : decode cX12_warp 38 = .ok (.aload_n 0, 1) := by decide +kernel
theorem dX12_warp_39 : decode cX12_warp 39 = .ok (.getfield 25, 3) := by decide +kernel
theorem dX12_warp_42 : decode cX12_warp 42 = .ok (.iconst 1, 1) := by decide +kernel
theorem dX12_warp_43 : decode cX12_warp 43 = .ok (.iload_n 1, 1) := by decide +kernel
theorem dX12_warp_44 : decode cX12_warp 44 = .ok (.iastore, 1) := by decide +kernel
theorem dX12_warp_45 : decode cX12_warp 45 = .ok (.iload_n 2, 1) := by decide +kernel
theorem dX12_warp_46 : decode cX12_warp 46 = .ok (.sipush 1000, 3) := by decide +kernel
theorem dX12_warp_49 : decode cX12_warp 49 = .ok (.iadd, 1) := by decide +kernel
theorem dX12_warp_50 : decode cX12_warp 50 = .ok (.ireturn, 1) := by decide +kernel
theorem dX12_planed_0 : decode cX12_planed 0 = .ok (.iload_n 0, 1) := by decide +kernel
theorem dX12_planed_1 : decode cX12_planed 1 = .ok (.iload_n 1, 1) := by decide +kernel
theorem dX12_planed_2 : decode cX12_planed 2 = .ok (.invokestatic 257, 3) := by decide +kernel
theorem dX12_planed_5 : decode cX12_planed 5 = .ok (.if_icmp .le 12, 3) := by decide +kernel
theorem dX12_planed_8 : decode cX12_planed 8 = .ok (.iload_n 0, 1) := by decide +kernel
theorem dX12_planed_9 : decode cX12_planed 9 = .ok (.iload_n 1, 1) := by decide +kernel
theorem dX12_planed_10 : decode cX12_planed 10 = .ok (.invokestatic 257, 3) := by decide +kernel
theorem dX12_planed_13 : decode cX12_planed 13 = .ok (.isub, 1) := by decide +kernel
theorem dX12_planed_14 : decode cX12_planed 14 = .ok (.goto 4, 3) := by decide +kernel
theorem dX12_planed_17 : decode cX12_planed 17 = .ok (.iconst 1, 1) := by decide +kernel
theorem dX12_planed_18 : decode cX12_planed 18 = .ok (.ireturn, 1) := by decide +kernel
theorem dX12_plane_0 : decode cX12_plane 0 = .ok (.aload_n 0, 1) := by decide +kernel
theorem dX12_plane_1 : decode cX12_plane 1 = .ok (.invokevirtual 247, 3) := by decide +kernel
theorem dX12_plane_4 : decode cX12_plane 4 = .ok (.ifCond .ne 6, 3) := by decide +kernel
theorem dX12_plane_7 : decode cX12_plane 7 = .ok (.ldc 212, 2) := by decide +kernel
theorem dX12_plane_9 : decode cX12_plane 9 = .ok (.ireturn, 1) := by decide +kernel
theorem dX12_plane_10 : decode cX12_plane 10 = .ok (.aload_n 0, 1) := by decide +kernel
theorem dX12_plane_11 : decode cX12_plane 11 = .ok (.invokevirtual 234, 3) := by decide +kernel
theorem dX12_plane_14 : decode cX12_plane 14 = .ok (.aload_n 0, 1) := by decide +kernel
theorem dX12_plane_15 : decode cX12_plane 15 = .ok (.getfield 25, 3) := by decide +kernel
theorem dX12_plane_18 : decode cX12_plane 18 = .ok (.iconst 0, 1) := by decide +kernel
theorem dX12_plane_19 : decode cX12_plane 19 = .ok (.aload_n 0, 1) := by decide +kernel
theorem dX12_plane_20 : decode cX12_plane 20 = .ok (.getfield 25, 3) := by decide +kernel
theorem dX12_plane_23 : decode cX12_plane 23 = .ok (.iconst 0, 1) := by decide +kernel
theorem dX12_plane_24 : decode cX12_plane 24 = .ok (.iaload, 1) := by decide +kernel
theorem dX12_plane_25 : decode cX12_plane 25 = .ok (.aload_n 0, 1) := by decide +kernel
theorem dX12_plane_26 : decode cX12_plane 26 = .ok (.getfield 25, 3) := by decide +kernel
theorem dX12_plane_29 : decode cX12_plane 29 = .ok (.iconst 1, 1) := by decide +kernel
theorem dX12_plane_30 : decode cX12_plane 30 = .ok (.iaload, 1) := by decide +kernel
theorem dX12_plane_31 : decode cX12_plane 31 = .ok (.invokestatic 260, 3) := by decide +kernel
theorem dX12_plane_34 : decode cX12_plane 34 = .ok (.iastore, 1) := by decide +kernel
theorem dX12_plane_35 : decode cX12_plane 35 = .ok (.aload_n 0, 1) := by decide +kernel
theorem dX12_plane_36 : decode cX12_plane 36 = .ok (.getfield 25, 3) := by decide +kernel
theorem dX12_plane_39 : decode cX12_plane 39 = .ok (.iconst 1, 1) := by decide +kernel
theorem dX12_plane_40 : decode cX12_plane 40 = .ok (.iconst 0, 1) := by decide +kernel
theorem dX12_plane_41 : decode cX12_plane 41 = .ok (.iastore, 1) := by decide +kernel
theorem dX12_plane_42 : decode cX12_plane 42 = .ok (.aload_n 0, 1) := by decide +kernel
theorem dX12_plane_43 : decode cX12_plane 43 = .ok (.getfield 25, 3) := by decide +kernel
theorem dX12_plane_46 : decode cX12_plane 46 = .ok (.iconst 0, 1) := by decide +kernel
theorem dX12_plane_47 : decode cX12_plane 47 = .ok (.iaload, 1) := by decide +kernel
theorem dX12_plane_48 : decode cX12_plane 48 = .ok (.ireturn, 1) := by decide +kernel
theorem dX12_lose_0 : decode cX12_lose 0 = .ok (.aload_n 0, 1) := by decide +kernel
theorem dX12_lose_1 : decode cX12_lose 1 = .ok (.invokevirtual 208, 3) := by decide +kernel
theorem dX12_lose_4 : decode cX12_lose 4 = .ok (.ifCond .ne 6, 3) := by decide +kernel
theorem dX12_lose_7 : decode cX12_lose 7 = .ok (.ldc 212, 2) := by decide +kernel
theorem dX12_lose_9 : decode cX12_lose 9 = .ok (.ireturn, 1) := by decide +kernel
theorem dX12_lose_10 : decode cX12_lose 10 = .ok (.aload_n 0, 1) := by decide +kernel
theorem dX12_lose_11 : decode cX12_lose 11 = .ok (.invokevirtual 234, 3) := by decide +kernel
theorem dX12_lose_14 : decode cX12_lose 14 = .ok (.aload_n 0, 1) := by decide +kernel
theorem dX12_lose_15 : decode cX12_lose 15 = .ok (.getfield 25, 3) := by decide +kernel
theorem dX12_lose_18 : decode cX12_lose 18 = .ok (.iconst 2, 1) := by decide +kernel
theorem dX12_lose_19 : decode cX12_lose 19 = .ok (.iaload, 1) := by decide +kernel
theorem dX12_lose_20 : decode cX12_lose 20 = .ok (.istore_n 2, 1) := by decide +kernel
theorem dX12_lose_21 : decode cX12_lose 21 = .ok (.aload_n 0, 1) := by decide +kernel
theorem dX12_lose_22 : decode cX12_lose 22 = .ok (.getfield 25, 3) := by decide +kernel
theorem dX12_lose_25 : decode cX12_lose 25 = .ok (.iconst 2, 1) := by decide +kernel
theorem dX12_lose_26 : decode cX12_lose 26 = .ok (.iload_n 1, 1) := by decide +kernel
theorem dX12_lose_27 : decode cX12_lose 27 = .ok (.ifCond .eq 7, 3) := by decide +kernel
theorem dX12_lose_30 : decode cX12_lose 30 = .ok (.iconst 1, 1) := by decide +kernel
theorem dX12_lose_31 : decode cX12_lose 31 = .ok (.goto 4, 3) := by decide +kernel
theorem dX12_lose_34 : decode cX12_lose 34 = .ok (.iconst 0, 1) := by decide +kernel
theorem dX12_lose_35 : decode cX12_lose 35 = .ok (.iastore, 1) := by decide +kernel
theorem dX12_lose_36 : decode cX12_lose 36 = .ok (.iload_n 2, 1) := by decide +kernel
theorem dX12_lose_37 : decode cX12_lose 37 = .ok (.ireturn, 1) := by decide +kernel
theorem dX12_hold_0 : decode cX12_hold 0 = .ok (.iload_n 1, 1) := by decide +kernel
theorem dX12_hold_1 : decode cX12_hold 1 = .ok (.i2l, 1) := by decide +kernel
theorem dX12_hold_2 : decode cX12_hold 2 = .ok (.ldc2_w 263, 3) := by decide +kernel
theorem dX12_hold_5 : decode cX12_hold 5 = .ok (.ldc2_w 243, 3) := by decide +kernel
theorem dX12_hold_8 : decode cX12_hold 8 = .ok (.invokestatic 87, 3) := by decide +kernel
theorem dX12_hold_11 : decode cX12_hold 11 = .ok (.ifCond .ne 6, 3) := by decide +kernel
theorem dX12_hold_14 : decode cX12_hold 14 = .ok (.ldc 96, 2) := by decide +kernel
theorem dX12_hold_16 : decode cX12_hold 16 = .ok (.ireturn, 1) := by decide +kernel
theorem dX12_hold_17 : decode cX12_hold 17 = .ok (.aload_n 0, 1) := by decide +kernel
theorem dX12_hold_18 : decode cX12_hold 18 = .ok (.invokevirtual 247, 3) := by decide +kernel
theorem dX12_hold_21 : decode cX12_hold 21 = .ok (.ifCond .ne 6, 3) := by decide +kernel
theorem dX12_hold_24 : decode cX12_hold 24 = .ok (.ldc 212, 2) := by decide +kernel
theorem dX12_hold_26 : decode cX12_hold 26 = .ok (.ireturn, 1) := by decide +kernel
theorem dX12_hold_27 : decode cX12_hold 27 = .ok (.aload_n 0, 1) := by decide +kernel
theorem dX12_hold_28 : decode cX12_hold 28 = .ok (.getfield 25, 3) := by decide +kernel
theorem dX12_hold_31 : decode cX12_hold 31 = .ok (.iconst 5, 1) := by decide +kernel
theorem dX12_hold_32 : decode cX12_hold 32 = .ok (.iaload, 1) := by decide +kernel
theorem dX12_hold_33 : decode cX12_hold 33 = .ok (.bipush 8, 2) := by decide +kernel
theorem dX12_hold_35 : decode cX12_hold 35 = .ok (.if_icmp .ne 6, 3) := by decide +kernel
theorem dX12_hold_38 : decode cX12_hold 38 = .ok (.ldc 100, 2) := by decide +kernel
theorem dX12_hold_40 : decode cX12_hold 40 = .ok (.ireturn, 1) := by decide +kernel
theorem dX12_hold_41 : decode cX12_hold 41 = .ok (.aload_n 0, 1) := by decide +kernel
theorem dX12_hold_42 : decode cX12_hold 42 = .ok (.invokevirtual 234, 3) := by decide +kernel
theorem dX12_hold_45 : decode cX12_hold 45 = .ok (.aload_n 0, 1) := by decide +kernel
theorem dX12_hold_46 : decode cX12_hold 46 = .ok (.getfield 25, 3) := by decide +kernel
theorem dX12_hold_49 : decode cX12_hold 49 = .ok (.bipush 66, 2) := by decide +kernel
theorem dX12_hold_51 : decode cX12_hold 51 = .ok (.aload_n 0, 1) := by decide +kernel
theorem dX12_hold_52 : decode cX12_hold 52 = .ok (.getfield 25, 3) := by decide +kernel
theorem dX12_hold_55 : decode cX12_hold 55 = .ok (.iconst 5, 1) := by decide +kernel
theorem dX12_hold_56 : decode cX12_hold 56 = .ok (.iaload, 1) := by decide +kernel
theorem dX12_hold_57 : decode cX12_hold 57 = .ok (.iadd, 1) := by decide +kernel
theorem dX12_hold_58 : decode cX12_hold 58 = .ok (.aload_n 0, 1) := by decide +kernel
theorem dX12_hold_59 : decode cX12_hold 59 = .ok (.getfield 25, 3) := by decide +kernel
theorem dX12_hold_62 : decode cX12_hold 62 = .ok (.iconst 0, 1) := by decide +kernel
theorem dX12_hold_63 : decode cX12_hold 63 = .ok (.iaload, 1) := by decide +kernel
theorem dX12_hold_64 : decode cX12_hold 64 = .ok (.iload_n 1, 1) := by decide +kernel
theorem dX12_hold_65 : decode cX12_hold 65 = .ok (.iadd, 1) := by decide +kernel
theorem dX12_hold_66 : decode cX12_hold 66 = .ok (.ifCond .le 14, 3) := by decide +kernel
theorem dX12_hold_69 : decode cX12_hold 69 = .ok (.aload_n 0, 1) := by decide +kernel
theorem dX12_hold_70 : decode cX12_hold 70 = .ok (.getfield 25, 3) := by decide +kernel
theorem dX12_hold_73 : decode cX12_hold 73 = .ok (.iconst 0, 1) := by decide +kernel
theorem dX12_hold_74 : decode cX12_hold 74 = .ok (.iaload, 1) := by decide +kernel
theorem dX12_hold_75 : decode cX12_hold 75 = .ok (.iload_n 1, 1) := by decide +kernel
theorem dX12_hold_76 : decode cX12_hold 76 = .ok (.iadd, 1) := by decide +kernel
theorem dX12_hold_77 : decode cX12_hold 77 = .ok (.goto 4, 3) := by decide +kernel
theorem dX12_hold_80 : decode cX12_hold 80 = .ok (.iconst 0, 1) := by decide +kernel
theorem dX12_hold_81 : decode cX12_hold 81 = .ok (.iastore, 1) := by decide +kernel
theorem dX12_hold_82 : decode cX12_hold 82 = .ok (.aload_n 0, 1) := by decide +kernel
theorem dX12_hold_83 : decode cX12_hold 83 = .ok (.getfield 25, 3) := by decide +kernel
theorem dX12_hold_86 : decode cX12_hold 86 = .ok (.iconst 5, 1) := by decide +kernel
theorem dX12_hold_87 : decode cX12_hold 87 = .ok (.dup2, 1) := by decide +kernel
theorem dX12_hold_88 : decode cX12_hold 88 = .ok (.iaload, 1) := by decide +kernel
theorem dX12_hold_89 : decode cX12_hold 89 = .ok (.iconst 1, 1) := by decide +kernel
theorem dX12_hold_90 : decode cX12_hold 90 = .ok (.iadd, 1) := by decide +kernel
theorem dX12_hold_91 : decode cX12_hold 91 = .ok (.iastore, 1) := by decide +kernel
theorem dX12_hold_92 : decode cX12_hold 92 = .ok (.aload_n 0, 1) := by decide +kernel
theorem dX12_hold_93 : decode cX12_hold 93 = .ok (.getfield 25, 3) := by decide +kernel
theorem dX12_hold_96 : decode cX12_hold 96 = .ok (.iconst 5, 1) := by decide +kernel
theorem dX12_hold_97 : decode cX12_hold 97 = .ok (.iaload, 1) := by decide +kernel
theorem dX12_hold_98 : decode cX12_hold 98 = .ok (.ireturn, 1) := by decide +kernel
theorem dX12_drop_0 : decode cX12_drop 0 = .ok (.aload_n 0, 1) := by decide +kernel
theorem dX12_drop_1 : decode cX12_drop 1 = .ok (.invokevirtual 234, 3) := by decide +kernel
theorem dX12_drop_4 : decode cX12_drop 4 = .ok (.aload_n 0, 1) := by decide +kernel
theorem dX12_drop_5 : decode cX12_drop 5 = .ok (.getfield 25, 3) := by decide +kernel
theorem dX12_drop_8 : decode cX12_drop 8 = .ok (.iconst 5, 1) := by decide +kernel
theorem dX12_drop_9 : decode cX12_drop 9 = .ok (.iaload, 1) := by decide +kernel
theorem dX12_drop_10 : decode cX12_drop 10 = .ok (.istore_n 1, 1) := by decide +kernel
theorem dX12_drop_11 : decode cX12_drop 11 = .ok (.aload_n 0, 1) := by decide +kernel
theorem dX12_drop_12 : decode cX12_drop 12 = .ok (.getfield 25, 3) := by decide +kernel
theorem dX12_drop_15 : decode cX12_drop 15 = .ok (.iconst 5, 1) := by decide +kernel
theorem dX12_drop_16 : decode cX12_drop 16 = .ok (.iconst 0, 1) := by decide +kernel
theorem dX12_drop_17 : decode cX12_drop 17 = .ok (.iastore, 1) := by decide +kernel
theorem dX12_drop_18 : decode cX12_drop 18 = .ok (.iconst 0, 1) := by decide +kernel
theorem dX12_drop_19 : decode cX12_drop 19 = .ok (.istore_n 2, 1) := by decide +kernel
theorem dX12_drop_20 : decode cX12_drop 20 = .ok (.iload_n 2, 1) := by decide +kernel
theorem dX12_drop_21 : decode cX12_drop 21 = .ok (.bipush 8, 2) := by decide +kernel
theorem dX12_drop_23 : decode cX12_drop 23 = .ok (.if_icmp .ge 19, 3) := by decide +kernel
theorem dX12_drop_26 : decode cX12_drop 26 = .ok (.aload_n 0, 1) := by decide +kernel
theorem dX12_drop_27 : decode cX12_drop 27 = .ok (.getfield 25, 3) := by decide +kernel
theorem dX12_drop_30 : decode cX12_drop 30 = .ok (.bipush 66, 2) := by decide +kernel
theorem dX12_drop_32 : decode cX12_drop 32 = .ok (.iload_n 2, 1) := by decide +kernel
theorem dX12_drop_33 : decode cX12_drop 33 = .ok (.iadd, 1) := by decide +kernel
theorem dX12_drop_34 : decode cX12_drop 34 = .ok (.iconst 0, 1) := by decide +kernel
theorem dX12_drop_35 : decode cX12_drop 35 = .ok (.iastore, 1) := by decide +kernel
theorem dX12_drop_36 : decode cX12_drop 36 = .ok (.iinc 2 1, 3) := by decide +kernel
theorem dX12_drop_39 : decode cX12_drop 39 = .ok (.goto (-19), 3) := by decide +kernel
theorem dX12_drop_42 : decode cX12_drop 42 = .ok (.iload_n 1, 1) := by decide +kernel
theorem dX12_drop_43 : decode cX12_drop 43 = .ok (.ireturn, 1) := by decide +kernel
theorem dX12_shorten_0 : decode cX12_shorten 0 = .ok (.aload_n 0, 1) := by decide +kernel
theorem dX12_shorten_1 : decode cX12_shorten 1 = .ok (.iload_n 1, 1) := by decide +kernel
theorem dX12_shorten_2 : decode cX12_shorten 2 = .ok (.invokevirtual 220, 3) := by decide +kernel
theorem dX12_shorten_5 : decode cX12_shorten 5 = .ok (.ifCond .ne 6, 3) := by decide +kernel
theorem dX12_shorten_8 : decode cX12_shorten 8 = .ok (.ldc 216, 2) := by decide +kernel
theorem dX12_shorten_10 : decode cX12_shorten 10 = .ok (.ireturn, 1) := by decide +kernel
theorem dX12_shorten_11 : decode cX12_shorten 11 = .ok (.iload_n 2, 1) := by decide +kernel
theorem dX12_shorten_12 : decode cX12_shorten 12 = .ok (.i2l, 1) := by decide +kernel
theorem dX12_shorten_13 : decode cX12_shorten 13 = .ok (.lconst 1, 1) := by decide +kernel
theorem dX12_shorten_14 : decode cX12_shorten 14 = .ok (.ldc2_w 265, 3) := by decide +kernel
theorem dX12_shorten_17 : decode cX12_shorten 17 = .ok (.invokestatic 87, 3) := by decide +kernel
theorem dX12_shorten_20 : decode cX12_shorten 20 = .ok (.ifCond .ne 6, 3) := by decide +kernel
theorem dX12_shorten_23 : decode cX12_shorten 23 = .ok (.ldc 96, 2) := by decide +kernel
theorem dX12_shorten_25 : decode cX12_shorten 25 = .ok (.ireturn, 1) := by decide +kernel
theorem dX12_shorten_26 : decode cX12_shorten 26 = .ok (.aload_n 0, 1) := by decide +kernel
theorem dX12_shorten_27 : decode cX12_shorten 27 = .ok (.invokevirtual 234, 3) := by decide +kernel
theorem dX12_shorten_30 : decode cX12_shorten 30 = .ok (.aload_n 0, 1) := by decide +kernel
theorem dX12_shorten_31 : decode cX12_shorten 31 = .ok (.getfield 25, 3) := by decide +kernel
theorem dX12_shorten_34 : decode cX12_shorten 34 = .ok (.bipush 74, 2) := by decide +kernel
theorem dX12_shorten_36 : decode cX12_shorten 36 = .ok (.iload_n 1, 1) := by decide +kernel
theorem dX12_shorten_37 : decode cX12_shorten 37 = .ok (.iadd, 1) := by decide +kernel
theorem dX12_shorten_38 : decode cX12_shorten 38 = .ok (.aload_n 0, 1) := by decide +kernel
theorem dX12_shorten_39 : decode cX12_shorten 39 = .ok (.getfield 25, 3) := by decide +kernel
theorem dX12_shorten_42 : decode cX12_shorten 42 = .ok (.bipush 74, 2) := by decide +kernel
theorem dX12_shorten_44 : decode cX12_shorten 44 = .ok (.iload_n 1, 1) := by decide +kernel
theorem dX12_shorten_45 : decode cX12_shorten 45 = .ok (.iadd, 1) := by decide +kernel
theorem dX12_shorten_46 : decode cX12_shorten 46 = .ok (.iaload, 1) := by decide +kernel
theorem dX12_shorten_47 : decode cX12_shorten 47 = .ok (.iload_n 2, 1) := by decide +kernel
theorem dX12_shorten_48 : decode cX12_shorten 48 = .ok (.if_icmp .le 17, 3) := by decide +kernel
theorem dX12_shorten_51 : decode cX12_shorten 51 = .ok (.aload_n 0, 1) := by decide +kernel
theorem dX12_shorten_52 : decode cX12_shorten 52 = .ok (.getfield 25, 3) := by decide +kernel
