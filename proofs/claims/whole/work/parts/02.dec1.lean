theorem dX10_leastStart_42 : decode cX10_leastStart 42 = .ok (.aload_n 0, 1) := by decide +kernel
theorem dX10_leastStart_43 : decode cX10_leastStart 43 = .ok (.getfield 15, 3) := by decide +kernel
theorem dX10_leastStart_46 : decode cX10_leastStart 46 = .ok (.iload 5, 2) := by decide +kernel
theorem dX10_leastStart_48 : decode cX10_leastStart 48 = .ok (.iaload, 1) := by decide +kernel
theorem dX10_leastStart_49 : decode cX10_leastStart 49 = .ok (.iload_n 3, 1) := by decide +kernel
theorem dX10_leastStart_50 : decode cX10_leastStart 50 = .ok (.iand, 1) := by decide +kernel
theorem dX10_leastStart_51 : decode cX10_leastStart 51 = .ok (.ior, 1) := by decide +kernel
theorem dX10_leastStart_52 : decode cX10_leastStart 52 = .ok (.istore 4, 2) := by decide +kernel
theorem dX10_leastStart_54 : decode cX10_leastStart 54 = .ok (.iinc 6 1, 3) := by decide +kernel
theorem dX10_leastStart_57 : decode cX10_leastStart 57 = .ok (.goto (-48), 3) := by decide +kernel
theorem dX10_leastStart_60 : decode cX10_leastStart 60 = .ok (.iconst 0, 1) := by decide +kernel
theorem dX10_leastStart_61 : decode cX10_leastStart 61 = .ok (.istore 6, 2) := by decide +kernel
theorem dX10_leastStart_63 : decode cX10_leastStart 63 = .ok (.iload 6, 2) := by decide +kernel
theorem dX10_leastStart_65 : decode cX10_leastStart 65 = .ok (.bipush 12, 2) := by decide +kernel
theorem dX10_leastStart_67 : decode cX10_leastStart 67 = .ok (.if_icmp .ge 22, 3) := by decide +kernel
theorem dX10_leastStart_70 : decode cX10_leastStart 70 = .ok (.iload 4, 2) := by decide +kernel
theorem dX10_leastStart_72 : decode cX10_leastStart 72 = .ok (.iload 6, 2) := by decide +kernel
theorem dX10_leastStart_74 : decode cX10_leastStart 74 = .ok (.invokestatic 70, 3) := by decide +kernel
theorem dX10_leastStart_77 : decode cX10_leastStart 77 = .ok (.ifCond .eq 6, 3) := by decide +kernel
theorem dX10_leastStart_80 : decode cX10_leastStart 80 = .ok (.iload 6, 2) := by decide +kernel
theorem dX10_leastStart_82 : decode cX10_leastStart 82 = .ok (.ireturn, 1) := by decide +kernel
theorem dX10_leastStart_83 : decode cX10_leastStart 83 = .ok (.iinc 6 1, 3) := by decide +kernel
theorem dX10_leastStart_86 : decode cX10_leastStart 86 = .ok (.goto (-23), 3) := by decide +kernel
theorem dX10_leastStart_89 : decode cX10_leastStart 89 = .ok (.iconst 0, 1) := by decide +kernel
theorem dX10_leastStart_90 : decode cX10_leastStart 90 = .ok (.ireturn, 1) := by decide +kernel
theorem dX11_init_0 : decode cX11_init 0 = .ok (.aload_n 0, 1) := by decide +kernel
theorem dX11_init_1 : decode cX11_init 1 = .ok (.invokespecial 1, 3) := by decide +kernel
theorem dX11_init_4 : decode cX11_init 4 = .ok (.aload_n 0, 1) := by decide +kernel
theorem dX11_init_5 : decode cX11_init 5 = .ok (.new 7, 3) := by decide +kernel
theorem dX11_init_8 : decode cX11_init 8 = .ok (.dup, 1) := by decide +kernel
theorem dX11_init_9 : decode cX11_init 9 = .ok (.invokespecial 9, 3) := by decide +kernel
theorem dX11_init_12 : decode cX11_init 12 = .ok (.putfield 10, 3) := by decide +kernel
theorem dX11_init_15 : decode cX11_init 15 = .ok (.aload_n 0, 1) := by decide +kernel
theorem dX11_init_16 : decode cX11_init 16 = .ok (.new 16, 3) := by decide +kernel
theorem dX11_init_19 : decode cX11_init 19 = .ok (.dup, 1) := by decide +kernel
theorem dX11_init_20 : decode cX11_init 20 = .ok (.invokespecial 18, 3) := by decide +kernel
theorem dX11_init_23 : decode cX11_init 23 = .ok (.putfield 19, 3) := by decide +kernel
theorem dX11_init_26 : decode cX11_init 26 = .ok (.aload_n 0, 1) := by decide +kernel
theorem dX11_init_27 : decode cX11_init 27 = .ok (.new 23, 3) := by decide +kernel
theorem dX11_init_30 : decode cX11_init 30 = .ok (.dup, 1) := by decide +kernel
theorem dX11_init_31 : decode cX11_init 31 = .ok (.aload_n 0, 1) := by decide +kernel
theorem dX11_init_32 : decode cX11_init 32 = .ok (.getfield 19, 3) := by decide +kernel
theorem dX11_init_35 : decode cX11_init 35 = .ok (.getfield 25, 3) := by decide +kernel
theorem dX11_init_38 : decode cX11_init 38 = .ok (.invokespecial 29, 3) := by decide +kernel
theorem dX11_init_41 : decode cX11_init 41 = .ok (.putfield 32, 3) := by decide +kernel
theorem dX11_init_44 : decode cX11_init 44 = .ok (.aload_n 0, 1) := by decide +kernel
theorem dX11_init_45 : decode cX11_init 45 = .ok (.new 36, 3) := by decide +kernel
theorem dX11_init_48 : decode cX11_init 48 = .ok (.dup, 1) := by decide +kernel
theorem dX11_init_49 : decode cX11_init 49 = .ok (.aload_n 0, 1) := by decide +kernel
theorem dX11_init_50 : decode cX11_init 50 = .ok (.getfield 19, 3) := by decide +kernel
theorem dX11_init_53 : decode cX11_init 53 = .ok (.getfield 25, 3) := by decide +kernel
theorem dX11_init_56 : decode cX11_init 56 = .ok (.aload_n 0, 1) := by decide +kernel
theorem dX11_init_57 : decode cX11_init 57 = .ok (.getfield 32, 3) := by decide +kernel
theorem dX11_init_60 : decode cX11_init 60 = .ok (.aload_n 0, 1) := by decide +kernel
theorem dX11_init_61 : decode cX11_init 61 = .ok (.getfield 19, 3) := by decide +kernel
theorem dX11_init_64 : decode cX11_init 64 = .ok (.getfield 38, 3) := by decide +kernel
theorem dX11_init_67 : decode cX11_init 67 = .ok (.invokespecial 42, 3) := by decide +kernel
theorem dX11_init_70 : decode cX11_init 70 = .ok (.putfield 45, 3) := by decide +kernel
theorem dX11_init_73 : decode cX11_init 73 = .ok (.aload_n 0, 1) := by decide +kernel
theorem dX11_init_74 : decode cX11_init 74 = .ok (.new 49, 3) := by decide +kernel
theorem dX11_init_77 : decode cX11_init 77 = .ok (.dup, 1) := by decide +kernel
theorem dX11_init_78 : decode cX11_init 78 = .ok (.aload_n 0, 1) := by decide +kernel
theorem dX11_init_79 : decode cX11_init 79 = .ok (.getfield 19, 3) := by decide +kernel
theorem dX11_init_82 : decode cX11_init 82 = .ok (.getfield 25, 3) := by decide +kernel
theorem dX11_init_85 : decode cX11_init 85 = .ok (.aload_n 0, 1) := by decide +kernel
theorem dX11_init_86 : decode cX11_init 86 = .ok (.getfield 32, 3) := by decide +kernel
theorem dX11_init_89 : decode cX11_init 89 = .ok (.invokespecial 51, 3) := by decide +kernel
theorem dX11_init_92 : decode cX11_init 92 = .ok (.putfield 54, 3) := by decide +kernel
theorem dX11_init_95 : decode cX11_init 95 = .ok (.aload_n 0, 1) := by decide +kernel
theorem dX11_init_96 : decode cX11_init 96 = .ok (.new 58, 3) := by decide +kernel
theorem dX11_init_99 : decode cX11_init 99 = .ok (.dup, 1) := by decide +kernel
theorem dX11_init_100 : decode cX11_init 100 = .ok (.aload_n 0, 1) := by decide +kernel
theorem dX11_init_101 : decode cX11_init 101 = .ok (.getfield 19, 3) := by decide +kernel
theorem dX11_init_104 : decode cX11_init 104 = .ok (.getfield 25, 3) := by decide +kernel
theorem dX11_init_107 : decode cX11_init 107 = .ok (.invokespecial 60, 3) := by decide +kernel
theorem dX11_init_110 : decode cX11_init 110 = .ok (.putfield 61, 3) := by decide +kernel
theorem dX11_init_113 : decode cX11_init 113 = .ok (.aload_n 0, 1) := by decide +kernel
theorem dX11_init_114 : decode cX11_init 114 = .ok (.new 65, 3) := by decide +kernel
theorem dX11_init_117 : decode cX11_init 117 = .ok (.dup, 1) := by decide +kernel
theorem dX11_init_118 : decode cX11_init 118 = .ok (.aload_n 0, 1) := by decide +kernel
theorem dX11_init_119 : decode cX11_init 119 = .ok (.getfield 19, 3) := by decide +kernel
theorem dX11_init_122 : decode cX11_init 122 = .ok (.getfield 25, 3) := by decide +kernel
theorem dX11_init_125 : decode cX11_init 125 = .ok (.aload_n 0, 1) := by decide +kernel
theorem dX11_init_126 : decode cX11_init 126 = .ok (.getfield 32, 3) := by decide +kernel
theorem dX11_init_129 : decode cX11_init 129 = .ok (.aload_n 0, 1) := by decide +kernel
theorem dX11_init_130 : decode cX11_init 130 = .ok (.getfield 19, 3) := by decide +kernel
theorem dX11_init_133 : decode cX11_init 133 = .ok (.getfield 67, 3) := by decide +kernel
theorem dX11_init_136 : decode cX11_init 136 = .ok (.invokespecial 71, 3) := by decide +kernel
theorem dX11_init_139 : decode cX11_init 139 = .ok (.putfield 74, 3) := by decide +kernel
theorem dX11_init_142 : decode cX11_init 142 = .ok (.aload_n 0, 1) := by decide +kernel
theorem dX11_init_143 : decode cX11_init 143 = .ok (.new 78, 3) := by decide +kernel
theorem dX11_init_146 : decode cX11_init 146 = .ok (.dup, 1) := by decide +kernel
theorem dX11_init_147 : decode cX11_init 147 = .ok (.aload_n 0, 1) := by decide +kernel
theorem dX11_init_148 : decode cX11_init 148 = .ok (.getfield 19, 3) := by decide +kernel
theorem dX11_init_151 : decode cX11_init 151 = .ok (.getfield 25, 3) := by decide +kernel
theorem dX11_init_154 : decode cX11_init 154 = .ok (.aload_n 0, 1) := by decide +kernel
theorem dX11_init_155 : decode cX11_init 155 = .ok (.getfield 19, 3) := by decide +kernel
theorem dX11_init_158 : decode cX11_init 158 = .ok (.getfield 38, 3) := by decide +kernel
theorem dX11_init_161 : decode cX11_init 161 = .ok (.aload_n 0, 1) := by decide +kernel
theorem dX11_init_162 : decode cX11_init 162 = .ok (.getfield 45, 3) := by decide +kernel
theorem dX11_init_165 : decode cX11_init 165 = .ok (.invokespecial 80, 3) := by decide +kernel
theorem dX11_init_168 : decode cX11_init 168 = .ok (.putfield 83, 3) := by decide +kernel
theorem dX11_init_171 : decode cX11_init 171 = .ok (.aload_n 0, 1) := by decide +kernel
theorem dX11_init_172 : decode cX11_init 172 = .ok (.iconst 2, 1) := by decide +kernel
theorem dX11_init_173 : decode cX11_init 173 = .ok (.anewarray 16, 3) := by decide +kernel
theorem dX11_init_176 : decode cX11_init 176 = .ok (.putfield 87, 3) := by decide +kernel
theorem dX11_init_179 : decode cX11_init 179 = .ok (.iconst 0, 1) := by decide +kernel
theorem dX11_init_180 : decode cX11_init 180 = .ok (.istore_n 1, 1) := by decide +kernel
theorem dX11_init_181 : decode cX11_init 181 = .ok (.iload_n 1, 1) := by decide +kernel
theorem dX11_init_182 : decode cX11_init 182 = .ok (.iconst 2, 1) := by decide +kernel
theorem dX11_init_183 : decode cX11_init 183 = .ok (.if_icmp .ge 22, 3) := by decide +kernel
theorem dX11_init_186 : decode cX11_init 186 = .ok (.aload_n 0, 1) := by decide +kernel
theorem dX11_init_187 : decode cX11_init 187 = .ok (.getfield 87, 3) := by decide +kernel
theorem dX11_init_190 : decode cX11_init 190 = .ok (.iload_n 1, 1) := by decide +kernel
theorem dX11_init_191 : decode cX11_init 191 = .ok (.new 16, 3) := by decide +kernel
theorem dX11_init_194 : decode cX11_init 194 = .ok (.dup, 1) := by decide +kernel
theorem dX11_init_195 : decode cX11_init 195 = .ok (.invokespecial 18, 3) := by decide +kernel
theorem dX11_init_198 : decode cX11_init 198 = .ok (.aastore, 1) := by decide +kernel
theorem dX11_init_199 : decode cX11_init 199 = .ok (.iinc 1 1, 3) := by decide +kernel
theorem dX11_init_202 : decode cX11_init 202 = .ok (.goto (-21), 3) := by decide +kernel
theorem dX11_init_205 : decode cX11_init 205 = .ok (.aload_n 0, 1) := by decide +kernel
theorem dX11_init_206 : decode cX11_init 206 = .ok (.iconst 2, 1) := by decide +kernel
theorem dX11_init_207 : decode cX11_init 207 = .ok (.newarray .boolean, 2) := by decide +kernel
theorem dX11_init_209 : decode cX11_init 209 = .ok (.putfield 91, 3) := by decide +kernel
theorem dX11_init_212 : decode cX11_init 212 = .ok (.aload_n 0, 1) := by decide +kernel
theorem dX11_init_213 : decode cX11_init 213 = .ok (.getfield 32, 3) := by decide +kernel
theorem dX11_init_216 : decode cX11_init 216 = .ok (.invokevirtual 95, 3) := by decide +kernel
theorem dX11_init_219 : decode cX11_init 219 = .ok (.return_, 1) := by decide +kernel
theorem dX11_say_0 : decode cX11_say 0 = .ok (.iload_n 1, 1) := by decide +kernel
theorem dX11_say_1 : decode cX11_say 1 = .ok (.bipush 33, 2) := by decide +kernel
theorem dX11_say_3 : decode cX11_say 3 = .ok (.if_icmp .lt 9, 3) := by decide +kernel
theorem dX11_say_6 : decode cX11_say 6 = .ok (.iload_n 1, 1) := by decide +kernel
theorem dX11_say_7 : decode cX11_say 7 = .ok (.bipush 126, 2) := by decide +kernel
theorem dX11_say_9 : decode cX11_say 9 = .ok (.if_icmp .le 6, 3) := by decide +kernel
theorem dX11_say_12 : decode cX11_say 12 = .ok (.bipush (-2), 2) := by decide +kernel
theorem dX11_say_14 : decode cX11_say 14 = .ok (.ireturn, 1) := by decide +kernel
theorem dX11_say_15 : decode cX11_say 15 = .ok (.aload_n 0, 1) := by decide +kernel
theorem dX11_say_16 : decode cX11_say 16 = .ok (.getfield 10, 3) := by decide +kernel
theorem dX11_say_19 : decode cX11_say 19 = .ok (.getfield 98, 3) := by decide +kernel
theorem dX11_say_22 : decode cX11_say 22 = .ok (.bipush 14, 2) := by decide +kernel
theorem dX11_say_24 : decode cX11_say 24 = .ok (.if_icmp .lt 6, 3) := by decide +kernel
theorem dX11_say_27 : decode cX11_say 27 = .ok (.bipush (-4), 2) := by decide +kernel
theorem dX11_say_29 : decode cX11_say 29 = .ok (.ireturn, 1) := by decide +kernel
theorem dX11_say_30 : decode cX11_say 30 = .ok (.aload_n 0, 1) := by decide +kernel
theorem dX11_say_31 : decode cX11_say 31 = .ok (.getfield 10, 3) := by decide +kernel
theorem dX11_say_34 : decode cX11_say 34 = .ok (.getfield 102, 3) := by decide +kernel
theorem dX11_say_37 : decode cX11_say 37 = .ok (.aload_n 0, 1) := by decide +kernel
theorem dX11_say_38 : decode cX11_say 38 = .ok (.getfield 10, 3) := by decide +kernel
theorem dX11_say_41 : decode cX11_say 41 = .ok (.getfield 98, 3) := by decide +kernel
theorem dX11_say_44 : decode cX11_say 44 = .ok (.iload_n 1, 1) := by decide +kernel
theorem dX11_say_45 : decode cX11_say 45 = .ok (.iastore, 1) := by decide +kernel
theorem dX11_say_46 : decode cX11_say 46 = .ok (.aload_n 0, 1) := by decide +kernel
theorem dX11_say_47 : decode cX11_say 47 = .ok (.getfield 10, 3) := by decide +kernel
theorem dX11_say_50 : decode cX11_say 50 = .ok (.dup, 1) := by decide +kernel
theorem dX11_say_51 : decode cX11_say 51 = .ok (.getfield 98, 3) := by decide +kernel
theorem dX11_say_54 : decode cX11_say 54 = .ok (.iconst 1, 1) := by decide +kernel
theorem dX11_say_55 : decode cX11_say 55 = .ok (.iadd, 1) := by decide +kernel
theorem dX11_say_56 : decode cX11_say 56 = .ok (.putfield 98, 3) := by decide +kernel
theorem dX11_say_59 : decode cX11_say 59 = .ok (.aload_n 0, 1) := by decide +kernel
theorem dX11_say_60 : decode cX11_say 60 = .ok (.getfield 10, 3) := by decide +kernel
theorem dX11_say_63 : decode cX11_say 63 = .ok (.getfield 98, 3) := by decide +kernel
theorem dX11_say_66 : decode cX11_say 66 = .ok (.ireturn, 1) := by decide +kernel
theorem dX11_wipe_0 : decode cX11_wipe 0 = .ok (.aload_n 0, 1) := by decide +kernel
theorem dX11_wipe_1 : decode cX11_wipe 1 = .ok (.getfield 10, 3) := by decide +kernel
theorem dX11_wipe_4 : decode cX11_wipe 4 = .ok (.getfield 98, 3) := by decide +kernel
theorem dX11_wipe_7 : decode cX11_wipe 7 = .ok (.istore_n 1, 1) := by decide +kernel
theorem dX11_wipe_8 : decode cX11_wipe 8 = .ok (.aload_n 0, 1) := by decide +kernel
theorem dX11_wipe_9 : decode cX11_wipe 9 = .ok (.getfield 10, 3) := by decide +kernel
theorem dX11_wipe_12 : decode cX11_wipe 12 = .ok (.iconst 0, 1) := by decide +kernel
theorem dX11_wipe_13 : decode cX11_wipe 13 = .ok (.putfield 98, 3) := by decide +kernel
theorem dX11_wipe_16 : decode cX11_wipe 16 = .ok (.iload_n 1, 1) := by decide +kernel
theorem dX11_wipe_17 : decode cX11_wipe 17 = .ok (.ireturn, 1) := by decide +kernel
theorem dX11_fault_0 : decode cX11_fault 0 = .ok (.aload_n 0, 1) := by decide +kernel
theorem dX11_fault_1 : decode cX11_fault 1 = .ok (.getfield 10, 3) := by decide +kernel
theorem dX11_fault_4 : decode cX11_fault 4 = .ok (.invokevirtual 106, 3) := by decide +kernel
theorem dX11_fault_7 : decode cX11_fault 7 = .ok (.ireturn, 1) := by decide +kernel
theorem dX11_word_0 : decode cX11_word 0 = .ok (.iload_n 1, 1) := by decide +kernel
theorem dX11_word_1 : decode cX11_word 1 = .ok (.iconst 1, 1) := by decide +kernel
theorem dX11_word_2 : decode cX11_word 2 = .ok (.if_icmp .lt 10, 3) := by decide +kernel
theorem dX11_word_5 : decode cX11_word 5 = .ok (.iload_n 1, 1) := by decide +kernel
theorem dX11_word_6 : decode cX11_word 6 = .ok (.sipush 999, 3) := by decide +kernel
theorem dX11_word_9 : decode cX11_word 9 = .ok (.if_icmp .le 6, 3) := by decide +kernel
theorem dX11_word_12 : decode cX11_word 12 = .ok (.bipush (-2), 2) := by decide +kernel
theorem dX11_word_14 : decode cX11_word 14 = .ok (.ireturn, 1) := by decide +kernel
theorem dX11_word_15 : decode cX11_word 15 = .ok (.aload_n 0, 1) := by decide +kernel
theorem dX11_word_16 : decode cX11_word 16 = .ok (.getfield 10, 3) := by decide +kernel
theorem dX11_word_19 : decode cX11_word 19 = .ok (.invokevirtual 106, 3) := by decide +kernel
theorem dX11_word_22 : decode cX11_word 22 = .ok (.bipush (-6), 2) := by decide +kernel
theorem dX11_word_24 : decode cX11_word 24 = .ok (.if_icmp .ne 20, 3) := by decide +kernel
theorem dX11_word_27 : decode cX11_word 27 = .ok (.aload_n 0, 1) := by decide +kernel
theorem dX11_word_28 : decode cX11_word 28 = .ok (.getfield 19, 3) := by decide +kernel
theorem dX11_word_31 : decode cX11_word 31 = .ok (.getfield 25, 3) := by decide +kernel
theorem dX11_word_34 : decode cX11_word 34 = .ok (.aload_n 0, 1) := by decide +kernel
theorem dX11_word_35 : decode cX11_word 35 = .ok (.getfield 10, 3) := by decide +kernel
theorem dX11_word_38 : decode cX11_word 38 = .ok (.invokevirtual 110, 3) := by decide +kernel
theorem dX11_word_41 : decode cX11_word 41 = .ok (.ifCond .eq 6, 3) := by decide +kernel
theorem dX11_word_44 : decode cX11_word 44 = .ok (.bipush (-5), 2) := by decide +kernel
theorem dX11_word_46 : decode cX11_word 46 = .ok (.ireturn, 1) := by decide +kernel
theorem dX11_word_47 : decode cX11_word 47 = .ok (.aload_n 0, 1) := by decide +kernel
theorem dX11_word_48 : decode cX11_word 48 = .ok (.getfield 19, 3) := by decide +kernel
theorem dX11_word_51 : decode cX11_word 51 = .ok (.getfield 25, 3) := by decide +kernel
theorem dX11_word_54 : decode cX11_word 54 = .ok (.getfield 116, 3) := by decide +kernel
theorem dX11_word_57 : decode cX11_word 57 = .ok (.bipush 12, 2) := by decide +kernel
theorem dX11_word_59 : decode cX11_word 59 = .ok (.if_icmp .lt 6, 3) := by decide +kernel
theorem dX11_word_62 : decode cX11_word 62 = .ok (.bipush (-4), 2) := by decide +kernel
theorem dX11_word_64 : decode cX11_word 64 = .ok (.ireturn, 1) := by decide +kernel
theorem dX11_word_65 : decode cX11_word 65 = .ok (.aload_n 0, 1) := by decide +kernel
theorem dX11_word_66 : decode cX11_word 66 = .ok (.getfield 19, 3) := by decide +kernel
theorem dX11_word_69 : decode cX11_word 69 = .ok (.getfield 25, 3) := by decide +kernel
theorem dX11_word_72 : decode cX11_word 72 = .ok (.aload_n 0, 1) := by decide +kernel
theorem dX11_word_73 : decode cX11_word 73 = .ok (.getfield 10, 3) := by decide +kernel
theorem dX11_word_76 : decode cX11_word 76 = .ok (.iload_n 1, 1) := by decide +kernel
theorem dX11_word_77 : decode cX11_word 77 = .ok (.invokevirtual 117, 3) := by decide +kernel
theorem dX11_word_80 : decode cX11_word 80 = .ok (.aload_n 0, 1) := by decide +kernel
theorem dX11_word_81 : decode cX11_word 81 = .ok (.getfield 10, 3) := by decide +kernel
theorem dX11_word_84 : decode cX11_word 84 = .ok (.iconst 0, 1) := by decide +kernel
theorem dX11_word_85 : decode cX11_word 85 = .ok (.putfield 98, 3) := by decide +kernel
theorem dX11_word_88 : decode cX11_word 88 = .ok (.aload_n 0, 1) := by decide +kernel
theorem dX11_word_89 : decode cX11_word 89 = .ok (.invokevirtual 121, 3) := by decide +kernel
theorem dX11_word_92 : decode cX11_word 92 = .ok (.aload_n 0, 1) := by decide +kernel
theorem dX11_word_93 : decode cX11_word 93 = .ok (.getfield 19, 3) := by decide +kernel
theorem dX11_word_96 : decode cX11_word 96 = .ok (.getfield 25, 3) := by decide +kernel
theorem dX11_word_99 : decode cX11_word 99 = .ok (.getfield 116, 3) := by decide +kernel
theorem dX11_word_102 : decode cX11_word 102 = .ok (.iconst 1, 1) := by decide +kernel
theorem dX11_word_103 : decode cX11_word 103 = .ok (.isub, 1) := by decide +kernel
theorem dX11_word_104 : decode cX11_word 104 = .ok (.ireturn, 1) := by decide +kernel
theorem dX11_about_0 : decode cX11_about 0 = .ok (.aload_n 0, 1) := by decide +kernel
theorem dX11_about_1 : decode cX11_about 1 = .ok (.getfield 19, 3) := by decide +kernel
theorem dX11_about_4 : decode cX11_about 4 = .ok (.getfield 25, 3) := by decide +kernel
theorem dX11_about_7 : decode cX11_about 7 = .ok (.iload_n 1, 1) := by decide +kernel
theorem dX11_about_8 : decode cX11_about 8 = .ok (.invokevirtual 124, 3) := by decide +kernel
theorem dX11_about_11 : decode cX11_about 11 = .ok (.ifCond .ne 5, 3) := by decide +kernel
theorem dX11_about_14 : decode cX11_about 14 = .ok (.iconst (-1), 1) := by decide +kernel
theorem dX11_about_15 : decode cX11_about 15 = .ok (.ireturn, 1) := by decide +kernel
theorem dX11_about_16 : decode cX11_about 16 = .ok (.iload_n 2, 1) := by decide +kernel
theorem dX11_about_17 : decode cX11_about 17 = .ok (.bipush 10, 2) := by decide +kernel
theorem dX11_about_19 : decode cX11_about 19 = .ok (.if_icmp .lt 25, 3) := by decide +kernel
theorem dX11_about_22 : decode cX11_about 22 = .ok (.iload_n 2, 1) := by decide +kernel
theorem dX11_about_23 : decode cX11_about 23 = .ok (.bipush 15, 2) := by decide +kernel
theorem dX11_about_25 : decode cX11_about 25 = .ok (.if_icmp .ge 19, 3) := by decide +kernel
theorem dX11_about_28 : decode cX11_about 28 = .ok (.aload_n 0, 1) := by decide +kernel
theorem dX11_about_29 : decode cX11_about 29 = .ok (.getfield 19, 3) := by decide +kernel
theorem dX11_about_32 : decode cX11_about 32 = .ok (.getfield 25, 3) := by decide +kernel
theorem dX11_about_35 : decode cX11_about 35 = .ok (.iload_n 1, 1) := by decide +kernel
theorem dX11_about_36 : decode cX11_about 36 = .ok (.iload_n 2, 1) := by decide +kernel
theorem dX11_about_37 : decode cX11_about 37 = .ok (.bipush 10, 2) := by decide +kernel
theorem dX11_about_39 : decode cX11_about 39 = .ok (.isub, 1) := by decide +kernel
theorem dX11_about_40 : decode cX11_about 40 = .ok (.invokevirtual 128, 3) := by decide +kernel
theorem dX11_about_43 : decode cX11_about 43 = .ok (.ireturn, 1) := by decide +kernel
theorem dX11_about_44 : decode cX11_about 44 = .ok (.iload_n 2, 1) := by decide +kernel
theorem dX11_about_45 : decode cX11_about 45 = .ok (.bipush 20, 2) := by decide +kernel
theorem dX11_about_47 : decode cX11_about 47 = .ok (.if_icmp .lt 25, 3) := by decide +kernel
theorem dX11_about_50 : decode cX11_about 50 = .ok (.iload_n 2, 1) := by decide +kernel
theorem dX11_about_51 : decode cX11_about 51 = .ok (.bipush 25, 2) := by decide +kernel
theorem dX11_about_53 : decode cX11_about 53 = .ok (.if_icmp .ge 19, 3) := by decide +kernel
theorem dX11_about_56 : decode cX11_about 56 = .ok (.aload_n 0, 1) := by decide +kernel
theorem dX11_about_57 : decode cX11_about 57 = .ok (.getfield 19, 3) := by decide +kernel
theorem dX11_about_60 : decode cX11_about 60 = .ok (.getfield 25, 3) := by decide +kernel
theorem dX11_about_63 : decode cX11_about 63 = .ok (.iload_n 1, 1) := by decide +kernel
theorem dX11_about_64 : decode cX11_about 64 = .ok (.iload_n 2, 1) := by decide +kernel
theorem dX11_about_65 : decode cX11_about 65 = .ok (.bipush 20, 2) := by decide +kernel
theorem dX11_about_67 : decode cX11_about 67 = .ok (.isub, 1) := by decide +kernel
theorem dX11_about_68 : decode cX11_about 68 = .ok (.invokevirtual 132, 3) := by decide +kernel
theorem dX11_about_71 : decode cX11_about 71 = .ok (.ireturn, 1) := by decide +kernel
theorem dX11_about_72 : decode cX11_about 72 = .ok (.iload_n 2, 1) := by decide +kernel
theorem dX11_about_73 : decode cX11_about 73 = .ok (.tableswitch 87 0 3 #[31, 44, 57, 70], 31) := by decide +kernel
theorem dX11_about_104 : decode cX11_about 104 = .ok (.aload_n 0, 1) := by decide +kernel
theorem dX11_about_105 : decode cX11_about 105 = .ok (.getfield 19, 3) := by decide +kernel
theorem dX11_about_108 : decode cX11_about 108 = .ok (.getfield 25, 3) := by decide +kernel
theorem dX11_about_111 : decode cX11_about 111 = .ok (.getfield 135, 3) := by decide +kernel
theorem dX11_about_114 : decode cX11_about 114 = .ok (.iload_n 1, 1) := by decide +kernel
theorem dX11_about_115 : decode cX11_about 115 = .ok (.iaload, 1) := by decide +kernel
theorem dX11_about_116 : decode cX11_about 116 = .ok (.ireturn, 1) := by decide +kernel
theorem dX11_about_117 : decode cX11_about 117 = .ok (.aload_n 0, 1) := by decide +kernel
theorem dX11_about_118 : decode cX11_about 118 = .ok (.getfield 19, 3) := by decide +kernel
theorem dX11_about_121 : decode cX11_about 121 = .ok (.getfield 25, 3) := by decide +kernel
theorem dX11_about_124 : decode cX11_about 124 = .ok (.getfield 138, 3) := by decide +kernel
theorem dX11_about_127 : decode cX11_about 127 = .ok (.iload_n 1, 1) := by decide +kernel
theorem dX11_about_128 : decode cX11_about 128 = .ok (.iaload, 1) := by decide +kernel
theorem dX11_about_129 : decode cX11_about 129 = .ok (.ireturn, 1) := by decide +kernel
theorem dX11_about_130 : decode cX11_about 130 = .ok (.aload_n 0, 1) := by decide +kernel
theorem dX11_about_131 : decode cX11_about 131 = .ok (.getfield 19, 3) := by decide +kernel
theorem dX11_about_134 : decode cX11_about 134 = .ok (.getfield 25, 3) := by decide +kernel
theorem dX11_about_137 : decode cX11_about 137 = .ok (.getfield 141, 3) := by decide +kernel
theorem dX11_about_140 : decode cX11_about 140 = .ok (.iload_n 1, 1) := by decide +kernel
theorem dX11_about_141 : decode cX11_about 141 = .ok (.iaload, 1) := by decide +kernel
theorem dX11_about_142 : decode cX11_about 142 = .ok (.ireturn, 1) := by decide +kernel
theorem dX11_about_143 : decode cX11_about 143 = .ok (.aload_n 0, 1) := by decide +kernel
theorem dX11_about_144 : decode cX11_about 144 = .ok (.getfield 32, 3) := by decide +kernel
theorem dX11_about_147 : decode cX11_about 147 = .ok (.iload_n 1, 1) := by decide +kernel
theorem dX11_about_148 : decode cX11_about 148 = .ok (.invokevirtual 144, 3) := by decide +kernel
theorem dX11_about_151 : decode cX11_about 151 = .ok (.ifCond .eq 7, 3) := by decide +kernel
theorem dX11_about_154 : decode cX11_about 154 = .ok (.iconst 1, 1) := by decide +kernel
theorem dX11_about_155 : decode cX11_about 155 = .ok (.goto 4, 3) := by decide +kernel
theorem dX11_about_158 : decode cX11_about 158 = .ok (.iconst 0, 1) := by decide +kernel
theorem dX11_about_159 : decode cX11_about 159 = .ok (.ireturn, 1) := by decide +kernel
theorem dX11_about_160 : decode cX11_about 160 = .ok (.bipush (-2), 2) := by decide +kernel
theorem dX11_about_162 : decode cX11_about 162 = .ok (.ireturn, 1) := by decide +kernel
theorem dX11_often_0 : decode cX11_often 0 = .ok (.aload_n 0, 1) := by decide +kernel
theorem dX11_often_1 : decode cX11_often 1 = .ok (.getfield 19, 3) := by decide +kernel
theorem dX11_often_4 : decode cX11_often 4 = .ok (.getfield 25, 3) := by decide +kernel
theorem dX11_often_7 : decode cX11_often 7 = .ok (.iload_n 1, 1) := by decide +kernel
theorem dX11_often_8 : decode cX11_often 8 = .ok (.invokevirtual 124, 3) := by decide +kernel
theorem dX11_often_11 : decode cX11_often 11 = .ok (.ifCond .ne 5, 3) := by decide +kernel
theorem dX11_often_14 : decode cX11_often 14 = .ok (.iconst (-1), 1) := by decide +kernel
theorem dX11_often_15 : decode cX11_often 15 = .ok (.ireturn, 1) := by decide +kernel
theorem dX11_often_16 : decode cX11_often 16 = .ok (.iload_n 2, 1) := by decide +kernel
theorem dX11_often_17 : decode cX11_often 17 = .ok (.iconst 1, 1) := by decide +kernel
theorem dX11_often_18 : decode cX11_often 18 = .ok (.if_icmp .lt 10, 3) := by decide +kernel
theorem dX11_often_21 : decode cX11_often 21 = .ok (.iload_n 2, 1) := by decide +kernel
theorem dX11_often_22 : decode cX11_often 22 = .ok (.sipush 999, 3) := by decide +kernel
theorem dX11_often_25 : decode cX11_often 25 = .ok (.if_icmp .le 6, 3) := by decide +kernel
theorem dX11_often_28 : decode cX11_often 28 = .ok (.bipush (-2), 2) := by decide +kernel
theorem dX11_often_30 : decode cX11_often 30 = .ok (.ireturn, 1) := by decide +kernel
theorem dX11_often_31 : decode cX11_often 31 = .ok (.aload_n 0, 1) := by decide +kernel
theorem dX11_often_32 : decode cX11_often 32 = .ok (.getfield 19, 3) := by decide +kernel
theorem dX11_often_35 : decode cX11_often 35 = .ok (.getfield 25, 3) := by decide +kernel
theorem dX11_often_38 : decode cX11_often 38 = .ok (.getfield 138, 3) := by decide +kernel
theorem dX11_often_41 : decode cX11_often 41 = .ok (.iload_n 1, 1) := by decide +kernel
theorem dX11_often_42 : decode cX11_often 42 = .ok (.iaload, 1) := by decide +kernel
theorem dX11_often_43 : decode cX11_often 43 = .ok (.istore_n 3, 1) := by decide +kernel
theorem dX11_often_44 : decode cX11_often 44 = .ok (.aload_n 0, 1) := by decide +kernel
theorem dX11_often_45 : decode cX11_often 45 = .ok (.getfield 19, 3) := by decide +kernel
theorem dX11_often_48 : decode cX11_often 48 = .ok (.getfield 25, 3) := by decide +kernel
theorem dX11_often_51 : decode cX11_often 51 = .ok (.getfield 138, 3) := by decide +kernel
theorem dX11_often_54 : decode cX11_often 54 = .ok (.iload_n 1, 1) := by decide +kernel
theorem dX11_often_55 : decode cX11_often 55 = .ok (.iload_n 2, 1) := by decide +kernel
theorem dX11_often_56 : decode cX11_often 56 = .ok (.iastore, 1) := by decide +kernel
theorem dX11_often_57 : decode cX11_often 57 = .ok (.aload_n 0, 1) := by decide +kernel
theorem dX11_often_58 : decode cX11_often 58 = .ok (.invokevirtual 121, 3) := by decide +kernel
theorem dX11_often_61 : decode cX11_often 61 = .ok (.iload_n 3, 1) := by decide +kernel
theorem dX11_often_62 : decode cX11_often 62 = .ok (.ireturn, 1) := by decide +kernel
theorem dX11_has_0 : decode cX11_has 0 = .ok (.iload_n 1, 1) := by decide +kernel
theorem dX11_has_1 : decode cX11_has 1 = .ok (.invokestatic 147, 3) := by decide +kernel
theorem dX11_has_4 : decode cX11_has 4 = .ok (.ifCond .ne 7, 3) := by decide +kernel
theorem dX11_has_7 : decode cX11_has 7 = .ok (.ldc2_w 150, 3) := by decide +kernel
theorem dX11_has_10 : decode cX11_has 10 = .ok (.lreturn, 1) := by decide +kernel
theorem dX11_has_11 : decode cX11_has 11 = .ok (.iload_n 2, 1) := by decide +kernel
theorem dX11_has_12 : decode cX11_has 12 = .ok (.ifCond .lt 16, 3) := by decide +kernel
theorem dX11_has_15 : decode cX11_has 15 = .ok (.iload_n 2, 1) := by decide +kernel
theorem dX11_has_16 : decode cX11_has 16 = .ok (.bipush 10, 2) := by decide +kernel
theorem dX11_has_18 : decode cX11_has 18 = .ok (.if_icmp .ge 10, 3) := by decide +kernel
theorem dX11_has_21 : decode cX11_has 21 = .ok (.iload_n 3, 1) := by decide +kernel
theorem dX11_has_22 : decode cX11_has 22 = .ok (.invokestatic 152, 3) := by decide +kernel
theorem dX11_has_25 : decode cX11_has 25 = .ok (.ifCond .ne 7, 3) := by decide +kernel
theorem dX11_has_28 : decode cX11_has 28 = .ok (.ldc2_w 155, 3) := by decide +kernel
theorem dX11_has_31 : decode cX11_has 31 = .ok (.lreturn, 1) := by decide +kernel
theorem dX11_has_32 : decode cX11_has 32 = .ok (.aload_n 0, 1) := by decide +kernel
theorem dX11_has_33 : decode cX11_has 33 = .ok (.getfield 32, 3) := by decide +kernel
theorem dX11_has_36 : decode cX11_has 36 = .ok (.getfield 157, 3) := by decide +kernel
theorem dX11_has_39 : decode cX11_has 39 = .ok (.iload_n 1, 1) := by decide +kernel
theorem dX11_has_40 : decode cX11_has 40 = .ok (.bipush 10, 2) := by decide +kernel
theorem dX11_has_42 : decode cX11_has 42 = .ok (.imul, 1) := by decide +kernel
theorem dX11_has_43 : decode cX11_has 43 = .ok (.iload_n 2, 1) := by decide +kernel
theorem dX11_has_44 : decode cX11_has 44 = .ok (.iadd, 1) := by decide +kernel
theorem dX11_has_45 : decode cX11_has 45 = .ok (.iaload, 1) := by decide +kernel
theorem dX11_has_46 : decode cX11_has 46 = .ok (.aload_n 0, 1) := by decide +kernel
theorem dX11_has_47 : decode cX11_has 47 = .ok (.getfield 32, 3) := by decide +kernel
theorem dX11_has_50 : decode cX11_has 50 = .ok (.getfield 160, 3) := by decide +kernel
theorem dX11_has_53 : decode cX11_has 53 = .ok (.iload_n 1, 1) := by decide +kernel
theorem dX11_has_54 : decode cX11_has 54 = .ok (.iaload, 1) := by decide +kernel
theorem dX11_has_55 : decode cX11_has 55 = .ok (.iload_n 3, 1) := by decide +kernel
theorem dX11_has_56 : decode cX11_has 56 = .ok (.invokestatic 163, 3) := by decide +kernel
theorem dX11_has_59 : decode cX11_has 59 = .ok (.lreturn, 1) := by decide +kernel
theorem dX11_common_0 : decode cX11_common 0 = .ok (.iload_n 1, 1) := by decide +kernel
theorem dX11_common_1 : decode cX11_common 1 = .ok (.invokestatic 147, 3) := by decide +kernel
theorem dX11_common_4 : decode cX11_common 4 = .ok (.ifCond .eq 15, 3) := by decide +kernel
theorem dX11_common_7 : decode cX11_common 7 = .ok (.aload_n 0, 1) := by decide +kernel
theorem dX11_common_8 : decode cX11_common 8 = .ok (.getfield 32, 3) := by decide +kernel
theorem dX11_common_11 : decode cX11_common 11 = .ok (.getfield 167, 3) := by decide +kernel
theorem dX11_common_14 : decode cX11_common 14 = .ok (.iload_n 1, 1) := by decide +kernel
theorem dX11_common_15 : decode cX11_common 15 = .ok (.iaload, 1) := by decide +kernel
theorem dX11_common_16 : decode cX11_common 16 = .ok (.goto 4, 3) := by decide +kernel
theorem dX11_common_19 : decode cX11_common 19 = .ok (.iconst (-1), 1) := by decide +kernel
theorem dX11_common_20 : decode cX11_common 20 = .ok (.ireturn, 1) := by decide +kernel
theorem dX11_ruled_0 : decode cX11_ruled 0 = .ok (.iload_n 1, 1) := by decide +kernel
theorem dX11_ruled_1 : decode cX11_ruled 1 = .ok (.invokestatic 152, 3) := by decide +kernel
theorem dX11_ruled_4 : decode cX11_ruled 4 = .ok (.ifCond .ne 7, 3) := by decide +kernel
theorem dX11_ruled_7 : decode cX11_ruled 7 = .ok (.ldc2_w 155, 3) := by decide +kernel
theorem dX11_ruled_10 : decode cX11_ruled 10 = .ok (.lreturn, 1) := by decide +kernel
theorem dX11_ruled_11 : decode cX11_ruled 11 = .ok (.aload_n 0, 1) := by decide +kernel
theorem dX11_ruled_12 : decode cX11_ruled 12 = .ok (.getfield 32, 3) := by decide +kernel
theorem dX11_ruled_15 : decode cX11_ruled 15 = .ok (.invokevirtual 170, 3) := by decide +kernel
theorem dX11_ruled_18 : decode cX11_ruled 18 = .ok (.aload_n 0, 1) := by decide +kernel
theorem dX11_ruled_19 : decode cX11_ruled 19 = .ok (.getfield 32, 3) := by decide +kernel
theorem dX11_ruled_22 : decode cX11_ruled 22 = .ok (.invokevirtual 173, 3) := by decide +kernel
theorem dX11_ruled_25 : decode cX11_ruled 25 = .ok (.iload_n 1, 1) := by decide +kernel
theorem dX11_ruled_26 : decode cX11_ruled 26 = .ok (.invokestatic 163, 3) := by decide +kernel
theorem dX11_ruled_29 : decode cX11_ruled 29 = .ok (.lreturn, 1) := by decide +kernel
theorem dX11_knows_0 : decode cX11_knows 0 = .ok (.iload_n 1, 1) := by decide +kernel
theorem dX11_knows_1 : decode cX11_knows 1 = .ok (.invokestatic 176, 3) := by decide +kernel
theorem dX11_knows_4 : decode cX11_knows 4 = .ok (.ifCond .ne 5, 3) := by decide +kernel
theorem dX11_knows_7 : decode cX11_knows 7 = .ok (.iconst (-1), 1) := by decide +kernel
theorem dX11_knows_8 : decode cX11_knows 8 = .ok (.ireturn, 1) := by decide +kernel
theorem dX11_knows_9 : decode cX11_knows 9 = .ok (.iload_n 2, 1) := by decide +kernel
theorem dX11_knows_10 : decode cX11_knows 10 = .ok (.ifCond .eq 11, 3) := by decide +kernel
theorem dX11_knows_13 : decode cX11_knows 13 = .ok (.iload_n 2, 1) := by decide +kernel
theorem dX11_knows_14 : decode cX11_knows 14 = .ok (.iconst 1, 1) := by decide +kernel
theorem dX11_knows_15 : decode cX11_knows 15 = .ok (.if_icmp .eq 6, 3) := by decide +kernel
theorem dX11_knows_18 : decode cX11_knows 18 = .ok (.bipush (-2), 2) := by decide +kernel
theorem dX11_knows_20 : decode cX11_knows 20 = .ok (.ireturn, 1) := by decide +kernel
theorem dX11_knows_21 : decode cX11_knows 21 = .ok (.iload_n 2, 1) := by decide +kernel
theorem dX11_knows_22 : decode cX11_knows 22 = .ok (.ifCond .ne 13, 3) := by decide +kernel
theorem dX11_knows_25 : decode cX11_knows 25 = .ok (.iload_n 3, 1) := by decide +kernel
theorem dX11_knows_26 : decode cX11_knows 26 = .ok (.invokestatic 179, 3) := by decide +kernel
theorem dX11_knows_29 : decode cX11_knows 29 = .ok (.ifCond .ne 23, 3) := by decide +kernel
theorem dX11_knows_32 : decode cX11_knows 32 = .ok (.goto 17, 3) := by decide +kernel
theorem dX11_knows_35 : decode cX11_knows 35 = .ok (.aload_n 0, 1) := by decide +kernel
theorem dX11_knows_36 : decode cX11_knows 36 = .ok (.getfield 19, 3) := by decide +kernel
theorem dX11_knows_39 : decode cX11_knows 39 = .ok (.getfield 25, 3) := by decide +kernel
theorem dX11_knows_42 : decode cX11_knows 42 = .ok (.iload_n 3, 1) := by decide +kernel
theorem dX11_knows_43 : decode cX11_knows 43 = .ok (.invokevirtual 182, 3) := by decide +kernel
theorem dX11_knows_46 : decode cX11_knows 46 = .ok (.ifCond .ne 6, 3) := by decide +kernel
theorem dX11_knows_49 : decode cX11_knows 49 = .ok (.bipush (-2), 2) := by decide +kernel
theorem dX11_knows_51 : decode cX11_knows 51 = .ok (.ireturn, 1) := by decide +kernel
theorem dX11_knows_52 : decode cX11_knows 52 = .ok (.iload_n 2, 1) := by decide +kernel
theorem dX11_knows_53 : decode cX11_knows 53 = .ok (.ifCond .ne 16, 3) := by decide +kernel
theorem dX11_knows_56 : decode cX11_knows 56 = .ok (.aload_n 0, 1) := by decide +kernel
theorem dX11_knows_57 : decode cX11_knows 57 = .ok (.getfield 19, 3) := by decide +kernel
theorem dX11_knows_60 : decode cX11_knows 60 = .ok (.getfield 38, 3) := by decide +kernel
theorem dX11_knows_63 : decode cX11_knows 63 = .ok (.getfield 185, 3) := by decide +kernel
theorem dX11_knows_66 : decode cX11_knows 66 = .ok (.goto 13, 3) := by decide +kernel
theorem dX11_knows_69 : decode cX11_knows 69 = .ok (.aload_n 0, 1) := by decide +kernel
theorem dX11_knows_70 : decode cX11_knows 70 = .ok (.getfield 19, 3) := by decide +kernel
theorem dX11_knows_73 : decode cX11_knows 73 = .ok (.getfield 38, 3) := by decide +kernel
theorem dX11_knows_76 : decode cX11_knows 76 = .ok (.getfield 190, 3) := by decide +kernel
theorem dX11_knows_79 : decode cX11_knows 79 = .ok (.astore 4, 2) := by decide +kernel
theorem dX11_knows_81 : decode cX11_knows 81 = .ok (.aload 4, 2) := by decide +kernel
theorem dX11_knows_83 : decode cX11_knows 83 = .ok (.iload_n 1, 1) := by decide +kernel
theorem dX11_knows_84 : decode cX11_knows 84 = .ok (.iaload, 1) := by decide +kernel
theorem dX11_knows_85 : decode cX11_knows 85 = .ok (.istore 5, 2) := by decide +kernel
theorem dX11_knows_87 : decode cX11_knows 87 = .ok (.aload 4, 2) := by decide +kernel
theorem dX11_knows_89 : decode cX11_knows 89 = .ok (.iload_n 1, 1) := by decide +kernel
theorem dX11_knows_90 : decode cX11_knows 90 = .ok (.iload_n 3, 1) := by decide +kernel
theorem dX11_knows_91 : decode cX11_knows 91 = .ok (.iastore, 1) := by decide +kernel
theorem dX11_knows_92 : decode cX11_knows 92 = .ok (.aload_n 0, 1) := by decide +kernel
theorem dX11_knows_93 : decode cX11_knows 93 = .ok (.iload_n 1, 1) := by decide +kernel
theorem dX11_knows_94 : decode cX11_knows 94 = .ok (.invokevirtual 193, 3) := by decide +kernel
theorem dX11_knows_97 : decode cX11_knows 97 = .ok (.iload 5, 2) := by decide +kernel
theorem dX11_knows_99 : decode cX11_knows 99 = .ok (.ireturn, 1) := by decide +kernel
theorem dX11_mix_0 : decode cX11_mix 0 = .ok (.iload_n 1, 1) := by decide +kernel
theorem dX11_mix_1 : decode cX11_mix 1 = .ok (.invokestatic 176, 3) := by decide +kernel
theorem dX11_mix_4 : decode cX11_mix 4 = .ok (.ifCond .ne 5, 3) := by decide +kernel
theorem dX11_mix_7 : decode cX11_mix 7 = .ok (.iconst (-1), 1) := by decide +kernel
theorem dX11_mix_8 : decode cX11_mix 8 = .ok (.ireturn, 1) := by decide +kernel
theorem dX11_mix_9 : decode cX11_mix 9 = .ok (.iload_n 2, 1) := by decide +kernel
theorem dX11_mix_10 : decode cX11_mix 10 = .ok (.iconst (-1), 1) := by decide +kernel
theorem dX11_mix_11 : decode cX11_mix 11 = .ok (.if_icmp .ne 12, 3) := by decide +kernel
theorem dX11_mix_14 : decode cX11_mix 14 = .ok (.iload_n 3, 1) := by decide +kernel
theorem dX11_mix_15 : decode cX11_mix 15 = .ok (.iconst (-1), 1) := by decide +kernel
theorem dX11_mix_16 : decode cX11_mix 16 = .ok (.if_icmp .ne 7, 3) := by decide +kernel
theorem dX11_mix_19 : decode cX11_mix 19 = .ok (.iconst 1, 1) := by decide +kernel
theorem dX11_mix_20 : decode cX11_mix 20 = .ok (.goto 4, 3) := by decide +kernel
theorem dX11_mix_23 : decode cX11_mix 23 = .ok (.iconst 0, 1) := by decide +kernel
theorem dX11_mix_24 : decode cX11_mix 24 = .ok (.istore 4, 2) := by decide +kernel
theorem dX11_mix_26 : decode cX11_mix 26 = .ok (.iload 4, 2) := by decide +kernel
theorem dX11_mix_28 : decode cX11_mix 28 = .ok (.ifCond .ne 24, 3) := by decide +kernel
theorem dX11_mix_31 : decode cX11_mix 31 = .ok (.iload_n 2, 1) := by decide +kernel
theorem dX11_mix_32 : decode cX11_mix 32 = .ok (.invokestatic 147, 3) := by decide +kernel
theorem dX11_mix_35 : decode cX11_mix 35 = .ok (.ifCond .eq 15, 3) := by decide +kernel
theorem dX11_mix_38 : decode cX11_mix 38 = .ok (.iload_n 3, 1) := by decide +kernel
theorem dX11_mix_39 : decode cX11_mix 39 = .ok (.invokestatic 147, 3) := by decide +kernel
theorem dX11_mix_42 : decode cX11_mix 42 = .ok (.ifCond .eq 8, 3) := by decide +kernel
theorem dX11_mix_45 : decode cX11_mix 45 = .ok (.iload_n 2, 1) := by decide +kernel
theorem dX11_mix_46 : decode cX11_mix 46 = .ok (.iload_n 3, 1) := by decide +kernel
theorem dX11_mix_47 : decode cX11_mix 47 = .ok (.if_icmp .ne 5, 3) := by decide +kernel
theorem dX11_mix_50 : decode cX11_mix 50 = .ok (.iconst (-1), 1) := by decide +kernel
theorem dX11_mix_51 : decode cX11_mix 51 = .ok (.ireturn, 1) := by decide +kernel
theorem dX11_mix_52 : decode cX11_mix 52 = .ok (.aload_n 0, 1) := by decide +kernel
theorem dX11_mix_53 : decode cX11_mix 53 = .ok (.getfield 19, 3) := by decide +kernel
theorem dX11_mix_56 : decode cX11_mix 56 = .ok (.getfield 38, 3) := by decide +kernel
theorem dX11_mix_59 : decode cX11_mix 59 = .ok (.iload_n 1, 1) := by decide +kernel
theorem dX11_mix_60 : decode cX11_mix 60 = .ok (.invokevirtual 197, 3) := by decide +kernel
theorem dX11_mix_63 : decode cX11_mix 63 = .ok (.istore 5, 2) := by decide +kernel
theorem dX11_mix_65 : decode cX11_mix 65 = .ok (.aload_n 0, 1) := by decide +kernel
theorem dX11_mix_66 : decode cX11_mix 66 = .ok (.getfield 19, 3) := by decide +kernel
theorem dX11_mix_69 : decode cX11_mix 69 = .ok (.getfield 38, 3) := by decide +kernel
theorem dX11_mix_72 : decode cX11_mix 72 = .ok (.getfield 201, 3) := by decide +kernel
theorem dX11_mix_75 : decode cX11_mix 75 = .ok (.iload_n 1, 1) := by decide +kernel
theorem dX11_mix_76 : decode cX11_mix 76 = .ok (.iload_n 2, 1) := by decide +kernel
theorem dX11_mix_77 : decode cX11_mix 77 = .ok (.iload_n 3, 1) := by decide +kernel
theorem dX11_mix_78 : decode cX11_mix 78 = .ok (.invokestatic 204, 3) := by decide +kernel
theorem dX11_mix_81 : decode cX11_mix 81 = .ok (.iastore, 1) := by decide +kernel
theorem dX11_mix_82 : decode cX11_mix 82 = .ok (.aload_n 0, 1) := by decide +kernel
theorem dX11_mix_83 : decode cX11_mix 83 = .ok (.getfield 19, 3) := by decide +kernel
theorem dX11_mix_86 : decode cX11_mix 86 = .ok (.getfield 38, 3) := by decide +kernel
theorem dX11_mix_89 : decode cX11_mix 89 = .ok (.getfield 209, 3) := by decide +kernel
theorem dX11_mix_92 : decode cX11_mix 92 = .ok (.iload_n 1, 1) := by decide +kernel
theorem dX11_mix_93 : decode cX11_mix 93 = .ok (.iload_n 2, 1) := by decide +kernel
theorem dX11_mix_94 : decode cX11_mix 94 = .ok (.iload_n 3, 1) := by decide +kernel
theorem dX11_mix_95 : decode cX11_mix 95 = .ok (.invokestatic 212, 3) := by decide +kernel
theorem dX11_mix_98 : decode cX11_mix 98 = .ok (.iastore, 1) := by decide +kernel
theorem dX11_mix_99 : decode cX11_mix 99 = .ok (.aload_n 0, 1) := by decide +kernel
theorem dX11_mix_100 : decode cX11_mix 100 = .ok (.iload_n 1, 1) := by decide +kernel
theorem dX11_mix_101 : decode cX11_mix 101 = .ok (.invokevirtual 193, 3) := by decide +kernel
theorem dX11_mix_104 : decode cX11_mix 104 = .ok (.iload 5, 2) := by decide +kernel
theorem dX11_mix_106 : decode cX11_mix 106 = .ok (.ireturn, 1) := by decide +kernel
theorem dX11_read_0 : decode cX11_read 0 = .ok (.iload_n 1, 1) := by decide +kernel
theorem dX11_read_1 : decode cX11_read 1 = .ok (.invokestatic 176, 3) := by decide +kernel
theorem dX11_read_4 : decode cX11_read 4 = .ok (.ifCond .eq 17, 3) := by decide +kernel
theorem dX11_read_7 : decode cX11_read 7 = .ok (.aload_n 0, 1) := by decide +kernel
theorem dX11_read_8 : decode cX11_read 8 = .ok (.getfield 19, 3) := by decide +kernel
theorem dX11_read_11 : decode cX11_read 11 = .ok (.getfield 25, 3) := by decide +kernel
theorem dX11_read_14 : decode cX11_read 14 = .ok (.iload_n 2, 1) := by decide +kernel
theorem dX11_read_15 : decode cX11_read 15 = .ok (.invokevirtual 124, 3) := by decide +kernel
theorem dX11_read_18 : decode cX11_read 18 = .ok (.ifCond .ne 5, 3) := by decide +kernel
theorem dX11_read_21 : decode cX11_read 21 = .ok (.iconst (-1), 1) := by decide +kernel
theorem dX11_read_22 : decode cX11_read 22 = .ok (.ireturn, 1) := by decide +kernel
theorem dX11_read_23 : decode cX11_read 23 = .ok (.iload_n 3, 1) := by decide +kernel
theorem dX11_read_24 : decode cX11_read 24 = .ok (.ifCond .eq 11, 3) := by decide +kernel
theorem dX11_read_27 : decode cX11_read 27 = .ok (.iload_n 3, 1) := by decide +kernel
theorem dX11_read_28 : decode cX11_read 28 = .ok (.iconst 1, 1) := by decide +kernel
theorem dX11_read_29 : decode cX11_read 29 = .ok (.if_icmp .eq 6, 3) := by decide +kernel
theorem dX11_read_32 : decode cX11_read 32 = .ok (.bipush (-2), 2) := by decide +kernel
theorem dX11_read_34 : decode cX11_read 34 = .ok (.ireturn, 1) := by decide +kernel
theorem dX11_read_35 : decode cX11_read 35 = .ok (.iload_n 3, 1) := by decide +kernel
theorem dX11_read_36 : decode cX11_read 36 = .ok (.ifCond .ne 15, 3) := by decide +kernel
theorem dX11_read_39 : decode cX11_read 39 = .ok (.aload_n 0, 1) := by decide +kernel
theorem dX11_read_40 : decode cX11_read 40 = .ok (.getfield 45, 3) := by decide +kernel
theorem dX11_read_43 : decode cX11_read 43 = .ok (.iload_n 1, 1) := by decide +kernel
theorem dX11_read_44 : decode cX11_read 44 = .ok (.iload_n 2, 1) := by decide +kernel
theorem dX11_read_45 : decode cX11_read 45 = .ok (.invokevirtual 215, 3) := by decide +kernel
theorem dX11_read_48 : decode cX11_read 48 = .ok (.goto 12, 3) := by decide +kernel
theorem dX11_read_51 : decode cX11_read 51 = .ok (.aload_n 0, 1) := by decide +kernel
theorem dX11_read_52 : decode cX11_read 52 = .ok (.getfield 45, 3) := by decide +kernel
theorem dX11_read_55 : decode cX11_read 55 = .ok (.iload_n 1, 1) := by decide +kernel
theorem dX11_read_56 : decode cX11_read 56 = .ok (.iload_n 2, 1) := by decide +kernel
theorem dX11_read_57 : decode cX11_read 57 = .ok (.invokevirtual 218, 3) := by decide +kernel
theorem dX11_read_60 : decode cX11_read 60 = .ok (.ireturn, 1) := by decide +kernel
theorem dX11_share_0 : decode cX11_share 0 = .ok (.iload_n 1, 1) := by decide +kernel
theorem dX11_share_1 : decode cX11_share 1 = .ok (.invokestatic 176, 3) := by decide +kernel
theorem dX11_share_4 : decode cX11_share 4 = .ok (.ifCond .eq 24, 3) := by decide +kernel
theorem dX11_share_7 : decode cX11_share 7 = .ok (.aload_n 0, 1) := by decide +kernel
theorem dX11_share_8 : decode cX11_share 8 = .ok (.getfield 19, 3) := by decide +kernel
theorem dX11_share_11 : decode cX11_share 11 = .ok (.getfield 25, 3) := by decide +kernel
theorem dX11_share_14 : decode cX11_share 14 = .ok (.aload_n 0, 1) := by decide +kernel
theorem dX11_share_15 : decode cX11_share 15 = .ok (.getfield 45, 3) := by decide +kernel
theorem dX11_share_18 : decode cX11_share 18 = .ok (.iload_n 1, 1) := by decide +kernel
theorem dX11_share_19 : decode cX11_share 19 = .ok (.invokevirtual 221, 3) := by decide +kernel
theorem dX11_share_22 : decode cX11_share 22 = .ok (.invokevirtual 224, 3) := by decide +kernel
theorem dX11_share_25 : decode cX11_share 25 = .ok (.goto 4, 3) := by decide +kernel
theorem dX11_share_28 : decode cX11_share 28 = .ok (.iconst (-1), 1) := by decide +kernel
theorem dX11_share_29 : decode cX11_share 29 = .ok (.ireturn, 1) := by decide +kernel
theorem dX11_gives_0 : decode cX11_gives 0 = .ok (.iload_n 1, 1) := by decide +kernel
theorem dX11_gives_1 : decode cX11_gives 1 = .ok (.invokestatic 179, 3) := by decide +kernel
theorem dX11_gives_4 : decode cX11_gives 4 = .ok (.ifCond .eq 17, 3) := by decide +kernel
theorem dX11_gives_7 : decode cX11_gives 7 = .ok (.aload_n 0, 1) := by decide +kernel
theorem dX11_gives_8 : decode cX11_gives 8 = .ok (.getfield 19, 3) := by decide +kernel
theorem dX11_gives_11 : decode cX11_gives 11 = .ok (.getfield 25, 3) := by decide +kernel
theorem dX11_gives_14 : decode cX11_gives 14 = .ok (.iload_n 2, 1) := by decide +kernel
theorem dX11_gives_15 : decode cX11_gives 15 = .ok (.invokevirtual 182, 3) := by decide +kernel
theorem dX11_gives_18 : decode cX11_gives 18 = .ok (.ifCond .ne 6, 3) := by decide +kernel
theorem dX11_gives_21 : decode cX11_gives 21 = .ok (.bipush (-2), 2) := by decide +kernel
theorem dX11_gives_23 : decode cX11_gives 23 = .ok (.ireturn, 1) := by decide +kernel
theorem dX11_gives_24 : decode cX11_gives 24 = .ok (.aload_n 0, 1) := by decide +kernel
theorem dX11_gives_25 : decode cX11_gives 25 = .ok (.getfield 19, 3) := by decide +kernel
theorem dX11_gives_28 : decode cX11_gives 28 = .ok (.getfield 25, 3) := by decide +kernel
theorem dX11_gives_31 : decode cX11_gives 31 = .ok (.aload_n 0, 1) := by decide +kernel
theorem dX11_gives_32 : decode cX11_gives 32 = .ok (.getfield 32, 3) := by decide +kernel
theorem dX11_gives_35 : decode cX11_gives 35 = .ok (.iload_n 1, 1) := by decide +kernel
theorem dX11_gives_36 : decode cX11_gives 36 = .ok (.invokevirtual 227, 3) := by decide +kernel
theorem dX11_gives_39 : decode cX11_gives 39 = .ok (.iload_n 2, 1) := by decide +kernel
theorem dX11_gives_40 : decode cX11_gives 40 = .ok (.ior, 1) := by decide +kernel
theorem dX11_gives_41 : decode cX11_gives 41 = .ok (.invokevirtual 224, 3) := by decide +kernel
theorem dX11_gives_44 : decode cX11_gives 44 = .ok (.ireturn, 1) := by decide +kernel
theorem dX11_order_0 : decode cX11_order 0 = .ok (.iload_n 1, 1) := by decide +kernel
theorem dX11_order_1 : decode cX11_order 1 = .ok (.iconst (-1), 1) := by decide +kernel
theorem dX11_order_2 : decode cX11_order 2 = .ok (.if_icmp .lt 9, 3) := by decide +kernel
theorem dX11_order_5 : decode cX11_order 5 = .ok (.iload_n 1, 1) := by decide +kernel
theorem dX11_order_6 : decode cX11_order 6 = .ok (.bipush 10, 2) := by decide +kernel
theorem dX11_order_8 : decode cX11_order 8 = .ok (.if_icmp .lt 6, 3) := by decide +kernel
theorem dX11_order_11 : decode cX11_order 11 = .ok (.bipush (-6), 2) := by decide +kernel
theorem dX11_order_13 : decode cX11_order 13 = .ok (.ireturn, 1) := by decide +kernel
theorem dX11_order_14 : decode cX11_order 14 = .ok (.aload_n 0, 1) := by decide +kernel
theorem dX11_order_15 : decode cX11_order 15 = .ok (.getfield 54, 3) := by decide +kernel
theorem dX11_order_18 : decode cX11_order 18 = .ok (.invokevirtual 230, 3) := by decide +kernel
theorem dX11_order_21 : decode cX11_order 21 = .ok (.iload_n 1, 1) := by decide +kernel
theorem dX11_order_22 : decode cX11_order 22 = .ok (.iconst (-1), 1) := by decide +kernel
theorem dX11_order_23 : decode cX11_order 23 = .ok (.if_icmp .ne 13, 3) := by decide +kernel
theorem dX11_order_26 : decode cX11_order 26 = .ok (.aload_n 0, 1) := by decide +kernel
theorem dX11_order_27 : decode cX11_order 27 = .ok (.getfield 54, 3) := by decide +kernel
theorem dX11_order_30 : decode cX11_order 30 = .ok (.getfield 233, 3) := by decide +kernel
theorem dX11_order_33 : decode cX11_order 33 = .ok (.goto 12, 3) := by decide +kernel
theorem dX11_order_36 : decode cX11_order 36 = .ok (.aload_n 0, 1) := by decide +kernel
theorem dX11_order_37 : decode cX11_order 37 = .ok (.getfield 54, 3) := by decide +kernel
theorem dX11_order_40 : decode cX11_order 40 = .ok (.getfield 236, 3) := by decide +kernel
theorem dX11_order_43 : decode cX11_order 43 = .ok (.iload_n 1, 1) := by decide +kernel
theorem dX11_order_44 : decode cX11_order 44 = .ok (.iaload, 1) := by decide +kernel
theorem dX11_order_45 : decode cX11_order 45 = .ok (.ireturn, 1) := by decide +kernel
theorem dX11_most_0 : decode cX11_most 0 = .ok (.iload_n 1, 1) := by decide +kernel
theorem dX11_most_1 : decode cX11_most 1 = .ok (.ifCond .lt 36, 3) := by decide +kernel
theorem dX11_most_4 : decode cX11_most 4 = .ok (.iload_n 1, 1) := by decide +kernel
theorem dX11_most_5 : decode cX11_most 5 = .ok (.bipush 10, 2) := by decide +kernel
theorem dX11_most_7 : decode cX11_most 7 = .ok (.if_icmp .gt 30, 3) := by decide +kernel
theorem dX11_most_10 : decode cX11_most 10 = .ok (.iload_n 2, 1) := by decide +kernel
theorem dX11_most_11 : decode cX11_most 11 = .ok (.ifCond .lt 26, 3) := by decide +kernel
theorem dX11_most_14 : decode cX11_most 14 = .ok (.iload_n 2, 1) := by decide +kernel
theorem dX11_most_15 : decode cX11_most 15 = .ok (.aload_n 0, 1) := by decide +kernel
theorem dX11_most_16 : decode cX11_most 16 = .ok (.getfield 19, 3) := by decide +kernel
theorem dX11_most_19 : decode cX11_most 19 = .ok (.getfield 25, 3) := by decide +kernel
theorem dX11_most_22 : decode cX11_most 22 = .ok (.getfield 116, 3) := by decide +kernel
theorem dX11_most_25 : decode cX11_most 25 = .ok (.if_icmp .gt 12, 3) := by decide +kernel
theorem dX11_most_28 : decode cX11_most 28 = .ok (.iload_n 3, 1) := by decide +kernel
theorem dX11_most_29 : decode cX11_most 29 = .ok (.ifCond .lt 8, 3) := by decide +kernel
theorem dX11_most_32 : decode cX11_most 32 = .ok (.iload_n 3, 1) := by decide +kernel
theorem dX11_most_33 : decode cX11_most 33 = .ok (.iconst 2, 1) := by decide +kernel
theorem dX11_most_34 : decode cX11_most 34 = .ok (.if_icmp .le 6, 3) := by decide +kernel
theorem dX11_most_37 : decode cX11_most 37 = .ok (.bipush (-2), 2) := by decide +kernel
theorem dX11_most_39 : decode cX11_most 39 = .ok (.ireturn, 1) := by decide +kernel
theorem dX11_most_40 : decode cX11_most 40 = .ok (.aload_n 0, 1) := by decide +kernel
theorem dX11_most_41 : decode cX11_most 41 = .ok (.getfield 54, 3) := by decide +kernel
theorem dX11_most_44 : decode cX11_most 44 = .ok (.iload_n 1, 1) := by decide +kernel
theorem dX11_most_45 : decode cX11_most 45 = .ok (.iload_n 2, 1) := by decide +kernel
theorem dX11_most_46 : decode cX11_most 46 = .ok (.invokevirtual 239, 3) := by decide +kernel
theorem dX11_most_49 : decode cX11_most 49 = .ok (.istore 4, 2) := by decide +kernel
theorem dX11_most_51 : decode cX11_most 51 = .ok (.iload_n 3, 1) := by decide +kernel
theorem dX11_most_52 : decode cX11_most 52 = .ok (.iconst 1, 1) := by decide +kernel
theorem dX11_most_53 : decode cX11_most 53 = .ok (.if_icmp .ne 6, 3) := by decide +kernel
theorem dX11_most_56 : decode cX11_most 56 = .ok (.iload 4, 2) := by decide +kernel
theorem dX11_most_58 : decode cX11_most 58 = .ok (.ireturn, 1) := by decide +kernel
theorem dX11_most_59 : decode cX11_most 59 = .ok (.aload_n 0, 1) := by decide +kernel
theorem dX11_most_60 : decode cX11_most 60 = .ok (.getfield 54, 3) := by decide +kernel
theorem dX11_most_63 : decode cX11_most 63 = .ok (.iload 4, 2) := by decide +kernel
theorem dX11_most_65 : decode cX11_most 65 = .ok (.iload_n 2, 1) := by decide +kernel
theorem dX11_most_66 : decode cX11_most 66 = .ok (.invokevirtual 242, 3) := by decide +kernel
theorem dX11_most_69 : decode cX11_most 69 = .ok (.istore 5, 2) := by decide +kernel
theorem dX11_most_71 : decode cX11_most 71 = .ok (.iload_n 3, 1) := by decide +kernel
theorem dX11_most_72 : decode cX11_most 72 = .ok (.iconst 2, 1) := by decide +kernel
theorem dX11_most_73 : decode cX11_most 73 = .ok (.if_icmp .ne 8, 3) := by decide +kernel
theorem dX11_most_76 : decode cX11_most 76 = .ok (.iload 5, 2) := by decide +kernel
theorem dX11_most_78 : decode cX11_most 78 = .ok (.goto 25, 3) := by decide +kernel
theorem dX11_most_81 : decode cX11_most 81 = .ok (.aload_n 0, 1) := by decide +kernel
theorem dX11_most_82 : decode cX11_most 82 = .ok (.getfield 19, 3) := by decide +kernel
theorem dX11_most_85 : decode cX11_most 85 = .ok (.getfield 25, 3) := by decide +kernel
theorem dX11_most_88 : decode cX11_most 88 = .ok (.aload_n 0, 1) := by decide +kernel
theorem dX11_most_89 : decode cX11_most 89 = .ok (.getfield 32, 3) := by decide +kernel
theorem dX11_most_92 : decode cX11_most 92 = .ok (.iload 4, 2) := by decide +kernel
theorem dX11_most_94 : decode cX11_most 94 = .ok (.invokevirtual 227, 3) := by decide +kernel
theorem dX11_most_97 : decode cX11_most 97 = .ok (.iload 5, 2) := by decide +kernel
theorem dX11_most_99 : decode cX11_most 99 = .ok (.ior, 1) := by decide +kernel
theorem dX11_most_100 : decode cX11_most 100 = .ok (.invokevirtual 224, 3) := by decide +kernel
theorem dX11_most_103 : decode cX11_most 103 = .ok (.ireturn, 1) := by decide +kernel
theorem dX11_tale_0 : decode cX11_tale 0 = .ok (.iload_n 1, 1) := by decide +kernel
theorem dX11_tale_1 : decode cX11_tale 1 = .ok (.invokestatic 176, 3) := by decide +kernel
theorem dX11_tale_4 : decode cX11_tale 4 = .ok (.ifCond .ne 5, 3) := by decide +kernel
theorem dX11_tale_7 : decode cX11_tale 7 = .ok (.iconst (-1), 1) := by decide +kernel
theorem dX11_tale_8 : decode cX11_tale 8 = .ok (.ireturn, 1) := by decide +kernel
theorem dX11_tale_9 : decode cX11_tale 9 = .ok (.aload_n 0, 1) := by decide +kernel
theorem dX11_tale_10 : decode cX11_tale 10 = .ok (.getfield 61, 3) := by decide +kernel
theorem dX11_tale_13 : decode cX11_tale 13 = .ok (.getfield 245, 3) := by decide +kernel
theorem dX11_tale_16 : decode cX11_tale 16 = .ok (.iload_n 1, 1) := by decide +kernel
theorem dX11_tale_17 : decode cX11_tale 17 = .ok (.if_icmp .eq 26, 3) := by decide +kernel
theorem dX11_tale_20 : decode cX11_tale 20 = .ok (.aload_n 0, 1) := by decide +kernel
theorem dX11_tale_21 : decode cX11_tale 21 = .ok (.getfield 61, 3) := by decide +kernel
theorem dX11_tale_24 : decode cX11_tale 24 = .ok (.aload_n 0, 1) := by decide +kernel
theorem dX11_tale_25 : decode cX11_tale 25 = .ok (.getfield 45, 3) := by decide +kernel
theorem dX11_tale_28 : decode cX11_tale 28 = .ok (.iload_n 1, 1) := by decide +kernel
theorem dX11_tale_29 : decode cX11_tale 29 = .ok (.invokevirtual 221, 3) := by decide +kernel
theorem dX11_tale_32 : decode cX11_tale 32 = .ok (.invokevirtual 248, 3) := by decide +kernel
theorem dX11_tale_35 : decode cX11_tale 35 = .ok (.aload_n 0, 1) := by decide +kernel
theorem dX11_tale_36 : decode cX11_tale 36 = .ok (.getfield 61, 3) := by decide +kernel
theorem dX11_tale_39 : decode cX11_tale 39 = .ok (.iload_n 1, 1) := by decide +kernel
theorem dX11_tale_40 : decode cX11_tale 40 = .ok (.putfield 245, 3) := by decide +kernel
theorem dX11_tale_43 : decode cX11_tale 43 = .ok (.iload_n 2, 1) := by decide +kernel
theorem dX11_tale_44 : decode cX11_tale 44 = .ok (.iconst (-1), 1) := by decide +kernel
theorem dX11_tale_45 : decode cX11_tale 45 = .ok (.if_icmp .ne 11, 3) := by decide +kernel
theorem dX11_tale_48 : decode cX11_tale 48 = .ok (.aload_n 0, 1) := by decide +kernel
theorem dX11_tale_49 : decode cX11_tale 49 = .ok (.getfield 61, 3) := by decide +kernel
theorem dX11_tale_52 : decode cX11_tale 52 = .ok (.getfield 251, 3) := by decide +kernel
theorem dX11_tale_55 : decode cX11_tale 55 = .ok (.ireturn, 1) := by decide +kernel
theorem dX11_tale_56 : decode cX11_tale 56 = .ok (.iload_n 2, 1) := by decide +kernel
theorem dX11_tale_57 : decode cX11_tale 57 = .ok (.ifCond .lt 26, 3) := by decide +kernel
theorem dX11_tale_60 : decode cX11_tale 60 = .ok (.iload_n 2, 1) := by decide +kernel
theorem dX11_tale_61 : decode cX11_tale 61 = .ok (.aload_n 0, 1) := by decide +kernel
theorem dX11_tale_62 : decode cX11_tale 62 = .ok (.getfield 61, 3) := by decide +kernel
theorem dX11_tale_65 : decode cX11_tale 65 = .ok (.getfield 251, 3) := by decide +kernel
theorem dX11_tale_68 : decode cX11_tale 68 = .ok (.if_icmp .ge 15, 3) := by decide +kernel
theorem dX11_tale_71 : decode cX11_tale 71 = .ok (.aload_n 0, 1) := by decide +kernel
theorem dX11_tale_72 : decode cX11_tale 72 = .ok (.getfield 61, 3) := by decide +kernel
theorem dX11_tale_75 : decode cX11_tale 75 = .ok (.getfield 252, 3) := by decide +kernel
theorem dX11_tale_78 : decode cX11_tale 78 = .ok (.iload_n 2, 1) := by decide +kernel
theorem dX11_tale_79 : decode cX11_tale 79 = .ok (.iaload, 1) := by decide +kernel
theorem dX11_tale_80 : decode cX11_tale 80 = .ok (.goto 5, 3) := by decide +kernel
theorem dX11_tale_83 : decode cX11_tale 83 = .ok (.bipush (-6), 2) := by decide +kernel
theorem dX11_tale_85 : decode cX11_tale 85 = .ok (.ireturn, 1) := by decide +kernel
theorem dX11_answer_0 : decode cX11_answer 0 = .ok (.aload_n 0, 1) := by decide +kernel
theorem dX11_answer_1 : decode cX11_answer 1 = .ok (.getfield 19, 3) := by decide +kernel
theorem dX11_answer_4 : decode cX11_answer 4 = .ok (.getfield 25, 3) := by decide +kernel
theorem dX11_answer_7 : decode cX11_answer 7 = .ok (.iload_n 1, 1) := by decide +kernel
theorem dX11_answer_8 : decode cX11_answer 8 = .ok (.invokevirtual 124, 3) := by decide +kernel
theorem dX11_answer_11 : decode cX11_answer 11 = .ok (.ifCond .ne 5, 3) := by decide +kernel
theorem dX11_answer_14 : decode cX11_answer 14 = .ok (.iconst (-1), 1) := by decide +kernel
theorem dX11_answer_15 : decode cX11_answer 15 = .ok (.ireturn, 1) := by decide +kernel
theorem dX11_answer_16 : decode cX11_answer 16 = .ok (.aload_n 0, 1) := by decide +kernel
theorem dX11_answer_17 : decode cX11_answer 17 = .ok (.getfield 19, 3) := by decide +kernel
theorem dX11_answer_20 : decode cX11_answer 20 = .ok (.getfield 67, 3) := by decide +kernel
theorem dX11_answer_23 : decode cX11_answer 23 = .ok (.getfield 255, 3) := by decide +kernel
theorem dX11_answer_26 : decode cX11_answer 26 = .ok (.bipush 20, 2) := by decide +kernel
theorem dX11_answer_28 : decode cX11_answer 28 = .ok (.if_icmp .lt 6, 3) := by decide +kernel
theorem dX11_answer_31 : decode cX11_answer 31 = .ok (.bipush (-4), 2) := by decide +kernel
theorem dX11_answer_33 : decode cX11_answer 33 = .ok (.ireturn, 1) := by decide +kernel
theorem dX11_answer_34 : decode cX11_answer 34 = .ok (.aload_n 0, 1) := by decide +kernel
theorem dX11_answer_35 : decode cX11_answer 35 = .ok (.getfield 19, 3) := by decide +kernel
theorem dX11_answer_38 : decode cX11_answer 38 = .ok (.getfield 67, 3) := by decide +kernel
theorem dX11_answer_41 : decode cX11_answer 41 = .ok (.iload_n 1, 1) := by decide +kernel
theorem dX11_answer_42 : decode cX11_answer 42 = .ok (.iload_n 2, 1) := by decide +kernel
theorem dX11_answer_43 : decode cX11_answer 43 = .ok (.invokevirtual 258, 3) := by decide +kernel
theorem dX11_answer_46 : decode cX11_answer 46 = .ok (.aload_n 0, 1) := by decide +kernel
theorem dX11_answer_47 : decode cX11_answer 47 = .ok (.getfield 19, 3) := by decide +kernel
theorem dX11_answer_50 : decode cX11_answer 50 = .ok (.getfield 67, 3) := by decide +kernel
theorem dX11_answer_53 : decode cX11_answer 53 = .ok (.getfield 255, 3) := by decide +kernel
theorem dX11_answer_56 : decode cX11_answer 56 = .ok (.ireturn, 1) := by decide +kernel
theorem dX11_clear_0 : decode cX11_clear 0 = .ok (.aload_n 0, 1) := by decide +kernel
theorem dX11_clear_1 : decode cX11_clear 1 = .ok (.getfield 19, 3) := by decide +kernel
theorem dX11_clear_4 : decode cX11_clear 4 = .ok (.getfield 67, 3) := by decide +kernel
theorem dX11_clear_7 : decode cX11_clear 7 = .ok (.getfield 255, 3) := by decide +kernel
theorem dX11_clear_10 : decode cX11_clear 10 = .ok (.istore_n 1, 1) := by decide +kernel
theorem dX11_clear_11 : decode cX11_clear 11 = .ok (.aload_n 0, 1) := by decide +kernel
theorem dX11_clear_12 : decode cX11_clear 12 = .ok (.getfield 19, 3) := by decide +kernel
theorem dX11_clear_15 : decode cX11_clear 15 = .ok (.getfield 67, 3) := by decide +kernel
theorem dX11_clear_18 : decode cX11_clear 18 = .ok (.iconst 0, 1) := by decide +kernel
theorem dX11_clear_19 : decode cX11_clear 19 = .ok (.putfield 255, 3) := by decide +kernel
theorem dX11_clear_22 : decode cX11_clear 22 = .ok (.iload_n 1, 1) := by decide +kernel
theorem dX11_clear_23 : decode cX11_clear 23 = .ok (.ireturn, 1) := by decide +kernel
theorem dX11_may_0 : decode cX11_may 0 = .ok (.aload_n 0, 1) := by decide +kernel
theorem dX11_may_1 : decode cX11_may 1 = .ok (.getfield 74, 3) := by decide +kernel
theorem dX11_may_4 : decode cX11_may 4 = .ok (.invokevirtual 261, 3) := by decide +kernel
theorem dX11_may_7 : decode cX11_may 7 = .ok (.aload_n 0, 1) := by decide +kernel
theorem dX11_may_8 : decode cX11_may 8 = .ok (.getfield 74, 3) := by decide +kernel
theorem dX11_may_11 : decode cX11_may 11 = .ok (.iconst 0, 1) := by decide +kernel
theorem dX11_may_12 : decode cX11_may 12 = .ok (.invokevirtual 264, 3) := by decide +kernel
theorem dX11_may_15 : decode cX11_may 15 = .ok (.ireturn, 1) := by decide +kernel
theorem dX11_lacks_0 : decode cX11_lacks 0 = .ok (.iload_n 1, 1) := by decide +kernel
theorem dX11_lacks_1 : decode cX11_lacks 1 = .ok (.invokestatic 147, 3) := by decide +kernel
theorem dX11_lacks_4 : decode cX11_lacks 4 = .ok (.ifCond .ne 7, 3) := by decide +kernel
theorem dX11_lacks_7 : decode cX11_lacks 7 = .ok (.ldc2_w 150, 3) := by decide +kernel
theorem dX11_lacks_10 : decode cX11_lacks 10 = .ok (.lreturn, 1) := by decide +kernel
theorem dX11_lacks_11 : decode cX11_lacks 11 = .ok (.iload_n 2, 1) := by decide +kernel
theorem dX11_lacks_12 : decode cX11_lacks 12 = .ok (.invokestatic 152, 3) := by decide +kernel
theorem dX11_lacks_15 : decode cX11_lacks 15 = .ok (.ifCond .ne 7, 3) := by decide +kernel
theorem dX11_lacks_18 : decode cX11_lacks 18 = .ok (.ldc2_w 155, 3) := by decide +kernel
theorem dX11_lacks_21 : decode cX11_lacks 21 = .ok (.lreturn, 1) := by decide +kernel
theorem dX11_lacks_22 : decode cX11_lacks 22 = .ok (.aload_n 0, 1) := by decide +kernel
theorem dX11_lacks_23 : decode cX11_lacks 23 = .ok (.getfield 74, 3) := by decide +kernel
theorem dX11_lacks_26 : decode cX11_lacks 26 = .ok (.invokevirtual 261, 3) := by decide +kernel
theorem dX11_lacks_29 : decode cX11_lacks 29 = .ok (.aload_n 0, 1) := by decide +kernel
theorem dX11_lacks_30 : decode cX11_lacks 30 = .ok (.getfield 74, 3) := by decide +kernel
theorem dX11_lacks_33 : decode cX11_lacks 33 = .ok (.iconst 0, 1) := by decide +kernel
theorem dX11_lacks_34 : decode cX11_lacks 34 = .ok (.invokevirtual 264, 3) := by decide +kernel
theorem dX11_lacks_37 : decode cX11_lacks 37 = .ok (.istore_n 3, 1) := by decide +kernel
theorem dX11_lacks_38 : decode cX11_lacks 38 = .ok (.iload_n 3, 1) := by decide +kernel
theorem dX11_lacks_39 : decode cX11_lacks 39 = .ok (.ifCond .ne 7, 3) := by decide +kernel
theorem dX11_lacks_42 : decode cX11_lacks 42 = .ok (.ldc2_w 267, 3) := by decide +kernel
theorem dX11_lacks_45 : decode cX11_lacks 45 = .ok (.lreturn, 1) := by decide +kernel
theorem dX11_lacks_46 : decode cX11_lacks 46 = .ok (.aload_n 0, 1) := by decide +kernel
theorem dX11_lacks_47 : decode cX11_lacks 47 = .ok (.getfield 74, 3) := by decide +kernel
theorem dX11_lacks_50 : decode cX11_lacks 50 = .ok (.iconst 1, 1) := by decide +kernel
theorem dX11_lacks_51 : decode cX11_lacks 51 = .ok (.iload_n 1, 1) := by decide +kernel
theorem dX11_lacks_52 : decode cX11_lacks 52 = .ok (.ishl, 1) := by decide +kernel
theorem dX11_lacks_53 : decode cX11_lacks 53 = .ok (.invokevirtual 264, 3) := by decide +kernel
theorem dX11_lacks_56 : decode cX11_lacks 56 = .ok (.iload_n 3, 1) := by decide +kernel
theorem dX11_lacks_57 : decode cX11_lacks 57 = .ok (.iload_n 2, 1) := by decide +kernel
theorem dX11_lacks_58 : decode cX11_lacks 58 = .ok (.invokestatic 163, 3) := by decide +kernel
theorem dX11_lacks_61 : decode cX11_lacks 61 = .ok (.lreturn, 1) := by decide +kernel
theorem dX11_tells_0 : decode cX11_tells 0 = .ok (.aload_n 0, 1) := by decide +kernel
theorem dX11_tells_1 : decode cX11_tells 1 = .ok (.getfield 74, 3) := by decide +kernel
theorem dX11_tells_4 : decode cX11_tells 4 = .ok (.invokevirtual 261, 3) := by decide +kernel
theorem dX11_tells_7 : decode cX11_tells 7 = .ok (.aload_n 0, 1) := by decide +kernel
theorem dX11_tells_8 : decode cX11_tells 8 = .ok (.getfield 74, 3) := by decide +kernel
theorem dX11_tells_11 : decode cX11_tells 11 = .ok (.invokevirtual 269, 3) := by decide +kernel
theorem dX11_tells_14 : decode cX11_tells 14 = .ok (.ireturn, 1) := by decide +kernel
theorem dX11_test_0 : decode cX11_test 0 = .ok (.aload_n 0, 1) := by decide +kernel
theorem dX11_test_1 : decode cX11_test 1 = .ok (.getfield 74, 3) := by decide +kernel
theorem dX11_test_4 : decode cX11_test 4 = .ok (.invokevirtual 272, 3) := by decide +kernel
theorem dX11_test_7 : decode cX11_test 7 = .ok (.ireturn, 1) := by decide +kernel
theorem dX11_respelt_0 : decode cX11_respelt 0 = .ok (.aload_n 0, 1) := by decide +kernel
theorem dX11_respelt_1 : decode cX11_respelt 1 = .ok (.getfield 19, 3) := by decide +kernel
theorem dX11_respelt_4 : decode cX11_respelt 4 = .ok (.getfield 25, 3) := by decide +kernel
theorem dX11_respelt_7 : decode cX11_respelt 7 = .ok (.iload_n 1, 1) := by decide +kernel
theorem dX11_respelt_8 : decode cX11_respelt 8 = .ok (.invokevirtual 124, 3) := by decide +kernel
theorem dX11_respelt_11 : decode cX11_respelt 11 = .ok (.ifCond .ne 5, 3) := by decide +kernel
theorem dX11_respelt_14 : decode cX11_respelt 14 = .ok (.iconst (-1), 1) := by decide +kernel
theorem dX11_respelt_15 : decode cX11_respelt 15 = .ok (.ireturn, 1) := by decide +kernel
theorem dX11_respelt_16 : decode cX11_respelt 16 = .ok (.iload_n 2, 1) := by decide +kernel
theorem dX11_respelt_17 : decode cX11_respelt 17 = .ok (.ifCond .lt 8, 3) := by decide +kernel
theorem dX11_respelt_20 : decode cX11_respelt 20 = .ok (.iload_n 2, 1) := by decide +kernel
theorem dX11_respelt_21 : decode cX11_respelt 21 = .ok (.iconst 5, 1) := by decide +kernel
theorem dX11_respelt_22 : decode cX11_respelt 22 = .ok (.if_icmp .lt 6, 3) := by decide +kernel
theorem dX11_respelt_25 : decode cX11_respelt 25 = .ok (.bipush (-2), 2) := by decide +kernel
theorem dX11_respelt_27 : decode cX11_respelt 27 = .ok (.ireturn, 1) := by decide +kernel
theorem dX11_respelt_28 : decode cX11_respelt 28 = .ok (.iload_n 2, 1) := by decide +kernel
theorem dX11_respelt_29 : decode cX11_respelt 29 = .ok (.aload_n 0, 1) := by decide +kernel
theorem dX11_respelt_30 : decode cX11_respelt 30 = .ok (.getfield 19, 3) := by decide +kernel
theorem dX11_respelt_33 : decode cX11_respelt 33 = .ok (.getfield 25, 3) := by decide +kernel
theorem dX11_respelt_36 : decode cX11_respelt 36 = .ok (.getfield 135, 3) := by decide +kernel
theorem dX11_respelt_39 : decode cX11_respelt 39 = .ok (.iload_n 1, 1) := by decide +kernel
theorem dX11_respelt_40 : decode cX11_respelt 40 = .ok (.iaload, 1) := by decide +kernel
theorem dX11_respelt_41 : decode cX11_respelt 41 = .ok (.if_icmp .ge 15, 3) := by decide +kernel
theorem dX11_respelt_44 : decode cX11_respelt 44 = .ok (.aload_n 0, 1) := by decide +kernel
theorem dX11_respelt_45 : decode cX11_respelt 45 = .ok (.getfield 32, 3) := by decide +kernel
theorem dX11_respelt_48 : decode cX11_respelt 48 = .ok (.iload_n 1, 1) := by decide +kernel
theorem dX11_respelt_49 : decode cX11_respelt 49 = .ok (.iload_n 2, 1) := by decide +kernel
theorem dX11_respelt_50 : decode cX11_respelt 50 = .ok (.invokevirtual 275, 3) := by decide +kernel
theorem dX11_respelt_53 : decode cX11_respelt 53 = .ok (.goto 5, 3) := by decide +kernel
theorem dX11_respelt_56 : decode cX11_respelt 56 = .ok (.bipush (-6), 2) := by decide +kernel
theorem dX11_respelt_58 : decode cX11_respelt 58 = .ok (.ireturn, 1) := by decide +kernel
theorem dX11_price_0 : decode cX11_price 0 = .ok (.iload_n 1, 1) := by decide +kernel
theorem dX11_price_1 : decode cX11_price 1 = .ok (.lookupswitch 43 #[(0, 27), (1, 35)], 27) := by decide +kernel
theorem dX11_price_28 : decode cX11_price 28 = .ok (.aload_n 0, 1) := by decide +kernel
theorem dX11_price_29 : decode cX11_price 29 = .ok (.getfield 32, 3) := by decide +kernel
theorem dX11_price_32 : decode cX11_price 32 = .ok (.invokevirtual 278, 3) := by decide +kernel
theorem dX11_price_35 : decode cX11_price 35 = .ok (.ireturn, 1) := by decide +kernel
theorem dX11_price_36 : decode cX11_price 36 = .ok (.aload_n 0, 1) := by decide +kernel
theorem dX11_price_37 : decode cX11_price 37 = .ok (.getfield 32, 3) := by decide +kernel
theorem dX11_price_40 : decode cX11_price 40 = .ok (.invokevirtual 281, 3) := by decide +kernel
theorem dX11_price_43 : decode cX11_price 43 = .ok (.ireturn, 1) := by decide +kernel
theorem dX11_price_44 : decode cX11_price 44 = .ok (.bipush (-2), 2) := by decide +kernel
theorem dX11_price_46 : decode cX11_price 46 = .ok (.ireturn, 1) := by decide +kernel
theorem dX11_lessons_0 : decode cX11_lessons 0 = .ok (.iload_n 1, 1) := by decide +kernel
theorem dX11_lessons_1 : decode cX11_lessons 1 = .ok (.invokestatic 176, 3) := by decide +kernel
theorem dX11_lessons_4 : decode cX11_lessons 4 = .ok (.ifCond .ne 5, 3) := by decide +kernel
theorem dX11_lessons_7 : decode cX11_lessons 7 = .ok (.iconst (-1), 1) := by decide +kernel
theorem dX11_lessons_8 : decode cX11_lessons 8 = .ok (.ireturn, 1) := by decide +kernel
theorem dX11_lessons_9 : decode cX11_lessons 9 = .ok (.iload_n 2, 1) := by decide +kernel
theorem dX11_lessons_10 : decode cX11_lessons 10 = .ok (.ifCond .lt 9, 3) := by decide +kernel
theorem dX11_lessons_13 : decode cX11_lessons 13 = .ok (.iload_n 2, 1) := by decide +kernel
theorem dX11_lessons_14 : decode cX11_lessons 14 = .ok (.bipush 12, 2) := by decide +kernel
theorem dX11_lessons_16 : decode cX11_lessons 16 = .ok (.if_icmp .le 6, 3) := by decide +kernel
theorem dX11_lessons_19 : decode cX11_lessons 19 = .ok (.bipush (-2), 2) := by decide +kernel
theorem dX11_lessons_21 : decode cX11_lessons 21 = .ok (.ireturn, 1) := by decide +kernel
theorem dX11_lessons_22 : decode cX11_lessons 22 = .ok (.aload_n 0, 1) := by decide +kernel
theorem dX11_lessons_23 : decode cX11_lessons 23 = .ok (.getfield 83, 3) := by decide +kernel
theorem dX11_lessons_26 : decode cX11_lessons 26 = .ok (.iload_n 1, 1) := by decide +kernel
theorem dX11_lessons_27 : decode cX11_lessons 27 = .ok (.invokevirtual 284, 3) := by decide +kernel
theorem dX11_lessons_30 : decode cX11_lessons 30 = .ok (.aload_n 0, 1) := by decide +kernel
theorem dX11_lessons_31 : decode cX11_lessons 31 = .ok (.getfield 83, 3) := by decide +kernel
theorem dX11_lessons_34 : decode cX11_lessons 34 = .ok (.iload_n 1, 1) := by decide +kernel
theorem dX11_lessons_35 : decode cX11_lessons 35 = .ok (.iload_n 2, 1) := by decide +kernel
theorem dX11_lessons_36 : decode cX11_lessons 36 = .ok (.invokevirtual 287, 3) := by decide +kernel
theorem dX11_lessons_39 : decode cX11_lessons 39 = .ok (.ireturn, 1) := by decide +kernel
theorem dX11_shared_0 : decode cX11_shared 0 = .ok (.iload_n 2, 1) := by decide +kernel
theorem dX11_shared_1 : decode cX11_shared 1 = .ok (.iconst (-1), 1) := by decide +kernel
theorem dX11_shared_2 : decode cX11_shared 2 = .ok (.if_icmp .eq 12, 3) := by decide +kernel
theorem dX11_shared_5 : decode cX11_shared 5 = .ok (.iload_n 2, 1) := by decide +kernel
theorem dX11_shared_6 : decode cX11_shared 6 = .ok (.invokestatic 176, 3) := by decide +kernel
theorem dX11_shared_9 : decode cX11_shared 9 = .ok (.ifCond .ne 5, 3) := by decide +kernel
theorem dX11_shared_12 : decode cX11_shared 12 = .ok (.iconst (-1), 1) := by decide +kernel
theorem dX11_shared_13 : decode cX11_shared 13 = .ok (.ireturn, 1) := by decide +kernel
theorem dX11_shared_14 : decode cX11_shared 14 = .ok (.iload_n 1, 1) := by decide +kernel
theorem dX11_shared_15 : decode cX11_shared 15 = .ok (.ifCond .lt 9, 3) := by decide +kernel
theorem dX11_shared_18 : decode cX11_shared 18 = .ok (.iload_n 1, 1) := by decide +kernel
theorem dX11_shared_19 : decode cX11_shared 19 = .ok (.bipush 12, 2) := by decide +kernel
theorem dX11_shared_21 : decode cX11_shared 21 = .ok (.if_icmp .le 6, 3) := by decide +kernel
theorem dX11_shared_24 : decode cX11_shared 24 = .ok (.bipush (-2), 2) := by decide +kernel
theorem dX11_shared_26 : decode cX11_shared 26 = .ok (.ireturn, 1) := by decide +kernel
theorem dX11_shared_27 : decode cX11_shared 27 = .ok (.aload_n 0, 1) := by decide +kernel
theorem dX11_shared_28 : decode cX11_shared 28 = .ok (.getfield 83, 3) := by decide +kernel
theorem dX11_shared_31 : decode cX11_shared 31 = .ok (.iload_n 1, 1) := by decide +kernel
theorem dX11_shared_32 : decode cX11_shared 32 = .ok (.invokevirtual 290, 3) := by decide +kernel
theorem dX11_shared_35 : decode cX11_shared 35 = .ok (.iload_n 2, 1) := by decide +kernel
theorem dX11_shared_36 : decode cX11_shared 36 = .ok (.iconst (-1), 1) := by decide +kernel
theorem dX11_shared_37 : decode cX11_shared 37 = .ok (.if_icmp .ne 13, 3) := by decide +kernel
theorem dX11_shared_40 : decode cX11_shared 40 = .ok (.aload_n 0, 1) := by decide +kernel
theorem dX11_shared_41 : decode cX11_shared 41 = .ok (.getfield 83, 3) := by decide +kernel
theorem dX11_shared_44 : decode cX11_shared 44 = .ok (.getfield 293, 3) := by decide +kernel
theorem dX11_shared_47 : decode cX11_shared 47 = .ok (.goto 12, 3) := by decide +kernel
theorem dX11_shared_50 : decode cX11_shared 50 = .ok (.aload_n 0, 1) := by decide +kernel
theorem dX11_shared_51 : decode cX11_shared 51 = .ok (.getfield 83, 3) := by decide +kernel
theorem dX11_shared_54 : decode cX11_shared 54 = .ok (.getfield 296, 3) := by decide +kernel
theorem dX11_shared_57 : decode cX11_shared 57 = .ok (.iload_n 2, 1) := by decide +kernel
theorem dX11_shared_58 : decode cX11_shared 58 = .ok (.iaload, 1) := by decide +kernel
theorem dX11_shared_59 : decode cX11_shared 59 = .ok (.ireturn, 1) := by decide +kernel
theorem dX11_itself_0 : decode cX11_itself 0 = .ok (.iload_n 1, 1) := by decide +kernel
theorem dX11_itself_1 : decode cX11_itself 1 = .ok (.invokestatic 176, 3) := by decide +kernel
theorem dX11_itself_4 : decode cX11_itself 4 = .ok (.ifCond .ne 5, 3) := by decide +kernel
theorem dX11_itself_7 : decode cX11_itself 7 = .ok (.iconst (-1), 1) := by decide +kernel
theorem dX11_itself_8 : decode cX11_itself 8 = .ok (.ireturn, 1) := by decide +kernel
theorem dX11_itself_9 : decode cX11_itself 9 = .ok (.iload_n 2, 1) := by decide +kernel
theorem dX11_itself_10 : decode cX11_itself 10 = .ok (.ifCond .lt 19, 3) := by decide +kernel
theorem dX11_itself_13 : decode cX11_itself 13 = .ok (.iload_n 2, 1) := by decide +kernel
theorem dX11_itself_14 : decode cX11_itself 14 = .ok (.sipush 1000, 3) := by decide +kernel
theorem dX11_itself_17 : decode cX11_itself 17 = .ok (.if_icmp .gt 12, 3) := by decide +kernel
theorem dX11_itself_20 : decode cX11_itself 20 = .ok (.iload_n 3, 1) := by decide +kernel
theorem dX11_itself_21 : decode cX11_itself 21 = .ok (.ifCond .lt 8, 3) := by decide +kernel
theorem dX11_itself_24 : decode cX11_itself 24 = .ok (.iload_n 3, 1) := by decide +kernel
theorem dX11_itself_25 : decode cX11_itself 25 = .ok (.iconst 1, 1) := by decide +kernel
theorem dX11_itself_26 : decode cX11_itself 26 = .ok (.if_icmp .le 6, 3) := by decide +kernel
theorem dX11_itself_29 : decode cX11_itself 29 = .ok (.bipush (-2), 2) := by decide +kernel
theorem dX11_itself_31 : decode cX11_itself 31 = .ok (.ireturn, 1) := by decide +kernel
theorem dX11_itself_32 : decode cX11_itself 32 = .ok (.aload_n 0, 1) := by decide +kernel
theorem dX11_itself_33 : decode cX11_itself 33 = .ok (.getfield 45, 3) := by decide +kernel
theorem dX11_itself_36 : decode cX11_itself 36 = .ok (.iload_n 1, 1) := by decide +kernel
theorem dX11_itself_37 : decode cX11_itself 37 = .ok (.invokevirtual 221, 3) := by decide +kernel
theorem dX11_itself_40 : decode cX11_itself 40 = .ok (.istore 4, 2) := by decide +kernel
theorem dX11_itself_42 : decode cX11_itself 42 = .ok (.aload_n 0, 1) := by decide +kernel
theorem dX11_itself_43 : decode cX11_itself 43 = .ok (.getfield 45, 3) := by decide +kernel
theorem dX11_itself_46 : decode cX11_itself 46 = .ok (.iload 4, 2) := by decide +kernel
theorem dX11_itself_48 : decode cX11_itself 48 = .ok (.iload_n 2, 1) := by decide +kernel
theorem dX11_itself_49 : decode cX11_itself 49 = .ok (.invokevirtual 299, 3) := by decide +kernel
theorem dX11_itself_52 : decode cX11_itself 52 = .ok (.istore 5, 2) := by decide +kernel
theorem dX11_itself_54 : decode cX11_itself 54 = .ok (.iload_n 3, 1) := by decide +kernel
theorem dX11_itself_55 : decode cX11_itself 55 = .ok (.ifCond .ne 14, 3) := by decide +kernel
theorem dX11_itself_58 : decode cX11_itself 58 = .ok (.iload 5, 2) := by decide +kernel
theorem dX11_itself_60 : decode cX11_itself 60 = .ok (.iload 4, 2) := by decide +kernel
theorem dX11_itself_62 : decode cX11_itself 62 = .ok (.ixor, 1) := by decide +kernel
theorem dX11_itself_63 : decode cX11_itself 63 = .ok (.invokestatic 302, 3) := by decide +kernel
theorem dX11_itself_66 : decode cX11_itself 66 = .ok (.goto 15, 3) := by decide +kernel
theorem dX11_itself_69 : decode cX11_itself 69 = .ok (.aload_n 0, 1) := by decide +kernel
theorem dX11_itself_70 : decode cX11_itself 70 = .ok (.getfield 19, 3) := by decide +kernel
theorem dX11_itself_73 : decode cX11_itself 73 = .ok (.getfield 25, 3) := by decide +kernel
theorem dX11_itself_76 : decode cX11_itself 76 = .ok (.iload 5, 2) := by decide +kernel
theorem dX11_itself_78 : decode cX11_itself 78 = .ok (.invokevirtual 224, 3) := by decide +kernel
theorem dX11_itself_81 : decode cX11_itself 81 = .ok (.ireturn, 1) := by decide +kernel
theorem dX11_line_0 : decode cX11_line 0 = .ok (.iload_n 1, 1) := by decide +kernel
theorem dX11_line_1 : decode cX11_line 1 = .ok (.invokestatic 176, 3) := by decide +kernel
theorem dX11_line_4 : decode cX11_line 4 = .ok (.ifCond .eq 21, 3) := by decide +kernel
theorem dX11_line_7 : decode cX11_line 7 = .ok (.aload_n 0, 1) := by decide +kernel
theorem dX11_line_8 : decode cX11_line 8 = .ok (.getfield 45, 3) := by decide +kernel
theorem dX11_line_11 : decode cX11_line 11 = .ok (.aload_n 0, 1) := by decide +kernel
theorem dX11_line_12 : decode cX11_line 12 = .ok (.getfield 45, 3) := by decide +kernel
theorem dX11_line_15 : decode cX11_line 15 = .ok (.iload_n 1, 1) := by decide +kernel
theorem dX11_line_16 : decode cX11_line 16 = .ok (.invokevirtual 221, 3) := by decide +kernel
theorem dX11_line_19 : decode cX11_line 19 = .ok (.invokevirtual 307, 3) := by decide +kernel
theorem dX11_line_22 : decode cX11_line 22 = .ok (.goto 4, 3) := by decide +kernel
theorem dX11_line_25 : decode cX11_line 25 = .ok (.iconst (-1), 1) := by decide +kernel
theorem dX11_line_26 : decode cX11_line 26 = .ok (.ireturn, 1) := by decide +kernel
theorem dX11_image_0 : decode cX11_image 0 = .ok (.iload_n 1, 1) := by decide +kernel
theorem dX11_image_1 : decode cX11_image 1 = .ok (.ifCond .lt 8, 3) := by decide +kernel
theorem dX11_image_4 : decode cX11_image 4 = .ok (.iload_n 1, 1) := by decide +kernel
theorem dX11_image_5 : decode cX11_image 5 = .ok (.iconst 2, 1) := by decide +kernel
theorem dX11_image_6 : decode cX11_image 6 = .ok (.if_icmp .lt 6, 3) := by decide +kernel
theorem dX11_image_9 : decode cX11_image 9 = .ok (.bipush (-2), 2) := by decide +kernel
theorem dX11_image_11 : decode cX11_image 11 = .ok (.ireturn, 1) := by decide +kernel
theorem dX11_image_12 : decode cX11_image 12 = .ok (.aload_n 0, 1) := by decide +kernel
theorem dX11_image_13 : decode cX11_image 13 = .ok (.getfield 87, 3) := by decide +kernel
theorem dX11_image_16 : decode cX11_image 16 = .ok (.iload_n 1, 1) := by decide +kernel
theorem dX11_image_17 : decode cX11_image 17 = .ok (.aaload, 1) := by decide +kernel
theorem dX11_image_18 : decode cX11_image 18 = .ok (.aload_n 0, 1) := by decide +kernel
theorem dX11_image_19 : decode cX11_image 19 = .ok (.getfield 19, 3) := by decide +kernel
theorem dX11_image_22 : decode cX11_image 22 = .ok (.invokevirtual 310, 3) := by decide +kernel
theorem dX11_image_25 : decode cX11_image 25 = .ok (.aload_n 0, 1) := by decide +kernel
theorem dX11_image_26 : decode cX11_image 26 = .ok (.getfield 91, 3) := by decide +kernel
theorem dX11_image_29 : decode cX11_image 29 = .ok (.iload_n 1, 1) := by decide +kernel
theorem dX11_image_30 : decode cX11_image 30 = .ok (.iconst 1, 1) := by decide +kernel
theorem dX11_image_31 : decode cX11_image 31 = .ok (.bastore, 1) := by decide +kernel
theorem dX11_image_32 : decode cX11_image 32 = .ok (.iconst 1, 1) := by decide +kernel
theorem dX11_image_33 : decode cX11_image 33 = .ok (.ireturn, 1) := by decide +kernel
theorem dX11_restore_0 : decode cX11_restore 0 = .ok (.iload_n 1, 1) := by decide +kernel
theorem dX11_restore_1 : decode cX11_restore 1 = .ok (.ifCond .lt 8, 3) := by decide +kernel
theorem dX11_restore_4 : decode cX11_restore 4 = .ok (.iload_n 1, 1) := by decide +kernel
theorem dX11_restore_5 : decode cX11_restore 5 = .ok (.iconst 2, 1) := by decide +kernel
theorem dX11_restore_6 : decode cX11_restore 6 = .ok (.if_icmp .lt 6, 3) := by decide +kernel
theorem dX11_restore_9 : decode cX11_restore 9 = .ok (.bipush (-2), 2) := by decide +kernel
theorem dX11_restore_11 : decode cX11_restore 11 = .ok (.ireturn, 1) := by decide +kernel
theorem dX11_restore_12 : decode cX11_restore 12 = .ok (.aload_n 0, 1) := by decide +kernel
theorem dX11_restore_13 : decode cX11_restore 13 = .ok (.getfield 91, 3) := by decide +kernel
theorem dX11_restore_16 : decode cX11_restore 16 = .ok (.iload_n 1, 1) := by decide +kernel
theorem dX11_restore_17 : decode cX11_restore 17 = .ok (.baload, 1) := by decide +kernel
theorem dX11_restore_18 : decode cX11_restore 18 = .ok (.ifCond .ne 6, 3) := by decide +kernel
theorem dX11_restore_21 : decode cX11_restore 21 = .ok (.bipush (-3), 2) := by decide +kernel
theorem dX11_restore_23 : decode cX11_restore 23 = .ok (.ireturn, 1) := by decide +kernel
theorem dX11_restore_24 : decode cX11_restore 24 = .ok (.aload_n 0, 1) := by decide +kernel
theorem dX11_restore_25 : decode cX11_restore 25 = .ok (.getfield 19, 3) := by decide +kernel
theorem dX11_restore_28 : decode cX11_restore 28 = .ok (.aload_n 0, 1) := by decide +kernel
theorem dX11_restore_29 : decode cX11_restore 29 = .ok (.getfield 87, 3) := by decide +kernel
theorem dX11_restore_32 : decode cX11_restore 32 = .ok (.iload_n 1, 1) := by decide +kernel
theorem dX11_restore_33 : decode cX11_restore 33 = .ok (.aaload, 1) := by decide +kernel
theorem dX11_restore_34 : decode cX11_restore 34 = .ok (.invokevirtual 310, 3) := by decide +kernel
theorem dX11_restore_37 : decode cX11_restore 37 = .ok (.aload_n 0, 1) := by decide +kernel
theorem dX11_restore_38 : decode cX11_restore 38 = .ok (.invokevirtual 121, 3) := by decide +kernel
theorem dX11_restore_41 : decode cX11_restore 41 = .ok (.iconst 1, 1) := by decide +kernel
theorem dX11_restore_42 : decode cX11_restore 42 = .ok (.ireturn, 1) := by decide +kernel
theorem dX11_told_0 : decode cX11_told 0 = .ok (.iload_n 1, 1) := by decide +kernel
theorem dX11_told_1 : decode cX11_told 1 = .ok (.bipush 10, 2) := by decide +kernel
theorem dX11_told_3 : decode cX11_told 3 = .ok (.isub, 1) := by decide +kernel
theorem dX11_told_4 : decode cX11_told 4 = .ok (.invokestatic 176, 3) := by decide +kernel
theorem dX11_told_7 : decode cX11_told 7 = .ok (.ifCond .eq 19, 3) := by decide +kernel
theorem dX11_told_10 : decode cX11_told 10 = .ok (.aload_n 0, 1) := by decide +kernel
theorem dX11_told_11 : decode cX11_told 11 = .ok (.getfield 19, 3) := by decide +kernel
theorem dX11_told_14 : decode cX11_told 14 = .ok (.getfield 38, 3) := by decide +kernel
theorem dX11_told_17 : decode cX11_told 17 = .ok (.getfield 185, 3) := by decide +kernel
theorem dX11_told_20 : decode cX11_told 20 = .ok (.iload_n 1, 1) := by decide +kernel
theorem dX11_told_21 : decode cX11_told 21 = .ok (.bipush 10, 2) := by decide +kernel
theorem dX11_told_23 : decode cX11_told 23 = .ok (.isub, 1) := by decide +kernel
theorem dX11_told_24 : decode cX11_told 24 = .ok (.iaload, 1) := by decide +kernel
theorem dX11_told_25 : decode cX11_told 25 = .ok (.ireturn, 1) := by decide +kernel
theorem dX11_told_26 : decode cX11_told 26 = .ok (.iload_n 1, 1) := by decide +kernel
theorem dX11_told_27 : decode cX11_told 27 = .ok (.bipush 20, 2) := by decide +kernel
theorem dX11_told_29 : decode cX11_told 29 = .ok (.isub, 1) := by decide +kernel
theorem dX11_told_30 : decode cX11_told 30 = .ok (.invokestatic 176, 3) := by decide +kernel
theorem dX11_told_33 : decode cX11_told 33 = .ok (.ifCond .eq 19, 3) := by decide +kernel
theorem dX11_told_36 : decode cX11_told 36 = .ok (.aload_n 0, 1) := by decide +kernel
theorem dX11_told_37 : decode cX11_told 37 = .ok (.getfield 19, 3) := by decide +kernel
theorem dX11_told_40 : decode cX11_told 40 = .ok (.getfield 38, 3) := by decide +kernel
theorem dX11_told_43 : decode cX11_told 43 = .ok (.getfield 190, 3) := by decide +kernel
theorem dX11_told_46 : decode cX11_told 46 = .ok (.iload_n 1, 1) := by decide +kernel
theorem dX11_told_47 : decode cX11_told 47 = .ok (.bipush 20, 2) := by decide +kernel
theorem dX11_told_49 : decode cX11_told 49 = .ok (.isub, 1) := by decide +kernel
theorem dX11_told_50 : decode cX11_told 50 = .ok (.iaload, 1) := by decide +kernel
theorem dX11_told_51 : decode cX11_told 51 = .ok (.ireturn, 1) := by decide +kernel
theorem dX11_told_52 : decode cX11_told 52 = .ok (.iload_n 1, 1) := by decide +kernel
theorem dX11_told_53 : decode cX11_told 53 = .ok (.bipush 30, 2) := by decide +kernel
theorem dX11_told_55 : decode cX11_told 55 = .ok (.isub, 1) := by decide +kernel
theorem dX11_told_56 : decode cX11_told 56 = .ok (.invokestatic 176, 3) := by decide +kernel
theorem dX11_told_59 : decode cX11_told 59 = .ok (.ifCond .eq 18, 3) := by decide +kernel
theorem dX11_told_62 : decode cX11_told 62 = .ok (.aload_n 0, 1) := by decide +kernel
theorem dX11_told_63 : decode cX11_told 63 = .ok (.getfield 19, 3) := by decide +kernel
theorem dX11_told_66 : decode cX11_told 66 = .ok (.getfield 38, 3) := by decide +kernel
theorem dX11_told_69 : decode cX11_told 69 = .ok (.iload_n 1, 1) := by decide +kernel
theorem dX11_told_70 : decode cX11_told 70 = .ok (.bipush 30, 2) := by decide +kernel
theorem dX11_told_72 : decode cX11_told 72 = .ok (.isub, 1) := by decide +kernel
theorem dX11_told_73 : decode cX11_told 73 = .ok (.invokevirtual 197, 3) := by decide +kernel
theorem dX11_told_76 : decode cX11_told 76 = .ok (.ireturn, 1) := by decide +kernel
theorem dX11_told_77 : decode cX11_told 77 = .ok (.iload_n 1, 1) := by decide +kernel
theorem dX11_told_78 : decode cX11_told 78 = .ok (.tableswitch 81 0 3 #[30, 38, 49, 60], 30) := by decide +kernel
theorem dX11_told_108 : decode cX11_told 108 = .ok (.aload_n 0, 1) := by decide +kernel
theorem dX11_told_109 : decode cX11_told 109 = .ok (.getfield 10, 3) := by decide +kernel
theorem dX11_told_112 : decode cX11_told 112 = .ok (.getfield 98, 3) := by decide +kernel
theorem dX11_told_115 : decode cX11_told 115 = .ok (.ireturn, 1) := by decide +kernel
theorem dX11_told_116 : decode cX11_told 116 = .ok (.aload_n 0, 1) := by decide +kernel
theorem dX11_told_117 : decode cX11_told 117 = .ok (.getfield 19, 3) := by decide +kernel
theorem dX11_told_120 : decode cX11_told 120 = .ok (.getfield 25, 3) := by decide +kernel
theorem dX11_told_123 : decode cX11_told 123 = .ok (.getfield 116, 3) := by decide +kernel
theorem dX11_told_126 : decode cX11_told 126 = .ok (.ireturn, 1) := by decide +kernel
theorem dX11_told_127 : decode cX11_told 127 = .ok (.aload_n 0, 1) := by decide +kernel
theorem dX11_told_128 : decode cX11_told 128 = .ok (.getfield 19, 3) := by decide +kernel
theorem dX11_told_131 : decode cX11_told 131 = .ok (.getfield 67, 3) := by decide +kernel
theorem dX11_told_134 : decode cX11_told 134 = .ok (.getfield 255, 3) := by decide +kernel
theorem dX11_told_137 : decode cX11_told 137 = .ok (.ireturn, 1) := by decide +kernel
theorem dX11_told_138 : decode cX11_told 138 = .ok (.aload_n 0, 1) := by decide +kernel
theorem dX11_told_139 : decode cX11_told 139 = .ok (.getfield 19, 3) := by decide +kernel
theorem dX11_told_142 : decode cX11_told 142 = .ok (.getfield 25, 3) := by decide +kernel
theorem dX11_told_145 : decode cX11_told 145 = .ok (.aload_n 0, 1) := by decide +kernel
theorem dX11_told_146 : decode cX11_told 146 = .ok (.getfield 19, 3) := by decide +kernel
theorem dX11_told_149 : decode cX11_told 149 = .ok (.getfield 25, 3) := by decide +kernel
theorem dX11_told_152 : decode cX11_told 152 = .ok (.invokevirtual 314, 3) := by decide +kernel
theorem dX11_told_155 : decode cX11_told 155 = .ok (.invokevirtual 224, 3) := by decide +kernel
theorem dX11_told_158 : decode cX11_told 158 = .ok (.ireturn, 1) := by decide +kernel
theorem dX11_told_159 : decode cX11_told 159 = .ok (.bipush (-2), 2) := by decide +kernel
theorem dX11_told_161 : decode cX11_told 161 = .ok (.ireturn, 1) := by decide +kernel
theorem dX11_bookChanged_0 : decode cX11_bookChanged 0 = .ok (.aload_n 0, 1) := by decide +kernel
theorem dX11_bookChanged_1 : decode cX11_bookChanged 1 = .ok (.getfield 32, 3) := by decide +kernel
theorem dX11_bookChanged_4 : decode cX11_bookChanged 4 = .ok (.invokevirtual 95, 3) := by decide +kernel
theorem dX11_bookChanged_7 : decode cX11_bookChanged 7 = .ok (.aload_n 0, 1) := by decide +kernel
theorem dX11_bookChanged_8 : decode cX11_bookChanged 8 = .ok (.getfield 54, 3) := by decide +kernel
theorem dX11_bookChanged_11 : decode cX11_bookChanged 11 = .ok (.iconst 0, 1) := by decide +kernel
theorem dX11_bookChanged_12 : decode cX11_bookChanged 12 = .ok (.putfield 317, 3) := by decide +kernel
theorem dX11_bookChanged_15 : decode cX11_bookChanged 15 = .ok (.iconst 0, 1) := by decide +kernel
theorem dX11_bookChanged_16 : decode cX11_bookChanged 16 = .ok (.istore_n 1, 1) := by decide +kernel
theorem dX11_bookChanged_17 : decode cX11_bookChanged 17 = .ok (.iload_n 1, 1) := by decide +kernel
theorem dX11_bookChanged_18 : decode cX11_bookChanged 18 = .ok (.iconst 4, 1) := by decide +kernel
theorem dX11_bookChanged_19 : decode cX11_bookChanged 19 = .ok (.if_icmp .ge 14, 3) := by decide +kernel
theorem dX11_bookChanged_22 : decode cX11_bookChanged 22 = .ok (.aload_n 0, 1) := by decide +kernel
theorem dX11_bookChanged_23 : decode cX11_bookChanged 23 = .ok (.iload_n 1, 1) := by decide +kernel
theorem dX11_bookChanged_24 : decode cX11_bookChanged 24 = .ok (.invokevirtual 193, 3) := by decide +kernel
theorem dX11_bookChanged_27 : decode cX11_bookChanged 27 = .ok (.iinc 1 1, 3) := by decide +kernel
theorem dX11_bookChanged_30 : decode cX11_bookChanged 30 = .ok (.goto (-13), 3) := by decide +kernel
theorem dX11_bookChanged_33 : decode cX11_bookChanged 33 = .ok (.return_, 1) := by decide +kernel
theorem dX11_childChanged_0 : decode cX11_childChanged 0 = .ok (.aload_n 0, 1) := by decide +kernel
theorem dX11_childChanged_1 : decode cX11_childChanged 1 = .ok (.getfield 61, 3) := by decide +kernel
theorem dX11_childChanged_4 : decode cX11_childChanged 4 = .ok (.getfield 245, 3) := by decide +kernel
theorem dX11_childChanged_7 : decode cX11_childChanged 7 = .ok (.iload_n 1, 1) := by decide +kernel
theorem dX11_childChanged_8 : decode cX11_childChanged 8 = .ok (.if_icmp .ne 12, 3) := by decide +kernel
theorem dX11_childChanged_11 : decode cX11_childChanged 11 = .ok (.aload_n 0, 1) := by decide +kernel
theorem dX11_childChanged_12 : decode cX11_childChanged 12 = .ok (.getfield 61, 3) := by decide +kernel
theorem dX11_childChanged_15 : decode cX11_childChanged 15 = .ok (.bipush (-6), 2) := by decide +kernel
theorem dX11_childChanged_17 : decode cX11_childChanged 17 = .ok (.putfield 245, 3) := by decide +kernel
theorem dX11_childChanged_20 : decode cX11_childChanged 20 = .ok (.aload_n 0, 1) := by decide +kernel
theorem dX11_childChanged_21 : decode cX11_childChanged 21 = .ok (.getfield 83, 3) := by decide +kernel
theorem dX11_childChanged_24 : decode cX11_childChanged 24 = .ok (.iload_n 1, 1) := by decide +kernel
theorem dX11_childChanged_25 : decode cX11_childChanged 25 = .ok (.invokevirtual 321, 3) := by decide +kernel
theorem dX11_childChanged_28 : decode cX11_childChanged 28 = .ok (.return_, 1) := by decide +kernel
theorem dX11_isSign_0 : decode cX11_isSign 0 = .ok (.iload_n 0, 1) := by decide +kernel
theorem dX11_isSign_1 : decode cX11_isSign 1 = .ok (.ifCond .lt 13, 3) := by decide +kernel
theorem dX11_isSign_4 : decode cX11_isSign 4 = .ok (.iload_n 0, 1) := by decide +kernel
theorem dX11_isSign_5 : decode cX11_isSign 5 = .ok (.bipush 10, 2) := by decide +kernel
theorem dX11_isSign_7 : decode cX11_isSign 7 = .ok (.if_icmp .ge 7, 3) := by decide +kernel
theorem dX11_isSign_10 : decode cX11_isSign 10 = .ok (.iconst 1, 1) := by decide +kernel
theorem dX11_isSign_11 : decode cX11_isSign 11 = .ok (.goto 4, 3) := by decide +kernel
theorem dX11_isSign_14 : decode cX11_isSign 14 = .ok (.iconst 0, 1) := by decide +kernel
theorem dX11_isSign_15 : decode cX11_isSign 15 = .ok (.ireturn, 1) := by decide +kernel
theorem dX11_isChild_0 : decode cX11_isChild 0 = .ok (.iload_n 0, 1) := by decide +kernel
theorem dX11_isChild_1 : decode cX11_isChild 1 = .ok (.ifCond .lt 12, 3) := by decide +kernel
theorem dX11_isChild_4 : decode cX11_isChild 4 = .ok (.iload_n 0, 1) := by decide +kernel
theorem dX11_isChild_5 : decode cX11_isChild 5 = .ok (.iconst 4, 1) := by decide +kernel
theorem dX11_isChild_6 : decode cX11_isChild 6 = .ok (.if_icmp .ge 7, 3) := by decide +kernel
theorem dX11_isChild_9 : decode cX11_isChild 9 = .ok (.iconst 1, 1) := by decide +kernel
theorem dX11_isChild_10 : decode cX11_isChild 10 = .ok (.goto 4, 3) := by decide +kernel
theorem dX11_isChild_13 : decode cX11_isChild 13 = .ok (.iconst 0, 1) := by decide +kernel
theorem dX11_isChild_14 : decode cX11_isChild 14 = .ok (.ireturn, 1) := by decide +kernel
theorem dX11_isSignSet_0 : decode cX11_isSignSet 0 = .ok (.iload_n 0, 1) := by decide +kernel
theorem dX11_isSignSet_1 : decode cX11_isSignSet 1 = .ok (.ifCond .lt 14, 3) := by decide +kernel
theorem dX11_isSignSet_4 : decode cX11_isSignSet 4 = .ok (.iload_n 0, 1) := by decide +kernel
theorem dX11_isSignSet_5 : decode cX11_isSignSet 5 = .ok (.sipush 1024, 3) := by decide +kernel
theorem dX11_isSignSet_8 : decode cX11_isSignSet 8 = .ok (.if_icmp .ge 7, 3) := by decide +kernel
theorem dX11_isSignSet_11 : decode cX11_isSignSet 11 = .ok (.iconst 1, 1) := by decide +kernel
theorem dX11_isSignSet_12 : decode cX11_isSignSet 12 = .ok (.goto 4, 3) := by decide +kernel
theorem dX11_isSignSet_15 : decode cX11_isSignSet 15 = .ok (.iconst 0, 1) := by decide +kernel
theorem dX11_isSignSet_16 : decode cX11_isSignSet 16 = .ok (.ireturn, 1) := by decide +kernel
theorem dX11_isPart_0 : decode cX11_isPart 0 = .ok (.iload_n 0, 1) := by decide +kernel
theorem dX11_isPart_1 : decode cX11_isPart 1 = .ok (.ifCond .eq 8, 3) := by decide +kernel
theorem dX11_isPart_4 : decode cX11_isPart 4 = .ok (.iload_n 0, 1) := by decide +kernel
theorem dX11_isPart_5 : decode cX11_isPart 5 = .ok (.iconst 1, 1) := by decide +kernel
theorem dX11_isPart_6 : decode cX11_isPart 6 = .ok (.if_icmp .ne 7, 3) := by decide +kernel
theorem dX11_isPart_9 : decode cX11_isPart 9 = .ok (.iconst 1, 1) := by decide +kernel
theorem dX11_isPart_10 : decode cX11_isPart 10 = .ok (.goto 4, 3) := by decide +kernel
theorem dX11_isPart_13 : decode cX11_isPart 13 = .ok (.iconst 0, 1) := by decide +kernel
theorem dX11_isPart_14 : decode cX11_isPart 14 = .ok (.ireturn, 1) := by decide +kernel
theorem dX11_hasBit_0 : decode cX11_hasBit 0 = .ok (.iload_n 0, 1) := by decide +kernel
theorem dX11_hasBit_1 : decode cX11_hasBit 1 = .ok (.iload_n 1, 1) := by decide +kernel
theorem dX11_hasBit_2 : decode cX11_hasBit 2 = .ok (.ishr, 1) := by decide +kernel
theorem dX11_hasBit_3 : decode cX11_hasBit 3 = .ok (.iconst 1, 1) := by decide +kernel
theorem dX11_hasBit_4 : decode cX11_hasBit 4 = .ok (.iand, 1) := by decide +kernel
theorem dX11_hasBit_5 : decode cX11_hasBit 5 = .ok (.ifCond .eq 7, 3) := by decide +kernel
theorem dX11_hasBit_8 : decode cX11_hasBit 8 = .ok (.iconst 1, 1) := by decide +kernel
theorem dX11_hasBit_9 : decode cX11_hasBit 9 = .ok (.goto 4, 3) := by decide +kernel
theorem dX11_hasBit_12 : decode cX11_hasBit 12 = .ok (.iconst 0, 1) := by decide +kernel
theorem dX11_hasBit_13 : decode cX11_hasBit 13 = .ok (.ireturn, 1) := by decide +kernel
theorem dX11_fractionPart_0 : decode cX11_fractionPart 0 = .ok (.iload_n 0, 1) := by decide +kernel
theorem dX11_fractionPart_1 : decode cX11_fractionPart 1 = .ok (.ifCond .le 7, 3) := by decide +kernel
theorem dX11_fractionPart_4 : decode cX11_fractionPart 4 = .ok (.iload_n 1, 1) := by decide +kernel
theorem dX11_fractionPart_5 : decode cX11_fractionPart 5 = .ok (.ifCond .gt 13, 3) := by decide +kernel
theorem dX11_fractionPart_8 : decode cX11_fractionPart 8 = .ok (.iload_n 2, 1) := by decide +kernel
theorem dX11_fractionPart_9 : decode cX11_fractionPart 9 = .ok (.ifCond .ne 7, 3) := by decide +kernel
theorem dX11_fractionPart_12 : decode cX11_fractionPart 12 = .ok (.lconst 0, 1) := by decide +kernel
theorem dX11_fractionPart_13 : decode cX11_fractionPart 13 = .ok (.goto 4, 3) := by decide +kernel
theorem dX11_fractionPart_16 : decode cX11_fractionPart 16 = .ok (.lconst 1, 1) := by decide +kernel
theorem dX11_fractionPart_17 : decode cX11_fractionPart 17 = .ok (.lreturn, 1) := by decide +kernel
theorem dX11_fractionPart_18 : decode cX11_fractionPart 18 = .ok (.iload_n 0, 1) := by decide +kernel
theorem dX11_fractionPart_19 : decode cX11_fractionPart 19 = .ok (.iload_n 1, 1) := by decide +kernel
theorem dX11_fractionPart_20 : decode cX11_fractionPart 20 = .ok (.invokestatic 324, 3) := by decide +kernel
theorem dX11_fractionPart_23 : decode cX11_fractionPart 23 = .ok (.istore_n 3, 1) := by decide +kernel
theorem dX11_fractionPart_24 : decode cX11_fractionPart 24 = .ok (.iload_n 2, 1) := by decide +kernel
theorem dX11_fractionPart_25 : decode cX11_fractionPart 25 = .ok (.ifCond .ne 7, 3) := by decide +kernel
theorem dX11_fractionPart_28 : decode cX11_fractionPart 28 = .ok (.iload_n 0, 1) := by decide +kernel
theorem dX11_fractionPart_29 : decode cX11_fractionPart 29 = .ok (.goto 4, 3) := by decide +kernel
theorem dX11_fractionPart_32 : decode cX11_fractionPart 32 = .ok (.iload_n 1, 1) := by decide +kernel
theorem dX11_fractionPart_33 : decode cX11_fractionPart 33 = .ok (.istore 4, 2) := by decide +kernel
theorem dX11_fractionPart_35 : decode cX11_fractionPart 35 = .ok (.iload_n 3, 1) := by decide +kernel
theorem dX11_fractionPart_36 : decode cX11_fractionPart 36 = .ok (.iconst 1, 1) := by decide +kernel
theorem dX11_fractionPart_37 : decode cX11_fractionPart 37 = .ok (.if_icmp .le 11, 3) := by decide +kernel
theorem dX11_fractionPart_40 : decode cX11_fractionPart 40 = .ok (.iload 4, 2) := by decide +kernel
theorem dX11_fractionPart_42 : decode cX11_fractionPart 42 = .ok (.iload_n 3, 1) := by decide +kernel
theorem dX11_fractionPart_43 : decode cX11_fractionPart 43 = .ok (.idiv, 1) := by decide +kernel
theorem dX11_fractionPart_44 : decode cX11_fractionPart 44 = .ok (.i2l, 1) := by decide +kernel
theorem dX11_fractionPart_45 : decode cX11_fractionPart 45 = .ok (.goto 6, 3) := by decide +kernel
theorem dX11_fractionPart_48 : decode cX11_fractionPart 48 = .ok (.iload 4, 2) := by decide +kernel
theorem dX11_fractionPart_50 : decode cX11_fractionPart 50 = .ok (.i2l, 1) := by decide +kernel
theorem dX11_fractionPart_51 : decode cX11_fractionPart 51 = .ok (.lreturn, 1) := by decide +kernel
theorem dX11_greatestDivisor_0 : decode cX11_greatestDivisor 0 = .ok (.iload_n 0, 1) := by decide +kernel
theorem dX11_greatestDivisor_1 : decode cX11_greatestDivisor 1 = .ok (.istore_n 2, 1) := by decide +kernel
theorem dX11_greatestDivisor_2 : decode cX11_greatestDivisor 2 = .ok (.iload_n 1, 1) := by decide +kernel
theorem dX11_greatestDivisor_3 : decode cX11_greatestDivisor 3 = .ok (.istore_n 3, 1) := by decide +kernel
theorem dX11_greatestDivisor_4 : decode cX11_greatestDivisor 4 = .ok (.iconst 0, 1) := by decide +kernel
theorem dX11_greatestDivisor_5 : decode cX11_greatestDivisor 5 = .ok (.istore 4, 2) := by decide +kernel
theorem dX11_greatestDivisor_7 : decode cX11_greatestDivisor 7 = .ok (.iload 4, 2) := by decide +kernel
theorem dX11_greatestDivisor_9 : decode cX11_greatestDivisor 9 = .ok (.bipush 64, 2) := by decide +kernel
theorem dX11_greatestDivisor_11 : decode cX11_greatestDivisor 11 = .ok (.if_icmp .ge 23, 3) := by decide +kernel
theorem dX11_greatestDivisor_14 : decode cX11_greatestDivisor 14 = .ok (.iload_n 3, 1) := by decide +kernel
theorem dX11_greatestDivisor_15 : decode cX11_greatestDivisor 15 = .ok (.ifCond .eq 19, 3) := by decide +kernel
theorem dX11_greatestDivisor_18 : decode cX11_greatestDivisor 18 = .ok (.iload_n 2, 1) := by decide +kernel
theorem dX11_greatestDivisor_19 : decode cX11_greatestDivisor 19 = .ok (.iload_n 3, 1) := by decide +kernel
theorem dX11_greatestDivisor_20 : decode cX11_greatestDivisor 20 = .ok (.irem, 1) := by decide +kernel
theorem dX11_greatestDivisor_21 : decode cX11_greatestDivisor 21 = .ok (.istore 5, 2) := by decide +kernel
theorem dX11_greatestDivisor_23 : decode cX11_greatestDivisor 23 = .ok (.iload_n 3, 1) := by decide +kernel
theorem dX11_greatestDivisor_24 : decode cX11_greatestDivisor 24 = .ok (.istore_n 2, 1) := by decide +kernel
theorem dX11_greatestDivisor_25 : decode cX11_greatestDivisor 25 = .ok (.iload 5, 2) := by decide +kernel
theorem dX11_greatestDivisor_27 : decode cX11_greatestDivisor 27 = .ok (.istore_n 3, 1) := by decide +kernel
theorem dX11_greatestDivisor_28 : decode cX11_greatestDivisor 28 = .ok (.iinc 4 1, 3) := by decide +kernel
theorem dX11_greatestDivisor_31 : decode cX11_greatestDivisor 31 = .ok (.goto (-24), 3) := by decide +kernel
theorem dX11_greatestDivisor_34 : decode cX11_greatestDivisor 34 = .ok (.iload_n 2, 1) := by decide +kernel
theorem dX11_greatestDivisor_35 : decode cX11_greatestDivisor 35 = .ok (.ireturn, 1) := by decide +kernel
theorem dX11_addUpSubsets_0 : decode cX11_addUpSubsets 0 = .ok (.iconst 0, 1) := by decide +kernel
theorem dX11_addUpSubsets_1 : decode cX11_addUpSubsets 1 = .ok (.istore_n 1, 1) := by decide +kernel
theorem dX11_addUpSubsets_2 : decode cX11_addUpSubsets 2 = .ok (.iload_n 1, 1) := by decide +kernel
theorem dX11_addUpSubsets_3 : decode cX11_addUpSubsets 3 = .ok (.bipush 10, 2) := by decide +kernel
theorem dX11_addUpSubsets_5 : decode cX11_addUpSubsets 5 = .ok (.if_icmp .ge 51, 3) := by decide +kernel
theorem dX11_addUpSubsets_8 : decode cX11_addUpSubsets 8 = .ok (.iconst 1, 1) := by decide +kernel
theorem dX11_addUpSubsets_9 : decode cX11_addUpSubsets 9 = .ok (.iload_n 1, 1) := by decide +kernel
theorem dX11_addUpSubsets_10 : decode cX11_addUpSubsets 10 = .ok (.ishl, 1) := by decide +kernel
theorem dX11_addUpSubsets_11 : decode cX11_addUpSubsets 11 = .ok (.istore_n 2, 1) := by decide +kernel
theorem dX11_addUpSubsets_12 : decode cX11_addUpSubsets 12 = .ok (.iconst 0, 1) := by decide +kernel
theorem dX11_addUpSubsets_13 : decode cX11_addUpSubsets 13 = .ok (.istore_n 3, 1) := by decide +kernel
theorem dX11_addUpSubsets_14 : decode cX11_addUpSubsets 14 = .ok (.iload_n 3, 1) := by decide +kernel
theorem dX11_addUpSubsets_15 : decode cX11_addUpSubsets 15 = .ok (.sipush 1024, 3) := by decide +kernel
theorem dX11_addUpSubsets_18 : decode cX11_addUpSubsets 18 = .ok (.if_icmp .ge 32, 3) := by decide +kernel
theorem dX11_addUpSubsets_21 : decode cX11_addUpSubsets 21 = .ok (.iload_n 3, 1) := by decide +kernel
theorem dX11_addUpSubsets_22 : decode cX11_addUpSubsets 22 = .ok (.aload_n 0, 1) := by decide +kernel
theorem dX11_addUpSubsets_23 : decode cX11_addUpSubsets 23 = .ok (.arraylength, 1) := by decide +kernel
theorem dX11_addUpSubsets_24 : decode cX11_addUpSubsets 24 = .ok (.if_icmp .ge 26, 3) := by decide +kernel
theorem dX11_addUpSubsets_27 : decode cX11_addUpSubsets 27 = .ok (.iload_n 3, 1) := by decide +kernel
theorem dX11_addUpSubsets_28 : decode cX11_addUpSubsets 28 = .ok (.iload_n 2, 1) := by decide +kernel
theorem dX11_addUpSubsets_29 : decode cX11_addUpSubsets 29 = .ok (.iand, 1) := by decide +kernel
theorem dX11_addUpSubsets_30 : decode cX11_addUpSubsets 30 = .ok (.ifCond .eq 14, 3) := by decide +kernel
theorem dX11_addUpSubsets_33 : decode cX11_addUpSubsets 33 = .ok (.aload_n 0, 1) := by decide +kernel
theorem dX11_addUpSubsets_34 : decode cX11_addUpSubsets 34 = .ok (.iload_n 3, 1) := by decide +kernel
theorem dX11_addUpSubsets_35 : decode cX11_addUpSubsets 35 = .ok (.dup2, 1) := by decide +kernel
theorem dX11_addUpSubsets_36 : decode cX11_addUpSubsets 36 = .ok (.iaload, 1) := by decide +kernel
theorem dX11_addUpSubsets_37 : decode cX11_addUpSubsets 37 = .ok (.aload_n 0, 1) := by decide +kernel
theorem dX11_addUpSubsets_38 : decode cX11_addUpSubsets 38 = .ok (.iload_n 3, 1) := by decide +kernel
theorem dX11_addUpSubsets_39 : decode cX11_addUpSubsets 39 = .ok (.iload_n 2, 1) := by decide +kernel
theorem dX11_addUpSubsets_40 : decode cX11_addUpSubsets 40 = .ok (.ixor, 1) := by decide +kernel
theorem dX11_addUpSubsets_41 : decode cX11_addUpSubsets 41 = .ok (.iaload, 1) := by decide +kernel
theorem dX11_addUpSubsets_42 : decode cX11_addUpSubsets 42 = .ok (.iadd, 1) := by decide +kernel
theorem dX11_addUpSubsets_43 : decode cX11_addUpSubsets 43 = .ok (.iastore, 1) := by decide +kernel
theorem dX11_addUpSubsets_44 : decode cX11_addUpSubsets 44 = .ok (.iinc 3 1, 3) := by decide +kernel
theorem dX11_addUpSubsets_47 : decode cX11_addUpSubsets 47 = .ok (.goto (-33), 3) := by decide +kernel
theorem dX11_addUpSubsets_50 : decode cX11_addUpSubsets 50 = .ok (.iinc 1 1, 3) := by decide +kernel
theorem dX11_addUpSubsets_53 : decode cX11_addUpSubsets 53 = .ok (.goto (-51), 3) := by decide +kernel
theorem dX11_addUpSubsets_56 : decode cX11_addUpSubsets 56 = .ok (.return_, 1) := by decide +kernel
theorem dX12_init_0 : decode cX12_init 0 = .ok (.aload_n 0, 1) := by decide +kernel
theorem dX12_init_1 : decode cX12_init 1 = .ok (.invokespecial 1, 3) := by decide +kernel
theorem dX12_init_4 : decode cX12_init 4 = .ok (.aload_n 0, 1) := by decide +kernel
theorem dX12_init_5 : decode cX12_init 5 = .ok (.bipush 60, 2) := by decide +kernel
theorem dX12_init_7 : decode cX12_init 7 = .ok (.newarray .int, 2) := by decide +kernel
theorem dX12_init_9 : decode cX12_init 9 = .ok (.putfield 7, 3) := by decide +kernel
theorem dX12_init_12 : decode cX12_init 12 = .ok (.aload_n 0, 1) := by decide +kernel
theorem dX12_init_13 : decode cX12_init 13 = .ok (.bipush 60, 2) := by decide +kernel
theorem dX12_init_15 : decode cX12_init 15 = .ok (.newarray .int, 2) := by decide +kernel
theorem dX12_init_17 : decode cX12_init 17 = .ok (.putfield 13, 3) := by decide +kernel
theorem dX12_init_20 : decode cX12_init 20 = .ok (.aload_n 0, 1) := by decide +kernel
theorem dX12_init_21 : decode cX12_init 21 = .ok (.bipush 12, 2) := by decide +kernel
theorem dX12_init_23 : decode cX12_init 23 = .ok (.newarray .int, 2) := by decide +kernel
theorem dX12_init_25 : decode cX12_init 25 = .ok (.putfield 16, 3) := by decide +kernel
theorem dX12_init_28 : decode cX12_init 28 = .ok (.aload_n 0, 1) := by decide +kernel
theorem dX12_init_29 : decode cX12_init 29 = .ok (.bipush 12, 2) := by decide +kernel
theorem dX12_init_31 : decode cX12_init 31 = .ok (.newarray .int, 2) := by decide +kernel
theorem dX12_init_33 : decode cX12_init 33 = .ok (.putfield 19, 3) := by decide +kernel
theorem dX12_init_36 : decode cX12_init 36 = .ok (.aload_n 0, 1) := by decide +kernel
theorem dX12_init_37 : decode cX12_init 37 = .ok (.bipush 14, 2) := by decide +kernel
theorem dX12_init_39 : decode cX12_init 39 = .ok (.newarray .int, 2) := by decide +kernel
theorem dX12_init_41 : decode cX12_init 41 = .ok (.putfield 22, 3) := by decide +kernel
theorem dX12_init_44 : decode cX12_init 44 = .ok (.aload_n 0, 1) := by decide +kernel
theorem dX12_init_45 : decode cX12_init 45 = .ok (.bipush 100, 2) := by decide +kernel
theorem dX12_init_47 : decode cX12_init 47 = .ok (.newarray .int, 2) := by decide +kernel
theorem dX12_init_49 : decode cX12_init 49 = .ok (.putfield 25, 3) := by decide +kernel
theorem dX12_init_52 : decode cX12_init 52 = .ok (.aload_n 0, 1) := by decide +kernel
theorem dX12_init_53 : decode cX12_init 53 = .ok (.bipush 10, 2) := by decide +kernel
theorem dX12_init_55 : decode cX12_init 55 = .ok (.newarray .int, 2) := by decide +kernel
theorem dX12_init_57 : decode cX12_init 57 = .ok (.putfield 28, 3) := by decide +kernel
theorem dX12_init_60 : decode cX12_init 60 = .ok (.aload_n 0, 1) := by decide +kernel
theorem dX12_init_61 : decode cX12_init 61 = .ok (.bipush 12, 2) := by decide +kernel
theorem dX12_init_63 : decode cX12_init 63 = .ok (.newarray .int, 2) := by decide +kernel
theorem dX12_init_65 : decode cX12_init 65 = .ok (.putfield 31, 3) := by decide +kernel
theorem dX12_init_68 : decode cX12_init 68 = .ok (.aload_n 0, 1) := by decide +kernel
theorem dX12_init_69 : decode cX12_init 69 = .ok (.iconst 4, 1) := by decide +kernel
theorem dX12_init_70 : decode cX12_init 70 = .ok (.newarray .int, 2) := by decide +kernel
theorem dX12_init_72 : decode cX12_init 72 = .ok (.putfield 34, 3) := by decide +kernel
theorem dX12_init_75 : decode cX12_init 75 = .ok (.aload_n 0, 1) := by decide +kernel
theorem dX12_init_76 : decode cX12_init 76 = .ok (.iconst 4, 1) := by decide +kernel
theorem dX12_init_77 : decode cX12_init 77 = .ok (.newarray .int, 2) := by decide +kernel
theorem dX12_init_79 : decode cX12_init 79 = .ok (.putfield 37, 3) := by decide +kernel
theorem dX12_init_82 : decode cX12_init 82 = .ok (.aload_n 0, 1) := by decide +kernel
theorem dX12_init_83 : decode cX12_init 83 = .ok (.iconst 4, 1) := by decide +kernel
theorem dX12_init_84 : decode cX12_init 84 = .ok (.newarray .int, 2) := by decide +kernel
theorem dX12_init_86 : decode cX12_init 86 = .ok (.putfield 40, 3) := by decide +kernel
theorem dX12_init_89 : decode cX12_init 89 = .ok (.aload_n 0, 1) := by decide +kernel
theorem dX12_init_90 : decode cX12_init 90 = .ok (.sipush 1024, 3) := by decide +kernel
theorem dX12_init_93 : decode cX12_init 93 = .ok (.newarray .int, 2) := by decide +kernel
theorem dX12_init_95 : decode cX12_init 95 = .ok (.putfield 43, 3) := by decide +kernel
theorem dX12_init_98 : decode cX12_init 98 = .ok (.aload_n 0, 1) := by decide +kernel
theorem dX12_init_99 : decode cX12_init 99 = .ok (.sipush 1024, 3) := by decide +kernel
theorem dX12_init_102 : decode cX12_init 102 = .ok (.newarray .int, 2) := by decide +kernel
theorem dX12_init_104 : decode cX12_init 104 = .ok (.putfield 46, 3) := by decide +kernel
theorem dX12_init_107 : decode cX12_init 107 = .ok (.aload_n 0, 1) := by decide +kernel
theorem dX12_init_108 : decode cX12_init 108 = .ok (.ldc 49, 2) := by decide +kernel
theorem dX12_init_110 : decode cX12_init 110 = .ok (.newarray .int, 2) := by decide +kernel
theorem dX12_init_112 : decode cX12_init 112 = .ok (.putfield 50, 3) := by decide +kernel
theorem dX12_init_115 : decode cX12_init 115 = .ok (.aload_n 0, 1) := by decide +kernel
theorem dX12_init_116 : decode cX12_init 116 = .ok (.bipush 12, 2) := by decide +kernel
theorem dX12_init_118 : decode cX12_init 118 = .ok (.newarray .boolean, 2) := by decide +kernel
theorem dX12_init_120 : decode cX12_init 120 = .ok (.putfield 53, 3) := by decide +kernel
theorem dX12_init_123 : decode cX12_init 123 = .ok (.aload_n 0, 1) := by decide +kernel
theorem dX12_init_124 : decode cX12_init 124 = .ok (.bipush 20, 2) := by decide +kernel
theorem dX12_init_126 : decode cX12_init 126 = .ok (.newarray .int, 2) := by decide +kernel
theorem dX12_init_128 : decode cX12_init 128 = .ok (.putfield 57, 3) := by decide +kernel
theorem dX12_init_131 : decode cX12_init 131 = .ok (.aload_n 0, 1) := by decide +kernel
theorem dX12_init_132 : decode cX12_init 132 = .ok (.bipush 20, 2) := by decide +kernel
theorem dX12_init_134 : decode cX12_init 134 = .ok (.newarray .int, 2) := by decide +kernel
theorem dX12_init_136 : decode cX12_init 136 = .ok (.putfield 60, 3) := by decide +kernel
theorem dX12_init_139 : decode cX12_init 139 = .ok (.aload_n 0, 1) := by decide +kernel
theorem dX12_init_140 : decode cX12_init 140 = .ok (.bipush 11, 2) := by decide +kernel
theorem dX12_init_142 : decode cX12_init 142 = .ok (.newarray .int, 2) := by decide +kernel
theorem dX12_init_144 : decode cX12_init 144 = .ok (.putfield 63, 3) := by decide +kernel
theorem dX12_init_147 : decode cX12_init 147 = .ok (.aload_n 0, 1) := by decide +kernel
theorem dX12_init_148 : decode cX12_init 148 = .ok (.bipush 52, 2) := by decide +kernel
theorem dX12_init_150 : decode cX12_init 150 = .ok (.newarray .int, 2) := by decide +kernel
theorem dX12_init_152 : decode cX12_init 152 = .ok (.putfield 66, 3) := by decide +kernel
theorem dX12_init_155 : decode cX12_init 155 = .ok (.aload_n 0, 1) := by decide +kernel
theorem dX12_init_156 : decode cX12_init 156 = .ok (.iconst 4, 1) := by decide +kernel
theorem dX12_init_157 : decode cX12_init 157 = .ok (.newarray .int, 2) := by decide +kernel
theorem dX12_init_159 : decode cX12_init 159 = .ok (.putfield 69, 3) := by decide +kernel
theorem dX12_init_162 : decode cX12_init 162 = .ok (.aload_n 0, 1) := by decide +kernel
theorem dX12_init_163 : decode cX12_init 163 = .ok (.sipush 440, 3) := by decide +kernel
theorem dX12_init_166 : decode cX12_init 166 = .ok (.newarray .int, 2) := by decide +kernel
theorem dX12_init_168 : decode cX12_init 168 = .ok (.putfield 72, 3) := by decide +kernel
theorem dX12_init_171 : decode cX12_init 171 = .ok (.aload_n 0, 1) := by decide +kernel
theorem dX12_init_172 : decode cX12_init 172 = .ok (.iconst 2, 1) := by decide +kernel
theorem dX12_init_173 : decode cX12_init 173 = .ok (.newarray .boolean, 2) := by decide +kernel
theorem dX12_init_175 : decode cX12_init 175 = .ok (.putfield 75, 3) := by decide +kernel
theorem dX12_init_178 : decode cX12_init 178 = .ok (.iconst 0, 1) := by decide +kernel
theorem dX12_init_179 : decode cX12_init 179 = .ok (.istore_n 1, 1) := by decide +kernel
theorem dX12_init_180 : decode cX12_init 180 = .ok (.iload_n 1, 1) := by decide +kernel
theorem dX12_init_181 : decode cX12_init 181 = .ok (.iconst 4, 1) := by decide +kernel
theorem dX12_init_182 : decode cX12_init 182 = .ok (.if_icmp .ge 17, 3) := by decide +kernel
theorem dX12_init_185 : decode cX12_init 185 = .ok (.aload_n 0, 1) := by decide +kernel
theorem dX12_init_186 : decode cX12_init 186 = .ok (.getfield 40, 3) := by decide +kernel
theorem dX12_init_189 : decode cX12_init 189 = .ok (.iload_n 1, 1) := by decide +kernel
theorem dX12_init_190 : decode cX12_init 190 = .ok (.bipush (-6), 2) := by decide +kernel
theorem dX12_init_192 : decode cX12_init 192 = .ok (.iastore, 1) := by decide +kernel
theorem dX12_init_193 : decode cX12_init 193 = .ok (.iinc 1 1, 3) := by decide +kernel
theorem dX12_init_196 : decode cX12_init 196 = .ok (.goto (-16), 3) := by decide +kernel
theorem dX12_init_199 : decode cX12_init 199 = .ok (.return_, 1) := by decide +kernel
theorem dX12_in_0 : decode cX12_in 0 = .ok (.lload_n 0, 1) := by decide +kernel
theorem dX12_in_1 : decode cX12_in 1 = .ok (.lload_n 2, 1) := by decide +kernel
theorem dX12_in_2 : decode cX12_in 2 = .ok (.lcmp, 1) := by decide +kernel
theorem dX12_in_3 : decode cX12_in 3 = .ok (.ifCond .lt 14, 3) := by decide +kernel
theorem dX12_in_6 : decode cX12_in 6 = .ok (.lload_n 0, 1) := by decide +kernel
theorem dX12_in_7 : decode cX12_in 7 = .ok (.lload 4, 2) := by decide +kernel
theorem dX12_in_9 : decode cX12_in 9 = .ok (.lcmp, 1) := by decide +kernel
theorem dX12_in_10 : decode cX12_in 10 = .ok (.ifCond .gt 7, 3) := by decide +kernel
theorem dX12_in_13 : decode cX12_in 13 = .ok (.iconst 1, 1) := by decide +kernel
theorem dX12_in_14 : decode cX12_in 14 = .ok (.goto 4, 3) := by decide +kernel
theorem dX12_in_17 : decode cX12_in 17 = .ok (.iconst 0, 1) := by decide +kernel
theorem dX12_in_18 : decode cX12_in 18 = .ok (.ireturn, 1) := by decide +kernel
theorem dX12_isSign_0 : decode cX12_isSign 0 = .ok (.iload_n 0, 1) := by decide +kernel
theorem dX12_isSign_1 : decode cX12_isSign 1 = .ok (.i2l, 1) := by decide +kernel
theorem dX12_isSign_2 : decode cX12_isSign 2 = .ok (.lconst 0, 1) := by decide +kernel
theorem dX12_isSign_3 : decode cX12_isSign 3 = .ok (.ldc2_w 78, 3) := by decide +kernel
theorem dX12_isSign_6 : decode cX12_isSign 6 = .ok (.invokestatic 80, 3) := by decide +kernel
theorem dX12_isSign_9 : decode cX12_isSign 9 = .ok (.ireturn, 1) := by decide +kernel
theorem dX12_isChild_0 : decode cX12_isChild 0 = .ok (.iload_n 0, 1) := by decide +kernel
theorem dX12_isChild_1 : decode cX12_isChild 1 = .ok (.i2l, 1) := by decide +kernel
theorem dX12_isChild_2 : decode cX12_isChild 2 = .ok (.lconst 0, 1) := by decide +kernel
theorem dX12_isChild_3 : decode cX12_isChild 3 = .ok (.ldc2_w 84, 3) := by decide +kernel
theorem dX12_isChild_6 : decode cX12_isChild 6 = .ok (.invokestatic 80, 3) := by decide +kernel
theorem dX12_isChild_9 : decode cX12_isChild 9 = .ok (.ireturn, 1) := by decide +kernel
theorem dX12_isEnd_0 : decode cX12_isEnd 0 = .ok (.iload_n 0, 1) := by decide +kernel
theorem dX12_isEnd_1 : decode cX12_isEnd 1 = .ok (.i2l, 1) := by decide +kernel
theorem dX12_isEnd_2 : decode cX12_isEnd 2 = .ok (.lconst 0, 1) := by decide +kernel
theorem dX12_isEnd_3 : decode cX12_isEnd 3 = .ok (.lconst 1, 1) := by decide +kernel
theorem dX12_isEnd_4 : decode cX12_isEnd 4 = .ok (.invokestatic 80, 3) := by decide +kernel
theorem dX12_isEnd_7 : decode cX12_isEnd 7 = .ok (.ireturn, 1) := by decide +kernel
theorem dX12_ones_0 : decode cX12_ones 0 = .ok (.iconst 0, 1) := by decide +kernel
theorem dX12_ones_1 : decode cX12_ones 1 = .ok (.istore_n 1, 1) := by decide +kernel
theorem dX12_ones_2 : decode cX12_ones 2 = .ok (.iload_n 0, 1) := by decide +kernel
theorem dX12_ones_3 : decode cX12_ones 3 = .ok (.istore_n 2, 1) := by decide +kernel
theorem dX12_ones_4 : decode cX12_ones 4 = .ok (.iload_n 2, 1) := by decide +kernel
theorem dX12_ones_5 : decode cX12_ones 5 = .ok (.ifCond .eq 15, 3) := by decide +kernel
theorem dX12_ones_8 : decode cX12_ones 8 = .ok (.iinc 1 1, 3) := by decide +kernel
theorem dX12_ones_11 : decode cX12_ones 11 = .ok (.iload_n 2, 1) := by decide +kernel
theorem dX12_ones_12 : decode cX12_ones 12 = .ok (.iload_n 2, 1) := by decide +kernel
theorem dX12_ones_13 : decode cX12_ones 13 = .ok (.iconst 1, 1) := by decide +kernel
theorem dX12_ones_14 : decode cX12_ones 14 = .ok (.isub, 1) := by decide +kernel
theorem dX12_ones_15 : decode cX12_ones 15 = .ok (.iand, 1) := by decide +kernel
theorem dX12_ones_16 : decode cX12_ones 16 = .ok (.istore_n 2, 1) := by decide +kernel
theorem dX12_ones_17 : decode cX12_ones 17 = .ok (.goto (-13), 3) := by decide +kernel
theorem dX12_ones_20 : decode cX12_ones 20 = .ok (.iload_n 1, 1) := by decide +kernel
theorem dX12_ones_21 : decode cX12_ones 21 = .ok (.ireturn, 1) := by decide +kernel
theorem dX12_lowest_0 : decode cX12_lowest 0 = .ok (.lload_n 2, 1) := by decide +kernel
theorem dX12_lowest_1 : decode cX12_lowest 1 = .ok (.lconst 0, 1) := by decide +kernel
theorem dX12_lowest_2 : decode cX12_lowest 2 = .ok (.lcmp, 1) := by decide +kernel
theorem dX12_lowest_3 : decode cX12_lowest 3 = .ok (.ifCond .ne 7, 3) := by decide +kernel
theorem dX12_lowest_6 : decode cX12_lowest 6 = .ok (.iload 4, 2) := by decide +kernel
theorem dX12_lowest_8 : decode cX12_lowest 8 = .ok (.i2l, 1) := by decide +kernel
theorem dX12_lowest_9 : decode cX12_lowest 9 = .ok (.lreturn, 1) := by decide +kernel
theorem dX12_lowest_10 : decode cX12_lowest 10 = .ok (.lload_n 0, 1) := by decide +kernel
theorem dX12_lowest_11 : decode cX12_lowest 11 = .ok (.lstore 5, 2) := by decide +kernel
theorem dX12_lowest_13 : decode cX12_lowest 13 = .ok (.lload_n 2, 1) := by decide +kernel
theorem dX12_lowest_14 : decode cX12_lowest 14 = .ok (.lstore 7, 2) := by decide +kernel
theorem dX12_lowest_16 : decode cX12_lowest 16 = .ok (.lload 7, 2) := by decide +kernel
theorem dX12_lowest_18 : decode cX12_lowest 18 = .ok (.lconst 0, 1) := by decide +kernel
theorem dX12_lowest_19 : decode cX12_lowest 19 = .ok (.lcmp, 1) := by decide +kernel
theorem dX12_lowest_20 : decode cX12_lowest 20 = .ok (.ifCond .eq 21, 3) := by decide +kernel
theorem dX12_lowest_23 : decode cX12_lowest 23 = .ok (.lload 5, 2) := by decide +kernel
theorem dX12_lowest_25 : decode cX12_lowest 25 = .ok (.lload 7, 2) := by decide +kernel
theorem dX12_lowest_27 : decode cX12_lowest 27 = .ok (.lrem, 1) := by decide +kernel
theorem dX12_lowest_28 : decode cX12_lowest 28 = .ok (.lstore 9, 2) := by decide +kernel
theorem dX12_lowest_30 : decode cX12_lowest 30 = .ok (.lload 7, 2) := by decide +kernel
theorem dX12_lowest_32 : decode cX12_lowest 32 = .ok (.lstore 5, 2) := by decide +kernel
theorem dX12_lowest_34 : decode cX12_lowest 34 = .ok (.lload 9, 2) := by decide +kernel
theorem dX12_lowest_36 : decode cX12_lowest 36 = .ok (.lstore 7, 2) := by decide +kernel
theorem dX12_lowest_38 : decode cX12_lowest 38 = .ok (.goto (-22), 3) := by decide +kernel
theorem dX12_lowest_41 : decode cX12_lowest 41 = .ok (.iload 4, 2) := by decide +kernel
theorem dX12_lowest_43 : decode cX12_lowest 43 = .ok (.ifCond .ne 10, 3) := by decide +kernel
theorem dX12_lowest_46 : decode cX12_lowest 46 = .ok (.lload_n 0, 1) := by decide +kernel
theorem dX12_lowest_47 : decode cX12_lowest 47 = .ok (.lload 5, 2) := by decide +kernel
theorem dX12_lowest_49 : decode cX12_lowest 49 = .ok (.ldiv, 1) := by decide +kernel
theorem dX12_lowest_50 : decode cX12_lowest 50 = .ok (.goto 7, 3) := by decide +kernel
theorem dX12_lowest_53 : decode cX12_lowest 53 = .ok (.lload_n 2, 1) := by decide +kernel
theorem dX12_lowest_54 : decode cX12_lowest 54 = .ok (.lload 5, 2) := by decide +kernel
theorem dX12_lowest_56 : decode cX12_lowest 56 = .ok (.ldiv, 1) := by decide +kernel
theorem dX12_lowest_57 : decode cX12_lowest 57 = .ok (.lreturn, 1) := by decide +kernel
theorem dX12_say_0 : decode cX12_say 0 = .ok (.iload_n 1, 1) := by decide +kernel
theorem dX12_say_1 : decode cX12_say 1 = .ok (.i2l, 1) := by decide +kernel
theorem dX12_say_2 : decode cX12_say 2 = .ok (.ldc2_w 86, 3) := by decide +kernel
theorem dX12_say_5 : decode cX12_say 5 = .ok (.ldc2_w 88, 3) := by decide +kernel
theorem dX12_say_8 : decode cX12_say 8 = .ok (.invokestatic 80, 3) := by decide +kernel
theorem dX12_say_11 : decode cX12_say 11 = .ok (.ifCond .ne 6, 3) := by decide +kernel
theorem dX12_say_14 : decode cX12_say 14 = .ok (.bipush (-2), 2) := by decide +kernel
theorem dX12_say_16 : decode cX12_say 16 = .ok (.ireturn, 1) := by decide +kernel
theorem dX12_say_17 : decode cX12_say 17 = .ok (.aload_n 0, 1) := by decide +kernel
theorem dX12_say_18 : decode cX12_say 18 = .ok (.getfield 90, 3) := by decide +kernel
theorem dX12_say_21 : decode cX12_say 21 = .ok (.bipush 14, 2) := by decide +kernel
theorem dX12_say_23 : decode cX12_say 23 = .ok (.if_icmp .ne 6, 3) := by decide +kernel
theorem dX12_say_26 : decode cX12_say 26 = .ok (.bipush (-4), 2) := by decide +kernel
theorem dX12_say_28 : decode cX12_say 28 = .ok (.ireturn, 1) := by decide +kernel
theorem dX12_say_29 : decode cX12_say 29 = .ok (.aload_n 0, 1) := by decide +kernel
theorem dX12_say_30 : decode cX12_say 30 = .ok (.getfield 22, 3) := by decide +kernel
theorem dX12_say_33 : decode cX12_say 33 = .ok (.aload_n 0, 1) := by decide +kernel
theorem dX12_say_34 : decode cX12_say 34 = .ok (.getfield 90, 3) := by decide +kernel
theorem dX12_say_37 : decode cX12_say 37 = .ok (.iload_n 1, 1) := by decide +kernel
theorem dX12_say_38 : decode cX12_say 38 = .ok (.iastore, 1) := by decide +kernel
theorem dX12_say_39 : decode cX12_say 39 = .ok (.aload_n 0, 1) := by decide +kernel
theorem dX12_say_40 : decode cX12_say 40 = .ok (.dup, 1) := by decide +kernel
theorem dX12_say_41 : decode cX12_say 41 = .ok (.getfield 90, 3) := by decide +kernel
theorem dX12_say_44 : decode cX12_say 44 = .ok (.iconst 1, 1) := by decide +kernel
theorem dX12_say_45 : decode cX12_say 45 = .ok (.iadd, 1) := by decide +kernel
theorem dX12_say_46 : decode cX12_say 46 = .ok (.putfield 90, 3) := by decide +kernel
theorem dX12_say_49 : decode cX12_say 49 = .ok (.aload_n 0, 1) := by decide +kernel
theorem dX12_say_50 : decode cX12_say 50 = .ok (.getfield 90, 3) := by decide +kernel
theorem dX12_say_53 : decode cX12_say 53 = .ok (.ireturn, 1) := by decide +kernel
theorem dX12_wipe_0 : decode cX12_wipe 0 = .ok (.aload_n 0, 1) := by decide +kernel
theorem dX12_wipe_1 : decode cX12_wipe 1 = .ok (.getfield 90, 3) := by decide +kernel
theorem dX12_wipe_4 : decode cX12_wipe 4 = .ok (.istore_n 1, 1) := by decide +kernel
theorem dX12_wipe_5 : decode cX12_wipe 5 = .ok (.aload_n 0, 1) := by decide +kernel
theorem dX12_wipe_6 : decode cX12_wipe 6 = .ok (.iconst 0, 1) := by decide +kernel
theorem dX12_wipe_7 : decode cX12_wipe 7 = .ok (.putfield 90, 3) := by decide +kernel
theorem dX12_wipe_10 : decode cX12_wipe 10 = .ok (.iload_n 1, 1) := by decide +kernel
theorem dX12_wipe_11 : decode cX12_wipe 11 = .ok (.ireturn, 1) := by decide +kernel
theorem dX12_fault_0 : decode cX12_fault 0 = .ok (.aload_n 0, 1) := by decide +kernel
theorem dX12_fault_1 : decode cX12_fault 1 = .ok (.iconst 0, 1) := by decide +kernel
theorem dX12_fault_2 : decode cX12_fault 2 = .ok (.putfield 94, 3) := by decide +kernel
theorem dX12_fault_5 : decode cX12_fault 5 = .ok (.iconst 0, 1) := by decide +kernel
theorem dX12_fault_6 : decode cX12_fault 6 = .ok (.istore_n 1, 1) := by decide +kernel
theorem dX12_fault_7 : decode cX12_fault 7 = .ok (.iconst 0, 1) := by decide +kernel
theorem dX12_fault_8 : decode cX12_fault 8 = .ok (.istore_n 2, 1) := by decide +kernel
theorem dX12_fault_9 : decode cX12_fault 9 = .ok (.iconst 0, 1) := by decide +kernel
theorem dX12_fault_10 : decode cX12_fault 10 = .ok (.istore_n 3, 1) := by decide +kernel
theorem dX12_fault_11 : decode cX12_fault 11 = .ok (.iload_n 3, 1) := by decide +kernel
theorem dX12_fault_12 : decode cX12_fault 12 = .ok (.aload_n 0, 1) := by decide +kernel
theorem dX12_fault_13 : decode cX12_fault 13 = .ok (.getfield 90, 3) := by decide +kernel
theorem dX12_fault_16 : decode cX12_fault 16 = .ok (.if_icmp .ge 115, 3) := by decide +kernel
theorem dX12_fault_19 : decode cX12_fault 19 = .ok (.aload_n 0, 1) := by decide +kernel
theorem dX12_fault_20 : decode cX12_fault 20 = .ok (.getfield 22, 3) := by decide +kernel
theorem dX12_fault_23 : decode cX12_fault 23 = .ok (.iload_n 3, 1) := by decide +kernel
theorem dX12_fault_24 : decode cX12_fault 24 = .ok (.iaload, 1) := by decide +kernel
theorem dX12_fault_25 : decode cX12_fault 25 = .ok (.istore 4, 2) := by decide +kernel
theorem dX12_fault_27 : decode cX12_fault 27 = .ok (.iload_n 2, 1) := by decide +kernel
theorem dX12_fault_28 : decode cX12_fault 28 = .ok (.ifCond .ne 39, 3) := by decide +kernel
theorem dX12_fault_31 : decode cX12_fault 31 = .ok (.iload 4, 2) := by decide +kernel
theorem dX12_fault_33 : decode cX12_fault 33 = .ok (.i2l, 1) := by decide +kernel
theorem dX12_fault_34 : decode cX12_fault 34 = .ok (.ldc2_w 97, 3) := by decide +kernel
theorem dX12_fault_37 : decode cX12_fault 37 = .ok (.ldc2_w 99, 3) := by decide +kernel
theorem dX12_fault_40 : decode cX12_fault 40 = .ok (.invokestatic 80, 3) := by decide +kernel
theorem dX12_fault_43 : decode cX12_fault 43 = .ok (.ifCond .eq 24, 3) := by decide +kernel
theorem dX12_fault_46 : decode cX12_fault 46 = .ok (.aload_n 0, 1) := by decide +kernel
theorem dX12_fault_47 : decode cX12_fault 47 = .ok (.getfield 94, 3) := by decide +kernel
theorem dX12_fault_50 : decode cX12_fault 50 = .ok (.iconst 5, 1) := by decide +kernel
theorem dX12_fault_51 : decode cX12_fault 51 = .ok (.if_icmp .ge 16, 3) := by decide +kernel
theorem dX12_fault_54 : decode cX12_fault 54 = .ok (.aload_n 0, 1) := by decide +kernel
theorem dX12_fault_55 : decode cX12_fault 55 = .ok (.dup, 1) := by decide +kernel
theorem dX12_fault_56 : decode cX12_fault 56 = .ok (.getfield 94, 3) := by decide +kernel
theorem dX12_fault_59 : decode cX12_fault 59 = .ok (.iconst 1, 1) := by decide +kernel
theorem dX12_fault_60 : decode cX12_fault 60 = .ok (.iadd, 1) := by decide +kernel
theorem dX12_fault_61 : decode cX12_fault 61 = .ok (.putfield 94, 3) := by decide +kernel
theorem dX12_fault_64 : decode cX12_fault 64 = .ok (.goto 61, 3) := by decide +kernel
theorem dX12_fault_67 : decode cX12_fault 67 = .ok (.iload_n 2, 1) := by decide +kernel
theorem dX12_fault_68 : decode cX12_fault 68 = .ok (.ifCond .ne 22, 3) := by decide +kernel
theorem dX12_fault_71 : decode cX12_fault 71 = .ok (.iload 4, 2) := by decide +kernel
theorem dX12_fault_73 : decode cX12_fault 73 = .ok (.bipush 61, 2) := by decide +kernel
theorem dX12_fault_75 : decode cX12_fault 75 = .ok (.if_icmp .ne 15, 3) := by decide +kernel
theorem dX12_fault_78 : decode cX12_fault 78 = .ok (.aload_n 0, 1) := by decide +kernel
theorem dX12_fault_79 : decode cX12_fault 79 = .ok (.getfield 94, 3) := by decide +kernel
theorem dX12_fault_82 : decode cX12_fault 82 = .ok (.ifCond .le 8, 3) := by decide +kernel
theorem dX12_fault_85 : decode cX12_fault 85 = .ok (.iconst 1, 1) := by decide +kernel
theorem dX12_fault_86 : decode cX12_fault 86 = .ok (.istore_n 2, 1) := by decide +kernel
theorem dX12_fault_87 : decode cX12_fault 87 = .ok (.goto 38, 3) := by decide +kernel
theorem dX12_fault_90 : decode cX12_fault 90 = .ok (.iload_n 2, 1) := by decide +kernel
theorem dX12_fault_91 : decode cX12_fault 91 = .ok (.ifCond .eq 32, 3) := by decide +kernel
theorem dX12_fault_94 : decode cX12_fault 94 = .ok (.iload 4, 2) := by decide +kernel
theorem dX12_fault_96 : decode cX12_fault 96 = .ok (.i2l, 1) := by decide +kernel
theorem dX12_fault_97 : decode cX12_fault 97 = .ok (.ldc2_w 101, 3) := by decide +kernel
theorem dX12_fault_100 : decode cX12_fault 100 = .ok (.ldc2_w 103, 3) := by decide +kernel
theorem dX12_fault_103 : decode cX12_fault 103 = .ok (.invokestatic 80, 3) := by decide +kernel
theorem dX12_fault_106 : decode cX12_fault 106 = .ok (.ifCond .eq 17, 3) := by decide +kernel
theorem dX12_fault_109 : decode cX12_fault 109 = .ok (.iload_n 1, 1) := by decide +kernel
theorem dX12_fault_110 : decode cX12_fault 110 = .ok (.aload_n 0, 1) := by decide +kernel
theorem dX12_fault_111 : decode cX12_fault 111 = .ok (.getfield 94, 3) := by decide +kernel
theorem dX12_fault_114 : decode cX12_fault 114 = .ok (.if_icmp .ge 9, 3) := by decide +kernel
theorem dX12_fault_117 : decode cX12_fault 117 = .ok (.iinc 1 1, 3) := by decide +kernel
theorem dX12_fault_120 : decode cX12_fault 120 = .ok (.goto 5, 3) := by decide +kernel
theorem dX12_fault_123 : decode cX12_fault 123 = .ok (.iload_n 3, 1) := by decide +kernel
theorem dX12_fault_124 : decode cX12_fault 124 = .ok (.ireturn, 1) := by decide +kernel
theorem dX12_fault_125 : decode cX12_fault 125 = .ok (.iinc 3 1, 3) := by decide +kernel
theorem dX12_fault_128 : decode cX12_fault 128 = .ok (.goto (-117), 3) := by decide +kernel
theorem dX12_fault_131 : decode cX12_fault 131 = .ok (.iload_n 2, 1) := by decide +kernel
theorem dX12_fault_132 : decode cX12_fault 132 = .ok (.ifCond .eq 16, 3) := by decide +kernel
theorem dX12_fault_135 : decode cX12_fault 135 = .ok (.iload_n 1, 1) := by decide +kernel
theorem dX12_fault_136 : decode cX12_fault 136 = .ok (.aload_n 0, 1) := by decide +kernel
theorem dX12_fault_137 : decode cX12_fault 137 = .ok (.getfield 94, 3) := by decide +kernel
theorem dX12_fault_140 : decode cX12_fault 140 = .ok (.if_icmp .ne 8, 3) := by decide +kernel
theorem dX12_fault_143 : decode cX12_fault 143 = .ok (.bipush (-6), 2) := by decide +kernel
theorem dX12_fault_145 : decode cX12_fault 145 = .ok (.goto 7, 3) := by decide +kernel
theorem dX12_fault_148 : decode cX12_fault 148 = .ok (.aload_n 0, 1) := by decide +kernel
theorem dX12_fault_149 : decode cX12_fault 149 = .ok (.getfield 90, 3) := by decide +kernel
theorem dX12_fault_152 : decode cX12_fault 152 = .ok (.ireturn, 1) := by decide +kernel
theorem dX12_isThere_0 : decode cX12_isThere 0 = .ok (.iconst 0, 1) := by decide +kernel
theorem dX12_isThere_1 : decode cX12_isThere 1 = .ok (.istore_n 1, 1) := by decide +kernel
theorem dX12_isThere_2 : decode cX12_isThere 2 = .ok (.iload_n 1, 1) := by decide +kernel
theorem dX12_isThere_3 : decode cX12_isThere 3 = .ok (.aload_n 0, 1) := by decide +kernel
theorem dX12_isThere_4 : decode cX12_isThere 4 = .ok (.getfield 105, 3) := by decide +kernel
theorem dX12_isThere_7 : decode cX12_isThere 7 = .ok (.if_icmp .ge 82, 3) := by decide +kernel
theorem dX12_isThere_10 : decode cX12_isThere 10 = .ok (.aload_n 0, 1) := by decide +kernel
theorem dX12_isThere_11 : decode cX12_isThere 11 = .ok (.getfield 16, 3) := by decide +kernel
theorem dX12_isThere_14 : decode cX12_isThere 14 = .ok (.iload_n 1, 1) := by decide +kernel
theorem dX12_isThere_15 : decode cX12_isThere 15 = .ok (.iaload, 1) := by decide +kernel
theorem dX12_isThere_16 : decode cX12_isThere 16 = .ok (.aload_n 0, 1) := by decide +kernel
theorem dX12_isThere_17 : decode cX12_isThere 17 = .ok (.getfield 94, 3) := by decide +kernel
theorem dX12_isThere_20 : decode cX12_isThere 20 = .ok (.if_icmp .ne 7, 3) := by decide +kernel
theorem dX12_isThere_23 : decode cX12_isThere 23 = .ok (.iconst 1, 1) := by decide +kernel
theorem dX12_isThere_24 : decode cX12_isThere 24 = .ok (.goto 4, 3) := by decide +kernel
theorem dX12_isThere_27 : decode cX12_isThere 27 = .ok (.iconst 0, 1) := by decide +kernel
theorem dX12_isThere_28 : decode cX12_isThere 28 = .ok (.istore_n 2, 1) := by decide +kernel
theorem dX12_isThere_29 : decode cX12_isThere 29 = .ok (.iconst 0, 1) := by decide +kernel
theorem dX12_isThere_30 : decode cX12_isThere 30 = .ok (.istore_n 3, 1) := by decide +kernel
theorem dX12_isThere_31 : decode cX12_isThere 31 = .ok (.iload_n 3, 1) := by decide +kernel
theorem dX12_isThere_32 : decode cX12_isThere 32 = .ok (.aload_n 0, 1) := by decide +kernel
theorem dX12_isThere_33 : decode cX12_isThere 33 = .ok (.getfield 94, 3) := by decide +kernel
theorem dX12_isThere_36 : decode cX12_isThere 36 = .ok (.if_icmp .ge 41, 3) := by decide +kernel
theorem dX12_isThere_39 : decode cX12_isThere 39 = .ok (.iload_n 2, 1) := by decide +kernel
theorem dX12_isThere_40 : decode cX12_isThere 40 = .ok (.ifCond .eq 37, 3) := by decide +kernel
theorem dX12_isThere_43 : decode cX12_isThere 43 = .ok (.aload_n 0, 1) := by decide +kernel
theorem dX12_isThere_44 : decode cX12_isThere 44 = .ok (.getfield 7, 3) := by decide +kernel
theorem dX12_isThere_47 : decode cX12_isThere 47 = .ok (.iconst 5, 1) := by decide +kernel
theorem dX12_isThere_48 : decode cX12_isThere 48 = .ok (.iload_n 1, 1) := by decide +kernel
theorem dX12_isThere_49 : decode cX12_isThere 49 = .ok (.imul, 1) := by decide +kernel
theorem dX12_isThere_50 : decode cX12_isThere 50 = .ok (.iload_n 3, 1) := by decide +kernel
theorem dX12_isThere_51 : decode cX12_isThere 51 = .ok (.iadd, 1) := by decide +kernel
theorem dX12_isThere_52 : decode cX12_isThere 52 = .ok (.iaload, 1) := by decide +kernel
theorem dX12_isThere_53 : decode cX12_isThere 53 = .ok (.aload_n 0, 1) := by decide +kernel
theorem dX12_isThere_54 : decode cX12_isThere 54 = .ok (.getfield 22, 3) := by decide +kernel
theorem dX12_isThere_57 : decode cX12_isThere 57 = .ok (.iload_n 3, 1) := by decide +kernel
theorem dX12_isThere_58 : decode cX12_isThere 58 = .ok (.iaload, 1) := by decide +kernel
theorem dX12_isThere_59 : decode cX12_isThere 59 = .ok (.bipush 97, 2) := by decide +kernel
theorem dX12_isThere_61 : decode cX12_isThere 61 = .ok (.isub, 1) := by decide +kernel
theorem dX12_isThere_62 : decode cX12_isThere 62 = .ok (.if_icmp .ne 7, 3) := by decide +kernel
theorem dX12_isThere_65 : decode cX12_isThere 65 = .ok (.iconst 1, 1) := by decide +kernel
theorem dX12_isThere_66 : decode cX12_isThere 66 = .ok (.goto 4, 3) := by decide +kernel
theorem dX12_isThere_69 : decode cX12_isThere 69 = .ok (.iconst 0, 1) := by decide +kernel
theorem dX12_isThere_70 : decode cX12_isThere 70 = .ok (.istore_n 2, 1) := by decide +kernel
theorem dX12_isThere_71 : decode cX12_isThere 71 = .ok (.iinc 3 1, 3) := by decide +kernel
theorem dX12_isThere_74 : decode cX12_isThere 74 = .ok (.goto (-43), 3) := by decide +kernel
theorem dX12_isThere_77 : decode cX12_isThere 77 = .ok (.iload_n 2, 1) := by decide +kernel
theorem dX12_isThere_78 : decode cX12_isThere 78 = .ok (.ifCond .eq 5, 3) := by decide +kernel
theorem dX12_isThere_81 : decode cX12_isThere 81 = .ok (.iconst 1, 1) := by decide +kernel
theorem dX12_isThere_82 : decode cX12_isThere 82 = .ok (.ireturn, 1) := by decide +kernel
theorem dX12_isThere_83 : decode cX12_isThere 83 = .ok (.iinc 1 1, 3) := by decide +kernel
theorem dX12_isThere_86 : decode cX12_isThere 86 = .ok (.goto (-84), 3) := by decide +kernel
theorem dX12_isThere_89 : decode cX12_isThere 89 = .ok (.iconst 0, 1) := by decide +kernel
theorem dX12_isThere_90 : decode cX12_isThere 90 = .ok (.ireturn, 1) := by decide +kernel
theorem dX12_isOften_0 : decode cX12_isOften 0 = .ok (.iload_n 0, 1) := by decide +kernel
theorem dX12_isOften_1 : decode cX12_isOften 1 = .ok (.i2l, 1) := by decide +kernel
theorem dX12_isOften_2 : decode cX12_isOften 2 = .ok (.lconst 1, 1) := by decide +kernel
theorem dX12_isOften_3 : decode cX12_isOften 3 = .ok (.ldc2_w 108, 3) := by decide +kernel
theorem dX12_isOften_6 : decode cX12_isOften 6 = .ok (.invokestatic 80, 3) := by decide +kernel
theorem dX12_isOften_9 : decode cX12_isOften 9 = .ok (.ireturn, 1) := by decide +kernel
theorem dX12_word_0 : decode cX12_word 0 = .ok (.iload_n 1, 1) := by decide +kernel
theorem dX12_word_1 : decode cX12_word 1 = .ok (.invokestatic 110, 3) := by decide +kernel
theorem dX12_word_4 : decode cX12_word 4 = .ok (.ifCond .ne 6, 3) := by decide +kernel
theorem dX12_word_7 : decode cX12_word 7 = .ok (.bipush (-2), 2) := by decide +kernel
theorem dX12_word_9 : decode cX12_word 9 = .ok (.ireturn, 1) := by decide +kernel
theorem dX12_word_10 : decode cX12_word 10 = .ok (.aload_n 0, 1) := by decide +kernel
theorem dX12_word_11 : decode cX12_word 11 = .ok (.invokevirtual 114, 3) := by decide +kernel
theorem dX12_word_14 : decode cX12_word 14 = .ok (.ifCond .ge 10, 3) := by decide +kernel
theorem dX12_word_17 : decode cX12_word 17 = .ok (.aload_n 0, 1) := by decide +kernel
theorem dX12_word_18 : decode cX12_word 18 = .ok (.invokevirtual 118, 3) := by decide +kernel
theorem dX12_word_21 : decode cX12_word 21 = .ok (.ifCond .eq 6, 3) := by decide +kernel
theorem dX12_word_24 : decode cX12_word 24 = .ok (.bipush (-5), 2) := by decide +kernel
theorem dX12_word_26 : decode cX12_word 26 = .ok (.ireturn, 1) := by decide +kernel
theorem dX12_word_27 : decode cX12_word 27 = .ok (.aload_n 0, 1) := by decide +kernel
theorem dX12_word_28 : decode cX12_word 28 = .ok (.getfield 105, 3) := by decide +kernel
theorem dX12_word_31 : decode cX12_word 31 = .ok (.bipush 12, 2) := by decide +kernel
theorem dX12_word_33 : decode cX12_word 33 = .ok (.if_icmp .ne 6, 3) := by decide +kernel
theorem dX12_word_36 : decode cX12_word 36 = .ok (.bipush (-4), 2) := by decide +kernel
theorem dX12_word_38 : decode cX12_word 38 = .ok (.ireturn, 1) := by decide +kernel
theorem dX12_word_39 : decode cX12_word 39 = .ok (.aload_n 0, 1) := by decide +kernel
theorem dX12_word_40 : decode cX12_word 40 = .ok (.getfield 16, 3) := by decide +kernel
theorem dX12_word_43 : decode cX12_word 43 = .ok (.aload_n 0, 1) := by decide +kernel
theorem dX12_word_44 : decode cX12_word 44 = .ok (.getfield 105, 3) := by decide +kernel
theorem dX12_word_47 : decode cX12_word 47 = .ok (.aload_n 0, 1) := by decide +kernel
theorem dX12_word_48 : decode cX12_word 48 = .ok (.getfield 94, 3) := by decide +kernel
theorem dX12_word_51 : decode cX12_word 51 = .ok (.iastore, 1) := by decide +kernel
theorem dX12_word_52 : decode cX12_word 52 = .ok (.iconst 0, 1) := by decide +kernel
theorem dX12_word_53 : decode cX12_word 53 = .ok (.istore_n 2, 1) := by decide +kernel
theorem dX12_word_54 : decode cX12_word 54 = .ok (.iload_n 2, 1) := by decide +kernel
theorem dX12_word_55 : decode cX12_word 55 = .ok (.aload_n 0, 1) := by decide +kernel
theorem dX12_word_56 : decode cX12_word 56 = .ok (.getfield 94, 3) := by decide +kernel
theorem dX12_word_59 : decode cX12_word 59 = .ok (.if_icmp .ge 60, 3) := by decide +kernel
theorem dX12_word_62 : decode cX12_word 62 = .ok (.aload_n 0, 1) := by decide +kernel
theorem dX12_word_63 : decode cX12_word 63 = .ok (.getfield 7, 3) := by decide +kernel
theorem dX12_word_66 : decode cX12_word 66 = .ok (.iconst 5, 1) := by decide +kernel
theorem dX12_word_67 : decode cX12_word 67 = .ok (.aload_n 0, 1) := by decide +kernel
theorem dX12_word_68 : decode cX12_word 68 = .ok (.getfield 105, 3) := by decide +kernel
theorem dX12_word_71 : decode cX12_word 71 = .ok (.imul, 1) := by decide +kernel
theorem dX12_word_72 : decode cX12_word 72 = .ok (.iload_n 2, 1) := by decide +kernel
theorem dX12_word_73 : decode cX12_word 73 = .ok (.iadd, 1) := by decide +kernel
theorem dX12_word_74 : decode cX12_word 74 = .ok (.aload_n 0, 1) := by decide +kernel
theorem dX12_word_75 : decode cX12_word 75 = .ok (.getfield 22, 3) := by decide +kernel
theorem dX12_word_78 : decode cX12_word 78 = .ok (.iload_n 2, 1) := by decide +kernel
theorem dX12_word_79 : decode cX12_word 79 = .ok (.iaload, 1) := by decide +kernel
theorem dX12_word_80 : decode cX12_word 80 = .ok (.bipush 97, 2) := by decide +kernel
theorem dX12_word_82 : decode cX12_word 82 = .ok (.isub, 1) := by decide +kernel
theorem dX12_word_83 : decode cX12_word 83 = .ok (.iastore, 1) := by decide +kernel
theorem dX12_word_84 : decode cX12_word 84 = .ok (.aload_n 0, 1) := by decide +kernel
theorem dX12_word_85 : decode cX12_word 85 = .ok (.getfield 13, 3) := by decide +kernel
theorem dX12_word_88 : decode cX12_word 88 = .ok (.iconst 5, 1) := by decide +kernel
theorem dX12_word_89 : decode cX12_word 89 = .ok (.aload_n 0, 1) := by decide +kernel
theorem dX12_word_90 : decode cX12_word 90 = .ok (.getfield 105, 3) := by decide +kernel
theorem dX12_word_93 : decode cX12_word 93 = .ok (.imul, 1) := by decide +kernel
theorem dX12_word_94 : decode cX12_word 94 = .ok (.iload_n 2, 1) := by decide +kernel
theorem dX12_word_95 : decode cX12_word 95 = .ok (.iadd, 1) := by decide +kernel
theorem dX12_word_96 : decode cX12_word 96 = .ok (.aload_n 0, 1) := by decide +kernel
theorem dX12_word_97 : decode cX12_word 97 = .ok (.getfield 22, 3) := by decide +kernel
theorem dX12_word_100 : decode cX12_word 100 = .ok (.aload_n 0, 1) := by decide +kernel
theorem dX12_word_101 : decode cX12_word 101 = .ok (.getfield 94, 3) := by decide +kernel
theorem dX12_word_104 : decode cX12_word 104 = .ok (.iconst 1, 1) := by decide +kernel
theorem dX12_word_105 : decode cX12_word 105 = .ok (.iadd, 1) := by decide +kernel
theorem dX12_word_106 : decode cX12_word 106 = .ok (.iload_n 2, 1) := by decide +kernel
theorem dX12_word_107 : decode cX12_word 107 = .ok (.iadd, 1) := by decide +kernel
theorem dX12_word_108 : decode cX12_word 108 = .ok (.iaload, 1) := by decide +kernel
theorem dX12_word_109 : decode cX12_word 109 = .ok (.bipush 48, 2) := by decide +kernel
theorem dX12_word_111 : decode cX12_word 111 = .ok (.isub, 1) := by decide +kernel
theorem dX12_word_112 : decode cX12_word 112 = .ok (.iastore, 1) := by decide +kernel
theorem dX12_word_113 : decode cX12_word 113 = .ok (.iinc 2 1, 3) := by decide +kernel
theorem dX12_word_116 : decode cX12_word 116 = .ok (.goto (-62), 3) := by decide +kernel
theorem dX12_word_119 : decode cX12_word 119 = .ok (.aload_n 0, 1) := by decide +kernel
theorem dX12_word_120 : decode cX12_word 120 = .ok (.getfield 19, 3) := by decide +kernel
theorem dX12_word_123 : decode cX12_word 123 = .ok (.aload_n 0, 1) := by decide +kernel
theorem dX12_word_124 : decode cX12_word 124 = .ok (.getfield 105, 3) := by decide +kernel
theorem dX12_word_127 : decode cX12_word 127 = .ok (.iload_n 1, 1) := by decide +kernel
theorem dX12_word_128 : decode cX12_word 128 = .ok (.iastore, 1) := by decide +kernel
theorem dX12_word_129 : decode cX12_word 129 = .ok (.aload_n 0, 1) := by decide +kernel
theorem dX12_word_130 : decode cX12_word 130 = .ok (.dup, 1) := by decide +kernel
theorem dX12_word_131 : decode cX12_word 131 = .ok (.getfield 105, 3) := by decide +kernel
theorem dX12_word_134 : decode cX12_word 134 = .ok (.iconst 1, 1) := by decide +kernel
theorem dX12_word_135 : decode cX12_word 135 = .ok (.iadd, 1) := by decide +kernel
theorem dX12_word_136 : decode cX12_word 136 = .ok (.putfield 105, 3) := by decide +kernel
theorem dX12_word_139 : decode cX12_word 139 = .ok (.aload_n 0, 1) := by decide +kernel
theorem dX12_word_140 : decode cX12_word 140 = .ok (.iconst 0, 1) := by decide +kernel
theorem dX12_word_141 : decode cX12_word 141 = .ok (.putfield 90, 3) := by decide +kernel
theorem dX12_word_144 : decode cX12_word 144 = .ok (.aload_n 0, 1) := by decide +kernel
theorem dX12_word_145 : decode cX12_word 145 = .ok (.getfield 105, 3) := by decide +kernel
theorem dX12_word_148 : decode cX12_word 148 = .ok (.iconst 1, 1) := by decide +kernel
theorem dX12_word_149 : decode cX12_word 149 = .ok (.isub, 1) := by decide +kernel
theorem dX12_word_150 : decode cX12_word 150 = .ok (.ireturn, 1) := by decide +kernel
theorem dX12_isWord_0 : decode cX12_isWord 0 = .ok (.iload_n 1, 1) := by decide +kernel
theorem dX12_isWord_1 : decode cX12_isWord 1 = .ok (.i2l, 1) := by decide +kernel
theorem dX12_isWord_2 : decode cX12_isWord 2 = .ok (.lconst 0, 1) := by decide +kernel
theorem dX12_isWord_3 : decode cX12_isWord 3 = .ok (.aload_n 0, 1) := by decide +kernel
theorem dX12_isWord_4 : decode cX12_isWord 4 = .ok (.getfield 105, 3) := by decide +kernel
theorem dX12_isWord_7 : decode cX12_isWord 7 = .ok (.iconst 1, 1) := by decide +kernel
theorem dX12_isWord_8 : decode cX12_isWord 8 = .ok (.isub, 1) := by decide +kernel
theorem dX12_isWord_9 : decode cX12_isWord 9 = .ok (.i2l, 1) := by decide +kernel
theorem dX12_isWord_10 : decode cX12_isWord 10 = .ok (.invokestatic 80, 3) := by decide +kernel
theorem dX12_isWord_13 : decode cX12_isWord 13 = .ok (.ireturn, 1) := by decide +kernel
theorem dX12_signsOf_0 : decode cX12_signsOf 0 = .ok (.iconst 0, 1) := by decide +kernel
theorem dX12_signsOf_1 : decode cX12_signsOf 1 = .ok (.istore_n 2, 1) := by decide +kernel
theorem dX12_signsOf_2 : decode cX12_signsOf 2 = .ok (.iconst 0, 1) := by decide +kernel
theorem dX12_signsOf_3 : decode cX12_signsOf 3 = .ok (.istore_n 3, 1) := by decide +kernel
theorem dX12_signsOf_4 : decode cX12_signsOf 4 = .ok (.iload_n 3, 1) := by decide +kernel
theorem dX12_signsOf_5 : decode cX12_signsOf 5 = .ok (.aload_n 0, 1) := by decide +kernel
theorem dX12_signsOf_6 : decode cX12_signsOf 6 = .ok (.getfield 16, 3) := by decide +kernel
theorem dX12_signsOf_9 : decode cX12_signsOf 9 = .ok (.iload_n 1, 1) := by decide +kernel
theorem dX12_signsOf_10 : decode cX12_signsOf 10 = .ok (.iaload, 1) := by decide +kernel
theorem dX12_signsOf_11 : decode cX12_signsOf 11 = .ok (.if_icmp .ge 24, 3) := by decide +kernel
theorem dX12_signsOf_14 : decode cX12_signsOf 14 = .ok (.iload_n 2, 1) := by decide +kernel
theorem dX12_signsOf_15 : decode cX12_signsOf 15 = .ok (.iconst 1, 1) := by decide +kernel
theorem dX12_signsOf_16 : decode cX12_signsOf 16 = .ok (.aload_n 0, 1) := by decide +kernel
theorem dX12_signsOf_17 : decode cX12_signsOf 17 = .ok (.getfield 7, 3) := by decide +kernel
theorem dX12_signsOf_20 : decode cX12_signsOf 20 = .ok (.iconst 5, 1) := by decide +kernel
theorem dX12_signsOf_21 : decode cX12_signsOf 21 = .ok (.iload_n 1, 1) := by decide +kernel
theorem dX12_signsOf_22 : decode cX12_signsOf 22 = .ok (.imul, 1) := by decide +kernel
theorem dX12_signsOf_23 : decode cX12_signsOf 23 = .ok (.iload_n 3, 1) := by decide +kernel
theorem dX12_signsOf_24 : decode cX12_signsOf 24 = .ok (.iadd, 1) := by decide +kernel
theorem dX12_signsOf_25 : decode cX12_signsOf 25 = .ok (.iaload, 1) := by decide +kernel
theorem dX12_signsOf_26 : decode cX12_signsOf 26 = .ok (.ishl, 1) := by decide +kernel
theorem dX12_signsOf_27 : decode cX12_signsOf 27 = .ok (.ior, 1) := by decide +kernel
theorem dX12_signsOf_28 : decode cX12_signsOf 28 = .ok (.istore_n 2, 1) := by decide +kernel
theorem dX12_signsOf_29 : decode cX12_signsOf 29 = .ok (.iinc 3 1, 3) := by decide +kernel
theorem dX12_signsOf_32 : decode cX12_signsOf 32 = .ok (.goto (-28), 3) := by decide +kernel
theorem dX12_signsOf_35 : decode cX12_signsOf 35 = .ok (.iload_n 2, 1) := by decide +kernel
theorem dX12_signsOf_36 : decode cX12_signsOf 36 = .ok (.ireturn, 1) := by decide +kernel
theorem dX12_about_0 : decode cX12_about 0 = .ok (.aload_n 0, 1) := by decide +kernel
theorem dX12_about_1 : decode cX12_about 1 = .ok (.iload_n 1, 1) := by decide +kernel
theorem dX12_about_2 : decode cX12_about 2 = .ok (.invokevirtual 122, 3) := by decide +kernel
theorem dX12_about_5 : decode cX12_about 5 = .ok (.ifCond .ne 5, 3) := by decide +kernel
theorem dX12_about_8 : decode cX12_about 8 = .ok (.iconst (-1), 1) := by decide +kernel
theorem dX12_about_9 : decode cX12_about 9 = .ok (.ireturn, 1) := by decide +kernel
theorem dX12_about_10 : decode cX12_about 10 = .ok (.iload_n 2, 1) := by decide +kernel
theorem dX12_about_11 : decode cX12_about 11 = .ok (.i2l, 1) := by decide +kernel
theorem dX12_about_12 : decode cX12_about 12 = .ok (.ldc2_w 125, 3) := by decide +kernel
theorem dX12_about_15 : decode cX12_about 15 = .ok (.ldc2_w 127, 3) := by decide +kernel
theorem dX12_about_18 : decode cX12_about 18 = .ok (.invokestatic 80, 3) := by decide +kernel
theorem dX12_about_21 : decode cX12_about 21 = .ok (.ifCond .eq 35, 3) := by decide +kernel
theorem dX12_about_24 : decode cX12_about 24 = .ok (.iload_n 2, 1) := by decide +kernel
theorem dX12_about_25 : decode cX12_about 25 = .ok (.bipush 10, 2) := by decide +kernel
theorem dX12_about_27 : decode cX12_about 27 = .ok (.isub, 1) := by decide +kernel
theorem dX12_about_28 : decode cX12_about 28 = .ok (.aload_n 0, 1) := by decide +kernel
theorem dX12_about_29 : decode cX12_about 29 = .ok (.getfield 16, 3) := by decide +kernel
theorem dX12_about_32 : decode cX12_about 32 = .ok (.iload_n 1, 1) := by decide +kernel
theorem dX12_about_33 : decode cX12_about 33 = .ok (.iaload, 1) := by decide +kernel
theorem dX12_about_34 : decode cX12_about 34 = .ok (.if_icmp .ge 19, 3) := by decide +kernel
theorem dX12_about_37 : decode cX12_about 37 = .ok (.aload_n 0, 1) := by decide +kernel
theorem dX12_about_38 : decode cX12_about 38 = .ok (.getfield 7, 3) := by decide +kernel
theorem dX12_about_41 : decode cX12_about 41 = .ok (.iconst 5, 1) := by decide +kernel
theorem dX12_about_42 : decode cX12_about 42 = .ok (.iload_n 1, 1) := by decide +kernel
theorem dX12_about_43 : decode cX12_about 43 = .ok (.imul, 1) := by decide +kernel
theorem dX12_about_44 : decode cX12_about 44 = .ok (.iload_n 2, 1) := by decide +kernel
theorem dX12_about_45 : decode cX12_about 45 = .ok (.iadd, 1) := by decide +kernel
theorem dX12_about_46 : decode cX12_about 46 = .ok (.bipush 10, 2) := by decide +kernel
theorem dX12_about_48 : decode cX12_about 48 = .ok (.isub, 1) := by decide +kernel
theorem dX12_about_49 : decode cX12_about 49 = .ok (.iaload, 1) := by decide +kernel
theorem dX12_about_50 : decode cX12_about 50 = .ok (.goto 5, 3) := by decide +kernel
theorem dX12_about_53 : decode cX12_about 53 = .ok (.bipush (-6), 2) := by decide +kernel
theorem dX12_about_55 : decode cX12_about 55 = .ok (.ireturn, 1) := by decide +kernel
theorem dX12_about_56 : decode cX12_about 56 = .ok (.iload_n 2, 1) := by decide +kernel
theorem dX12_about_57 : decode cX12_about 57 = .ok (.i2l, 1) := by decide +kernel
theorem dX12_about_58 : decode cX12_about 58 = .ok (.ldc2_w 129, 3) := by decide +kernel
theorem dX12_about_61 : decode cX12_about 61 = .ok (.ldc2_w 131, 3) := by decide +kernel
theorem dX12_about_64 : decode cX12_about 64 = .ok (.invokestatic 80, 3) := by decide +kernel
theorem dX12_about_67 : decode cX12_about 67 = .ok (.ifCond .eq 35, 3) := by decide +kernel
theorem dX12_about_70 : decode cX12_about 70 = .ok (.iload_n 2, 1) := by decide +kernel
theorem dX12_about_71 : decode cX12_about 71 = .ok (.bipush 20, 2) := by decide +kernel
theorem dX12_about_73 : decode cX12_about 73 = .ok (.isub, 1) := by decide +kernel
theorem dX12_about_74 : decode cX12_about 74 = .ok (.aload_n 0, 1) := by decide +kernel
theorem dX12_about_75 : decode cX12_about 75 = .ok (.getfield 16, 3) := by decide +kernel
theorem dX12_about_78 : decode cX12_about 78 = .ok (.iload_n 1, 1) := by decide +kernel
theorem dX12_about_79 : decode cX12_about 79 = .ok (.iaload, 1) := by decide +kernel
theorem dX12_about_80 : decode cX12_about 80 = .ok (.if_icmp .ge 19, 3) := by decide +kernel
theorem dX12_about_83 : decode cX12_about 83 = .ok (.aload_n 0, 1) := by decide +kernel
theorem dX12_about_84 : decode cX12_about 84 = .ok (.getfield 13, 3) := by decide +kernel
theorem dX12_about_87 : decode cX12_about 87 = .ok (.iconst 5, 1) := by decide +kernel
theorem dX12_about_88 : decode cX12_about 88 = .ok (.iload_n 1, 1) := by decide +kernel
theorem dX12_about_89 : decode cX12_about 89 = .ok (.imul, 1) := by decide +kernel
theorem dX12_about_90 : decode cX12_about 90 = .ok (.iload_n 2, 1) := by decide +kernel
theorem dX12_about_91 : decode cX12_about 91 = .ok (.iadd, 1) := by decide +kernel
theorem dX12_about_92 : decode cX12_about 92 = .ok (.bipush 20, 2) := by decide +kernel
theorem dX12_about_94 : decode cX12_about 94 = .ok (.isub, 1) := by decide +kernel
theorem dX12_about_95 : decode cX12_about 95 = .ok (.iaload, 1) := by decide +kernel
theorem dX12_about_96 : decode cX12_about 96 = .ok (.goto 5, 3) := by decide +kernel
theorem dX12_about_99 : decode cX12_about 99 = .ok (.bipush (-6), 2) := by decide +kernel
theorem dX12_about_101 : decode cX12_about 101 = .ok (.ireturn, 1) := by decide +kernel
theorem dX12_about_102 : decode cX12_about 102 = .ok (.iload_n 2, 1) := by decide +kernel
theorem dX12_about_103 : decode cX12_about 103 = .ok (.tableswitch 67 0 3 #[29, 36, 43, 49], 29) := by decide +kernel
theorem dX12_about_132 : decode cX12_about 132 = .ok (.aload_n 0, 1) := by decide +kernel
theorem dX12_about_133 : decode cX12_about 133 = .ok (.getfield 16, 3) := by decide +kernel
theorem dX12_about_136 : decode cX12_about 136 = .ok (.iload_n 1, 1) := by decide +kernel
theorem dX12_about_137 : decode cX12_about 137 = .ok (.iaload, 1) := by decide +kernel
theorem dX12_about_138 : decode cX12_about 138 = .ok (.ireturn, 1) := by decide +kernel
theorem dX12_about_139 : decode cX12_about 139 = .ok (.aload_n 0, 1) := by decide +kernel
theorem dX12_about_140 : decode cX12_about 140 = .ok (.getfield 19, 3) := by decide +kernel
theorem dX12_about_143 : decode cX12_about 143 = .ok (.iload_n 1, 1) := by decide +kernel
theorem dX12_about_144 : decode cX12_about 144 = .ok (.iaload, 1) := by decide +kernel
theorem dX12_about_145 : decode cX12_about 145 = .ok (.ireturn, 1) := by decide +kernel
theorem dX12_about_146 : decode cX12_about 146 = .ok (.aload_n 0, 1) := by decide +kernel
theorem dX12_about_147 : decode cX12_about 147 = .ok (.iload_n 1, 1) := by decide +kernel
theorem dX12_about_148 : decode cX12_about 148 = .ok (.invokevirtual 133, 3) := by decide +kernel
theorem dX12_about_151 : decode cX12_about 151 = .ok (.ireturn, 1) := by decide +kernel
theorem dX12_about_152 : decode cX12_about 152 = .ok (.aload_n 0, 1) := by decide +kernel
theorem dX12_about_153 : decode cX12_about 153 = .ok (.invokevirtual 137, 3) := by decide +kernel
theorem dX12_about_156 : decode cX12_about 156 = .ok (.aload_n 0, 1) := by decide +kernel
theorem dX12_about_157 : decode cX12_about 157 = .ok (.iload_n 1, 1) := by decide +kernel
theorem dX12_about_158 : decode cX12_about 158 = .ok (.invokevirtual 140, 3) := by decide +kernel
theorem dX12_about_161 : decode cX12_about 161 = .ok (.ifCond .eq 7, 3) := by decide +kernel
theorem dX12_about_164 : decode cX12_about 164 = .ok (.iconst 1, 1) := by decide +kernel
theorem dX12_about_165 : decode cX12_about 165 = .ok (.goto 4, 3) := by decide +kernel
theorem dX12_about_168 : decode cX12_about 168 = .ok (.iconst 0, 1) := by decide +kernel
theorem dX12_about_169 : decode cX12_about 169 = .ok (.ireturn, 1) := by decide +kernel
theorem dX12_about_170 : decode cX12_about 170 = .ok (.bipush (-2), 2) := by decide +kernel
theorem dX12_about_172 : decode cX12_about 172 = .ok (.ireturn, 1) := by decide +kernel
theorem dX12_often_0 : decode cX12_often 0 = .ok (.aload_n 0, 1) := by decide +kernel
theorem dX12_often_1 : decode cX12_often 1 = .ok (.iload_n 1, 1) := by decide +kernel
theorem dX12_often_2 : decode cX12_often 2 = .ok (.invokevirtual 122, 3) := by decide +kernel
theorem dX12_often_5 : decode cX12_often 5 = .ok (.ifCond .ne 5, 3) := by decide +kernel
theorem dX12_often_8 : decode cX12_often 8 = .ok (.iconst (-1), 1) := by decide +kernel
theorem dX12_often_9 : decode cX12_often 9 = .ok (.ireturn, 1) := by decide +kernel
theorem dX12_often_10 : decode cX12_often 10 = .ok (.iload_n 2, 1) := by decide +kernel
theorem dX12_often_11 : decode cX12_often 11 = .ok (.invokestatic 110, 3) := by decide +kernel
theorem dX12_often_14 : decode cX12_often 14 = .ok (.ifCond .ne 6, 3) := by decide +kernel
theorem dX12_often_17 : decode cX12_often 17 = .ok (.bipush (-2), 2) := by decide +kernel
theorem dX12_often_19 : decode cX12_often 19 = .ok (.ireturn, 1) := by decide +kernel
theorem dX12_often_20 : decode cX12_often 20 = .ok (.aload_n 0, 1) := by decide +kernel
theorem dX12_often_21 : decode cX12_often 21 = .ok (.getfield 19, 3) := by decide +kernel
theorem dX12_often_24 : decode cX12_often 24 = .ok (.iload_n 1, 1) := by decide +kernel
theorem dX12_often_25 : decode cX12_often 25 = .ok (.iaload, 1) := by decide +kernel
theorem dX12_often_26 : decode cX12_often 26 = .ok (.istore_n 3, 1) := by decide +kernel
theorem dX12_often_27 : decode cX12_often 27 = .ok (.aload_n 0, 1) := by decide +kernel
theorem dX12_often_28 : decode cX12_often 28 = .ok (.getfield 19, 3) := by decide +kernel
theorem dX12_often_31 : decode cX12_often 31 = .ok (.iload_n 1, 1) := by decide +kernel
theorem dX12_often_32 : decode cX12_often 32 = .ok (.iload_n 2, 1) := by decide +kernel
theorem dX12_often_33 : decode cX12_often 33 = .ok (.iastore, 1) := by decide +kernel
theorem dX12_often_34 : decode cX12_often 34 = .ok (.iload_n 3, 1) := by decide +kernel
theorem dX12_often_35 : decode cX12_often 35 = .ok (.ireturn, 1) := by decide +kernel
theorem dX12_findCommon_0 : decode cX12_findCommon 0 = .ok (.iconst 0, 1) := by decide +kernel
theorem dX12_findCommon_1 : decode cX12_findCommon 1 = .ok (.istore_n 1, 1) := by decide +kernel
theorem dX12_findCommon_2 : decode cX12_findCommon 2 = .ok (.iload_n 1, 1) := by decide +kernel
theorem dX12_findCommon_3 : decode cX12_findCommon 3 = .ok (.bipush 100, 2) := by decide +kernel
theorem dX12_findCommon_5 : decode cX12_findCommon 5 = .ok (.if_icmp .ge 16, 3) := by decide +kernel
theorem dX12_findCommon_8 : decode cX12_findCommon 8 = .ok (.aload_n 0, 1) := by decide +kernel
theorem dX12_findCommon_9 : decode cX12_findCommon 9 = .ok (.getfield 25, 3) := by decide +kernel
theorem dX12_findCommon_12 : decode cX12_findCommon 12 = .ok (.iload_n 1, 1) := by decide +kernel
theorem dX12_findCommon_13 : decode cX12_findCommon 13 = .ok (.iconst 0, 1) := by decide +kernel
theorem dX12_findCommon_14 : decode cX12_findCommon 14 = .ok (.iastore, 1) := by decide +kernel
theorem dX12_findCommon_15 : decode cX12_findCommon 15 = .ok (.iinc 1 1, 3) := by decide +kernel
theorem dX12_findCommon_18 : decode cX12_findCommon 18 = .ok (.goto (-16), 3) := by decide +kernel
theorem dX12_findCommon_21 : decode cX12_findCommon 21 = .ok (.iconst 0, 1) := by decide +kernel
theorem dX12_findCommon_22 : decode cX12_findCommon 22 = .ok (.istore_n 1, 1) := by decide +kernel
theorem dX12_findCommon_23 : decode cX12_findCommon 23 = .ok (.iload_n 1, 1) := by decide +kernel
theorem dX12_findCommon_24 : decode cX12_findCommon 24 = .ok (.aload_n 0, 1) := by decide +kernel
theorem dX12_findCommon_25 : decode cX12_findCommon 25 = .ok (.getfield 105, 3) := by decide +kernel
theorem dX12_findCommon_28 : decode cX12_findCommon 28 = .ok (.if_icmp .ge 65, 3) := by decide +kernel
theorem dX12_findCommon_31 : decode cX12_findCommon 31 = .ok (.iconst 0, 1) := by decide +kernel
theorem dX12_findCommon_32 : decode cX12_findCommon 32 = .ok (.istore_n 2, 1) := by decide +kernel
theorem dX12_findCommon_33 : decode cX12_findCommon 33 = .ok (.iload_n 2, 1) := by decide +kernel
theorem dX12_findCommon_34 : decode cX12_findCommon 34 = .ok (.aload_n 0, 1) := by decide +kernel
theorem dX12_findCommon_35 : decode cX12_findCommon 35 = .ok (.getfield 16, 3) := by decide +kernel
theorem dX12_findCommon_38 : decode cX12_findCommon 38 = .ok (.iload_n 1, 1) := by decide +kernel
theorem dX12_findCommon_39 : decode cX12_findCommon 39 = .ok (.iaload, 1) := by decide +kernel
theorem dX12_findCommon_40 : decode cX12_findCommon 40 = .ok (.if_icmp .ge 47, 3) := by decide +kernel
theorem dX12_findCommon_43 : decode cX12_findCommon 43 = .ok (.aload_n 0, 1) := by decide +kernel
theorem dX12_findCommon_44 : decode cX12_findCommon 44 = .ok (.getfield 25, 3) := by decide +kernel
theorem dX12_findCommon_47 : decode cX12_findCommon 47 = .ok (.bipush 10, 2) := by decide +kernel
theorem dX12_findCommon_49 : decode cX12_findCommon 49 = .ok (.aload_n 0, 1) := by decide +kernel
theorem dX12_findCommon_50 : decode cX12_findCommon 50 = .ok (.getfield 7, 3) := by decide +kernel
theorem dX12_findCommon_53 : decode cX12_findCommon 53 = .ok (.iconst 5, 1) := by decide +kernel
theorem dX12_findCommon_54 : decode cX12_findCommon 54 = .ok (.iload_n 1, 1) := by decide +kernel
theorem dX12_findCommon_55 : decode cX12_findCommon 55 = .ok (.imul, 1) := by decide +kernel
theorem dX12_findCommon_56 : decode cX12_findCommon 56 = .ok (.iload_n 2, 1) := by decide +kernel
theorem dX12_findCommon_57 : decode cX12_findCommon 57 = .ok (.iadd, 1) := by decide +kernel
theorem dX12_findCommon_58 : decode cX12_findCommon 58 = .ok (.iaload, 1) := by decide +kernel
theorem dX12_findCommon_59 : decode cX12_findCommon 59 = .ok (.imul, 1) := by decide +kernel
theorem dX12_findCommon_60 : decode cX12_findCommon 60 = .ok (.aload_n 0, 1) := by decide +kernel
theorem dX12_findCommon_61 : decode cX12_findCommon 61 = .ok (.getfield 13, 3) := by decide +kernel
theorem dX12_findCommon_64 : decode cX12_findCommon 64 = .ok (.iconst 5, 1) := by decide +kernel
theorem dX12_findCommon_65 : decode cX12_findCommon 65 = .ok (.iload_n 1, 1) := by decide +kernel
theorem dX12_findCommon_66 : decode cX12_findCommon 66 = .ok (.imul, 1) := by decide +kernel
theorem dX12_findCommon_67 : decode cX12_findCommon 67 = .ok (.iload_n 2, 1) := by decide +kernel
theorem dX12_findCommon_68 : decode cX12_findCommon 68 = .ok (.iadd, 1) := by decide +kernel
theorem dX12_findCommon_69 : decode cX12_findCommon 69 = .ok (.iaload, 1) := by decide +kernel
theorem dX12_findCommon_70 : decode cX12_findCommon 70 = .ok (.iadd, 1) := by decide +kernel
theorem dX12_findCommon_71 : decode cX12_findCommon 71 = .ok (.dup2, 1) := by decide +kernel
theorem dX12_findCommon_72 : decode cX12_findCommon 72 = .ok (.iaload, 1) := by decide +kernel
theorem dX12_findCommon_73 : decode cX12_findCommon 73 = .ok (.aload_n 0, 1) := by decide +kernel
theorem dX12_findCommon_74 : decode cX12_findCommon 74 = .ok (.getfield 19, 3) := by decide +kernel
theorem dX12_findCommon_77 : decode cX12_findCommon 77 = .ok (.iload_n 1, 1) := by decide +kernel
theorem dX12_findCommon_78 : decode cX12_findCommon 78 = .ok (.iaload, 1) := by decide +kernel
theorem dX12_findCommon_79 : decode cX12_findCommon 79 = .ok (.iadd, 1) := by decide +kernel
theorem dX12_findCommon_80 : decode cX12_findCommon 80 = .ok (.iastore, 1) := by decide +kernel
theorem dX12_findCommon_81 : decode cX12_findCommon 81 = .ok (.iinc 2 1, 3) := by decide +kernel
theorem dX12_findCommon_84 : decode cX12_findCommon 84 = .ok (.goto (-51), 3) := by decide +kernel
theorem dX12_findCommon_87 : decode cX12_findCommon 87 = .ok (.iinc 1 1, 3) := by decide +kernel
theorem dX12_findCommon_90 : decode cX12_findCommon 90 = .ok (.goto (-67), 3) := by decide +kernel
theorem dX12_findCommon_93 : decode cX12_findCommon 93 = .ok (.iconst 0, 1) := by decide +kernel
theorem dX12_findCommon_94 : decode cX12_findCommon 94 = .ok (.istore_n 1, 1) := by decide +kernel
theorem dX12_findCommon_95 : decode cX12_findCommon 95 = .ok (.iload_n 1, 1) := by decide +kernel
theorem dX12_findCommon_96 : decode cX12_findCommon 96 = .ok (.bipush 10, 2) := by decide +kernel
theorem dX12_findCommon_98 : decode cX12_findCommon 98 = .ok (.if_icmp .ge 67, 3) := by decide +kernel
theorem dX12_findCommon_101 : decode cX12_findCommon 101 = .ok (.aload_n 0, 1) := by decide +kernel
theorem dX12_findCommon_102 : decode cX12_findCommon 102 = .ok (.getfield 28, 3) := by decide +kernel
theorem dX12_findCommon_105 : decode cX12_findCommon 105 = .ok (.iload_n 1, 1) := by decide +kernel
theorem dX12_findCommon_106 : decode cX12_findCommon 106 = .ok (.bipush (-6), 2) := by decide +kernel
theorem dX12_findCommon_108 : decode cX12_findCommon 108 = .ok (.iastore, 1) := by decide +kernel
theorem dX12_findCommon_109 : decode cX12_findCommon 109 = .ok (.iconst 0, 1) := by decide +kernel
theorem dX12_findCommon_110 : decode cX12_findCommon 110 = .ok (.istore_n 2, 1) := by decide +kernel
theorem dX12_findCommon_111 : decode cX12_findCommon 111 = .ok (.iconst 0, 1) := by decide +kernel
theorem dX12_findCommon_112 : decode cX12_findCommon 112 = .ok (.istore_n 3, 1) := by decide +kernel
theorem dX12_findCommon_113 : decode cX12_findCommon 113 = .ok (.iload_n 3, 1) := by decide +kernel
theorem dX12_findCommon_114 : decode cX12_findCommon 114 = .ok (.bipush 10, 2) := by decide +kernel
theorem dX12_findCommon_116 : decode cX12_findCommon 116 = .ok (.if_icmp .ge 43, 3) := by decide +kernel
theorem dX12_findCommon_119 : decode cX12_findCommon 119 = .ok (.aload_n 0, 1) := by decide +kernel
theorem dX12_findCommon_120 : decode cX12_findCommon 120 = .ok (.getfield 25, 3) := by decide +kernel
theorem dX12_findCommon_123 : decode cX12_findCommon 123 = .ok (.bipush 10, 2) := by decide +kernel
theorem dX12_findCommon_125 : decode cX12_findCommon 125 = .ok (.iload_n 1, 1) := by decide +kernel
theorem dX12_findCommon_126 : decode cX12_findCommon 126 = .ok (.imul, 1) := by decide +kernel
theorem dX12_findCommon_127 : decode cX12_findCommon 127 = .ok (.iload_n 3, 1) := by decide +kernel
theorem dX12_findCommon_128 : decode cX12_findCommon 128 = .ok (.iadd, 1) := by decide +kernel
theorem dX12_findCommon_129 : decode cX12_findCommon 129 = .ok (.iaload, 1) := by decide +kernel
theorem dX12_findCommon_130 : decode cX12_findCommon 130 = .ok (.iload_n 2, 1) := by decide +kernel
theorem dX12_findCommon_131 : decode cX12_findCommon 131 = .ok (.if_icmp .le 22, 3) := by decide +kernel
theorem dX12_findCommon_134 : decode cX12_findCommon 134 = .ok (.aload_n 0, 1) := by decide +kernel
theorem dX12_findCommon_135 : decode cX12_findCommon 135 = .ok (.getfield 28, 3) := by decide +kernel
theorem dX12_findCommon_138 : decode cX12_findCommon 138 = .ok (.iload_n 1, 1) := by decide +kernel
theorem dX12_findCommon_139 : decode cX12_findCommon 139 = .ok (.iload_n 3, 1) := by decide +kernel
theorem dX12_findCommon_140 : decode cX12_findCommon 140 = .ok (.iastore, 1) := by decide +kernel
theorem dX12_findCommon_141 : decode cX12_findCommon 141 = .ok (.aload_n 0, 1) := by decide +kernel
theorem dX12_findCommon_142 : decode cX12_findCommon 142 = .ok (.getfield 25, 3) := by decide +kernel
theorem dX12_findCommon_145 : decode cX12_findCommon 145 = .ok (.bipush 10, 2) := by decide +kernel
theorem dX12_findCommon_147 : decode cX12_findCommon 147 = .ok (.iload_n 1, 1) := by decide +kernel
theorem dX12_findCommon_148 : decode cX12_findCommon 148 = .ok (.imul, 1) := by decide +kernel
theorem dX12_findCommon_149 : decode cX12_findCommon 149 = .ok (.iload_n 3, 1) := by decide +kernel
theorem dX12_findCommon_150 : decode cX12_findCommon 150 = .ok (.iadd, 1) := by decide +kernel
theorem dX12_findCommon_151 : decode cX12_findCommon 151 = .ok (.iaload, 1) := by decide +kernel
theorem dX12_findCommon_152 : decode cX12_findCommon 152 = .ok (.istore_n 2, 1) := by decide +kernel
theorem dX12_findCommon_153 : decode cX12_findCommon 153 = .ok (.iinc 3 1, 3) := by decide +kernel
theorem dX12_findCommon_156 : decode cX12_findCommon 156 = .ok (.goto (-43), 3) := by decide +kernel
theorem dX12_findCommon_159 : decode cX12_findCommon 159 = .ok (.iinc 1 1, 3) := by decide +kernel
theorem dX12_findCommon_162 : decode cX12_findCommon 162 = .ok (.goto (-67), 3) := by decide +kernel
theorem dX12_findCommon_165 : decode cX12_findCommon 165 = .ok (.iconst 0, 1) := by decide +kernel
theorem dX12_findCommon_166 : decode cX12_findCommon 166 = .ok (.istore_n 1, 1) := by decide +kernel
theorem dX12_findCommon_167 : decode cX12_findCommon 167 = .ok (.iload_n 1, 1) := by decide +kernel
theorem dX12_findCommon_168 : decode cX12_findCommon 168 = .ok (.aload_n 0, 1) := by decide +kernel
theorem dX12_findCommon_169 : decode cX12_findCommon 169 = .ok (.getfield 105, 3) := by decide +kernel
theorem dX12_findCommon_172 : decode cX12_findCommon 172 = .ok (.if_icmp .ge 78, 3) := by decide +kernel
theorem dX12_findCommon_175 : decode cX12_findCommon 175 = .ok (.aload_n 0, 1) := by decide +kernel
theorem dX12_findCommon_176 : decode cX12_findCommon 176 = .ok (.getfield 31, 3) := by decide +kernel
theorem dX12_findCommon_179 : decode cX12_findCommon 179 = .ok (.iload_n 1, 1) := by decide +kernel
theorem dX12_findCommon_180 : decode cX12_findCommon 180 = .ok (.iconst 1, 1) := by decide +kernel
theorem dX12_findCommon_181 : decode cX12_findCommon 181 = .ok (.iastore, 1) := by decide +kernel
theorem dX12_findCommon_182 : decode cX12_findCommon 182 = .ok (.iconst 0, 1) := by decide +kernel
theorem dX12_findCommon_183 : decode cX12_findCommon 183 = .ok (.istore_n 2, 1) := by decide +kernel
theorem dX12_findCommon_184 : decode cX12_findCommon 184 = .ok (.iload_n 2, 1) := by decide +kernel
theorem dX12_findCommon_185 : decode cX12_findCommon 185 = .ok (.aload_n 0, 1) := by decide +kernel
theorem dX12_findCommon_186 : decode cX12_findCommon 186 = .ok (.getfield 16, 3) := by decide +kernel
theorem dX12_findCommon_189 : decode cX12_findCommon 189 = .ok (.iload_n 1, 1) := by decide +kernel
theorem dX12_findCommon_190 : decode cX12_findCommon 190 = .ok (.iaload, 1) := by decide +kernel
theorem dX12_findCommon_191 : decode cX12_findCommon 191 = .ok (.if_icmp .ge 53, 3) := by decide +kernel
theorem dX12_findCommon_194 : decode cX12_findCommon 194 = .ok (.aload_n 0, 1) := by decide +kernel
theorem dX12_findCommon_195 : decode cX12_findCommon 195 = .ok (.getfield 31, 3) := by decide +kernel
theorem dX12_findCommon_198 : decode cX12_findCommon 198 = .ok (.iload_n 1, 1) := by decide +kernel
theorem dX12_findCommon_199 : decode cX12_findCommon 199 = .ok (.aload_n 0, 1) := by decide +kernel
theorem dX12_findCommon_200 : decode cX12_findCommon 200 = .ok (.getfield 28, 3) := by decide +kernel
theorem dX12_findCommon_203 : decode cX12_findCommon 203 = .ok (.aload_n 0, 1) := by decide +kernel
theorem dX12_findCommon_204 : decode cX12_findCommon 204 = .ok (.getfield 7, 3) := by decide +kernel
theorem dX12_findCommon_207 : decode cX12_findCommon 207 = .ok (.iconst 5, 1) := by decide +kernel
theorem dX12_findCommon_208 : decode cX12_findCommon 208 = .ok (.iload_n 1, 1) := by decide +kernel
theorem dX12_findCommon_209 : decode cX12_findCommon 209 = .ok (.imul, 1) := by decide +kernel
theorem dX12_findCommon_210 : decode cX12_findCommon 210 = .ok (.iload_n 2, 1) := by decide +kernel
theorem dX12_findCommon_211 : decode cX12_findCommon 211 = .ok (.iadd, 1) := by decide +kernel
theorem dX12_findCommon_212 : decode cX12_findCommon 212 = .ok (.iaload, 1) := by decide +kernel
theorem dX12_findCommon_213 : decode cX12_findCommon 213 = .ok (.iaload, 1) := by decide +kernel
theorem dX12_findCommon_214 : decode cX12_findCommon 214 = .ok (.aload_n 0, 1) := by decide +kernel
theorem dX12_findCommon_215 : decode cX12_findCommon 215 = .ok (.getfield 13, 3) := by decide +kernel
theorem dX12_findCommon_218 : decode cX12_findCommon 218 = .ok (.iconst 5, 1) := by decide +kernel
theorem dX12_findCommon_219 : decode cX12_findCommon 219 = .ok (.iload_n 1, 1) := by decide +kernel
theorem dX12_findCommon_220 : decode cX12_findCommon 220 = .ok (.imul, 1) := by decide +kernel
theorem dX12_findCommon_221 : decode cX12_findCommon 221 = .ok (.iload_n 2, 1) := by decide +kernel
theorem dX12_findCommon_222 : decode cX12_findCommon 222 = .ok (.iadd, 1) := by decide +kernel
theorem dX12_findCommon_223 : decode cX12_findCommon 223 = .ok (.iaload, 1) := by decide +kernel
theorem dX12_findCommon_224 : decode cX12_findCommon 224 = .ok (.if_icmp .ne 12, 3) := by decide +kernel
theorem dX12_findCommon_227 : decode cX12_findCommon 227 = .ok (.aload_n 0, 1) := by decide +kernel
theorem dX12_findCommon_228 : decode cX12_findCommon 228 = .ok (.getfield 31, 3) := by decide +kernel
theorem dX12_findCommon_231 : decode cX12_findCommon 231 = .ok (.iload_n 1, 1) := by decide +kernel
theorem dX12_findCommon_232 : decode cX12_findCommon 232 = .ok (.iaload, 1) := by decide +kernel
theorem dX12_findCommon_233 : decode cX12_findCommon 233 = .ok (.goto 4, 3) := by decide +kernel
theorem dX12_findCommon_236 : decode cX12_findCommon 236 = .ok (.iconst 0, 1) := by decide +kernel
theorem dX12_findCommon_237 : decode cX12_findCommon 237 = .ok (.iastore, 1) := by decide +kernel
theorem dX12_findCommon_238 : decode cX12_findCommon 238 = .ok (.iinc 2 1, 3) := by decide +kernel
theorem dX12_findCommon_241 : decode cX12_findCommon 241 = .ok (.goto (-57), 3) := by decide +kernel
theorem dX12_findCommon_244 : decode cX12_findCommon 244 = .ok (.iinc 1 1, 3) := by decide +kernel
theorem dX12_findCommon_247 : decode cX12_findCommon 247 = .ok (.goto (-80), 3) := by decide +kernel
theorem dX12_findCommon_250 : decode cX12_findCommon 250 = .ok (.return_, 1) := by decide +kernel
theorem dX12_isRegular_0 : decode cX12_isRegular 0 = .ok (.aload_n 0, 1) := by decide +kernel
theorem dX12_isRegular_1 : decode cX12_isRegular 1 = .ok (.getfield 31, 3) := by decide +kernel
theorem dX12_isRegular_4 : decode cX12_isRegular 4 = .ok (.iload_n 1, 1) := by decide +kernel
theorem dX12_isRegular_5 : decode cX12_isRegular 5 = .ok (.iaload, 1) := by decide +kernel
theorem dX12_isRegular_6 : decode cX12_isRegular 6 = .ok (.iconst 1, 1) := by decide +kernel
theorem dX12_isRegular_7 : decode cX12_isRegular 7 = .ok (.if_icmp .ne 7, 3) := by decide +kernel
theorem dX12_isRegular_10 : decode cX12_isRegular 10 = .ok (.iconst 1, 1) := by decide +kernel
theorem dX12_isRegular_11 : decode cX12_isRegular 11 = .ok (.goto 4, 3) := by decide +kernel
theorem dX12_isRegular_14 : decode cX12_isRegular 14 = .ok (.iconst 0, 1) := by decide +kernel
theorem dX12_isRegular_15 : decode cX12_isRegular 15 = .ok (.ireturn, 1) := by decide +kernel
theorem dX12_allOf_0 : decode cX12_allOf 0 = .ok (.iconst 0, 1) := by decide +kernel
theorem dX12_allOf_1 : decode cX12_allOf 1 = .ok (.istore_n 2, 1) := by decide +kernel
theorem dX12_allOf_2 : decode cX12_allOf 2 = .ok (.iconst 0, 1) := by decide +kernel
theorem dX12_allOf_3 : decode cX12_allOf 3 = .ok (.istore_n 3, 1) := by decide +kernel
theorem dX12_allOf_4 : decode cX12_allOf 4 = .ok (.iload_n 3, 1) := by decide +kernel
theorem dX12_allOf_5 : decode cX12_allOf 5 = .ok (.bipush 10, 2) := by decide +kernel
theorem dX12_allOf_7 : decode cX12_allOf 7 = .ok (.if_icmp .ge 23, 3) := by decide +kernel
theorem dX12_allOf_10 : decode cX12_allOf 10 = .ok (.iload_n 2, 1) := by decide +kernel
theorem dX12_allOf_11 : decode cX12_allOf 11 = .ok (.aload_n 0, 1) := by decide +kernel
theorem dX12_allOf_12 : decode cX12_allOf 12 = .ok (.getfield 25, 3) := by decide +kernel
theorem dX12_allOf_15 : decode cX12_allOf 15 = .ok (.bipush 10, 2) := by decide +kernel
theorem dX12_allOf_17 : decode cX12_allOf 17 = .ok (.iload_n 1, 1) := by decide +kernel
theorem dX12_allOf_18 : decode cX12_allOf 18 = .ok (.imul, 1) := by decide +kernel
theorem dX12_allOf_19 : decode cX12_allOf 19 = .ok (.iload_n 3, 1) := by decide +kernel
theorem dX12_allOf_20 : decode cX12_allOf 20 = .ok (.iadd, 1) := by decide +kernel
theorem dX12_allOf_21 : decode cX12_allOf 21 = .ok (.iaload, 1) := by decide +kernel
theorem dX12_allOf_22 : decode cX12_allOf 22 = .ok (.iadd, 1) := by decide +kernel
theorem dX12_allOf_23 : decode cX12_allOf 23 = .ok (.istore_n 2, 1) := by decide +kernel
theorem dX12_allOf_24 : decode cX12_allOf 24 = .ok (.iinc 3 1, 3) := by decide +kernel
theorem dX12_allOf_27 : decode cX12_allOf 27 = .ok (.goto (-23), 3) := by decide +kernel
theorem dX12_allOf_30 : decode cX12_allOf 30 = .ok (.iload_n 2, 1) := by decide +kernel
theorem dX12_allOf_31 : decode cX12_allOf 31 = .ok (.ireturn, 1) := by decide +kernel
theorem dX12_has_0 : decode cX12_has 0 = .ok (.iload_n 1, 1) := by decide +kernel
theorem dX12_has_1 : decode cX12_has 1 = .ok (.invokestatic 143, 3) := by decide +kernel
theorem dX12_has_4 : decode cX12_has 4 = .ok (.ifCond .ne 7, 3) := by decide +kernel
theorem dX12_has_7 : decode cX12_has 7 = .ok (.ldc2_w 146, 3) := by decide +kernel
theorem dX12_has_10 : decode cX12_has 10 = .ok (.lreturn, 1) := by decide +kernel
theorem dX12_has_11 : decode cX12_has 11 = .ok (.iload_n 2, 1) := by decide +kernel
theorem dX12_has_12 : decode cX12_has 12 = .ok (.i2l, 1) := by decide +kernel
theorem dX12_has_13 : decode cX12_has 13 = .ok (.lconst 0, 1) := by decide +kernel
theorem dX12_has_14 : decode cX12_has 14 = .ok (.ldc2_w 78, 3) := by decide +kernel
theorem dX12_has_17 : decode cX12_has 17 = .ok (.invokestatic 80, 3) := by decide +kernel
theorem dX12_has_20 : decode cX12_has 20 = .ok (.ifCond .eq 10, 3) := by decide +kernel
theorem dX12_has_23 : decode cX12_has 23 = .ok (.iload_n 3, 1) := by decide +kernel
theorem dX12_has_24 : decode cX12_has 24 = .ok (.invokestatic 148, 3) := by decide +kernel
theorem dX12_has_27 : decode cX12_has 27 = .ok (.ifCond .ne 7, 3) := by decide +kernel
theorem dX12_has_30 : decode cX12_has 30 = .ok (.ldc2_w 151, 3) := by decide +kernel
theorem dX12_has_33 : decode cX12_has 33 = .ok (.lreturn, 1) := by decide +kernel
theorem dX12_has_34 : decode cX12_has 34 = .ok (.aload_n 0, 1) := by decide +kernel
theorem dX12_has_35 : decode cX12_has 35 = .ok (.invokevirtual 137, 3) := by decide +kernel
theorem dX12_has_38 : decode cX12_has 38 = .ok (.aload_n 0, 1) := by decide +kernel
theorem dX12_has_39 : decode cX12_has 39 = .ok (.getfield 25, 3) := by decide +kernel
theorem dX12_has_42 : decode cX12_has 42 = .ok (.bipush 10, 2) := by decide +kernel
theorem dX12_has_44 : decode cX12_has 44 = .ok (.iload_n 1, 1) := by decide +kernel
theorem dX12_has_45 : decode cX12_has 45 = .ok (.imul, 1) := by decide +kernel
theorem dX12_has_46 : decode cX12_has 46 = .ok (.iload_n 2, 1) := by decide +kernel
theorem dX12_has_47 : decode cX12_has 47 = .ok (.iadd, 1) := by decide +kernel
theorem dX12_has_48 : decode cX12_has 48 = .ok (.iaload, 1) := by decide +kernel
theorem dX12_has_49 : decode cX12_has 49 = .ok (.i2l, 1) := by decide +kernel
theorem dX12_has_50 : decode cX12_has 50 = .ok (.aload_n 0, 1) := by decide +kernel
theorem dX12_has_51 : decode cX12_has 51 = .ok (.iload_n 1, 1) := by decide +kernel
theorem dX12_has_52 : decode cX12_has 52 = .ok (.invokevirtual 153, 3) := by decide +kernel
theorem dX12_has_55 : decode cX12_has 55 = .ok (.i2l, 1) := by decide +kernel
theorem dX12_has_56 : decode cX12_has 56 = .ok (.iload_n 3, 1) := by decide +kernel
theorem dX12_has_57 : decode cX12_has 57 = .ok (.invokestatic 156, 3) := by decide +kernel
theorem dX12_has_60 : decode cX12_has 60 = .ok (.lreturn, 1) := by decide +kernel
theorem dX12_common_0 : decode cX12_common 0 = .ok (.iload_n 1, 1) := by decide +kernel
theorem dX12_common_1 : decode cX12_common 1 = .ok (.invokestatic 143, 3) := by decide +kernel
theorem dX12_common_4 : decode cX12_common 4 = .ok (.ifCond .ne 5, 3) := by decide +kernel
theorem dX12_common_7 : decode cX12_common 7 = .ok (.iconst (-1), 1) := by decide +kernel
theorem dX12_common_8 : decode cX12_common 8 = .ok (.ireturn, 1) := by decide +kernel
theorem dX12_common_9 : decode cX12_common 9 = .ok (.aload_n 0, 1) := by decide +kernel
theorem dX12_common_10 : decode cX12_common 10 = .ok (.invokevirtual 137, 3) := by decide +kernel
theorem dX12_common_13 : decode cX12_common 13 = .ok (.aload_n 0, 1) := by decide +kernel
theorem dX12_common_14 : decode cX12_common 14 = .ok (.getfield 28, 3) := by decide +kernel
theorem dX12_common_17 : decode cX12_common 17 = .ok (.iload_n 1, 1) := by decide +kernel
theorem dX12_common_18 : decode cX12_common 18 = .ok (.iaload, 1) := by decide +kernel
theorem dX12_common_19 : decode cX12_common 19 = .ok (.ireturn, 1) := by decide +kernel
theorem dX12_ruled_0 : decode cX12_ruled 0 = .ok (.iload_n 1, 1) := by decide +kernel
theorem dX12_ruled_1 : decode cX12_ruled 1 = .ok (.invokestatic 148, 3) := by decide +kernel
theorem dX12_ruled_4 : decode cX12_ruled 4 = .ok (.ifCond .ne 7, 3) := by decide +kernel
theorem dX12_ruled_7 : decode cX12_ruled 7 = .ok (.ldc2_w 151, 3) := by decide +kernel
theorem dX12_ruled_10 : decode cX12_ruled 10 = .ok (.lreturn, 1) := by decide +kernel
theorem dX12_ruled_11 : decode cX12_ruled 11 = .ok (.aload_n 0, 1) := by decide +kernel
theorem dX12_ruled_12 : decode cX12_ruled 12 = .ok (.invokevirtual 137, 3) := by decide +kernel
theorem dX12_ruled_15 : decode cX12_ruled 15 = .ok (.lconst 0, 1) := by decide +kernel
theorem dX12_ruled_16 : decode cX12_ruled 16 = .ok (.lstore_n 2, 1) := by decide +kernel
theorem dX12_ruled_17 : decode cX12_ruled 17 = .ok (.lconst 0, 1) := by decide +kernel
theorem dX12_ruled_18 : decode cX12_ruled 18 = .ok (.lstore 4, 2) := by decide +kernel
theorem dX12_ruled_20 : decode cX12_ruled 20 = .ok (.iconst 0, 1) := by decide +kernel
theorem dX12_ruled_21 : decode cX12_ruled 21 = .ok (.istore 6, 2) := by decide +kernel
theorem dX12_ruled_23 : decode cX12_ruled 23 = .ok (.iload 6, 2) := by decide +kernel
theorem dX12_ruled_25 : decode cX12_ruled 25 = .ok (.bipush 10, 2) := by decide +kernel
theorem dX12_ruled_27 : decode cX12_ruled 27 = .ok (.if_icmp .ge 57, 3) := by decide +kernel
theorem dX12_ruled_30 : decode cX12_ruled 30 = .ok (.lload_n 2, 1) := by decide +kernel
theorem dX12_ruled_31 : decode cX12_ruled 31 = .ok (.aload_n 0, 1) := by decide +kernel
theorem dX12_ruled_32 : decode cX12_ruled 32 = .ok (.getfield 28, 3) := by decide +kernel
theorem dX12_ruled_35 : decode cX12_ruled 35 = .ok (.iload 6, 2) := by decide +kernel
theorem dX12_ruled_37 : decode cX12_ruled 37 = .ok (.iaload, 1) := by decide +kernel
theorem dX12_ruled_38 : decode cX12_ruled 38 = .ok (.ifCond .ge 7, 3) := by decide +kernel
theorem dX12_ruled_41 : decode cX12_ruled 41 = .ok (.lconst 0, 1) := by decide +kernel
theorem dX12_ruled_42 : decode cX12_ruled 42 = .ok (.goto 22, 3) := by decide +kernel
theorem dX12_ruled_45 : decode cX12_ruled 45 = .ok (.aload_n 0, 1) := by decide +kernel
theorem dX12_ruled_46 : decode cX12_ruled 46 = .ok (.getfield 25, 3) := by decide +kernel
theorem dX12_ruled_49 : decode cX12_ruled 49 = .ok (.bipush 10, 2) := by decide +kernel
theorem dX12_ruled_51 : decode cX12_ruled 51 = .ok (.iload 6, 2) := by decide +kernel
theorem dX12_ruled_53 : decode cX12_ruled 53 = .ok (.imul, 1) := by decide +kernel
theorem dX12_ruled_54 : decode cX12_ruled 54 = .ok (.aload_n 0, 1) := by decide +kernel
theorem dX12_ruled_55 : decode cX12_ruled 55 = .ok (.getfield 28, 3) := by decide +kernel
theorem dX12_ruled_58 : decode cX12_ruled 58 = .ok (.iload 6, 2) := by decide +kernel
theorem dX12_ruled_60 : decode cX12_ruled 60 = .ok (.iaload, 1) := by decide +kernel
theorem dX12_ruled_61 : decode cX12_ruled 61 = .ok (.iadd, 1) := by decide +kernel
theorem dX12_ruled_62 : decode cX12_ruled 62 = .ok (.iaload, 1) := by decide +kernel
theorem dX12_ruled_63 : decode cX12_ruled 63 = .ok (.i2l, 1) := by decide +kernel
theorem dX12_ruled_64 : decode cX12_ruled 64 = .ok (.ladd, 1) := by decide +kernel
theorem dX12_ruled_65 : decode cX12_ruled 65 = .ok (.lstore_n 2, 1) := by decide +kernel
theorem dX12_ruled_66 : decode cX12_ruled 66 = .ok (.lload 4, 2) := by decide +kernel
theorem dX12_ruled_68 : decode cX12_ruled 68 = .ok (.aload_n 0, 1) := by decide +kernel
theorem dX12_ruled_69 : decode cX12_ruled 69 = .ok (.iload 6, 2) := by decide +kernel
theorem dX12_ruled_71 : decode cX12_ruled 71 = .ok (.invokevirtual 153, 3) := by decide +kernel
theorem dX12_ruled_74 : decode cX12_ruled 74 = .ok (.i2l, 1) := by decide +kernel
theorem dX12_ruled_75 : decode cX12_ruled 75 = .ok (.ladd, 1) := by decide +kernel
theorem dX12_ruled_76 : decode cX12_ruled 76 = .ok (.lstore 4, 2) := by decide +kernel
theorem dX12_ruled_78 : decode cX12_ruled 78 = .ok (.iinc 6 1, 3) := by decide +kernel
theorem dX12_ruled_81 : decode cX12_ruled 81 = .ok (.goto (-58), 3) := by decide +kernel
theorem dX12_ruled_84 : decode cX12_ruled 84 = .ok (.lload_n 2, 1) := by decide +kernel
theorem dX12_ruled_85 : decode cX12_ruled 85 = .ok (.lload 4, 2) := by decide +kernel
theorem dX12_ruled_87 : decode cX12_ruled 87 = .ok (.iload_n 1, 1) := by decide +kernel
theorem dX12_ruled_88 : decode cX12_ruled 88 = .ok (.invokestatic 156, 3) := by decide +kernel
theorem dX12_ruled_91 : decode cX12_ruled 91 = .ok (.lreturn, 1) := by decide +kernel
theorem dX12_knows_0 : decode cX12_knows 0 = .ok (.iload_n 1, 1) := by decide +kernel
theorem dX12_knows_1 : decode cX12_knows 1 = .ok (.invokestatic 160, 3) := by decide +kernel
theorem dX12_knows_4 : decode cX12_knows 4 = .ok (.ifCond .ne 5, 3) := by decide +kernel
theorem dX12_knows_7 : decode cX12_knows 7 = .ok (.iconst (-1), 1) := by decide +kernel
theorem dX12_knows_8 : decode cX12_knows 8 = .ok (.ireturn, 1) := by decide +kernel
theorem dX12_knows_9 : decode cX12_knows 9 = .ok (.iload_n 2, 1) := by decide +kernel
theorem dX12_knows_10 : decode cX12_knows 10 = .ok (.invokestatic 148, 3) := by decide +kernel
theorem dX12_knows_13 : decode cX12_knows 13 = .ok (.ifCond .eq 31, 3) := by decide +kernel
theorem dX12_knows_16 : decode cX12_knows 16 = .ok (.iload_n 3, 1) := by decide +kernel
theorem dX12_knows_17 : decode cX12_knows 17 = .ok (.i2l, 1) := by decide +kernel
theorem dX12_knows_18 : decode cX12_knows 18 = .ok (.lconst 0, 1) := by decide +kernel
theorem dX12_knows_19 : decode cX12_knows 19 = .ok (.iload_n 2, 1) := by decide +kernel
theorem dX12_knows_20 : decode cX12_knows 20 = .ok (.ifCond .ne 9, 3) := by decide +kernel
theorem dX12_knows_23 : decode cX12_knows 23 = .ok (.ldc2_w 163, 3) := by decide +kernel
theorem dX12_knows_26 : decode cX12_knows 26 = .ok (.goto 12, 3) := by decide +kernel
theorem dX12_knows_29 : decode cX12_knows 29 = .ok (.iconst 1, 1) := by decide +kernel
theorem dX12_knows_30 : decode cX12_knows 30 = .ok (.aload_n 0, 1) := by decide +kernel
theorem dX12_knows_31 : decode cX12_knows 31 = .ok (.getfield 105, 3) := by decide +kernel
theorem dX12_knows_34 : decode cX12_knows 34 = .ok (.ishl, 1) := by decide +kernel
theorem dX12_knows_35 : decode cX12_knows 35 = .ok (.iconst 1, 1) := by decide +kernel
theorem dX12_knows_36 : decode cX12_knows 36 = .ok (.isub, 1) := by decide +kernel
theorem dX12_knows_37 : decode cX12_knows 37 = .ok (.i2l, 1) := by decide +kernel
theorem dX12_knows_38 : decode cX12_knows 38 = .ok (.invokestatic 80, 3) := by decide +kernel
theorem dX12_knows_41 : decode cX12_knows 41 = .ok (.ifCond .ne 6, 3) := by decide +kernel
theorem dX12_knows_44 : decode cX12_knows 44 = .ok (.bipush (-2), 2) := by decide +kernel
theorem dX12_knows_46 : decode cX12_knows 46 = .ok (.ireturn, 1) := by decide +kernel
theorem dX12_knows_47 : decode cX12_knows 47 = .ok (.iload_n 2, 1) := by decide +kernel
theorem dX12_knows_48 : decode cX12_knows 48 = .ok (.ifCond .ne 12, 3) := by decide +kernel
theorem dX12_knows_51 : decode cX12_knows 51 = .ok (.aload_n 0, 1) := by decide +kernel
theorem dX12_knows_52 : decode cX12_knows 52 = .ok (.getfield 34, 3) := by decide +kernel
theorem dX12_knows_55 : decode cX12_knows 55 = .ok (.iload_n 1, 1) := by decide +kernel
theorem dX12_knows_56 : decode cX12_knows 56 = .ok (.iaload, 1) := by decide +kernel
theorem dX12_knows_57 : decode cX12_knows 57 = .ok (.goto 9, 3) := by decide +kernel
theorem dX12_knows_60 : decode cX12_knows 60 = .ok (.aload_n 0, 1) := by decide +kernel
theorem dX12_knows_61 : decode cX12_knows 61 = .ok (.getfield 37, 3) := by decide +kernel
theorem dX12_knows_64 : decode cX12_knows 64 = .ok (.iload_n 1, 1) := by decide +kernel
theorem dX12_knows_65 : decode cX12_knows 65 = .ok (.iaload, 1) := by decide +kernel
theorem dX12_knows_66 : decode cX12_knows 66 = .ok (.istore 4, 2) := by decide +kernel
theorem dX12_knows_68 : decode cX12_knows 68 = .ok (.iload_n 2, 1) := by decide +kernel
theorem dX12_knows_69 : decode cX12_knows 69 = .ok (.ifCond .ne 13, 3) := by decide +kernel
theorem dX12_knows_72 : decode cX12_knows 72 = .ok (.aload_n 0, 1) := by decide +kernel
theorem dX12_knows_73 : decode cX12_knows 73 = .ok (.getfield 34, 3) := by decide +kernel
theorem dX12_knows_76 : decode cX12_knows 76 = .ok (.iload_n 1, 1) := by decide +kernel
theorem dX12_knows_77 : decode cX12_knows 77 = .ok (.iload_n 3, 1) := by decide +kernel
theorem dX12_knows_78 : decode cX12_knows 78 = .ok (.iastore, 1) := by decide +kernel
theorem dX12_knows_79 : decode cX12_knows 79 = .ok (.goto 10, 3) := by decide +kernel
theorem dX12_knows_82 : decode cX12_knows 82 = .ok (.aload_n 0, 1) := by decide +kernel
theorem dX12_knows_83 : decode cX12_knows 83 = .ok (.getfield 37, 3) := by decide +kernel
theorem dX12_knows_86 : decode cX12_knows 86 = .ok (.iload_n 1, 1) := by decide +kernel
theorem dX12_knows_87 : decode cX12_knows 87 = .ok (.iload_n 3, 1) := by decide +kernel
theorem dX12_knows_88 : decode cX12_knows 88 = .ok (.iastore, 1) := by decide +kernel
theorem dX12_knows_89 : decode cX12_knows 89 = .ok (.iload 4, 2) := by decide +kernel
theorem dX12_knows_91 : decode cX12_knows 91 = .ok (.ireturn, 1) := by decide +kernel
theorem dX12_mix_0 : decode cX12_mix 0 = .ok (.iload_n 2, 1) := by decide +kernel
theorem dX12_mix_1 : decode cX12_mix 1 = .ok (.iconst (-1), 1) := by decide +kernel
theorem dX12_mix_2 : decode cX12_mix 2 = .ok (.if_icmp .ne 12, 3) := by decide +kernel
theorem dX12_mix_5 : decode cX12_mix 5 = .ok (.iload_n 3, 1) := by decide +kernel
theorem dX12_mix_6 : decode cX12_mix 6 = .ok (.iconst (-1), 1) := by decide +kernel
theorem dX12_mix_7 : decode cX12_mix 7 = .ok (.if_icmp .ne 7, 3) := by decide +kernel
theorem dX12_mix_10 : decode cX12_mix 10 = .ok (.iconst 1, 1) := by decide +kernel
theorem dX12_mix_11 : decode cX12_mix 11 = .ok (.goto 4, 3) := by decide +kernel
theorem dX12_mix_14 : decode cX12_mix 14 = .ok (.iconst 0, 1) := by decide +kernel
theorem dX12_mix_15 : decode cX12_mix 15 = .ok (.istore 4, 2) := by decide +kernel
theorem dX12_mix_17 : decode cX12_mix 17 = .ok (.iload_n 1, 1) := by decide +kernel
theorem dX12_mix_18 : decode cX12_mix 18 = .ok (.invokestatic 160, 3) := by decide +kernel
theorem dX12_mix_21 : decode cX12_mix 21 = .ok (.ifCond .eq 27, 3) := by decide +kernel
theorem dX12_mix_24 : decode cX12_mix 24 = .ok (.iload 4, 2) := by decide +kernel
theorem dX12_mix_26 : decode cX12_mix 26 = .ok (.ifCond .ne 24, 3) := by decide +kernel
theorem dX12_mix_29 : decode cX12_mix 29 = .ok (.iload_n 2, 1) := by decide +kernel
theorem dX12_mix_30 : decode cX12_mix 30 = .ok (.invokestatic 143, 3) := by decide +kernel
theorem dX12_mix_33 : decode cX12_mix 33 = .ok (.ifCond .eq 15, 3) := by decide +kernel
theorem dX12_mix_36 : decode cX12_mix 36 = .ok (.iload_n 3, 1) := by decide +kernel
theorem dX12_mix_37 : decode cX12_mix 37 = .ok (.invokestatic 143, 3) := by decide +kernel
theorem dX12_mix_40 : decode cX12_mix 40 = .ok (.ifCond .eq 8, 3) := by decide +kernel
theorem dX12_mix_43 : decode cX12_mix 43 = .ok (.iload_n 2, 1) := by decide +kernel
theorem dX12_mix_44 : decode cX12_mix 44 = .ok (.iload_n 3, 1) := by decide +kernel
theorem dX12_mix_45 : decode cX12_mix 45 = .ok (.if_icmp .ne 5, 3) := by decide +kernel
theorem dX12_mix_48 : decode cX12_mix 48 = .ok (.iconst (-1), 1) := by decide +kernel
theorem dX12_mix_49 : decode cX12_mix 49 = .ok (.ireturn, 1) := by decide +kernel
theorem dX12_mix_50 : decode cX12_mix 50 = .ok (.aload_n 0, 1) := by decide +kernel
theorem dX12_mix_51 : decode cX12_mix 51 = .ok (.getfield 40, 3) := by decide +kernel
theorem dX12_mix_54 : decode cX12_mix 54 = .ok (.iload_n 1, 1) := by decide +kernel
theorem dX12_mix_55 : decode cX12_mix 55 = .ok (.iaload, 1) := by decide +kernel
theorem dX12_mix_56 : decode cX12_mix 56 = .ok (.istore 5, 2) := by decide +kernel
theorem dX12_mix_58 : decode cX12_mix 58 = .ok (.aload_n 0, 1) := by decide +kernel
theorem dX12_mix_59 : decode cX12_mix 59 = .ok (.getfield 40, 3) := by decide +kernel
theorem dX12_mix_62 : decode cX12_mix 62 = .ok (.iload_n 1, 1) := by decide +kernel
theorem dX12_mix_63 : decode cX12_mix 63 = .ok (.iload 4, 2) := by decide +kernel
theorem dX12_mix_65 : decode cX12_mix 65 = .ok (.ifCond .eq 8, 3) := by decide +kernel
theorem dX12_mix_68 : decode cX12_mix 68 = .ok (.bipush (-6), 2) := by decide +kernel
theorem dX12_mix_70 : decode cX12_mix 70 = .ok (.goto 23, 3) := by decide +kernel
theorem dX12_mix_73 : decode cX12_mix 73 = .ok (.iload_n 2, 1) := by decide +kernel
theorem dX12_mix_74 : decode cX12_mix 74 = .ok (.iload_n 3, 1) := by decide +kernel
theorem dX12_mix_75 : decode cX12_mix 75 = .ok (.if_icmp .ge 12, 3) := by decide +kernel
theorem dX12_mix_78 : decode cX12_mix 78 = .ok (.bipush 10, 2) := by decide +kernel
theorem dX12_mix_80 : decode cX12_mix 80 = .ok (.iload_n 2, 1) := by decide +kernel
theorem dX12_mix_81 : decode cX12_mix 81 = .ok (.imul, 1) := by decide +kernel
theorem dX12_mix_82 : decode cX12_mix 82 = .ok (.iload_n 3, 1) := by decide +kernel
theorem dX12_mix_83 : decode cX12_mix 83 = .ok (.iadd, 1) := by decide +kernel
theorem dX12_mix_84 : decode cX12_mix 84 = .ok (.goto 9, 3) := by decide +kernel
theorem dX12_mix_87 : decode cX12_mix 87 = .ok (.bipush 10, 2) := by decide +kernel
theorem dX12_mix_89 : decode cX12_mix 89 = .ok (.iload_n 3, 1) := by decide +kernel
theorem dX12_mix_90 : decode cX12_mix 90 = .ok (.imul, 1) := by decide +kernel
theorem dX12_mix_91 : decode cX12_mix 91 = .ok (.iload_n 2, 1) := by decide +kernel
theorem dX12_mix_92 : decode cX12_mix 92 = .ok (.iadd, 1) := by decide +kernel
theorem dX12_mix_93 : decode cX12_mix 93 = .ok (.iastore, 1) := by decide +kernel
theorem dX12_mix_94 : decode cX12_mix 94 = .ok (.iload 5, 2) := by decide +kernel
theorem dX12_mix_96 : decode cX12_mix 96 = .ok (.ireturn, 1) := by decide +kernel
theorem dX12_takenFor_0 : decode cX12_takenFor 0 = .ok (.aload_n 0, 1) := by decide +kernel
theorem dX12_takenFor_1 : decode cX12_takenFor 1 = .ok (.getfield 40, 3) := by decide +kernel
theorem dX12_takenFor_4 : decode cX12_takenFor 4 = .ok (.iload_n 1, 1) := by decide +kernel
theorem dX12_takenFor_5 : decode cX12_takenFor 5 = .ok (.iaload, 1) := by decide +kernel
theorem dX12_takenFor_6 : decode cX12_takenFor 6 = .ok (.istore_n 3, 1) := by decide +kernel
theorem dX12_takenFor_7 : decode cX12_takenFor 7 = .ok (.iload_n 3, 1) := by decide +kernel
theorem dX12_takenFor_8 : decode cX12_takenFor 8 = .ok (.ifCond .ge 7, 3) := by decide +kernel
theorem dX12_takenFor_11 : decode cX12_takenFor 11 = .ok (.iload_n 2, 1) := by decide +kernel
theorem dX12_takenFor_12 : decode cX12_takenFor 12 = .ok (.goto 34, 3) := by decide +kernel
theorem dX12_takenFor_15 : decode cX12_takenFor 15 = .ok (.iload_n 3, 1) := by decide +kernel
theorem dX12_takenFor_16 : decode cX12_takenFor 16 = .ok (.bipush 10, 2) := by decide +kernel
theorem dX12_takenFor_18 : decode cX12_takenFor 18 = .ok (.idiv, 1) := by decide +kernel
theorem dX12_takenFor_19 : decode cX12_takenFor 19 = .ok (.iload_n 2, 1) := by decide +kernel
theorem dX12_takenFor_20 : decode cX12_takenFor 20 = .ok (.if_icmp .ne 10, 3) := by decide +kernel
theorem dX12_takenFor_23 : decode cX12_takenFor 23 = .ok (.iload_n 3, 1) := by decide +kernel
theorem dX12_takenFor_24 : decode cX12_takenFor 24 = .ok (.bipush 10, 2) := by decide +kernel
theorem dX12_takenFor_26 : decode cX12_takenFor 26 = .ok (.irem, 1) := by decide +kernel
theorem dX12_takenFor_27 : decode cX12_takenFor 27 = .ok (.goto 19, 3) := by decide +kernel
theorem dX12_takenFor_30 : decode cX12_takenFor 30 = .ok (.iload_n 3, 1) := by decide +kernel
theorem dX12_takenFor_31 : decode cX12_takenFor 31 = .ok (.bipush 10, 2) := by decide +kernel
theorem dX12_takenFor_33 : decode cX12_takenFor 33 = .ok (.irem, 1) := by decide +kernel
theorem dX12_takenFor_34 : decode cX12_takenFor 34 = .ok (.iload_n 2, 1) := by decide +kernel
theorem dX12_takenFor_35 : decode cX12_takenFor 35 = .ok (.if_icmp .ne 10, 3) := by decide +kernel
theorem dX12_takenFor_38 : decode cX12_takenFor 38 = .ok (.iload_n 3, 1) := by decide +kernel
theorem dX12_takenFor_39 : decode cX12_takenFor 39 = .ok (.bipush 10, 2) := by decide +kernel
theorem dX12_takenFor_41 : decode cX12_takenFor 41 = .ok (.idiv, 1) := by decide +kernel
theorem dX12_takenFor_42 : decode cX12_takenFor 42 = .ok (.goto 4, 3) := by decide +kernel
theorem dX12_takenFor_45 : decode cX12_takenFor 45 = .ok (.iload_n 2, 1) := by decide +kernel
theorem dX12_takenFor_46 : decode cX12_takenFor 46 = .ok (.ireturn, 1) := by decide +kernel
theorem dX12_findReading_0 : decode cX12_findReading 0 = .ok (.aload_n 0, 1) := by decide +kernel
theorem dX12_findReading_1 : decode cX12_findReading 1 = .ok (.iconst 3, 1) := by decide +kernel
theorem dX12_findReading_2 : decode cX12_findReading 2 = .ok (.putfield 165, 3) := by decide +kernel
theorem dX12_findReading_5 : decode cX12_findReading 5 = .ok (.aload_n 0, 1) := by decide +kernel
theorem dX12_findReading_6 : decode cX12_findReading 6 = .ok (.bipush (-6), 2) := by decide +kernel
theorem dX12_findReading_8 : decode cX12_findReading 8 = .ok (.putfield 168, 3) := by decide +kernel
theorem dX12_findReading_11 : decode cX12_findReading 11 = .ok (.iload_n 3, 1) := by decide +kernel
theorem dX12_findReading_12 : decode cX12_findReading 12 = .ok (.iload 4, 2) := by decide +kernel
theorem dX12_findReading_14 : decode cX12_findReading 14 = .ok (.ishr, 1) := by decide +kernel
theorem dX12_findReading_15 : decode cX12_findReading 15 = .ok (.iconst 1, 1) := by decide +kernel
theorem dX12_findReading_16 : decode cX12_findReading 16 = .ok (.iand, 1) := by decide +kernel
theorem dX12_findReading_17 : decode cX12_findReading 17 = .ok (.iconst 1, 1) := by decide +kernel
theorem dX12_findReading_18 : decode cX12_findReading 18 = .ok (.if_icmp .ne 17, 3) := by decide +kernel
theorem dX12_findReading_21 : decode cX12_findReading 21 = .ok (.aload_n 0, 1) := by decide +kernel
theorem dX12_findReading_22 : decode cX12_findReading 22 = .ok (.iconst 0, 1) := by decide +kernel
theorem dX12_findReading_23 : decode cX12_findReading 23 = .ok (.putfield 165, 3) := by decide +kernel
theorem dX12_findReading_26 : decode cX12_findReading 26 = .ok (.aload_n 0, 1) := by decide +kernel
theorem dX12_findReading_27 : decode cX12_findReading 27 = .ok (.iload 4, 2) := by decide +kernel
theorem dX12_findReading_29 : decode cX12_findReading 29 = .ok (.putfield 168, 3) := by decide +kernel
theorem dX12_findReading_32 : decode cX12_findReading 32 = .ok (.goto 74, 3) := by decide +kernel
theorem dX12_findReading_35 : decode cX12_findReading 35 = .ok (.aload_n 0, 1) := by decide +kernel
theorem dX12_findReading_36 : decode cX12_findReading 36 = .ok (.iload 4, 2) := by decide +kernel
theorem dX12_findReading_38 : decode cX12_findReading 38 = .ok (.invokevirtual 133, 3) := by decide +kernel
theorem dX12_findReading_41 : decode cX12_findReading 41 = .ok (.iload_n 2, 1) := by decide +kernel
theorem dX12_findReading_42 : decode cX12_findReading 42 = .ok (.iconst (-1), 1) := by decide +kernel
theorem dX12_findReading_43 : decode cX12_findReading 43 = .ok (.ixor, 1) := by decide +kernel
theorem dX12_findReading_44 : decode cX12_findReading 44 = .ok (.iand, 1) := by decide +kernel
theorem dX12_findReading_45 : decode cX12_findReading 45 = .ok (.ifCond .ne 22, 3) := by decide +kernel
theorem dX12_findReading_48 : decode cX12_findReading 48 = .ok (.aload_n 0, 1) := by decide +kernel
theorem dX12_findReading_49 : decode cX12_findReading 49 = .ok (.iconst 1, 1) := by decide +kernel
theorem dX12_findReading_50 : decode cX12_findReading 50 = .ok (.putfield 165, 3) := by decide +kernel
theorem dX12_findReading_53 : decode cX12_findReading 53 = .ok (.aload_n 0, 1) := by decide +kernel
theorem dX12_findReading_54 : decode cX12_findReading 54 = .ok (.aload_n 0, 1) := by decide +kernel
theorem dX12_findReading_55 : decode cX12_findReading 55 = .ok (.iload_n 1, 1) := by decide +kernel
theorem dX12_findReading_56 : decode cX12_findReading 56 = .ok (.iload 4, 2) := by decide +kernel
theorem dX12_findReading_58 : decode cX12_findReading 58 = .ok (.invokevirtual 171, 3) := by decide +kernel
theorem dX12_findReading_61 : decode cX12_findReading 61 = .ok (.putfield 168, 3) := by decide +kernel
theorem dX12_findReading_64 : decode cX12_findReading 64 = .ok (.goto 42, 3) := by decide +kernel
theorem dX12_findReading_67 : decode cX12_findReading 67 = .ok (.iload_n 2, 1) := by decide +kernel
theorem dX12_findReading_68 : decode cX12_findReading 68 = .ok (.aload_n 0, 1) := by decide +kernel
theorem dX12_findReading_69 : decode cX12_findReading 69 = .ok (.getfield 7, 3) := by decide +kernel
theorem dX12_findReading_72 : decode cX12_findReading 72 = .ok (.iconst 5, 1) := by decide +kernel
theorem dX12_findReading_73 : decode cX12_findReading 73 = .ok (.iload 4, 2) := by decide +kernel
theorem dX12_findReading_75 : decode cX12_findReading 75 = .ok (.imul, 1) := by decide +kernel
theorem dX12_findReading_76 : decode cX12_findReading 76 = .ok (.iaload, 1) := by decide +kernel
theorem dX12_findReading_77 : decode cX12_findReading 77 = .ok (.ishr, 1) := by decide +kernel
theorem dX12_findReading_78 : decode cX12_findReading 78 = .ok (.iconst 1, 1) := by decide +kernel
theorem dX12_findReading_79 : decode cX12_findReading 79 = .ok (.iand, 1) := by decide +kernel
theorem dX12_findReading_80 : decode cX12_findReading 80 = .ok (.iconst 1, 1) := by decide +kernel
theorem dX12_findReading_81 : decode cX12_findReading 81 = .ok (.if_icmp .ne 25, 3) := by decide +kernel
theorem dX12_findReading_84 : decode cX12_findReading 84 = .ok (.aload_n 0, 1) := by decide +kernel
theorem dX12_findReading_85 : decode cX12_findReading 85 = .ok (.iconst 2, 1) := by decide +kernel
theorem dX12_findReading_86 : decode cX12_findReading 86 = .ok (.putfield 165, 3) := by decide +kernel
theorem dX12_findReading_89 : decode cX12_findReading 89 = .ok (.aload_n 0, 1) := by decide +kernel
theorem dX12_findReading_90 : decode cX12_findReading 90 = .ok (.aload_n 0, 1) := by decide +kernel
theorem dX12_findReading_91 : decode cX12_findReading 91 = .ok (.aload_n 0, 1) := by decide +kernel
theorem dX12_findReading_92 : decode cX12_findReading 92 = .ok (.getfield 7, 3) := by decide +kernel
theorem dX12_findReading_95 : decode cX12_findReading 95 = .ok (.iconst 5, 1) := by decide +kernel
theorem dX12_findReading_96 : decode cX12_findReading 96 = .ok (.iload 4, 2) := by decide +kernel
theorem dX12_findReading_98 : decode cX12_findReading 98 = .ok (.imul, 1) := by decide +kernel
theorem dX12_findReading_99 : decode cX12_findReading 99 = .ok (.iaload, 1) := by decide +kernel
theorem dX12_findReading_100 : decode cX12_findReading 100 = .ok (.invokevirtual 175, 3) := by decide +kernel
theorem dX12_findReading_103 : decode cX12_findReading 103 = .ok (.putfield 168, 3) := by decide +kernel
theorem dX12_findReading_106 : decode cX12_findReading 106 = .ok (.return_, 1) := by decide +kernel
theorem dX12_soundsAs_0 : decode cX12_soundsAs 0 = .ok (.aload_n 0, 1) := by decide +kernel
theorem dX12_soundsAs_1 : decode cX12_soundsAs 1 = .ok (.getfield 16, 3) := by decide +kernel
theorem dX12_soundsAs_4 : decode cX12_soundsAs 4 = .ok (.iload_n 3, 1) := by decide +kernel
theorem dX12_soundsAs_5 : decode cX12_soundsAs 5 = .ok (.iaload, 1) := by decide +kernel
theorem dX12_soundsAs_6 : decode cX12_soundsAs 6 = .ok (.aload_n 0, 1) := by decide +kernel
theorem dX12_soundsAs_7 : decode cX12_soundsAs 7 = .ok (.getfield 16, 3) := by decide +kernel
theorem dX12_soundsAs_10 : decode cX12_soundsAs 10 = .ok (.iload_n 2, 1) := by decide +kernel
theorem dX12_soundsAs_11 : decode cX12_soundsAs 11 = .ok (.iaload, 1) := by decide +kernel
theorem dX12_soundsAs_12 : decode cX12_soundsAs 12 = .ok (.if_icmp .ne 7, 3) := by decide +kernel
theorem dX12_soundsAs_15 : decode cX12_soundsAs 15 = .ok (.iconst 1, 1) := by decide +kernel
theorem dX12_soundsAs_16 : decode cX12_soundsAs 16 = .ok (.goto 4, 3) := by decide +kernel
theorem dX12_soundsAs_19 : decode cX12_soundsAs 19 = .ok (.iconst 0, 1) := by decide +kernel
theorem dX12_soundsAs_20 : decode cX12_soundsAs 20 = .ok (.istore 4, 2) := by decide +kernel
theorem dX12_soundsAs_22 : decode cX12_soundsAs 22 = .ok (.iconst 0, 1) := by decide +kernel
theorem dX12_soundsAs_23 : decode cX12_soundsAs 23 = .ok (.istore 5, 2) := by decide +kernel
theorem dX12_soundsAs_25 : decode cX12_soundsAs 25 = .ok (.iload 5, 2) := by decide +kernel
theorem dX12_soundsAs_27 : decode cX12_soundsAs 27 = .ok (.aload_n 0, 1) := by decide +kernel
theorem dX12_soundsAs_28 : decode cX12_soundsAs 28 = .ok (.getfield 16, 3) := by decide +kernel
theorem dX12_soundsAs_31 : decode cX12_soundsAs 31 = .ok (.iload_n 2, 1) := by decide +kernel
theorem dX12_soundsAs_32 : decode cX12_soundsAs 32 = .ok (.iaload, 1) := by decide +kernel
theorem dX12_soundsAs_33 : decode cX12_soundsAs 33 = .ok (.if_icmp .ge 65, 3) := by decide +kernel
theorem dX12_soundsAs_36 : decode cX12_soundsAs 36 = .ok (.iload 4, 2) := by decide +kernel
theorem dX12_soundsAs_38 : decode cX12_soundsAs 38 = .ok (.ifCond .eq 60, 3) := by decide +kernel
theorem dX12_soundsAs_41 : decode cX12_soundsAs 41 = .ok (.aload_n 0, 1) := by decide +kernel
theorem dX12_soundsAs_42 : decode cX12_soundsAs 42 = .ok (.getfield 28, 3) := by decide +kernel
theorem dX12_soundsAs_45 : decode cX12_soundsAs 45 = .ok (.aload_n 0, 1) := by decide +kernel
theorem dX12_soundsAs_46 : decode cX12_soundsAs 46 = .ok (.iload_n 1, 1) := by decide +kernel
theorem dX12_soundsAs_47 : decode cX12_soundsAs 47 = .ok (.aload_n 0, 1) := by decide +kernel
theorem dX12_soundsAs_48 : decode cX12_soundsAs 48 = .ok (.getfield 7, 3) := by decide +kernel
theorem dX12_soundsAs_51 : decode cX12_soundsAs 51 = .ok (.iconst 5, 1) := by decide +kernel
theorem dX12_soundsAs_52 : decode cX12_soundsAs 52 = .ok (.iload_n 2, 1) := by decide +kernel
theorem dX12_soundsAs_53 : decode cX12_soundsAs 53 = .ok (.imul, 1) := by decide +kernel
theorem dX12_soundsAs_54 : decode cX12_soundsAs 54 = .ok (.iload 5, 2) := by decide +kernel
theorem dX12_soundsAs_56 : decode cX12_soundsAs 56 = .ok (.iadd, 1) := by decide +kernel
theorem dX12_soundsAs_57 : decode cX12_soundsAs 57 = .ok (.iaload, 1) := by decide +kernel
theorem dX12_soundsAs_58 : decode cX12_soundsAs 58 = .ok (.invokevirtual 178, 3) := by decide +kernel
theorem dX12_soundsAs_61 : decode cX12_soundsAs 61 = .ok (.iaload, 1) := by decide +kernel
theorem dX12_soundsAs_62 : decode cX12_soundsAs 62 = .ok (.istore 6, 2) := by decide +kernel
theorem dX12_soundsAs_64 : decode cX12_soundsAs 64 = .ok (.iload 6, 2) := by decide +kernel
theorem dX12_soundsAs_66 : decode cX12_soundsAs 66 = .ok (.ifCond .lt 23, 3) := by decide +kernel
theorem dX12_soundsAs_69 : decode cX12_soundsAs 69 = .ok (.iload 6, 2) := by decide +kernel
theorem dX12_soundsAs_71 : decode cX12_soundsAs 71 = .ok (.aload_n 0, 1) := by decide +kernel
theorem dX12_soundsAs_72 : decode cX12_soundsAs 72 = .ok (.getfield 13, 3) := by decide +kernel
theorem dX12_soundsAs_75 : decode cX12_soundsAs 75 = .ok (.iconst 5, 1) := by decide +kernel
theorem dX12_soundsAs_76 : decode cX12_soundsAs 76 = .ok (.iload_n 3, 1) := by decide +kernel
theorem dX12_soundsAs_77 : decode cX12_soundsAs 77 = .ok (.imul, 1) := by decide +kernel
theorem dX12_soundsAs_78 : decode cX12_soundsAs 78 = .ok (.iload 5, 2) := by decide +kernel
theorem dX12_soundsAs_80 : decode cX12_soundsAs 80 = .ok (.iadd, 1) := by decide +kernel
theorem dX12_soundsAs_81 : decode cX12_soundsAs 81 = .ok (.iaload, 1) := by decide +kernel
theorem dX12_soundsAs_82 : decode cX12_soundsAs 82 = .ok (.if_icmp .ne 7, 3) := by decide +kernel
theorem dX12_soundsAs_85 : decode cX12_soundsAs 85 = .ok (.iconst 1, 1) := by decide +kernel
theorem dX12_soundsAs_86 : decode cX12_soundsAs 86 = .ok (.goto 4, 3) := by decide +kernel
theorem dX12_soundsAs_89 : decode cX12_soundsAs 89 = .ok (.iconst 0, 1) := by decide +kernel
theorem dX12_soundsAs_90 : decode cX12_soundsAs 90 = .ok (.istore 4, 2) := by decide +kernel
theorem dX12_soundsAs_92 : decode cX12_soundsAs 92 = .ok (.iinc 5 1, 3) := by decide +kernel
theorem dX12_soundsAs_95 : decode cX12_soundsAs 95 = .ok (.goto (-70), 3) := by decide +kernel
theorem dX12_soundsAs_98 : decode cX12_soundsAs 98 = .ok (.iload 4, 2) := by decide +kernel
theorem dX12_soundsAs_100 : decode cX12_soundsAs 100 = .ok (.ireturn, 1) := by decide +kernel
theorem dX12_sounded_0 : decode cX12_sounded 0 = .ok (.aload_n 0, 1) := by decide +kernel
theorem dX12_sounded_1 : decode cX12_sounded 1 = .ok (.iload_n 1, 1) := by decide +kernel
theorem dX12_sounded_2 : decode cX12_sounded 2 = .ok (.iload_n 2, 1) := by decide +kernel
theorem dX12_sounded_3 : decode cX12_sounded 3 = .ok (.iload_n 2, 1) := by decide +kernel
theorem dX12_sounded_4 : decode cX12_sounded 4 = .ok (.invokevirtual 181, 3) := by decide +kernel
theorem dX12_sounded_7 : decode cX12_sounded 7 = .ok (.ifCond .eq 5, 3) := by decide +kernel
theorem dX12_sounded_10 : decode cX12_sounded 10 = .ok (.iload_n 2, 1) := by decide +kernel
theorem dX12_sounded_11 : decode cX12_sounded 11 = .ok (.ireturn, 1) := by decide +kernel
theorem dX12_sounded_12 : decode cX12_sounded 12 = .ok (.iconst 0, 1) := by decide +kernel
theorem dX12_sounded_13 : decode cX12_sounded 13 = .ok (.istore_n 3, 1) := by decide +kernel
theorem dX12_sounded_14 : decode cX12_sounded 14 = .ok (.iload_n 3, 1) := by decide +kernel
theorem dX12_sounded_15 : decode cX12_sounded 15 = .ok (.aload_n 0, 1) := by decide +kernel
theorem dX12_sounded_16 : decode cX12_sounded 16 = .ok (.getfield 105, 3) := by decide +kernel
theorem dX12_sounded_19 : decode cX12_sounded 19 = .ok (.if_icmp .ge 21, 3) := by decide +kernel
theorem dX12_sounded_22 : decode cX12_sounded 22 = .ok (.aload_n 0, 1) := by decide +kernel
theorem dX12_sounded_23 : decode cX12_sounded 23 = .ok (.iload_n 1, 1) := by decide +kernel
theorem dX12_sounded_24 : decode cX12_sounded 24 = .ok (.iload_n 2, 1) := by decide +kernel
theorem dX12_sounded_25 : decode cX12_sounded 25 = .ok (.iload_n 3, 1) := by decide +kernel
theorem dX12_sounded_26 : decode cX12_sounded 26 = .ok (.invokevirtual 181, 3) := by decide +kernel
theorem dX12_sounded_29 : decode cX12_sounded 29 = .ok (.ifCond .eq 5, 3) := by decide +kernel
theorem dX12_sounded_32 : decode cX12_sounded 32 = .ok (.iload_n 3, 1) := by decide +kernel
theorem dX12_sounded_33 : decode cX12_sounded 33 = .ok (.ireturn, 1) := by decide +kernel
theorem dX12_sounded_34 : decode cX12_sounded 34 = .ok (.iinc 3 1, 3) := by decide +kernel
theorem dX12_sounded_37 : decode cX12_sounded 37 = .ok (.goto (-23), 3) := by decide +kernel
theorem dX12_sounded_40 : decode cX12_sounded 40 = .ok (.bipush (-6), 2) := by decide +kernel
theorem dX12_sounded_42 : decode cX12_sounded 42 = .ok (.ireturn, 1) := by decide +kernel
theorem dX12_guessed_0 : decode cX12_guessed 0 = .ok (.bipush (-6), 2) := by decide +kernel
theorem dX12_guessed_2 : decode cX12_guessed 2 = .ok (.istore_n 2, 1) := by decide +kernel
theorem dX12_guessed_3 : decode cX12_guessed 3 = .ok (.iconst 0, 1) := by decide +kernel
theorem dX12_guessed_4 : decode cX12_guessed 4 = .ok (.istore_n 3, 1) := by decide +kernel
theorem dX12_guessed_5 : decode cX12_guessed 5 = .ok (.iload_n 3, 1) := by decide +kernel
theorem dX12_guessed_6 : decode cX12_guessed 6 = .ok (.aload_n 0, 1) := by decide +kernel
theorem dX12_guessed_7 : decode cX12_guessed 7 = .ok (.getfield 105, 3) := by decide +kernel
theorem dX12_guessed_10 : decode cX12_guessed 10 = .ok (.if_icmp .ge 46, 3) := by decide +kernel
theorem dX12_guessed_13 : decode cX12_guessed 13 = .ok (.aload_n 0, 1) := by decide +kernel
theorem dX12_guessed_14 : decode cX12_guessed 14 = .ok (.getfield 7, 3) := by decide +kernel
theorem dX12_guessed_17 : decode cX12_guessed 17 = .ok (.iconst 5, 1) := by decide +kernel
theorem dX12_guessed_18 : decode cX12_guessed 18 = .ok (.iload_n 3, 1) := by decide +kernel
theorem dX12_guessed_19 : decode cX12_guessed 19 = .ok (.imul, 1) := by decide +kernel
theorem dX12_guessed_20 : decode cX12_guessed 20 = .ok (.iaload, 1) := by decide +kernel
theorem dX12_guessed_21 : decode cX12_guessed 21 = .ok (.iload_n 1, 1) := by decide +kernel
theorem dX12_guessed_22 : decode cX12_guessed 22 = .ok (.if_icmp .ne 26, 3) := by decide +kernel
theorem dX12_guessed_25 : decode cX12_guessed 25 = .ok (.iload_n 2, 1) := by decide +kernel
theorem dX12_guessed_26 : decode cX12_guessed 26 = .ok (.ifCond .lt 18, 3) := by decide +kernel
theorem dX12_guessed_29 : decode cX12_guessed 29 = .ok (.aload_n 0, 1) := by decide +kernel
theorem dX12_guessed_30 : decode cX12_guessed 30 = .ok (.getfield 19, 3) := by decide +kernel
theorem dX12_guessed_33 : decode cX12_guessed 33 = .ok (.iload_n 3, 1) := by decide +kernel
theorem dX12_guessed_34 : decode cX12_guessed 34 = .ok (.iaload, 1) := by decide +kernel
theorem dX12_guessed_35 : decode cX12_guessed 35 = .ok (.aload_n 0, 1) := by decide +kernel
theorem dX12_guessed_36 : decode cX12_guessed 36 = .ok (.getfield 19, 3) := by decide +kernel
theorem dX12_guessed_39 : decode cX12_guessed 39 = .ok (.iload_n 2, 1) := by decide +kernel
theorem dX12_guessed_40 : decode cX12_guessed 40 = .ok (.iaload, 1) := by decide +kernel
theorem dX12_guessed_41 : decode cX12_guessed 41 = .ok (.if_icmp .le 7, 3) := by decide +kernel
theorem dX12_guessed_44 : decode cX12_guessed 44 = .ok (.iload_n 3, 1) := by decide +kernel
theorem dX12_guessed_45 : decode cX12_guessed 45 = .ok (.goto 4, 3) := by decide +kernel
theorem dX12_guessed_48 : decode cX12_guessed 48 = .ok (.iload_n 2, 1) := by decide +kernel
theorem dX12_guessed_49 : decode cX12_guessed 49 = .ok (.istore_n 2, 1) := by decide +kernel
theorem dX12_guessed_50 : decode cX12_guessed 50 = .ok (.iinc 3 1, 3) := by decide +kernel
theorem dX12_guessed_53 : decode cX12_guessed 53 = .ok (.goto (-48), 3) := by decide +kernel
theorem dX12_guessed_56 : decode cX12_guessed 56 = .ok (.iload_n 2, 1) := by decide +kernel
theorem dX12_guessed_57 : decode cX12_guessed 57 = .ok (.ireturn, 1) := by decide +kernel
theorem dX12_canRead_0 : decode cX12_canRead 0 = .ok (.aload_n 0, 1) := by decide +kernel
theorem dX12_canRead_1 : decode cX12_canRead 1 = .ok (.iload_n 1, 1) := by decide +kernel
theorem dX12_canRead_2 : decode cX12_canRead 2 = .ok (.iload_n 2, 1) := by decide +kernel
theorem dX12_canRead_3 : decode cX12_canRead 3 = .ok (.iload_n 3, 1) := by decide +kernel
theorem dX12_canRead_4 : decode cX12_canRead 4 = .ok (.iload 4, 2) := by decide +kernel
theorem dX12_canRead_6 : decode cX12_canRead 6 = .ok (.invokevirtual 185, 3) := by decide +kernel
theorem dX12_canRead_9 : decode cX12_canRead 9 = .ok (.aload_n 0, 1) := by decide +kernel
theorem dX12_canRead_10 : decode cX12_canRead 10 = .ok (.getfield 168, 3) := by decide +kernel
theorem dX12_canRead_13 : decode cX12_canRead 13 = .ok (.iload 4, 2) := by decide +kernel
theorem dX12_canRead_15 : decode cX12_canRead 15 = .ok (.if_icmp .ne 7, 3) := by decide +kernel
theorem dX12_canRead_18 : decode cX12_canRead 18 = .ok (.iconst 1, 1) := by decide +kernel
theorem dX12_canRead_19 : decode cX12_canRead 19 = .ok (.goto 4, 3) := by decide +kernel
theorem dX12_canRead_22 : decode cX12_canRead 22 = .ok (.iconst 0, 1) := by decide +kernel
theorem dX12_canRead_23 : decode cX12_canRead 23 = .ok (.ireturn, 1) := by decide +kernel
theorem dX12_shareOf_0 : decode cX12_shareOf 0 = .ok (.iconst 0, 1) := by decide +kernel
theorem dX12_shareOf_1 : decode cX12_shareOf 1 = .ok (.istore 4, 2) := by decide +kernel
theorem dX12_shareOf_3 : decode cX12_shareOf 3 = .ok (.iconst 0, 1) := by decide +kernel
theorem dX12_shareOf_4 : decode cX12_shareOf 4 = .ok (.istore 5, 2) := by decide +kernel
theorem dX12_shareOf_6 : decode cX12_shareOf 6 = .ok (.iload 5, 2) := by decide +kernel
theorem dX12_shareOf_8 : decode cX12_shareOf 8 = .ok (.aload_n 0, 1) := by decide +kernel
theorem dX12_shareOf_9 : decode cX12_shareOf 9 = .ok (.getfield 105, 3) := by decide +kernel
theorem dX12_shareOf_12 : decode cX12_shareOf 12 = .ok (.if_icmp .ge 37, 3) := by decide +kernel
theorem dX12_shareOf_15 : decode cX12_shareOf 15 = .ok (.iload 4, 2) := by decide +kernel
theorem dX12_shareOf_17 : decode cX12_shareOf 17 = .ok (.aload_n 0, 1) := by decide +kernel
theorem dX12_shareOf_18 : decode cX12_shareOf 18 = .ok (.iload_n 1, 1) := by decide +kernel
theorem dX12_shareOf_19 : decode cX12_shareOf 19 = .ok (.iload_n 2, 1) := by decide +kernel
theorem dX12_shareOf_20 : decode cX12_shareOf 20 = .ok (.iload_n 3, 1) := by decide +kernel
theorem dX12_shareOf_21 : decode cX12_shareOf 21 = .ok (.iload 5, 2) := by decide +kernel
theorem dX12_shareOf_23 : decode cX12_shareOf 23 = .ok (.invokevirtual 189, 3) := by decide +kernel
theorem dX12_shareOf_26 : decode cX12_shareOf 26 = .ok (.ifCond .eq 13, 3) := by decide +kernel
theorem dX12_shareOf_29 : decode cX12_shareOf 29 = .ok (.aload_n 0, 1) := by decide +kernel
theorem dX12_shareOf_30 : decode cX12_shareOf 30 = .ok (.getfield 19, 3) := by decide +kernel
theorem dX12_shareOf_33 : decode cX12_shareOf 33 = .ok (.iload 5, 2) := by decide +kernel
theorem dX12_shareOf_35 : decode cX12_shareOf 35 = .ok (.iaload, 1) := by decide +kernel
theorem dX12_shareOf_36 : decode cX12_shareOf 36 = .ok (.goto 4, 3) := by decide +kernel
theorem dX12_shareOf_39 : decode cX12_shareOf 39 = .ok (.iconst 0, 1) := by decide +kernel
theorem dX12_shareOf_40 : decode cX12_shareOf 40 = .ok (.iadd, 1) := by decide +kernel
theorem dX12_shareOf_41 : decode cX12_shareOf 41 = .ok (.istore 4, 2) := by decide +kernel
theorem dX12_shareOf_43 : decode cX12_shareOf 43 = .ok (.iinc 5 1, 3) := by decide +kernel
theorem dX12_shareOf_46 : decode cX12_shareOf 46 = .ok (.goto (-40), 3) := by decide +kernel
theorem dX12_shareOf_49 : decode cX12_shareOf 49 = .ok (.iload 4, 2) := by decide +kernel
theorem dX12_shareOf_51 : decode cX12_shareOf 51 = .ok (.ireturn, 1) := by decide +kernel
theorem dX12_read_0 : decode cX12_read 0 = .ok (.iload_n 1, 1) := by decide +kernel
theorem dX12_read_1 : decode cX12_read 1 = .ok (.invokestatic 160, 3) := by decide +kernel
theorem dX12_read_4 : decode cX12_read 4 = .ok (.ifCond .eq 11, 3) := by decide +kernel
theorem dX12_read_7 : decode cX12_read 7 = .ok (.aload_n 0, 1) := by decide +kernel
theorem dX12_read_8 : decode cX12_read 8 = .ok (.iload_n 2, 1) := by decide +kernel
theorem dX12_read_9 : decode cX12_read 9 = .ok (.invokevirtual 122, 3) := by decide +kernel
theorem dX12_read_12 : decode cX12_read 12 = .ok (.ifCond .ne 5, 3) := by decide +kernel
theorem dX12_read_15 : decode cX12_read 15 = .ok (.iconst (-1), 1) := by decide +kernel
theorem dX12_read_16 : decode cX12_read 16 = .ok (.ireturn, 1) := by decide +kernel
theorem dX12_read_17 : decode cX12_read 17 = .ok (.iload_n 3, 1) := by decide +kernel
theorem dX12_read_18 : decode cX12_read 18 = .ok (.invokestatic 148, 3) := by decide +kernel
theorem dX12_read_21 : decode cX12_read 21 = .ok (.ifCond .ne 6, 3) := by decide +kernel
theorem dX12_read_24 : decode cX12_read 24 = .ok (.bipush (-2), 2) := by decide +kernel
theorem dX12_read_26 : decode cX12_read 26 = .ok (.ireturn, 1) := by decide +kernel
theorem dX12_read_27 : decode cX12_read 27 = .ok (.aload_n 0, 1) := by decide +kernel
theorem dX12_read_28 : decode cX12_read 28 = .ok (.invokevirtual 137, 3) := by decide +kernel
theorem dX12_read_31 : decode cX12_read 31 = .ok (.aload_n 0, 1) := by decide +kernel
theorem dX12_read_32 : decode cX12_read 32 = .ok (.iload_n 1, 1) := by decide +kernel
theorem dX12_read_33 : decode cX12_read 33 = .ok (.aload_n 0, 1) := by decide +kernel
theorem dX12_read_34 : decode cX12_read 34 = .ok (.getfield 34, 3) := by decide +kernel
theorem dX12_read_37 : decode cX12_read 37 = .ok (.iload_n 1, 1) := by decide +kernel
theorem dX12_read_38 : decode cX12_read 38 = .ok (.iaload, 1) := by decide +kernel
theorem dX12_read_39 : decode cX12_read 39 = .ok (.aload_n 0, 1) := by decide +kernel
theorem dX12_read_40 : decode cX12_read 40 = .ok (.getfield 37, 3) := by decide +kernel
theorem dX12_read_43 : decode cX12_read 43 = .ok (.iload_n 1, 1) := by decide +kernel
theorem dX12_read_44 : decode cX12_read 44 = .ok (.iaload, 1) := by decide +kernel
theorem dX12_read_45 : decode cX12_read 45 = .ok (.iload_n 2, 1) := by decide +kernel
theorem dX12_read_46 : decode cX12_read 46 = .ok (.invokevirtual 185, 3) := by decide +kernel
theorem dX12_read_49 : decode cX12_read 49 = .ok (.iload_n 3, 1) := by decide +kernel
theorem dX12_read_50 : decode cX12_read 50 = .ok (.ifCond .ne 10, 3) := by decide +kernel
theorem dX12_read_53 : decode cX12_read 53 = .ok (.aload_n 0, 1) := by decide +kernel
theorem dX12_read_54 : decode cX12_read 54 = .ok (.getfield 165, 3) := by decide +kernel
theorem dX12_read_57 : decode cX12_read 57 = .ok (.goto 7, 3) := by decide +kernel
theorem dX12_read_60 : decode cX12_read 60 = .ok (.aload_n 0, 1) := by decide +kernel
theorem dX12_read_61 : decode cX12_read 61 = .ok (.getfield 168, 3) := by decide +kernel
theorem dX12_read_64 : decode cX12_read 64 = .ok (.ireturn, 1) := by decide +kernel
theorem dX12_share_0 : decode cX12_share 0 = .ok (.iload_n 1, 1) := by decide +kernel
theorem dX12_share_1 : decode cX12_share 1 = .ok (.invokestatic 160, 3) := by decide +kernel
theorem dX12_share_4 : decode cX12_share 4 = .ok (.ifCond .ne 5, 3) := by decide +kernel
theorem dX12_share_7 : decode cX12_share 7 = .ok (.iconst (-1), 1) := by decide +kernel
theorem dX12_share_8 : decode cX12_share 8 = .ok (.ireturn, 1) := by decide +kernel
theorem dX12_share_9 : decode cX12_share 9 = .ok (.aload_n 0, 1) := by decide +kernel
theorem dX12_share_10 : decode cX12_share 10 = .ok (.invokevirtual 137, 3) := by decide +kernel
theorem dX12_share_13 : decode cX12_share 13 = .ok (.aload_n 0, 1) := by decide +kernel
theorem dX12_share_14 : decode cX12_share 14 = .ok (.iload_n 1, 1) := by decide +kernel
theorem dX12_share_15 : decode cX12_share 15 = .ok (.aload_n 0, 1) := by decide +kernel
theorem dX12_share_16 : decode cX12_share 16 = .ok (.getfield 34, 3) := by decide +kernel
theorem dX12_share_19 : decode cX12_share 19 = .ok (.iload_n 1, 1) := by decide +kernel
theorem dX12_share_20 : decode cX12_share 20 = .ok (.iaload, 1) := by decide +kernel
theorem dX12_share_21 : decode cX12_share 21 = .ok (.aload_n 0, 1) := by decide +kernel
theorem dX12_share_22 : decode cX12_share 22 = .ok (.getfield 37, 3) := by decide +kernel
theorem dX12_share_25 : decode cX12_share 25 = .ok (.iload_n 1, 1) := by decide +kernel
theorem dX12_share_26 : decode cX12_share 26 = .ok (.iaload, 1) := by decide +kernel
theorem dX12_share_27 : decode cX12_share 27 = .ok (.invokevirtual 193, 3) := by decide +kernel
theorem dX12_share_30 : decode cX12_share 30 = .ok (.ireturn, 1) := by decide +kernel
theorem dX12_isGiven_0 : decode cX12_isGiven 0 = .ok (.aload_n 0, 1) := by decide +kernel
theorem dX12_isGiven_1 : decode cX12_isGiven 1 = .ok (.iload_n 1, 1) := by decide +kernel
theorem dX12_isGiven_2 : decode cX12_isGiven 2 = .ok (.invokevirtual 140, 3) := by decide +kernel
theorem dX12_isGiven_5 : decode cX12_isGiven 5 = .ok (.ifCond .eq 19, 3) := by decide +kernel
theorem dX12_isGiven_8 : decode cX12_isGiven 8 = .ok (.aload_n 0, 1) := by decide +kernel
theorem dX12_isGiven_9 : decode cX12_isGiven 9 = .ok (.iload_n 1, 1) := by decide +kernel
theorem dX12_isGiven_10 : decode cX12_isGiven 10 = .ok (.invokevirtual 133, 3) := by decide +kernel
theorem dX12_isGiven_13 : decode cX12_isGiven 13 = .ok (.iload_n 2, 1) := by decide +kernel
theorem dX12_isGiven_14 : decode cX12_isGiven 14 = .ok (.iconst (-1), 1) := by decide +kernel
theorem dX12_isGiven_15 : decode cX12_isGiven 15 = .ok (.ixor, 1) := by decide +kernel
theorem dX12_isGiven_16 : decode cX12_isGiven 16 = .ok (.iand, 1) := by decide +kernel
theorem dX12_isGiven_17 : decode cX12_isGiven 17 = .ok (.ifCond .ne 7, 3) := by decide +kernel
theorem dX12_isGiven_20 : decode cX12_isGiven 20 = .ok (.iconst 1, 1) := by decide +kernel
theorem dX12_isGiven_21 : decode cX12_isGiven 21 = .ok (.goto 4, 3) := by decide +kernel
theorem dX12_isGiven_24 : decode cX12_isGiven 24 = .ok (.iconst 0, 1) := by decide +kernel
theorem dX12_isGiven_25 : decode cX12_isGiven 25 = .ok (.ireturn, 1) := by decide +kernel
theorem dX12_givesOf_0 : decode cX12_givesOf 0 = .ok (.iconst 0, 1) := by decide +kernel
theorem dX12_givesOf_1 : decode cX12_givesOf 1 = .ok (.istore_n 3, 1) := by decide +kernel
theorem dX12_givesOf_2 : decode cX12_givesOf 2 = .ok (.iconst 0, 1) := by decide +kernel
theorem dX12_givesOf_3 : decode cX12_givesOf 3 = .ok (.istore 4, 2) := by decide +kernel
theorem dX12_givesOf_5 : decode cX12_givesOf 5 = .ok (.iload 4, 2) := by decide +kernel
theorem dX12_givesOf_7 : decode cX12_givesOf 7 = .ok (.aload_n 0, 1) := by decide +kernel
theorem dX12_givesOf_8 : decode cX12_givesOf 8 = .ok (.getfield 105, 3) := by decide +kernel
theorem dX12_givesOf_11 : decode cX12_givesOf 11 = .ok (.if_icmp .ge 43, 3) := by decide +kernel
theorem dX12_givesOf_14 : decode cX12_givesOf 14 = .ok (.iload_n 3, 1) := by decide +kernel
theorem dX12_givesOf_15 : decode cX12_givesOf 15 = .ok (.iload_n 2, 1) := by decide +kernel
theorem dX12_givesOf_16 : decode cX12_givesOf 16 = .ok (.iload 4, 2) := by decide +kernel
theorem dX12_givesOf_18 : decode cX12_givesOf 18 = .ok (.ishr, 1) := by decide +kernel
theorem dX12_givesOf_19 : decode cX12_givesOf 19 = .ok (.iconst 1, 1) := by decide +kernel
theorem dX12_givesOf_20 : decode cX12_givesOf 20 = .ok (.iand, 1) := by decide +kernel
theorem dX12_givesOf_21 : decode cX12_givesOf 21 = .ok (.iconst 1, 1) := by decide +kernel
theorem dX12_givesOf_22 : decode cX12_givesOf 22 = .ok (.if_icmp .eq 13, 3) := by decide +kernel
theorem dX12_givesOf_25 : decode cX12_givesOf 25 = .ok (.aload_n 0, 1) := by decide +kernel
theorem dX12_givesOf_26 : decode cX12_givesOf 26 = .ok (.iload 4, 2) := by decide +kernel
theorem dX12_givesOf_28 : decode cX12_givesOf 28 = .ok (.iload_n 1, 1) := by decide +kernel
theorem dX12_givesOf_29 : decode cX12_givesOf 29 = .ok (.invokevirtual 197, 3) := by decide +kernel
theorem dX12_givesOf_32 : decode cX12_givesOf 32 = .ok (.ifCond .eq 13, 3) := by decide +kernel
theorem dX12_givesOf_35 : decode cX12_givesOf 35 = .ok (.aload_n 0, 1) := by decide +kernel
theorem dX12_givesOf_36 : decode cX12_givesOf 36 = .ok (.getfield 19, 3) := by decide +kernel
theorem dX12_givesOf_39 : decode cX12_givesOf 39 = .ok (.iload 4, 2) := by decide +kernel
theorem dX12_givesOf_41 : decode cX12_givesOf 41 = .ok (.iaload, 1) := by decide +kernel
theorem dX12_givesOf_42 : decode cX12_givesOf 42 = .ok (.goto 4, 3) := by decide +kernel
theorem dX12_givesOf_45 : decode cX12_givesOf 45 = .ok (.iconst 0, 1) := by decide +kernel
theorem dX12_givesOf_46 : decode cX12_givesOf 46 = .ok (.iadd, 1) := by decide +kernel
theorem dX12_givesOf_47 : decode cX12_givesOf 47 = .ok (.istore_n 3, 1) := by decide +kernel
theorem dX12_givesOf_48 : decode cX12_givesOf 48 = .ok (.iinc 4 1, 3) := by decide +kernel
theorem dX12_givesOf_51 : decode cX12_givesOf 51 = .ok (.goto (-46), 3) := by decide +kernel
theorem dX12_givesOf_54 : decode cX12_givesOf 54 = .ok (.iload_n 3, 1) := by decide +kernel
theorem dX12_givesOf_55 : decode cX12_givesOf 55 = .ok (.ireturn, 1) := by decide +kernel
theorem dX12_gives_0 : decode cX12_gives 0 = .ok (.iload_n 1, 1) := by decide +kernel
theorem dX12_gives_1 : decode cX12_gives 1 = .ok (.i2l, 1) := by decide +kernel
theorem dX12_gives_2 : decode cX12_gives 2 = .ok (.lconst 0, 1) := by decide +kernel
theorem dX12_gives_3 : decode cX12_gives 3 = .ok (.ldc2_w 163, 3) := by decide +kernel
theorem dX12_gives_6 : decode cX12_gives 6 = .ok (.invokestatic 80, 3) := by decide +kernel
theorem dX12_gives_9 : decode cX12_gives 9 = .ok (.ifCond .eq 21, 3) := by decide +kernel
theorem dX12_gives_12 : decode cX12_gives 12 = .ok (.iload_n 2, 1) := by decide +kernel
theorem dX12_gives_13 : decode cX12_gives 13 = .ok (.i2l, 1) := by decide +kernel
theorem dX12_gives_14 : decode cX12_gives 14 = .ok (.lconst 0, 1) := by decide +kernel
theorem dX12_gives_15 : decode cX12_gives 15 = .ok (.iconst 1, 1) := by decide +kernel
theorem dX12_gives_16 : decode cX12_gives 16 = .ok (.aload_n 0, 1) := by decide +kernel
theorem dX12_gives_17 : decode cX12_gives 17 = .ok (.getfield 105, 3) := by decide +kernel
theorem dX12_gives_20 : decode cX12_gives 20 = .ok (.ishl, 1) := by decide +kernel
theorem dX12_gives_21 : decode cX12_gives 21 = .ok (.iconst 1, 1) := by decide +kernel
theorem dX12_gives_22 : decode cX12_gives 22 = .ok (.isub, 1) := by decide +kernel
theorem dX12_gives_23 : decode cX12_gives 23 = .ok (.i2l, 1) := by decide +kernel
theorem dX12_gives_24 : decode cX12_gives 24 = .ok (.invokestatic 80, 3) := by decide +kernel
theorem dX12_gives_27 : decode cX12_gives 27 = .ok (.ifCond .ne 6, 3) := by decide +kernel
theorem dX12_gives_30 : decode cX12_gives 30 = .ok (.bipush (-2), 2) := by decide +kernel
theorem dX12_gives_32 : decode cX12_gives 32 = .ok (.ireturn, 1) := by decide +kernel
theorem dX12_gives_33 : decode cX12_gives 33 = .ok (.aload_n 0, 1) := by decide +kernel
theorem dX12_gives_34 : decode cX12_gives 34 = .ok (.invokevirtual 137, 3) := by decide +kernel
theorem dX12_gives_37 : decode cX12_gives 37 = .ok (.aload_n 0, 1) := by decide +kernel
theorem dX12_gives_38 : decode cX12_gives 38 = .ok (.iload_n 1, 1) := by decide +kernel
theorem dX12_gives_39 : decode cX12_gives 39 = .ok (.iload_n 2, 1) := by decide +kernel
theorem dX12_gives_40 : decode cX12_gives 40 = .ok (.invokevirtual 201, 3) := by decide +kernel
theorem dX12_gives_43 : decode cX12_gives 43 = .ok (.ireturn, 1) := by decide +kernel
theorem dX12_findOrder_0 : decode cX12_findOrder 0 = .ok (.aload_n 0, 1) := by decide +kernel
theorem dX12_findOrder_1 : decode cX12_findOrder 1 = .ok (.invokevirtual 137, 3) := by decide +kernel
theorem dX12_findOrder_4 : decode cX12_findOrder 4 = .ok (.sipush 1023, 3) := by decide +kernel
theorem dX12_findOrder_7 : decode cX12_findOrder 7 = .ok (.istore_n 1, 1) := by decide +kernel
theorem dX12_findOrder_8 : decode cX12_findOrder 8 = .ok (.iload_n 1, 1) := by decide +kernel
theorem dX12_findOrder_9 : decode cX12_findOrder 9 = .ok (.ifCond .lt 96, 3) := by decide +kernel
theorem dX12_findOrder_12 : decode cX12_findOrder 12 = .ok (.aload_n 0, 1) := by decide +kernel
theorem dX12_findOrder_13 : decode cX12_findOrder 13 = .ok (.getfield 43, 3) := by decide +kernel
theorem dX12_findOrder_16 : decode cX12_findOrder 16 = .ok (.iload_n 1, 1) := by decide +kernel
theorem dX12_findOrder_17 : decode cX12_findOrder 17 = .ok (.aload_n 0, 1) := by decide +kernel
theorem dX12_findOrder_18 : decode cX12_findOrder 18 = .ok (.iload_n 1, 1) := by decide +kernel
theorem dX12_findOrder_19 : decode cX12_findOrder 19 = .ok (.iconst 0, 1) := by decide +kernel
theorem dX12_findOrder_20 : decode cX12_findOrder 20 = .ok (.invokevirtual 201, 3) := by decide +kernel
theorem dX12_findOrder_23 : decode cX12_findOrder 23 = .ok (.iastore, 1) := by decide +kernel
theorem dX12_findOrder_24 : decode cX12_findOrder 24 = .ok (.aload_n 0, 1) := by decide +kernel
