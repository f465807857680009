/-! decode rows -/
theorem dX10_init_0 : decode cX10_init 0 = .ok (.aload_n 0, 1) := by decide +kernel
theorem dX10_init_1 : decode cX10_init 1 = .ok (.invokespecial 1, 3) := by decide +kernel
theorem dX10_init_4 : decode cX10_init 4 = .ok (.aload_n 0, 1) := by decide +kernel
theorem dX10_init_5 : decode cX10_init 5 = .ok (.bipush 16, 2) := by decide +kernel
theorem dX10_init_7 : decode cX10_init 7 = .ok (.newarray .int, 2) := by decide +kernel
theorem dX10_init_9 : decode cX10_init 9 = .ok (.putfield 7, 3) := by decide +kernel
theorem dX10_init_12 : decode cX10_init 12 = .ok (.aload_n 0, 1) := by decide +kernel
theorem dX10_init_13 : decode cX10_init 13 = .ok (.bipush 16, 2) := by decide +kernel
theorem dX10_init_15 : decode cX10_init 15 = .ok (.newarray .int, 2) := by decide +kernel
theorem dX10_init_17 : decode cX10_init 17 = .ok (.putfield 13, 3) := by decide +kernel
theorem dX10_init_20 : decode cX10_init 20 = .ok (.aload_n 0, 1) := by decide +kernel
theorem dX10_init_21 : decode cX10_init 21 = .ok (.bipush 16, 2) := by decide +kernel
theorem dX10_init_23 : decode cX10_init 23 = .ok (.newarray .int, 2) := by decide +kernel
theorem dX10_init_25 : decode cX10_init 25 = .ok (.putfield 16, 3) := by decide +kernel
theorem dX10_init_28 : decode cX10_init 28 = .ok (.aload_n 0, 1) := by decide +kernel
theorem dX10_init_29 : decode cX10_init 29 = .ok (.sipush 128, 3) := by decide +kernel
theorem dX10_init_32 : decode cX10_init 32 = .ok (.newarray .int, 2) := by decide +kernel
theorem dX10_init_34 : decode cX10_init 34 = .ok (.putfield 19, 3) := by decide +kernel
theorem dX10_init_37 : decode cX10_init 37 = .ok (.aload_n 0, 1) := by decide +kernel
theorem dX10_init_38 : decode cX10_init 38 = .ok (.bipush 32, 2) := by decide +kernel
theorem dX10_init_40 : decode cX10_init 40 = .ok (.newarray .int, 2) := by decide +kernel
theorem dX10_init_42 : decode cX10_init 42 = .ok (.putfield 22, 3) := by decide +kernel
theorem dX10_init_45 : decode cX10_init 45 = .ok (.aload_n 0, 1) := by decide +kernel
theorem dX10_init_46 : decode cX10_init 46 = .ok (.bipush 16, 2) := by decide +kernel
theorem dX10_init_48 : decode cX10_init 48 = .ok (.newarray .int, 2) := by decide +kernel
theorem dX10_init_50 : decode cX10_init 50 = .ok (.putfield 25, 3) := by decide +kernel
theorem dX10_init_53 : decode cX10_init 53 = .ok (.aload_n 0, 1) := by decide +kernel
theorem dX10_init_54 : decode cX10_init 54 = .ok (.sipush 200, 3) := by decide +kernel
theorem dX10_init_57 : decode cX10_init 57 = .ok (.newarray .int, 2) := by decide +kernel
theorem dX10_init_59 : decode cX10_init 59 = .ok (.putfield 28, 3) := by decide +kernel
theorem dX10_init_62 : decode cX10_init 62 = .ok (.aload_n 0, 1) := by decide +kernel
theorem dX10_init_63 : decode cX10_init 63 = .ok (.iconst 2, 1) := by decide +kernel
theorem dX10_init_64 : decode cX10_init 64 = .ok (.newarray .int, 2) := by decide +kernel
theorem dX10_init_66 : decode cX10_init 66 = .ok (.putfield 31, 3) := by decide +kernel
theorem dX10_init_69 : decode cX10_init 69 = .ok (.aload_n 0, 1) := by decide +kernel
theorem dX10_init_70 : decode cX10_init 70 = .ok (.bipush 16, 2) := by decide +kernel
theorem dX10_init_72 : decode cX10_init 72 = .ok (.newarray .int, 2) := by decide +kernel
theorem dX10_init_74 : decode cX10_init 74 = .ok (.putfield 34, 3) := by decide +kernel
theorem dX10_init_77 : decode cX10_init 77 = .ok (.aload_n 0, 1) := by decide +kernel
theorem dX10_init_78 : decode cX10_init 78 = .ok (.bipush 16, 2) := by decide +kernel
theorem dX10_init_80 : decode cX10_init 80 = .ok (.newarray .int, 2) := by decide +kernel
theorem dX10_init_82 : decode cX10_init 82 = .ok (.putfield 37, 3) := by decide +kernel
theorem dX10_init_85 : decode cX10_init 85 = .ok (.aload_n 0, 1) := by decide +kernel
theorem dX10_init_86 : decode cX10_init 86 = .ok (.bipush 16, 2) := by decide +kernel
theorem dX10_init_88 : decode cX10_init 88 = .ok (.newarray .int, 2) := by decide +kernel
theorem dX10_init_90 : decode cX10_init 90 = .ok (.putfield 40, 3) := by decide +kernel
theorem dX10_init_93 : decode cX10_init 93 = .ok (.aload_n 0, 1) := by decide +kernel
theorem dX10_init_94 : decode cX10_init 94 = .ok (.bipush 16, 2) := by decide +kernel
theorem dX10_init_96 : decode cX10_init 96 = .ok (.newarray .int, 2) := by decide +kernel
theorem dX10_init_98 : decode cX10_init 98 = .ok (.putfield 43, 3) := by decide +kernel
theorem dX10_init_101 : decode cX10_init 101 = .ok (.aload_n 0, 1) := by decide +kernel
theorem dX10_init_102 : decode cX10_init 102 = .ok (.bipush 32, 2) := by decide +kernel
theorem dX10_init_104 : decode cX10_init 104 = .ok (.newarray .int, 2) := by decide +kernel
theorem dX10_init_106 : decode cX10_init 106 = .ok (.putfield 46, 3) := by decide +kernel
theorem dX10_init_109 : decode cX10_init 109 = .ok (.aload_n 0, 1) := by decide +kernel
theorem dX10_init_110 : decode cX10_init 110 = .ok (.bipush 32, 2) := by decide +kernel
theorem dX10_init_112 : decode cX10_init 112 = .ok (.newarray .int, 2) := by decide +kernel
theorem dX10_init_114 : decode cX10_init 114 = .ok (.putfield 49, 3) := by decide +kernel
theorem dX10_init_117 : decode cX10_init 117 = .ok (.aload_n 0, 1) := by decide +kernel
theorem dX10_init_118 : decode cX10_init 118 = .ok (.bipush 16, 2) := by decide +kernel
theorem dX10_init_120 : decode cX10_init 120 = .ok (.newarray .int, 2) := by decide +kernel
theorem dX10_init_122 : decode cX10_init 122 = .ok (.putfield 52, 3) := by decide +kernel
theorem dX10_init_125 : decode cX10_init 125 = .ok (.aload_n 0, 1) := by decide +kernel
theorem dX10_init_126 : decode cX10_init 126 = .ok (.sipush 2048, 3) := by decide +kernel
theorem dX10_init_129 : decode cX10_init 129 = .ok (.newarray .int, 2) := by decide +kernel
theorem dX10_init_131 : decode cX10_init 131 = .ok (.putfield 55, 3) := by decide +kernel
theorem dX10_init_134 : decode cX10_init 134 = .ok (.aload_n 0, 1) := by decide +kernel
theorem dX10_init_135 : decode cX10_init 135 = .ok (.invokevirtual 58, 3) := by decide +kernel
theorem dX10_init_138 : decode cX10_init 138 = .ok (.aload_n 0, 1) := by decide +kernel
theorem dX10_init_139 : decode cX10_init 139 = .ok (.bipush 10, 2) := by decide +kernel
theorem dX10_init_141 : decode cX10_init 141 = .ok (.putfield 61, 3) := by decide +kernel
theorem dX10_init_144 : decode cX10_init 144 = .ok (.aload_n 0, 1) := by decide +kernel
theorem dX10_init_145 : decode cX10_init 145 = .ok (.invokevirtual 65, 3) := by decide +kernel
theorem dX10_init_148 : decode cX10_init 148 = .ok (.aload_n 0, 1) := by decide +kernel
theorem dX10_init_149 : decode cX10_init 149 = .ok (.getfield 34, 3) := by decide +kernel
theorem dX10_init_152 : decode cX10_init 152 = .ok (.iconst 3, 1) := by decide +kernel
theorem dX10_init_153 : decode cX10_init 153 = .ok (.iconst 0, 1) := by decide +kernel
theorem dX10_init_154 : decode cX10_init 154 = .ok (.iastore, 1) := by decide +kernel
theorem dX10_init_155 : decode cX10_init 155 = .ok (.aload_n 0, 1) := by decide +kernel
theorem dX10_init_156 : decode cX10_init 156 = .ok (.getfield 34, 3) := by decide +kernel
theorem dX10_init_159 : decode cX10_init 159 = .ok (.iconst 4, 1) := by decide +kernel
theorem dX10_init_160 : decode cX10_init 160 = .ok (.iconst 2, 1) := by decide +kernel
theorem dX10_init_161 : decode cX10_init 161 = .ok (.iastore, 1) := by decide +kernel
theorem dX10_init_162 : decode cX10_init 162 = .ok (.aload_n 0, 1) := by decide +kernel
theorem dX10_init_163 : decode cX10_init 163 = .ok (.getfield 37, 3) := by decide +kernel
theorem dX10_init_166 : decode cX10_init 166 = .ok (.iconst 0, 1) := by decide +kernel
theorem dX10_init_167 : decode cX10_init 167 = .ok (.iconst 0, 1) := by decide +kernel
theorem dX10_init_168 : decode cX10_init 168 = .ok (.iastore, 1) := by decide +kernel
theorem dX10_init_169 : decode cX10_init 169 = .ok (.aload_n 0, 1) := by decide +kernel
theorem dX10_init_170 : decode cX10_init 170 = .ok (.getfield 37, 3) := by decide +kernel
theorem dX10_init_173 : decode cX10_init 173 = .ok (.iconst 1, 1) := by decide +kernel
theorem dX10_init_174 : decode cX10_init 174 = .ok (.bipush 9, 2) := by decide +kernel
theorem dX10_init_176 : decode cX10_init 176 = .ok (.iastore, 1) := by decide +kernel
theorem dX10_init_177 : decode cX10_init 177 = .ok (.aload_n 0, 1) := by decide +kernel
theorem dX10_init_178 : decode cX10_init 178 = .ok (.getfield 37, 3) := by decide +kernel
theorem dX10_init_181 : decode cX10_init 181 = .ok (.iconst 2, 1) := by decide +kernel
theorem dX10_init_182 : decode cX10_init 182 = .ok (.iconst 1, 1) := by decide +kernel
theorem dX10_init_183 : decode cX10_init 183 = .ok (.iastore, 1) := by decide +kernel
theorem dX10_init_184 : decode cX10_init 184 = .ok (.aload_n 0, 1) := by decide +kernel
theorem dX10_init_185 : decode cX10_init 185 = .ok (.iconst 3, 1) := by decide +kernel
theorem dX10_init_186 : decode cX10_init 186 = .ok (.putfield 68, 3) := by decide +kernel
theorem dX10_init_189 : decode cX10_init 189 = .ok (.aload_n 0, 1) := by decide +kernel
theorem dX10_init_190 : decode cX10_init 190 = .ok (.invokevirtual 71, 3) := by decide +kernel
theorem dX10_init_193 : decode cX10_init 193 = .ok (.return_, 1) := by decide +kernel
theorem dX10_in_0 : decode cX10_in 0 = .ok (.iload_n 0, 1) := by decide +kernel
theorem dX10_in_1 : decode cX10_in 1 = .ok (.iload_n 1, 1) := by decide +kernel
theorem dX10_in_2 : decode cX10_in 2 = .ok (.if_icmp .lt 12, 3) := by decide +kernel
theorem dX10_in_5 : decode cX10_in 5 = .ok (.iload_n 0, 1) := by decide +kernel
theorem dX10_in_6 : decode cX10_in 6 = .ok (.iload_n 2, 1) := by decide +kernel
theorem dX10_in_7 : decode cX10_in 7 = .ok (.if_icmp .gt 7, 3) := by decide +kernel
theorem dX10_in_10 : decode cX10_in 10 = .ok (.iconst 1, 1) := by decide +kernel
theorem dX10_in_11 : decode cX10_in 11 = .ok (.goto 4, 3) := by decide +kernel
theorem dX10_in_14 : decode cX10_in 14 = .ok (.iconst 0, 1) := by decide +kernel
theorem dX10_in_15 : decode cX10_in 15 = .ok (.ireturn, 1) := by decide +kernel
theorem dX10_isCard_0 : decode cX10_isCard 0 = .ok (.iload_n 1, 1) := by decide +kernel
theorem dX10_isCard_1 : decode cX10_isCard 1 = .ok (.iconst 0, 1) := by decide +kernel
theorem dX10_isCard_2 : decode cX10_isCard 2 = .ok (.aload_n 0, 1) := by decide +kernel
theorem dX10_isCard_3 : decode cX10_isCard 3 = .ok (.getfield 74, 3) := by decide +kernel
theorem dX10_isCard_6 : decode cX10_isCard 6 = .ok (.iconst 1, 1) := by decide +kernel
theorem dX10_isCard_7 : decode cX10_isCard 7 = .ok (.isub, 1) := by decide +kernel
theorem dX10_isCard_8 : decode cX10_isCard 8 = .ok (.invokestatic 77, 3) := by decide +kernel
theorem dX10_isCard_11 : decode cX10_isCard 11 = .ok (.ireturn, 1) := by decide +kernel
theorem dX10_isKind_0 : decode cX10_isKind 0 = .ok (.iload_n 0, 1) := by decide +kernel
theorem dX10_isKind_1 : decode cX10_isKind 1 = .ok (.iconst 0, 1) := by decide +kernel
theorem dX10_isKind_2 : decode cX10_isKind 2 = .ok (.iconst 4, 1) := by decide +kernel
theorem dX10_isKind_3 : decode cX10_isKind 3 = .ok (.invokestatic 77, 3) := by decide +kernel
theorem dX10_isKind_6 : decode cX10_isKind 6 = .ok (.ireturn, 1) := by decide +kernel
theorem dX10_write_0 : decode cX10_write 0 = .ok (.iload_n 1, 1) := by decide +kernel
theorem dX10_write_1 : decode cX10_write 1 = .ok (.bipush 32, 2) := by decide +kernel
theorem dX10_write_3 : decode cX10_write 3 = .ok (.bipush 126, 2) := by decide +kernel
theorem dX10_write_5 : decode cX10_write 5 = .ok (.invokestatic 77, 3) := by decide +kernel
theorem dX10_write_8 : decode cX10_write 8 = .ok (.ifCond .ne 5, 3) := by decide +kernel
theorem dX10_write_11 : decode cX10_write 11 = .ok (.iconst (-1), 1) := by decide +kernel
theorem dX10_write_12 : decode cX10_write 12 = .ok (.ireturn, 1) := by decide +kernel
theorem dX10_write_13 : decode cX10_write 13 = .ok (.aload_n 0, 1) := by decide +kernel
theorem dX10_write_14 : decode cX10_write 14 = .ok (.getfield 81, 3) := by decide +kernel
theorem dX10_write_17 : decode cX10_write 17 = .ok (.sipush 200, 3) := by decide +kernel
theorem dX10_write_20 : decode cX10_write 20 = .ok (.if_icmp .ne 6, 3) := by decide +kernel
theorem dX10_write_23 : decode cX10_write 23 = .ok (.bipush (-3), 2) := by decide +kernel
theorem dX10_write_25 : decode cX10_write 25 = .ok (.ireturn, 1) := by decide +kernel
theorem dX10_write_26 : decode cX10_write 26 = .ok (.aload_n 0, 1) := by decide +kernel
theorem dX10_write_27 : decode cX10_write 27 = .ok (.getfield 28, 3) := by decide +kernel
theorem dX10_write_30 : decode cX10_write 30 = .ok (.aload_n 0, 1) := by decide +kernel
theorem dX10_write_31 : decode cX10_write 31 = .ok (.getfield 81, 3) := by decide +kernel
theorem dX10_write_34 : decode cX10_write 34 = .ok (.iload_n 1, 1) := by decide +kernel
theorem dX10_write_35 : decode cX10_write 35 = .ok (.iastore, 1) := by decide +kernel
theorem dX10_write_36 : decode cX10_write 36 = .ok (.aload_n 0, 1) := by decide +kernel
theorem dX10_write_37 : decode cX10_write 37 = .ok (.dup, 1) := by decide +kernel
theorem dX10_write_38 : decode cX10_write 38 = .ok (.getfield 81, 3) := by decide +kernel
theorem dX10_write_41 : decode cX10_write 41 = .ok (.iconst 1, 1) := by decide +kernel
theorem dX10_write_42 : decode cX10_write 42 = .ok (.iadd, 1) := by decide +kernel
theorem dX10_write_43 : decode cX10_write 43 = .ok (.putfield 81, 3) := by decide +kernel
theorem dX10_write_46 : decode cX10_write 46 = .ok (.aload_n 0, 1) := by decide +kernel
theorem dX10_write_47 : decode cX10_write 47 = .ok (.getfield 81, 3) := by decide +kernel
theorem dX10_write_50 : decode cX10_write 50 = .ok (.ireturn, 1) := by decide +kernel
theorem dX10_wipe_0 : decode cX10_wipe 0 = .ok (.aload_n 0, 1) := by decide +kernel
theorem dX10_wipe_1 : decode cX10_wipe 1 = .ok (.getfield 81, 3) := by decide +kernel
theorem dX10_wipe_4 : decode cX10_wipe 4 = .ok (.istore_n 1, 1) := by decide +kernel
theorem dX10_wipe_5 : decode cX10_wipe 5 = .ok (.aload_n 0, 1) := by decide +kernel
theorem dX10_wipe_6 : decode cX10_wipe 6 = .ok (.iconst 0, 1) := by decide +kernel
theorem dX10_wipe_7 : decode cX10_wipe 7 = .ok (.putfield 81, 3) := by decide +kernel
theorem dX10_wipe_10 : decode cX10_wipe 10 = .ok (.iload_n 1, 1) := by decide +kernel
theorem dX10_wipe_11 : decode cX10_wipe 11 = .ok (.ireturn, 1) := by decide +kernel
theorem dX10_letterAt_0 : decode cX10_letterAt 0 = .ok (.iload_n 1, 1) := by decide +kernel
theorem dX10_letterAt_1 : decode cX10_letterAt 1 = .ok (.aload_n 0, 1) := by decide +kernel
theorem dX10_letterAt_2 : decode cX10_letterAt 2 = .ok (.getfield 81, 3) := by decide +kernel
theorem dX10_letterAt_5 : decode cX10_letterAt 5 = .ok (.if_icmp .ge 12, 3) := by decide +kernel
theorem dX10_letterAt_8 : decode cX10_letterAt 8 = .ok (.aload_n 0, 1) := by decide +kernel
theorem dX10_letterAt_9 : decode cX10_letterAt 9 = .ok (.getfield 28, 3) := by decide +kernel
theorem dX10_letterAt_12 : decode cX10_letterAt 12 = .ok (.iload_n 1, 1) := by decide +kernel
theorem dX10_letterAt_13 : decode cX10_letterAt 13 = .ok (.iaload, 1) := by decide +kernel
theorem dX10_letterAt_14 : decode cX10_letterAt 14 = .ok (.goto 4, 3) := by decide +kernel
theorem dX10_letterAt_17 : decode cX10_letterAt 17 = .ok (.iconst (-1), 1) := by decide +kernel
theorem dX10_letterAt_18 : decode cX10_letterAt 18 = .ok (.ireturn, 1) := by decide +kernel
theorem dX10_isFigure_0 : decode cX10_isFigure 0 = .ok (.iload_n 0, 1) := by decide +kernel
theorem dX10_isFigure_1 : decode cX10_isFigure 1 = .ok (.bipush 48, 2) := by decide +kernel
theorem dX10_isFigure_3 : decode cX10_isFigure 3 = .ok (.bipush 57, 2) := by decide +kernel
theorem dX10_isFigure_5 : decode cX10_isFigure 5 = .ok (.invokestatic 77, 3) := by decide +kernel
theorem dX10_isFigure_8 : decode cX10_isFigure 8 = .ok (.ireturn, 1) := by decide +kernel
theorem dX10_readNumbers_0 : decode cX10_readNumbers 0 = .ok (.iconst 0, 1) := by decide +kernel
theorem dX10_readNumbers_1 : decode cX10_readNumbers 1 = .ok (.istore_n 2, 1) := by decide +kernel
theorem dX10_readNumbers_2 : decode cX10_readNumbers 2 = .ok (.iload_n 2, 1) := by decide +kernel
theorem dX10_readNumbers_3 : decode cX10_readNumbers 3 = .ok (.iload_n 1, 1) := by decide +kernel
theorem dX10_readNumbers_4 : decode cX10_readNumbers 4 = .ok (.if_icmp .ge 140, 3) := by decide +kernel
theorem dX10_readNumbers_7 : decode cX10_readNumbers 7 = .ok (.aload_n 0, 1) := by decide +kernel
theorem dX10_readNumbers_8 : decode cX10_readNumbers 8 = .ok (.aload_n 0, 1) := by decide +kernel
theorem dX10_readNumbers_9 : decode cX10_readNumbers 9 = .ok (.getfield 84, 3) := by decide +kernel
theorem dX10_readNumbers_12 : decode cX10_readNumbers 12 = .ok (.invokevirtual 87, 3) := by decide +kernel
theorem dX10_readNumbers_15 : decode cX10_readNumbers 15 = .ok (.invokestatic 91, 3) := by decide +kernel
theorem dX10_readNumbers_18 : decode cX10_readNumbers 18 = .ok (.ifCond .ne 5, 3) := by decide +kernel
theorem dX10_readNumbers_21 : decode cX10_readNumbers 21 = .ok (.iconst 0, 1) := by decide +kernel
theorem dX10_readNumbers_22 : decode cX10_readNumbers 22 = .ok (.ireturn, 1) := by decide +kernel
theorem dX10_readNumbers_23 : decode cX10_readNumbers 23 = .ok (.aload_n 0, 1) := by decide +kernel
theorem dX10_readNumbers_24 : decode cX10_readNumbers 24 = .ok (.getfield 31, 3) := by decide +kernel
theorem dX10_readNumbers_27 : decode cX10_readNumbers 27 = .ok (.iload_n 2, 1) := by decide +kernel
theorem dX10_readNumbers_28 : decode cX10_readNumbers 28 = .ok (.aload_n 0, 1) := by decide +kernel
theorem dX10_readNumbers_29 : decode cX10_readNumbers 29 = .ok (.aload_n 0, 1) := by decide +kernel
theorem dX10_readNumbers_30 : decode cX10_readNumbers 30 = .ok (.getfield 84, 3) := by decide +kernel
theorem dX10_readNumbers_33 : decode cX10_readNumbers 33 = .ok (.invokevirtual 87, 3) := by decide +kernel
theorem dX10_readNumbers_36 : decode cX10_readNumbers 36 = .ok (.bipush 48, 2) := by decide +kernel
theorem dX10_readNumbers_38 : decode cX10_readNumbers 38 = .ok (.isub, 1) := by decide +kernel
theorem dX10_readNumbers_39 : decode cX10_readNumbers 39 = .ok (.iastore, 1) := by decide +kernel
theorem dX10_readNumbers_40 : decode cX10_readNumbers 40 = .ok (.aload_n 0, 1) := by decide +kernel
theorem dX10_readNumbers_41 : decode cX10_readNumbers 41 = .ok (.dup, 1) := by decide +kernel
theorem dX10_readNumbers_42 : decode cX10_readNumbers 42 = .ok (.getfield 84, 3) := by decide +kernel
theorem dX10_readNumbers_45 : decode cX10_readNumbers 45 = .ok (.iconst 1, 1) := by decide +kernel
theorem dX10_readNumbers_46 : decode cX10_readNumbers 46 = .ok (.iadd, 1) := by decide +kernel
theorem dX10_readNumbers_47 : decode cX10_readNumbers 47 = .ok (.putfield 84, 3) := by decide +kernel
theorem dX10_readNumbers_50 : decode cX10_readNumbers 50 = .ok (.aload_n 0, 1) := by decide +kernel
theorem dX10_readNumbers_51 : decode cX10_readNumbers 51 = .ok (.aload_n 0, 1) := by decide +kernel
theorem dX10_readNumbers_52 : decode cX10_readNumbers 52 = .ok (.getfield 84, 3) := by decide +kernel
theorem dX10_readNumbers_55 : decode cX10_readNumbers 55 = .ok (.invokevirtual 87, 3) := by decide +kernel
theorem dX10_readNumbers_58 : decode cX10_readNumbers 58 = .ok (.invokestatic 91, 3) := by decide +kernel
theorem dX10_readNumbers_61 : decode cX10_readNumbers 61 = .ok (.ifCond .eq 40, 3) := by decide +kernel
theorem dX10_readNumbers_64 : decode cX10_readNumbers 64 = .ok (.aload_n 0, 1) := by decide +kernel
theorem dX10_readNumbers_65 : decode cX10_readNumbers 65 = .ok (.getfield 31, 3) := by decide +kernel
theorem dX10_readNumbers_68 : decode cX10_readNumbers 68 = .ok (.iload_n 2, 1) := by decide +kernel
theorem dX10_readNumbers_69 : decode cX10_readNumbers 69 = .ok (.bipush 10, 2) := by decide +kernel
theorem dX10_readNumbers_71 : decode cX10_readNumbers 71 = .ok (.aload_n 0, 1) := by decide +kernel
theorem dX10_readNumbers_72 : decode cX10_readNumbers 72 = .ok (.getfield 31, 3) := by decide +kernel
theorem dX10_readNumbers_75 : decode cX10_readNumbers 75 = .ok (.iload_n 2, 1) := by decide +kernel
theorem dX10_readNumbers_76 : decode cX10_readNumbers 76 = .ok (.iaload, 1) := by decide +kernel
theorem dX10_readNumbers_77 : decode cX10_readNumbers 77 = .ok (.imul, 1) := by decide +kernel
theorem dX10_readNumbers_78 : decode cX10_readNumbers 78 = .ok (.aload_n 0, 1) := by decide +kernel
theorem dX10_readNumbers_79 : decode cX10_readNumbers 79 = .ok (.aload_n 0, 1) := by decide +kernel
theorem dX10_readNumbers_80 : decode cX10_readNumbers 80 = .ok (.getfield 84, 3) := by decide +kernel
theorem dX10_readNumbers_83 : decode cX10_readNumbers 83 = .ok (.invokevirtual 87, 3) := by decide +kernel
theorem dX10_readNumbers_86 : decode cX10_readNumbers 86 = .ok (.iadd, 1) := by decide +kernel
theorem dX10_readNumbers_87 : decode cX10_readNumbers 87 = .ok (.bipush 48, 2) := by decide +kernel
theorem dX10_readNumbers_89 : decode cX10_readNumbers 89 = .ok (.isub, 1) := by decide +kernel
theorem dX10_readNumbers_90 : decode cX10_readNumbers 90 = .ok (.iastore, 1) := by decide +kernel
theorem dX10_readNumbers_91 : decode cX10_readNumbers 91 = .ok (.aload_n 0, 1) := by decide +kernel
theorem dX10_readNumbers_92 : decode cX10_readNumbers 92 = .ok (.dup, 1) := by decide +kernel
theorem dX10_readNumbers_93 : decode cX10_readNumbers 93 = .ok (.getfield 84, 3) := by decide +kernel
theorem dX10_readNumbers_96 : decode cX10_readNumbers 96 = .ok (.iconst 1, 1) := by decide +kernel
theorem dX10_readNumbers_97 : decode cX10_readNumbers 97 = .ok (.iadd, 1) := by decide +kernel
theorem dX10_readNumbers_98 : decode cX10_readNumbers 98 = .ok (.putfield 84, 3) := by decide +kernel
theorem dX10_readNumbers_101 : decode cX10_readNumbers 101 = .ok (.aload_n 0, 1) := by decide +kernel
theorem dX10_readNumbers_102 : decode cX10_readNumbers 102 = .ok (.aload_n 0, 1) := by decide +kernel
theorem dX10_readNumbers_103 : decode cX10_readNumbers 103 = .ok (.getfield 84, 3) := by decide +kernel
theorem dX10_readNumbers_106 : decode cX10_readNumbers 106 = .ok (.invokevirtual 87, 3) := by decide +kernel
theorem dX10_readNumbers_109 : decode cX10_readNumbers 109 = .ok (.iload_n 2, 1) := by decide +kernel
theorem dX10_readNumbers_110 : decode cX10_readNumbers 110 = .ok (.iload_n 1, 1) := by decide +kernel
theorem dX10_readNumbers_111 : decode cX10_readNumbers 111 = .ok (.iconst 1, 1) := by decide +kernel
theorem dX10_readNumbers_112 : decode cX10_readNumbers 112 = .ok (.isub, 1) := by decide +kernel
theorem dX10_readNumbers_113 : decode cX10_readNumbers 113 = .ok (.if_icmp .ge 8, 3) := by decide +kernel
theorem dX10_readNumbers_116 : decode cX10_readNumbers 116 = .ok (.bipush 44, 2) := by decide +kernel
theorem dX10_readNumbers_118 : decode cX10_readNumbers 118 = .ok (.goto 5, 3) := by decide +kernel
theorem dX10_readNumbers_121 : decode cX10_readNumbers 121 = .ok (.bipush 59, 2) := by decide +kernel
theorem dX10_readNumbers_123 : decode cX10_readNumbers 123 = .ok (.if_icmp .eq 5, 3) := by decide +kernel
theorem dX10_readNumbers_126 : decode cX10_readNumbers 126 = .ok (.iconst 0, 1) := by decide +kernel
theorem dX10_readNumbers_127 : decode cX10_readNumbers 127 = .ok (.ireturn, 1) := by decide +kernel
theorem dX10_readNumbers_128 : decode cX10_readNumbers 128 = .ok (.aload_n 0, 1) := by decide +kernel
theorem dX10_readNumbers_129 : decode cX10_readNumbers 129 = .ok (.dup, 1) := by decide +kernel
theorem dX10_readNumbers_130 : decode cX10_readNumbers 130 = .ok (.getfield 84, 3) := by decide +kernel
theorem dX10_readNumbers_133 : decode cX10_readNumbers 133 = .ok (.iconst 1, 1) := by decide +kernel
theorem dX10_readNumbers_134 : decode cX10_readNumbers 134 = .ok (.iadd, 1) := by decide +kernel
theorem dX10_readNumbers_135 : decode cX10_readNumbers 135 = .ok (.putfield 84, 3) := by decide +kernel
theorem dX10_readNumbers_138 : decode cX10_readNumbers 138 = .ok (.iinc 2 1, 3) := by decide +kernel
theorem dX10_readNumbers_141 : decode cX10_readNumbers 141 = .ok (.goto (-139), 3) := by decide +kernel
theorem dX10_readNumbers_144 : decode cX10_readNumbers 144 = .ok (.iconst 1, 1) := by decide +kernel
theorem dX10_readNumbers_145 : decode cX10_readNumbers 145 = .ok (.ireturn, 1) := by decide +kernel
theorem dX10_isTold_0 : decode cX10_isTold 0 = .ok (.aload_n 0, 1) := by decide +kernel
theorem dX10_isTold_1 : decode cX10_isTold 1 = .ok (.getfield 31, 3) := by decide +kernel
theorem dX10_isTold_4 : decode cX10_isTold 4 = .ok (.iload_n 1, 1) := by decide +kernel
theorem dX10_isTold_5 : decode cX10_isTold 5 = .ok (.iaload, 1) := by decide +kernel
theorem dX10_isTold_6 : decode cX10_isTold 6 = .ok (.iload_n 2, 1) := by decide +kernel
theorem dX10_isTold_7 : decode cX10_isTold 7 = .ok (.iload_n 3, 1) := by decide +kernel
theorem dX10_isTold_8 : decode cX10_isTold 8 = .ok (.invokestatic 77, 3) := by decide +kernel
theorem dX10_isTold_11 : decode cX10_isTold 11 = .ok (.ireturn, 1) := by decide +kernel
theorem dX10_colours_0 : decode cX10_colours 0 = .ok (.iconst 0, 1) := by decide +kernel
theorem dX10_colours_1 : decode cX10_colours 1 = .ok (.istore_n 1, 1) := by decide +kernel
theorem dX10_colours_2 : decode cX10_colours 2 = .ok (.iload_n 1, 1) := by decide +kernel
theorem dX10_colours_3 : decode cX10_colours 3 = .ok (.bipush 16, 2) := by decide +kernel
theorem dX10_colours_5 : decode cX10_colours 5 = .ok (.if_icmp .ge 18, 3) := by decide +kernel
theorem dX10_colours_8 : decode cX10_colours 8 = .ok (.aload_n 0, 1) := by decide +kernel
theorem dX10_colours_9 : decode cX10_colours 9 = .ok (.getfield 34, 3) := by decide +kernel
theorem dX10_colours_12 : decode cX10_colours 12 = .ok (.iload_n 1, 1) := by decide +kernel
theorem dX10_colours_13 : decode cX10_colours 13 = .ok (.iload_n 1, 1) := by decide +kernel
theorem dX10_colours_14 : decode cX10_colours 14 = .ok (.iconst 2, 1) := by decide +kernel
theorem dX10_colours_15 : decode cX10_colours 15 = .ok (.irem, 1) := by decide +kernel
theorem dX10_colours_16 : decode cX10_colours 16 = .ok (.iastore, 1) := by decide +kernel
theorem dX10_colours_17 : decode cX10_colours 17 = .ok (.iinc 1 1, 3) := by decide +kernel
theorem dX10_colours_20 : decode cX10_colours 20 = .ok (.goto (-18), 3) := by decide +kernel
theorem dX10_colours_23 : decode cX10_colours 23 = .ok (.return_, 1) := by decide +kernel
theorem dX10_clearTold_0 : decode cX10_clearTold 0 = .ok (.aload_n 0, 1) := by decide +kernel
theorem dX10_clearTold_1 : decode cX10_clearTold 1 = .ok (.iconst 0, 1) := by decide +kernel
theorem dX10_clearTold_2 : decode cX10_clearTold 2 = .ok (.putfield 95, 3) := by decide +kernel
theorem dX10_clearTold_5 : decode cX10_clearTold 5 = .ok (.aload_n 0, 1) := by decide +kernel
theorem dX10_clearTold_6 : decode cX10_clearTold 6 = .ok (.bipush 8, 2) := by decide +kernel
theorem dX10_clearTold_8 : decode cX10_clearTold 8 = .ok (.putfield 61, 3) := by decide +kernel
theorem dX10_clearTold_11 : decode cX10_clearTold 11 = .ok (.aload_n 0, 1) := by decide +kernel
theorem dX10_clearTold_12 : decode cX10_clearTold 12 = .ok (.iconst 0, 1) := by decide +kernel
theorem dX10_clearTold_13 : decode cX10_clearTold 13 = .ok (.putfield 68, 3) := by decide +kernel
theorem dX10_clearTold_16 : decode cX10_clearTold 16 = .ok (.aload_n 0, 1) := by decide +kernel
theorem dX10_clearTold_17 : decode cX10_clearTold 17 = .ok (.invokevirtual 65, 3) := by decide +kernel
theorem dX10_clearTold_20 : decode cX10_clearTold 20 = .ok (.return_, 1) := by decide +kernel
theorem dX10_readCardsOf_0 : decode cX10_readCardsOf 0 = .ok (.aload_n 0, 1) := by decide +kernel
theorem dX10_readCardsOf_1 : decode cX10_readCardsOf 1 = .ok (.getfield 95, 3) := by decide +kernel
theorem dX10_readCardsOf_4 : decode cX10_readCardsOf 4 = .ok (.ifCond .ne 26, 3) := by decide +kernel
theorem dX10_readCardsOf_7 : decode cX10_readCardsOf 7 = .ok (.aload_n 0, 1) := by decide +kernel
theorem dX10_readCardsOf_8 : decode cX10_readCardsOf 8 = .ok (.iconst 1, 1) := by decide +kernel
theorem dX10_readCardsOf_9 : decode cX10_readCardsOf 9 = .ok (.invokevirtual 99, 3) := by decide +kernel
theorem dX10_readCardsOf_12 : decode cX10_readCardsOf 12 = .ok (.ifCond .eq 18, 3) := by decide +kernel
theorem dX10_readCardsOf_15 : decode cX10_readCardsOf 15 = .ok (.aload_n 0, 1) := by decide +kernel
theorem dX10_readCardsOf_16 : decode cX10_readCardsOf 16 = .ok (.iconst 0, 1) := by decide +kernel
theorem dX10_readCardsOf_17 : decode cX10_readCardsOf 17 = .ok (.iconst 2, 1) := by decide +kernel
theorem dX10_readCardsOf_18 : decode cX10_readCardsOf 18 = .ok (.bipush 16, 2) := by decide +kernel
theorem dX10_readCardsOf_20 : decode cX10_readCardsOf 20 = .ok (.invokevirtual 102, 3) := by decide +kernel
theorem dX10_readCardsOf_23 : decode cX10_readCardsOf 23 = .ok (.ifCond .eq 7, 3) := by decide +kernel
theorem dX10_readCardsOf_26 : decode cX10_readCardsOf 26 = .ok (.iconst 1, 1) := by decide +kernel
theorem dX10_readCardsOf_27 : decode cX10_readCardsOf 27 = .ok (.goto 4, 3) := by decide +kernel
theorem dX10_readCardsOf_30 : decode cX10_readCardsOf 30 = .ok (.iconst 0, 1) := by decide +kernel
theorem dX10_readCardsOf_31 : decode cX10_readCardsOf 31 = .ok (.istore_n 1, 1) := by decide +kernel
theorem dX10_readCardsOf_32 : decode cX10_readCardsOf 32 = .ok (.aload_n 0, 1) := by decide +kernel
theorem dX10_readCardsOf_33 : decode cX10_readCardsOf 33 = .ok (.iload_n 1, 1) := by decide +kernel
theorem dX10_readCardsOf_34 : decode cX10_readCardsOf 34 = .ok (.ifCond .eq 12, 3) := by decide +kernel
theorem dX10_readCardsOf_37 : decode cX10_readCardsOf 37 = .ok (.aload_n 0, 1) := by decide +kernel
theorem dX10_readCardsOf_38 : decode cX10_readCardsOf 38 = .ok (.getfield 31, 3) := by decide +kernel
theorem dX10_readCardsOf_41 : decode cX10_readCardsOf 41 = .ok (.iconst 0, 1) := by decide +kernel
theorem dX10_readCardsOf_42 : decode cX10_readCardsOf 42 = .ok (.iaload, 1) := by decide +kernel
theorem dX10_readCardsOf_43 : decode cX10_readCardsOf 43 = .ok (.goto 7, 3) := by decide +kernel
theorem dX10_readCardsOf_46 : decode cX10_readCardsOf 46 = .ok (.aload_n 0, 1) := by decide +kernel
theorem dX10_readCardsOf_47 : decode cX10_readCardsOf 47 = .ok (.getfield 61, 3) := by decide +kernel
theorem dX10_readCardsOf_50 : decode cX10_readCardsOf 50 = .ok (.putfield 61, 3) := by decide +kernel
theorem dX10_readCardsOf_53 : decode cX10_readCardsOf 53 = .ok (.iload_n 1, 1) := by decide +kernel
theorem dX10_readCardsOf_54 : decode cX10_readCardsOf 54 = .ok (.ireturn, 1) := by decide +kernel
theorem dX10_readColourOf_0 : decode cX10_readColourOf 0 = .ok (.aload_n 0, 1) := by decide +kernel
theorem dX10_readColourOf_1 : decode cX10_readColourOf 1 = .ok (.iconst 2, 1) := by decide +kernel
theorem dX10_readColourOf_2 : decode cX10_readColourOf 2 = .ok (.invokevirtual 99, 3) := by decide +kernel
theorem dX10_readColourOf_5 : decode cX10_readColourOf 5 = .ok (.ifCond .eq 28, 3) := by decide +kernel
theorem dX10_readColourOf_8 : decode cX10_readColourOf 8 = .ok (.aload_n 0, 1) := by decide +kernel
theorem dX10_readColourOf_9 : decode cX10_readColourOf 9 = .ok (.iconst 0, 1) := by decide +kernel
theorem dX10_readColourOf_10 : decode cX10_readColourOf 10 = .ok (.iconst 0, 1) := by decide +kernel
theorem dX10_readColourOf_11 : decode cX10_readColourOf 11 = .ok (.aload_n 0, 1) := by decide +kernel
theorem dX10_readColourOf_12 : decode cX10_readColourOf 12 = .ok (.getfield 61, 3) := by decide +kernel
theorem dX10_readColourOf_15 : decode cX10_readColourOf 15 = .ok (.iconst 1, 1) := by decide +kernel
theorem dX10_readColourOf_16 : decode cX10_readColourOf 16 = .ok (.isub, 1) := by decide +kernel
theorem dX10_readColourOf_17 : decode cX10_readColourOf 17 = .ok (.invokevirtual 102, 3) := by decide +kernel
theorem dX10_readColourOf_20 : decode cX10_readColourOf 20 = .ok (.ifCond .eq 13, 3) := by decide +kernel
theorem dX10_readColourOf_23 : decode cX10_readColourOf 23 = .ok (.aload_n 0, 1) := by decide +kernel
theorem dX10_readColourOf_24 : decode cX10_readColourOf 24 = .ok (.iconst 1, 1) := by decide +kernel
theorem dX10_readColourOf_25 : decode cX10_readColourOf 25 = .ok (.iconst 0, 1) := by decide +kernel
theorem dX10_readColourOf_26 : decode cX10_readColourOf 26 = .ok (.iconst 3, 1) := by decide +kernel
theorem dX10_readColourOf_27 : decode cX10_readColourOf 27 = .ok (.invokevirtual 102, 3) := by decide +kernel
theorem dX10_readColourOf_30 : decode cX10_readColourOf 30 = .ok (.ifCond .ne 5, 3) := by decide +kernel
theorem dX10_readColourOf_33 : decode cX10_readColourOf 33 = .ok (.iconst 0, 1) := by decide +kernel
theorem dX10_readColourOf_34 : decode cX10_readColourOf 34 = .ok (.ireturn, 1) := by decide +kernel
theorem dX10_readColourOf_35 : decode cX10_readColourOf 35 = .ok (.aload_n 0, 1) := by decide +kernel
theorem dX10_readColourOf_36 : decode cX10_readColourOf 36 = .ok (.getfield 34, 3) := by decide +kernel
theorem dX10_readColourOf_39 : decode cX10_readColourOf 39 = .ok (.aload_n 0, 1) := by decide +kernel
theorem dX10_readColourOf_40 : decode cX10_readColourOf 40 = .ok (.getfield 31, 3) := by decide +kernel
theorem dX10_readColourOf_43 : decode cX10_readColourOf 43 = .ok (.iconst 0, 1) := by decide +kernel
theorem dX10_readColourOf_44 : decode cX10_readColourOf 44 = .ok (.iaload, 1) := by decide +kernel
theorem dX10_readColourOf_45 : decode cX10_readColourOf 45 = .ok (.aload_n 0, 1) := by decide +kernel
theorem dX10_readColourOf_46 : decode cX10_readColourOf 46 = .ok (.getfield 31, 3) := by decide +kernel
theorem dX10_readColourOf_49 : decode cX10_readColourOf 49 = .ok (.iconst 1, 1) := by decide +kernel
theorem dX10_readColourOf_50 : decode cX10_readColourOf 50 = .ok (.iaload, 1) := by decide +kernel
theorem dX10_readColourOf_51 : decode cX10_readColourOf 51 = .ok (.iastore, 1) := by decide +kernel
theorem dX10_readColourOf_52 : decode cX10_readColourOf 52 = .ok (.iconst 1, 1) := by decide +kernel
theorem dX10_readColourOf_53 : decode cX10_readColourOf 53 = .ok (.ireturn, 1) := by decide +kernel
theorem dX10_readDealOf_0 : decode cX10_readDealOf 0 = .ok (.aload_n 0, 1) := by decide +kernel
theorem dX10_readDealOf_1 : decode cX10_readDealOf 1 = .ok (.getfield 68, 3) := by decide +kernel
theorem dX10_readDealOf_4 : decode cX10_readDealOf 4 = .ok (.bipush 16, 2) := by decide +kernel
theorem dX10_readDealOf_6 : decode cX10_readDealOf 6 = .ok (.if_icmp .eq 21, 3) := by decide +kernel
theorem dX10_readDealOf_9 : decode cX10_readDealOf 9 = .ok (.aload_n 0, 1) := by decide +kernel
theorem dX10_readDealOf_10 : decode cX10_readDealOf 10 = .ok (.iconst 1, 1) := by decide +kernel
theorem dX10_readDealOf_11 : decode cX10_readDealOf 11 = .ok (.invokevirtual 99, 3) := by decide +kernel
theorem dX10_readDealOf_14 : decode cX10_readDealOf 14 = .ok (.ifCond .eq 13, 3) := by decide +kernel
theorem dX10_readDealOf_17 : decode cX10_readDealOf 17 = .ok (.aload_n 0, 1) := by decide +kernel
theorem dX10_readDealOf_18 : decode cX10_readDealOf 18 = .ok (.iconst 0, 1) := by decide +kernel
theorem dX10_readDealOf_19 : decode cX10_readDealOf 19 = .ok (.iconst 0, 1) := by decide +kernel
theorem dX10_readDealOf_20 : decode cX10_readDealOf 20 = .ok (.iload_n 2, 1) := by decide +kernel
theorem dX10_readDealOf_21 : decode cX10_readDealOf 21 = .ok (.invokevirtual 102, 3) := by decide +kernel
theorem dX10_readDealOf_24 : decode cX10_readDealOf 24 = .ok (.ifCond .ne 5, 3) := by decide +kernel
theorem dX10_readDealOf_27 : decode cX10_readDealOf 27 = .ok (.iconst 0, 1) := by decide +kernel
theorem dX10_readDealOf_28 : decode cX10_readDealOf 28 = .ok (.ireturn, 1) := by decide +kernel
theorem dX10_readDealOf_29 : decode cX10_readDealOf 29 = .ok (.aload_n 0, 1) := by decide +kernel
theorem dX10_readDealOf_30 : decode cX10_readDealOf 30 = .ok (.getfield 37, 3) := by decide +kernel
theorem dX10_readDealOf_33 : decode cX10_readDealOf 33 = .ok (.aload_n 0, 1) := by decide +kernel
theorem dX10_readDealOf_34 : decode cX10_readDealOf 34 = .ok (.getfield 68, 3) := by decide +kernel
theorem dX10_readDealOf_37 : decode cX10_readDealOf 37 = .ok (.iload_n 1, 1) := by decide +kernel
theorem dX10_readDealOf_38 : decode cX10_readDealOf 38 = .ok (.aload_n 0, 1) := by decide +kernel
theorem dX10_readDealOf_39 : decode cX10_readDealOf 39 = .ok (.getfield 31, 3) := by decide +kernel
theorem dX10_readDealOf_42 : decode cX10_readDealOf 42 = .ok (.iconst 0, 1) := by decide +kernel
theorem dX10_readDealOf_43 : decode cX10_readDealOf 43 = .ok (.iaload, 1) := by decide +kernel
theorem dX10_readDealOf_44 : decode cX10_readDealOf 44 = .ok (.iadd, 1) := by decide +kernel
theorem dX10_readDealOf_45 : decode cX10_readDealOf 45 = .ok (.iastore, 1) := by decide +kernel
theorem dX10_readDealOf_46 : decode cX10_readDealOf 46 = .ok (.aload_n 0, 1) := by decide +kernel
theorem dX10_readDealOf_47 : decode cX10_readDealOf 47 = .ok (.dup, 1) := by decide +kernel
theorem dX10_readDealOf_48 : decode cX10_readDealOf 48 = .ok (.getfield 68, 3) := by decide +kernel
theorem dX10_readDealOf_51 : decode cX10_readDealOf 51 = .ok (.iconst 1, 1) := by decide +kernel
theorem dX10_readDealOf_52 : decode cX10_readDealOf 52 = .ok (.iadd, 1) := by decide +kernel
theorem dX10_readDealOf_53 : decode cX10_readDealOf 53 = .ok (.putfield 68, 3) := by decide +kernel
theorem dX10_readDealOf_56 : decode cX10_readDealOf 56 = .ok (.iconst 1, 1) := by decide +kernel
theorem dX10_readDealOf_57 : decode cX10_readDealOf 57 = .ok (.ireturn, 1) := by decide +kernel
theorem dX10_readItem_0 : decode cX10_readItem 0 = .ok (.aload_n 0, 1) := by decide +kernel
theorem dX10_readItem_1 : decode cX10_readItem 1 = .ok (.aload_n 0, 1) := by decide +kernel
theorem dX10_readItem_2 : decode cX10_readItem 2 = .ok (.getfield 84, 3) := by decide +kernel
theorem dX10_readItem_5 : decode cX10_readItem 5 = .ok (.invokevirtual 87, 3) := by decide +kernel
theorem dX10_readItem_8 : decode cX10_readItem 8 = .ok (.istore_n 1, 1) := by decide +kernel
theorem dX10_readItem_9 : decode cX10_readItem 9 = .ok (.aload_n 0, 1) := by decide +kernel
theorem dX10_readItem_10 : decode cX10_readItem 10 = .ok (.dup, 1) := by decide +kernel
theorem dX10_readItem_11 : decode cX10_readItem 11 = .ok (.getfield 84, 3) := by decide +kernel
theorem dX10_readItem_14 : decode cX10_readItem 14 = .ok (.iconst 1, 1) := by decide +kernel
theorem dX10_readItem_15 : decode cX10_readItem 15 = .ok (.iadd, 1) := by decide +kernel
theorem dX10_readItem_16 : decode cX10_readItem 16 = .ok (.putfield 84, 3) := by decide +kernel
theorem dX10_readItem_19 : decode cX10_readItem 19 = .ok (.iload_n 1, 1) := by decide +kernel
theorem dX10_readItem_20 : decode cX10_readItem 20 = .ok (.bipush 110, 2) := by decide +kernel
theorem dX10_readItem_22 : decode cX10_readItem 22 = .ok (.if_icmp .ne 8, 3) := by decide +kernel
theorem dX10_readItem_25 : decode cX10_readItem 25 = .ok (.aload_n 0, 1) := by decide +kernel
theorem dX10_readItem_26 : decode cX10_readItem 26 = .ok (.invokevirtual 105, 3) := by decide +kernel
theorem dX10_readItem_29 : decode cX10_readItem 29 = .ok (.ireturn, 1) := by decide +kernel
theorem dX10_readItem_30 : decode cX10_readItem 30 = .ok (.aload_n 0, 1) := by decide +kernel
theorem dX10_readItem_31 : decode cX10_readItem 31 = .ok (.iconst 1, 1) := by decide +kernel
theorem dX10_readItem_32 : decode cX10_readItem 32 = .ok (.putfield 95, 3) := by decide +kernel
theorem dX10_readItem_35 : decode cX10_readItem 35 = .ok (.iload_n 1, 1) := by decide +kernel
theorem dX10_readItem_36 : decode cX10_readItem 36 = .ok (.lookupswitch 61 #[(99, 36), (108, 41), (120, 48)], 36) := by decide +kernel
theorem dX10_readItem_72 : decode cX10_readItem 72 = .ok (.aload_n 0, 1) := by decide +kernel
theorem dX10_readItem_73 : decode cX10_readItem 73 = .ok (.invokevirtual 109, 3) := by decide +kernel
theorem dX10_readItem_76 : decode cX10_readItem 76 = .ok (.ireturn, 1) := by decide +kernel
theorem dX10_readItem_77 : decode cX10_readItem 77 = .ok (.aload_n 0, 1) := by decide +kernel
theorem dX10_readItem_78 : decode cX10_readItem 78 = .ok (.iconst 0, 1) := by decide +kernel
theorem dX10_readItem_79 : decode cX10_readItem 79 = .ok (.iconst 4, 1) := by decide +kernel
theorem dX10_readItem_80 : decode cX10_readItem 80 = .ok (.invokevirtual 112, 3) := by decide +kernel
theorem dX10_readItem_83 : decode cX10_readItem 83 = .ok (.ireturn, 1) := by decide +kernel
theorem dX10_readItem_84 : decode cX10_readItem 84 = .ok (.aload_n 0, 1) := by decide +kernel
theorem dX10_readItem_85 : decode cX10_readItem 85 = .ok (.bipush 6, 2) := by decide +kernel
theorem dX10_readItem_87 : decode cX10_readItem 87 = .ok (.aload_n 0, 1) := by decide +kernel
theorem dX10_readItem_88 : decode cX10_readItem 88 = .ok (.getfield 61, 3) := by decide +kernel
theorem dX10_readItem_91 : decode cX10_readItem 91 = .ok (.iconst 1, 1) := by decide +kernel
theorem dX10_readItem_92 : decode cX10_readItem 92 = .ok (.isub, 1) := by decide +kernel
theorem dX10_readItem_93 : decode cX10_readItem 93 = .ok (.invokevirtual 112, 3) := by decide +kernel
theorem dX10_readItem_96 : decode cX10_readItem 96 = .ok (.ireturn, 1) := by decide +kernel
theorem dX10_readItem_97 : decode cX10_readItem 97 = .ok (.iconst 0, 1) := by decide +kernel
theorem dX10_readItem_98 : decode cX10_readItem 98 = .ok (.ireturn, 1) := by decide +kernel
theorem dX10_fault_0 : decode cX10_fault 0 = .ok (.aload_n 0, 1) := by decide +kernel
theorem dX10_fault_1 : decode cX10_fault 1 = .ok (.iconst 0, 1) := by decide +kernel
theorem dX10_fault_2 : decode cX10_fault 2 = .ok (.putfield 84, 3) := by decide +kernel
theorem dX10_fault_5 : decode cX10_fault 5 = .ok (.aload_n 0, 1) := by decide +kernel
theorem dX10_fault_6 : decode cX10_fault 6 = .ok (.invokevirtual 58, 3) := by decide +kernel
theorem dX10_fault_9 : decode cX10_fault 9 = .ok (.aload_n 0, 1) := by decide +kernel
theorem dX10_fault_10 : decode cX10_fault 10 = .ok (.getfield 84, 3) := by decide +kernel
theorem dX10_fault_13 : decode cX10_fault 13 = .ok (.aload_n 0, 1) := by decide +kernel
theorem dX10_fault_14 : decode cX10_fault 14 = .ok (.getfield 81, 3) := by decide +kernel
theorem dX10_fault_17 : decode cX10_fault 17 = .ok (.if_icmp .ge 20, 3) := by decide +kernel
theorem dX10_fault_20 : decode cX10_fault 20 = .ok (.aload_n 0, 1) := by decide +kernel
theorem dX10_fault_21 : decode cX10_fault 21 = .ok (.getfield 84, 3) := by decide +kernel
theorem dX10_fault_24 : decode cX10_fault 24 = .ok (.istore_n 1, 1) := by decide +kernel
theorem dX10_fault_25 : decode cX10_fault 25 = .ok (.aload_n 0, 1) := by decide +kernel
theorem dX10_fault_26 : decode cX10_fault 26 = .ok (.invokevirtual 116, 3) := by decide +kernel
theorem dX10_fault_29 : decode cX10_fault 29 = .ok (.ifCond .ne 5, 3) := by decide +kernel
theorem dX10_fault_32 : decode cX10_fault 32 = .ok (.iload_n 1, 1) := by decide +kernel
theorem dX10_fault_33 : decode cX10_fault 33 = .ok (.ireturn, 1) := by decide +kernel
theorem dX10_fault_34 : decode cX10_fault 34 = .ok (.goto (-25), 3) := by decide +kernel
theorem dX10_fault_37 : decode cX10_fault 37 = .ok (.bipush (-4), 2) := by decide +kernel
theorem dX10_fault_39 : decode cX10_fault 39 = .ok (.ireturn, 1) := by decide +kernel
theorem dX10_lay_0 : decode cX10_lay 0 = .ok (.aload_n 0, 1) := by decide +kernel
theorem dX10_lay_1 : decode cX10_lay 1 = .ok (.getfield 81, 3) := by decide +kernel
theorem dX10_lay_4 : decode cX10_lay 4 = .ok (.ifCond .eq 12, 3) := by decide +kernel
theorem dX10_lay_7 : decode cX10_lay 7 = .ok (.aload_n 0, 1) := by decide +kernel
theorem dX10_lay_8 : decode cX10_lay 8 = .ok (.invokevirtual 119, 3) := by decide +kernel
theorem dX10_lay_11 : decode cX10_lay 11 = .ok (.bipush (-4), 2) := by decide +kernel
theorem dX10_lay_13 : decode cX10_lay 13 = .ok (.if_icmp .eq 6, 3) := by decide +kernel
theorem dX10_lay_16 : decode cX10_lay 16 = .ok (.bipush (-2), 2) := by decide +kernel
theorem dX10_lay_18 : decode cX10_lay 18 = .ok (.ireturn, 1) := by decide +kernel
theorem dX10_lay_19 : decode cX10_lay 19 = .ok (.aload_n 0, 1) := by decide +kernel
theorem dX10_lay_20 : decode cX10_lay 20 = .ok (.invokevirtual 71, 3) := by decide +kernel
theorem dX10_lay_23 : decode cX10_lay 23 = .ok (.aload_n 0, 1) := by decide +kernel
theorem dX10_lay_24 : decode cX10_lay 24 = .ok (.getfield 74, 3) := by decide +kernel
theorem dX10_lay_27 : decode cX10_lay 27 = .ok (.ireturn, 1) := by decide +kernel
theorem dX10_copies_0 : decode cX10_copies 0 = .ok (.iconst 0, 1) := by decide +kernel
theorem dX10_copies_1 : decode cX10_copies 1 = .ok (.istore 5, 2) := by decide +kernel
theorem dX10_copies_3 : decode cX10_copies 3 = .ok (.iload 5, 2) := by decide +kernel
theorem dX10_copies_5 : decode cX10_copies 5 = .ok (.iload 4, 2) := by decide +kernel
theorem dX10_copies_7 : decode cX10_copies 7 = .ok (.if_icmp .ge 21, 3) := by decide +kernel
theorem dX10_copies_10 : decode cX10_copies 10 = .ok (.aload_n 0, 1) := by decide +kernel
theorem dX10_copies_11 : decode cX10_copies 11 = .ok (.iload_n 1, 1) := by decide +kernel
theorem dX10_copies_12 : decode cX10_copies 12 = .ok (.iload 5, 2) := by decide +kernel
theorem dX10_copies_14 : decode cX10_copies 14 = .ok (.iadd, 1) := by decide +kernel
theorem dX10_copies_15 : decode cX10_copies 15 = .ok (.aload_n 2, 1) := by decide +kernel
theorem dX10_copies_16 : decode cX10_copies 16 = .ok (.iload_n 3, 1) := by decide +kernel
theorem dX10_copies_17 : decode cX10_copies 17 = .ok (.iload 5, 2) := by decide +kernel
theorem dX10_copies_19 : decode cX10_copies 19 = .ok (.iadd, 1) := by decide +kernel
theorem dX10_copies_20 : decode cX10_copies 20 = .ok (.iaload, 1) := by decide +kernel
theorem dX10_copies_21 : decode cX10_copies 21 = .ok (.iastore, 1) := by decide +kernel
theorem dX10_copies_22 : decode cX10_copies 22 = .ok (.iinc 5 1, 3) := by decide +kernel
theorem dX10_copies_25 : decode cX10_copies 25 = .ok (.goto (-22), 3) := by decide +kernel
theorem dX10_copies_28 : decode cX10_copies 28 = .ok (.return_, 1) := by decide +kernel
theorem dX10_settles_0 : decode cX10_settles 0 = .ok (.aload_n 0, 1) := by decide +kernel
theorem dX10_settles_1 : decode cX10_settles 1 = .ok (.aload_n 0, 1) := by decide +kernel
theorem dX10_settles_2 : decode cX10_settles 2 = .ok (.getfield 61, 3) := by decide +kernel
theorem dX10_settles_5 : decode cX10_settles 5 = .ok (.putfield 74, 3) := by decide +kernel
theorem dX10_settles_8 : decode cX10_settles 8 = .ok (.aload_n 0, 1) := by decide +kernel
theorem dX10_settles_9 : decode cX10_settles 9 = .ok (.getfield 7, 3) := by decide +kernel
theorem dX10_settles_12 : decode cX10_settles 12 = .ok (.iconst 0, 1) := by decide +kernel
theorem dX10_settles_13 : decode cX10_settles 13 = .ok (.aload_n 0, 1) := by decide +kernel
theorem dX10_settles_14 : decode cX10_settles 14 = .ok (.getfield 34, 3) := by decide +kernel
theorem dX10_settles_17 : decode cX10_settles 17 = .ok (.iconst 0, 1) := by decide +kernel
theorem dX10_settles_18 : decode cX10_settles 18 = .ok (.bipush 16, 2) := by decide +kernel
theorem dX10_settles_20 : decode cX10_settles 20 = .ok (.invokestatic 123, 3) := by decide +kernel
theorem dX10_settles_23 : decode cX10_settles 23 = .ok (.aload_n 0, 1) := by decide +kernel
theorem dX10_settles_24 : decode cX10_settles 24 = .ok (.aload_n 0, 1) := by decide +kernel
theorem dX10_settles_25 : decode cX10_settles 25 = .ok (.getfield 68, 3) := by decide +kernel
theorem dX10_settles_28 : decode cX10_settles 28 = .ok (.putfield 127, 3) := by decide +kernel
theorem dX10_settles_31 : decode cX10_settles 31 = .ok (.aload_n 0, 1) := by decide +kernel
theorem dX10_settles_32 : decode cX10_settles 32 = .ok (.getfield 13, 3) := by decide +kernel
theorem dX10_settles_35 : decode cX10_settles 35 = .ok (.iconst 0, 1) := by decide +kernel
theorem dX10_settles_36 : decode cX10_settles 36 = .ok (.aload_n 0, 1) := by decide +kernel
theorem dX10_settles_37 : decode cX10_settles 37 = .ok (.getfield 37, 3) := by decide +kernel
theorem dX10_settles_40 : decode cX10_settles 40 = .ok (.iconst 0, 1) := by decide +kernel
theorem dX10_settles_41 : decode cX10_settles 41 = .ok (.bipush 16, 2) := by decide +kernel
theorem dX10_settles_43 : decode cX10_settles 43 = .ok (.invokestatic 123, 3) := by decide +kernel
theorem dX10_settles_46 : decode cX10_settles 46 = .ok (.aload_n 0, 1) := by decide +kernel
theorem dX10_settles_47 : decode cX10_settles 47 = .ok (.getfield 16, 3) := by decide +kernel
theorem dX10_settles_50 : decode cX10_settles 50 = .ok (.invokestatic 130, 3) := by decide +kernel
theorem dX10_settles_53 : decode cX10_settles 53 = .ok (.aload_n 0, 1) := by decide +kernel
theorem dX10_settles_54 : decode cX10_settles 54 = .ok (.iconst 0, 1) := by decide +kernel
theorem dX10_settles_55 : decode cX10_settles 55 = .ok (.putfield 134, 3) := by decide +kernel
theorem dX10_settles_58 : decode cX10_settles 58 = .ok (.aload_n 0, 1) := by decide +kernel
theorem dX10_settles_59 : decode cX10_settles 59 = .ok (.iconst 0, 1) := by decide +kernel
theorem dX10_settles_60 : decode cX10_settles 60 = .ok (.putfield 137, 3) := by decide +kernel
theorem dX10_settles_63 : decode cX10_settles 63 = .ok (.aload_n 0, 1) := by decide +kernel
theorem dX10_settles_64 : decode cX10_settles 64 = .ok (.iconst 0, 1) := by decide +kernel
theorem dX10_settles_65 : decode cX10_settles 65 = .ok (.putfield 140, 3) := by decide +kernel
theorem dX10_settles_68 : decode cX10_settles 68 = .ok (.return_, 1) := by decide +kernel
theorem dX10_lies_0 : decode cX10_lies 0 = .ok (.iconst 0, 1) := by decide +kernel
theorem dX10_lies_1 : decode cX10_lies 1 = .ok (.istore_n 1, 1) := by decide +kernel
theorem dX10_lies_2 : decode cX10_lies 2 = .ok (.iload_n 1, 1) := by decide +kernel
theorem dX10_lies_3 : decode cX10_lies 3 = .ok (.bipush 16, 2) := by decide +kernel
theorem dX10_lies_5 : decode cX10_lies 5 = .ok (.if_icmp .ge 13, 3) := by decide +kernel
theorem dX10_lies_8 : decode cX10_lies 8 = .ok (.aload_n 0, 1) := by decide +kernel
theorem dX10_lies_9 : decode cX10_lies 9 = .ok (.iload_n 1, 1) := by decide +kernel
theorem dX10_lies_10 : decode cX10_lies 10 = .ok (.iload_n 1, 1) := by decide +kernel
theorem dX10_lies_11 : decode cX10_lies 11 = .ok (.iastore, 1) := by decide +kernel
theorem dX10_lies_12 : decode cX10_lies 12 = .ok (.iinc 1 1, 3) := by decide +kernel
theorem dX10_lies_15 : decode cX10_lies 15 = .ok (.goto (-13), 3) := by decide +kernel
theorem dX10_lies_18 : decode cX10_lies 18 = .ok (.return_, 1) := by decide +kernel
theorem dX10_asItIs_0 : decode cX10_asItIs 0 = .ok (.aload_n 0, 1) := by decide +kernel
theorem dX10_asItIs_1 : decode cX10_asItIs 1 = .ok (.getfield 40, 3) := by decide +kernel
theorem dX10_asItIs_4 : decode cX10_asItIs 4 = .ok (.iconst 0, 1) := by decide +kernel
theorem dX10_asItIs_5 : decode cX10_asItIs 5 = .ok (.aload_n 0, 1) := by decide +kernel
theorem dX10_asItIs_6 : decode cX10_asItIs 6 = .ok (.getfield 16, 3) := by decide +kernel
theorem dX10_asItIs_9 : decode cX10_asItIs 9 = .ok (.iconst 0, 1) := by decide +kernel
theorem dX10_asItIs_10 : decode cX10_asItIs 10 = .ok (.bipush 16, 2) := by decide +kernel
theorem dX10_asItIs_12 : decode cX10_asItIs 12 = .ok (.invokestatic 123, 3) := by decide +kernel
theorem dX10_asItIs_15 : decode cX10_asItIs 15 = .ok (.return_, 1) := by decide +kernel
theorem dX10_falls_0 : decode cX10_falls 0 = .ok (.iconst 0, 1) := by decide +kernel
theorem dX10_falls_1 : decode cX10_falls 1 = .ok (.istore 4, 2) := by decide +kernel
theorem dX10_falls_3 : decode cX10_falls 3 = .ok (.iload 4, 2) := by decide +kernel
theorem dX10_falls_5 : decode cX10_falls 5 = .ok (.aload_n 0, 1) := by decide +kernel
theorem dX10_falls_6 : decode cX10_falls 6 = .ok (.getfield 74, 3) := by decide +kernel
theorem dX10_falls_9 : decode cX10_falls 9 = .ok (.if_icmp .ge 49, 3) := by decide +kernel
theorem dX10_falls_12 : decode cX10_falls 12 = .ok (.iload 4, 2) := by decide +kernel
theorem dX10_falls_14 : decode cX10_falls 14 = .ok (.iconst 2, 1) := by decide +kernel
theorem dX10_falls_15 : decode cX10_falls 15 = .ok (.irem, 1) := by decide +kernel
theorem dX10_falls_16 : decode cX10_falls 16 = .ok (.ifCond .ne 14, 3) := by decide +kernel
theorem dX10_falls_19 : decode cX10_falls 19 = .ok (.iload_n 1, 1) := by decide +kernel
theorem dX10_falls_20 : decode cX10_falls 20 = .ok (.iload 4, 2) := by decide +kernel
theorem dX10_falls_22 : decode cX10_falls 22 = .ok (.iconst 2, 1) := by decide +kernel
theorem dX10_falls_23 : decode cX10_falls 23 = .ok (.idiv, 1) := by decide +kernel
theorem dX10_falls_24 : decode cX10_falls 24 = .ok (.iload_n 2, 1) := by decide +kernel
theorem dX10_falls_25 : decode cX10_falls 25 = .ok (.imul, 1) := by decide +kernel
theorem dX10_falls_26 : decode cX10_falls 26 = .ok (.iadd, 1) := by decide +kernel
theorem dX10_falls_27 : decode cX10_falls 27 = .ok (.goto 9, 3) := by decide +kernel
theorem dX10_falls_30 : decode cX10_falls 30 = .ok (.iload_n 3, 1) := by decide +kernel
theorem dX10_falls_31 : decode cX10_falls 31 = .ok (.iload 4, 2) := by decide +kernel
theorem dX10_falls_33 : decode cX10_falls 33 = .ok (.iconst 2, 1) := by decide +kernel
theorem dX10_falls_34 : decode cX10_falls 34 = .ok (.idiv, 1) := by decide +kernel
theorem dX10_falls_35 : decode cX10_falls 35 = .ok (.iadd, 1) := by decide +kernel
theorem dX10_falls_36 : decode cX10_falls 36 = .ok (.istore 5, 2) := by decide +kernel
theorem dX10_falls_38 : decode cX10_falls 38 = .ok (.aload_n 0, 1) := by decide +kernel
theorem dX10_falls_39 : decode cX10_falls 39 = .ok (.getfield 43, 3) := by decide +kernel
theorem dX10_falls_42 : decode cX10_falls 42 = .ok (.iload 4, 2) := by decide +kernel
theorem dX10_falls_44 : decode cX10_falls 44 = .ok (.aload_n 0, 1) := by decide +kernel
theorem dX10_falls_45 : decode cX10_falls 45 = .ok (.getfield 40, 3) := by decide +kernel
theorem dX10_falls_48 : decode cX10_falls 48 = .ok (.iload 5, 2) := by decide +kernel
theorem dX10_falls_50 : decode cX10_falls 50 = .ok (.iaload, 1) := by decide +kernel
theorem dX10_falls_51 : decode cX10_falls 51 = .ok (.iastore, 1) := by decide +kernel
theorem dX10_falls_52 : decode cX10_falls 52 = .ok (.iinc 4 1, 3) := by decide +kernel
theorem dX10_falls_55 : decode cX10_falls 55 = .ok (.goto (-52), 3) := by decide +kernel
theorem dX10_falls_58 : decode cX10_falls 58 = .ok (.return_, 1) := by decide +kernel
theorem dX10_milks_0 : decode cX10_milks 0 = .ok (.iconst 0, 1) := by decide +kernel
theorem dX10_milks_1 : decode cX10_milks 1 = .ok (.istore_n 1, 1) := by decide +kernel
theorem dX10_milks_2 : decode cX10_milks 2 = .ok (.iload_n 1, 1) := by decide +kernel
theorem dX10_milks_3 : decode cX10_milks 3 = .ok (.aload_n 0, 1) := by decide +kernel
theorem dX10_milks_4 : decode cX10_milks 4 = .ok (.getfield 74, 3) := by decide +kernel
theorem dX10_milks_7 : decode cX10_milks 7 = .ok (.if_icmp .ge 42, 3) := by decide +kernel
theorem dX10_milks_10 : decode cX10_milks 10 = .ok (.aload_n 0, 1) := by decide +kernel
theorem dX10_milks_11 : decode cX10_milks 11 = .ok (.getfield 43, 3) := by decide +kernel
theorem dX10_milks_14 : decode cX10_milks 14 = .ok (.iload_n 1, 1) := by decide +kernel
theorem dX10_milks_15 : decode cX10_milks 15 = .ok (.aload_n 0, 1) := by decide +kernel
theorem dX10_milks_16 : decode cX10_milks 16 = .ok (.getfield 40, 3) := by decide +kernel
theorem dX10_milks_19 : decode cX10_milks 19 = .ok (.iload_n 1, 1) := by decide +kernel
theorem dX10_milks_20 : decode cX10_milks 20 = .ok (.iconst 2, 1) := by decide +kernel
theorem dX10_milks_21 : decode cX10_milks 21 = .ok (.irem, 1) := by decide +kernel
theorem dX10_milks_22 : decode cX10_milks 22 = .ok (.ifCond .ne 9, 3) := by decide +kernel
theorem dX10_milks_25 : decode cX10_milks 25 = .ok (.iload_n 1, 1) := by decide +kernel
theorem dX10_milks_26 : decode cX10_milks 26 = .ok (.iconst 2, 1) := by decide +kernel
theorem dX10_milks_27 : decode cX10_milks 27 = .ok (.idiv, 1) := by decide +kernel
theorem dX10_milks_28 : decode cX10_milks 28 = .ok (.goto 13, 3) := by decide +kernel
theorem dX10_milks_31 : decode cX10_milks 31 = .ok (.aload_n 0, 1) := by decide +kernel
theorem dX10_milks_32 : decode cX10_milks 32 = .ok (.getfield 74, 3) := by decide +kernel
theorem dX10_milks_35 : decode cX10_milks 35 = .ok (.iconst 1, 1) := by decide +kernel
theorem dX10_milks_36 : decode cX10_milks 36 = .ok (.isub, 1) := by decide +kernel
theorem dX10_milks_37 : decode cX10_milks 37 = .ok (.iload_n 1, 1) := by decide +kernel
theorem dX10_milks_38 : decode cX10_milks 38 = .ok (.iconst 2, 1) := by decide +kernel
theorem dX10_milks_39 : decode cX10_milks 39 = .ok (.idiv, 1) := by decide +kernel
theorem dX10_milks_40 : decode cX10_milks 40 = .ok (.isub, 1) := by decide +kernel
theorem dX10_milks_41 : decode cX10_milks 41 = .ok (.iaload, 1) := by decide +kernel
theorem dX10_milks_42 : decode cX10_milks 42 = .ok (.iastore, 1) := by decide +kernel
theorem dX10_milks_43 : decode cX10_milks 43 = .ok (.iinc 1 1, 3) := by decide +kernel
theorem dX10_milks_46 : decode cX10_milks 46 = .ok (.goto (-44), 3) := by decide +kernel
theorem dX10_milks_49 : decode cX10_milks 49 = .ok (.return_, 1) := by decide +kernel
theorem dX10_under_0 : decode cX10_under 0 = .ok (.aload_n 0, 1) := by decide +kernel
theorem dX10_under_1 : decode cX10_under 1 = .ok (.getfield 46, 3) := by decide +kernel
theorem dX10_under_4 : decode cX10_under 4 = .ok (.iconst 0, 1) := by decide +kernel
theorem dX10_under_5 : decode cX10_under 5 = .ok (.aload_n 0, 1) := by decide +kernel
theorem dX10_under_6 : decode cX10_under 6 = .ok (.getfield 40, 3) := by decide +kernel
theorem dX10_under_9 : decode cX10_under 9 = .ok (.iconst 0, 1) := by decide +kernel
theorem dX10_under_10 : decode cX10_under 10 = .ok (.aload_n 0, 1) := by decide +kernel
theorem dX10_under_11 : decode cX10_under 11 = .ok (.getfield 74, 3) := by decide +kernel
theorem dX10_under_14 : decode cX10_under 14 = .ok (.invokestatic 123, 3) := by decide +kernel
theorem dX10_under_17 : decode cX10_under 17 = .ok (.iconst 0, 1) := by decide +kernel
theorem dX10_under_18 : decode cX10_under 18 = .ok (.istore_n 1, 1) := by decide +kernel
theorem dX10_under_19 : decode cX10_under 19 = .ok (.aload_n 0, 1) := by decide +kernel
theorem dX10_under_20 : decode cX10_under 20 = .ok (.getfield 74, 3) := by decide +kernel
theorem dX10_under_23 : decode cX10_under 23 = .ok (.istore_n 2, 1) := by decide +kernel
theorem dX10_under_24 : decode cX10_under 24 = .ok (.iconst 0, 1) := by decide +kernel
theorem dX10_under_25 : decode cX10_under 25 = .ok (.istore_n 3, 1) := by decide +kernel
theorem dX10_under_26 : decode cX10_under 26 = .ok (.iload_n 3, 1) := by decide +kernel
theorem dX10_under_27 : decode cX10_under 27 = .ok (.aload_n 0, 1) := by decide +kernel
theorem dX10_under_28 : decode cX10_under 28 = .ok (.getfield 74, 3) := by decide +kernel
theorem dX10_under_31 : decode cX10_under 31 = .ok (.if_icmp .ge 53, 3) := by decide +kernel
theorem dX10_under_34 : decode cX10_under 34 = .ok (.aload_n 0, 1) := by decide +kernel
theorem dX10_under_35 : decode cX10_under 35 = .ok (.getfield 43, 3) := by decide +kernel
theorem dX10_under_38 : decode cX10_under 38 = .ok (.iload_n 3, 1) := by decide +kernel
theorem dX10_under_39 : decode cX10_under 39 = .ok (.aload_n 0, 1) := by decide +kernel
theorem dX10_under_40 : decode cX10_under 40 = .ok (.getfield 46, 3) := by decide +kernel
theorem dX10_under_43 : decode cX10_under 43 = .ok (.iload_n 1, 1) := by decide +kernel
theorem dX10_under_44 : decode cX10_under 44 = .ok (.iaload, 1) := by decide +kernel
theorem dX10_under_45 : decode cX10_under 45 = .ok (.iastore, 1) := by decide +kernel
theorem dX10_under_46 : decode cX10_under 46 = .ok (.iinc 1 1, 3) := by decide +kernel
theorem dX10_under_49 : decode cX10_under 49 = .ok (.iload_n 1, 1) := by decide +kernel
theorem dX10_under_50 : decode cX10_under 50 = .ok (.iload_n 2, 1) := by decide +kernel
theorem dX10_under_51 : decode cX10_under 51 = .ok (.if_icmp .ge 27, 3) := by decide +kernel
theorem dX10_under_54 : decode cX10_under 54 = .ok (.aload_n 0, 1) := by decide +kernel
theorem dX10_under_55 : decode cX10_under 55 = .ok (.getfield 46, 3) := by decide +kernel
theorem dX10_under_58 : decode cX10_under 58 = .ok (.iload_n 2, 1) := by decide +kernel
theorem dX10_under_59 : decode cX10_under 59 = .ok (.bipush 32, 2) := by decide +kernel
theorem dX10_under_61 : decode cX10_under 61 = .ok (.irem, 1) := by decide +kernel
theorem dX10_under_62 : decode cX10_under 62 = .ok (.aload_n 0, 1) := by decide +kernel
theorem dX10_under_63 : decode cX10_under 63 = .ok (.getfield 46, 3) := by decide +kernel
theorem dX10_under_66 : decode cX10_under 66 = .ok (.iload_n 1, 1) := by decide +kernel
theorem dX10_under_67 : decode cX10_under 67 = .ok (.bipush 32, 2) := by decide +kernel
theorem dX10_under_69 : decode cX10_under 69 = .ok (.irem, 1) := by decide +kernel
theorem dX10_under_70 : decode cX10_under 70 = .ok (.iaload, 1) := by decide +kernel
theorem dX10_under_71 : decode cX10_under 71 = .ok (.iastore, 1) := by decide +kernel
theorem dX10_under_72 : decode cX10_under 72 = .ok (.iinc 2 1, 3) := by decide +kernel
theorem dX10_under_75 : decode cX10_under 75 = .ok (.iinc 1 1, 3) := by decide +kernel
theorem dX10_under_78 : decode cX10_under 78 = .ok (.iinc 3 1, 3) := by decide +kernel
theorem dX10_under_81 : decode cX10_under 81 = .ok (.goto (-55), 3) := by decide +kernel
theorem dX10_under_84 : decode cX10_under 84 = .ok (.return_, 1) := by decide +kernel
theorem dX10_cuts_0 : decode cX10_cuts 0 = .ok (.iconst 0, 1) := by decide +kernel
theorem dX10_cuts_1 : decode cX10_cuts 1 = .ok (.istore_n 2, 1) := by decide +kernel
theorem dX10_cuts_2 : decode cX10_cuts 2 = .ok (.iload_n 2, 1) := by decide +kernel
theorem dX10_cuts_3 : decode cX10_cuts 3 = .ok (.aload_n 0, 1) := by decide +kernel
theorem dX10_cuts_4 : decode cX10_cuts 4 = .ok (.getfield 74, 3) := by decide +kernel
theorem dX10_cuts_7 : decode cX10_cuts 7 = .ok (.if_icmp .ge 28, 3) := by decide +kernel
theorem dX10_cuts_10 : decode cX10_cuts 10 = .ok (.aload_n 0, 1) := by decide +kernel
theorem dX10_cuts_11 : decode cX10_cuts 11 = .ok (.getfield 43, 3) := by decide +kernel
theorem dX10_cuts_14 : decode cX10_cuts 14 = .ok (.iload_n 2, 1) := by decide +kernel
theorem dX10_cuts_15 : decode cX10_cuts 15 = .ok (.aload_n 0, 1) := by decide +kernel
theorem dX10_cuts_16 : decode cX10_cuts 16 = .ok (.getfield 40, 3) := by decide +kernel
theorem dX10_cuts_19 : decode cX10_cuts 19 = .ok (.iload_n 2, 1) := by decide +kernel
theorem dX10_cuts_20 : decode cX10_cuts 20 = .ok (.iload_n 1, 1) := by decide +kernel
theorem dX10_cuts_21 : decode cX10_cuts 21 = .ok (.iadd, 1) := by decide +kernel
theorem dX10_cuts_22 : decode cX10_cuts 22 = .ok (.aload_n 0, 1) := by decide +kernel
theorem dX10_cuts_23 : decode cX10_cuts 23 = .ok (.getfield 74, 3) := by decide +kernel
theorem dX10_cuts_26 : decode cX10_cuts 26 = .ok (.irem, 1) := by decide +kernel
theorem dX10_cuts_27 : decode cX10_cuts 27 = .ok (.iaload, 1) := by decide +kernel
theorem dX10_cuts_28 : decode cX10_cuts 28 = .ok (.iastore, 1) := by decide +kernel
theorem dX10_cuts_29 : decode cX10_cuts 29 = .ok (.iinc 2 1, 3) := by decide +kernel
theorem dX10_cuts_32 : decode cX10_cuts 32 = .ok (.goto (-30), 3) := by decide +kernel
theorem dX10_cuts_35 : decode cX10_cuts 35 = .ok (.return_, 1) := by decide +kernel
theorem dX10_acts_0 : decode cX10_acts 0 = .ok (.aload_n 0, 1) := by decide +kernel
theorem dX10_acts_1 : decode cX10_acts 1 = .ok (.getfield 74, 3) := by decide +kernel
theorem dX10_acts_4 : decode cX10_acts 4 = .ok (.iconst 1, 1) := by decide +kernel
theorem dX10_acts_5 : decode cX10_acts 5 = .ok (.iadd, 1) := by decide +kernel
theorem dX10_acts_6 : decode cX10_acts 6 = .ok (.iconst 2, 1) := by decide +kernel
theorem dX10_acts_7 : decode cX10_acts 7 = .ok (.idiv, 1) := by decide +kernel
theorem dX10_acts_8 : decode cX10_acts 8 = .ok (.istore_n 2, 1) := by decide +kernel
theorem dX10_acts_9 : decode cX10_acts 9 = .ok (.aload_n 0, 1) := by decide +kernel
theorem dX10_acts_10 : decode cX10_acts 10 = .ok (.getfield 74, 3) := by decide +kernel
theorem dX10_acts_13 : decode cX10_acts 13 = .ok (.iload_n 2, 1) := by decide +kernel
theorem dX10_acts_14 : decode cX10_acts 14 = .ok (.isub, 1) := by decide +kernel
theorem dX10_acts_15 : decode cX10_acts 15 = .ok (.istore_n 3, 1) := by decide +kernel
theorem dX10_acts_16 : decode cX10_acts 16 = .ok (.iload_n 1, 1) := by decide +kernel
theorem dX10_acts_17 : decode cX10_acts 17 = .ok (.tableswitch 130 0 5 #[39, 49, 59, 66, 73, 88], 39) := by decide +kernel
theorem dX10_acts_56 : decode cX10_acts 56 = .ok (.aload_n 0, 1) := by decide +kernel
theorem dX10_acts_57 : decode cX10_acts 57 = .ok (.iconst 0, 1) := by decide +kernel
theorem dX10_acts_58 : decode cX10_acts 58 = .ok (.iconst 1, 1) := by decide +kernel
theorem dX10_acts_59 : decode cX10_acts 59 = .ok (.iload_n 2, 1) := by decide +kernel
theorem dX10_acts_60 : decode cX10_acts 60 = .ok (.invokevirtual 143, 3) := by decide +kernel
theorem dX10_acts_63 : decode cX10_acts 63 = .ok (.goto 92, 3) := by decide +kernel
theorem dX10_acts_66 : decode cX10_acts 66 = .ok (.aload_n 0, 1) := by decide +kernel
theorem dX10_acts_67 : decode cX10_acts 67 = .ok (.iload_n 3, 1) := by decide +kernel
theorem dX10_acts_68 : decode cX10_acts 68 = .ok (.iconst 1, 1) := by decide +kernel
theorem dX10_acts_69 : decode cX10_acts 69 = .ok (.iconst 0, 1) := by decide +kernel
theorem dX10_acts_70 : decode cX10_acts 70 = .ok (.invokevirtual 143, 3) := by decide +kernel
theorem dX10_acts_73 : decode cX10_acts 73 = .ok (.goto 82, 3) := by decide +kernel
theorem dX10_acts_76 : decode cX10_acts 76 = .ok (.aload_n 0, 1) := by decide +kernel
theorem dX10_acts_77 : decode cX10_acts 77 = .ok (.invokevirtual 147, 3) := by decide +kernel
theorem dX10_acts_80 : decode cX10_acts 80 = .ok (.goto 75, 3) := by decide +kernel
theorem dX10_acts_83 : decode cX10_acts 83 = .ok (.aload_n 0, 1) := by decide +kernel
theorem dX10_acts_84 : decode cX10_acts 84 = .ok (.invokevirtual 150, 3) := by decide +kernel
theorem dX10_acts_87 : decode cX10_acts 87 = .ok (.goto 68, 3) := by decide +kernel
theorem dX10_acts_90 : decode cX10_acts 90 = .ok (.aload_n 0, 1) := by decide +kernel
theorem dX10_acts_91 : decode cX10_acts 91 = .ok (.aload_n 0, 1) := by decide +kernel
theorem dX10_acts_92 : decode cX10_acts 92 = .ok (.getfield 74, 3) := by decide +kernel
theorem dX10_acts_95 : decode cX10_acts 95 = .ok (.iconst 1, 1) := by decide +kernel
theorem dX10_acts_96 : decode cX10_acts 96 = .ok (.isub, 1) := by decide +kernel
theorem dX10_acts_97 : decode cX10_acts 97 = .ok (.iconst (-1), 1) := by decide +kernel
theorem dX10_acts_98 : decode cX10_acts 98 = .ok (.iconst 0, 1) := by decide +kernel
theorem dX10_acts_99 : decode cX10_acts 99 = .ok (.invokevirtual 143, 3) := by decide +kernel
theorem dX10_acts_102 : decode cX10_acts 102 = .ok (.goto 53, 3) := by decide +kernel
theorem dX10_acts_105 : decode cX10_acts 105 = .ok (.iconst 0, 1) := by decide +kernel
theorem dX10_acts_106 : decode cX10_acts 106 = .ok (.istore 4, 2) := by decide +kernel
theorem dX10_acts_108 : decode cX10_acts 108 = .ok (.iload 4, 2) := by decide +kernel
theorem dX10_acts_110 : decode cX10_acts 110 = .ok (.aload_n 0, 1) := by decide +kernel
theorem dX10_acts_111 : decode cX10_acts 111 = .ok (.getfield 74, 3) := by decide +kernel
theorem dX10_acts_114 : decode cX10_acts 114 = .ok (.if_icmp .ge 30, 3) := by decide +kernel
theorem dX10_acts_117 : decode cX10_acts 117 = .ok (.aload_n 0, 1) := by decide +kernel
theorem dX10_acts_118 : decode cX10_acts 118 = .ok (.getfield 43, 3) := by decide +kernel
theorem dX10_acts_121 : decode cX10_acts 121 = .ok (.iload 4, 2) := by decide +kernel
theorem dX10_acts_123 : decode cX10_acts 123 = .ok (.aload_n 0, 1) := by decide +kernel
theorem dX10_acts_124 : decode cX10_acts 124 = .ok (.getfield 40, 3) := by decide +kernel
theorem dX10_acts_127 : decode cX10_acts 127 = .ok (.aload_n 0, 1) := by decide +kernel
theorem dX10_acts_128 : decode cX10_acts 128 = .ok (.getfield 74, 3) := by decide +kernel
theorem dX10_acts_131 : decode cX10_acts 131 = .ok (.iconst 1, 1) := by decide +kernel
theorem dX10_acts_132 : decode cX10_acts 132 = .ok (.isub, 1) := by decide +kernel
theorem dX10_acts_133 : decode cX10_acts 133 = .ok (.iload 4, 2) := by decide +kernel
theorem dX10_acts_135 : decode cX10_acts 135 = .ok (.isub, 1) := by decide +kernel
theorem dX10_acts_136 : decode cX10_acts 136 = .ok (.iaload, 1) := by decide +kernel
theorem dX10_acts_137 : decode cX10_acts 137 = .ok (.iastore, 1) := by decide +kernel
theorem dX10_acts_138 : decode cX10_acts 138 = .ok (.iinc 4 1, 3) := by decide +kernel
theorem dX10_acts_141 : decode cX10_acts 141 = .ok (.goto (-33), 3) := by decide +kernel
theorem dX10_acts_144 : decode cX10_acts 144 = .ok (.goto 11, 3) := by decide +kernel
theorem dX10_acts_147 : decode cX10_acts 147 = .ok (.aload_n 0, 1) := by decide +kernel
theorem dX10_acts_148 : decode cX10_acts 148 = .ok (.iload_n 1, 1) := by decide +kernel
theorem dX10_acts_149 : decode cX10_acts 149 = .ok (.bipush 6, 2) := by decide +kernel
theorem dX10_acts_151 : decode cX10_acts 151 = .ok (.isub, 1) := by decide +kernel
theorem dX10_acts_152 : decode cX10_acts 152 = .ok (.invokevirtual 153, 3) := by decide +kernel
theorem dX10_acts_155 : decode cX10_acts 155 = .ok (.aload_n 0, 1) := by decide +kernel
theorem dX10_acts_156 : decode cX10_acts 156 = .ok (.getfield 40, 3) := by decide +kernel
theorem dX10_acts_159 : decode cX10_acts 159 = .ok (.iconst 0, 1) := by decide +kernel
theorem dX10_acts_160 : decode cX10_acts 160 = .ok (.aload_n 0, 1) := by decide +kernel
theorem dX10_acts_161 : decode cX10_acts 161 = .ok (.getfield 43, 3) := by decide +kernel
theorem dX10_acts_164 : decode cX10_acts 164 = .ok (.iconst 0, 1) := by decide +kernel
theorem dX10_acts_165 : decode cX10_acts 165 = .ok (.aload_n 0, 1) := by decide +kernel
theorem dX10_acts_166 : decode cX10_acts 166 = .ok (.getfield 74, 3) := by decide +kernel
theorem dX10_acts_169 : decode cX10_acts 169 = .ok (.invokestatic 123, 3) := by decide +kernel
theorem dX10_acts_172 : decode cX10_acts 172 = .ok (.return_, 1) := by decide +kernel
theorem dX10_deals_0 : decode cX10_deals 0 = .ok (.iconst 0, 1) := by decide +kernel
theorem dX10_deals_1 : decode cX10_deals 1 = .ok (.istore_n 1, 1) := by decide +kernel
theorem dX10_deals_2 : decode cX10_deals 2 = .ok (.iload_n 1, 1) := by decide +kernel
theorem dX10_deals_3 : decode cX10_deals 3 = .ok (.aload_n 0, 1) := by decide +kernel
theorem dX10_deals_4 : decode cX10_deals 4 = .ok (.getfield 127, 3) := by decide +kernel
theorem dX10_deals_7 : decode cX10_deals 7 = .ok (.if_icmp .ge 19, 3) := by decide +kernel
theorem dX10_deals_10 : decode cX10_deals 10 = .ok (.aload_n 0, 1) := by decide +kernel
theorem dX10_deals_11 : decode cX10_deals 11 = .ok (.aload_n 0, 1) := by decide +kernel
theorem dX10_deals_12 : decode cX10_deals 12 = .ok (.getfield 13, 3) := by decide +kernel
theorem dX10_deals_15 : decode cX10_deals 15 = .ok (.iload_n 1, 1) := by decide +kernel
theorem dX10_deals_16 : decode cX10_deals 16 = .ok (.iaload, 1) := by decide +kernel
theorem dX10_deals_17 : decode cX10_deals 17 = .ok (.invokevirtual 157, 3) := by decide +kernel
theorem dX10_deals_20 : decode cX10_deals 20 = .ok (.iinc 1 1, 3) := by decide +kernel
theorem dX10_deals_23 : decode cX10_deals 23 = .ok (.goto (-21), 3) := by decide +kernel
theorem dX10_deals_26 : decode cX10_deals 26 = .ok (.return_, 1) := by decide +kernel
theorem dX10_placeOf_0 : decode cX10_placeOf 0 = .ok (.iconst 0, 1) := by decide +kernel
theorem dX10_placeOf_1 : decode cX10_placeOf 1 = .ok (.istore_n 2, 1) := by decide +kernel
theorem dX10_placeOf_2 : decode cX10_placeOf 2 = .ok (.aload_n 0, 1) := by decide +kernel
theorem dX10_placeOf_3 : decode cX10_placeOf 3 = .ok (.getfield 40, 3) := by decide +kernel
theorem dX10_placeOf_6 : decode cX10_placeOf 6 = .ok (.iload_n 2, 1) := by decide +kernel
theorem dX10_placeOf_7 : decode cX10_placeOf 7 = .ok (.iaload, 1) := by decide +kernel
theorem dX10_placeOf_8 : decode cX10_placeOf 8 = .ok (.iload_n 1, 1) := by decide +kernel
theorem dX10_placeOf_9 : decode cX10_placeOf 9 = .ok (.if_icmp .eq 9, 3) := by decide +kernel
theorem dX10_placeOf_12 : decode cX10_placeOf 12 = .ok (.iinc 2 1, 3) := by decide +kernel
theorem dX10_placeOf_15 : decode cX10_placeOf 15 = .ok (.goto (-13), 3) := by decide +kernel
theorem dX10_placeOf_18 : decode cX10_placeOf 18 = .ok (.iload_n 2, 1) := by decide +kernel
theorem dX10_placeOf_19 : decode cX10_placeOf 19 = .ok (.ireturn, 1) := by decide +kernel
theorem dX10_at_0 : decode cX10_at 0 = .ok (.aload_n 0, 1) := by decide +kernel
theorem dX10_at_1 : decode cX10_at 1 = .ok (.iload_n 1, 1) := by decide +kernel
theorem dX10_at_2 : decode cX10_at 2 = .ok (.invokevirtual 159, 3) := by decide +kernel
theorem dX10_at_5 : decode cX10_at 5 = .ok (.ifCond .eq 12, 3) := by decide +kernel
theorem dX10_at_8 : decode cX10_at 8 = .ok (.aload_n 0, 1) := by decide +kernel
theorem dX10_at_9 : decode cX10_at 9 = .ok (.getfield 16, 3) := by decide +kernel
theorem dX10_at_12 : decode cX10_at 12 = .ok (.iload_n 1, 1) := by decide +kernel
theorem dX10_at_13 : decode cX10_at 13 = .ok (.iaload, 1) := by decide +kernel
theorem dX10_at_14 : decode cX10_at 14 = .ok (.goto 4, 3) := by decide +kernel
theorem dX10_at_17 : decode cX10_at 17 = .ok (.iconst (-1), 1) := by decide +kernel
theorem dX10_at_18 : decode cX10_at 18 = .ok (.ireturn, 1) := by decide +kernel
theorem dX10_where_0 : decode cX10_where 0 = .ok (.aload_n 0, 1) := by decide +kernel
theorem dX10_where_1 : decode cX10_where 1 = .ok (.iload_n 1, 1) := by decide +kernel
theorem dX10_where_2 : decode cX10_where 2 = .ok (.invokevirtual 159, 3) := by decide +kernel
theorem dX10_where_5 : decode cX10_where 5 = .ok (.ifCond .ne 5, 3) := by decide +kernel
theorem dX10_where_8 : decode cX10_where 8 = .ok (.iconst (-1), 1) := by decide +kernel
theorem dX10_where_9 : decode cX10_where 9 = .ok (.ireturn, 1) := by decide +kernel
theorem dX10_where_10 : decode cX10_where 10 = .ok (.aload_n 0, 1) := by decide +kernel
theorem dX10_where_11 : decode cX10_where 11 = .ok (.invokevirtual 162, 3) := by decide +kernel
theorem dX10_where_14 : decode cX10_where 14 = .ok (.aload_n 0, 1) := by decide +kernel
theorem dX10_where_15 : decode cX10_where 15 = .ok (.iload_n 1, 1) := by decide +kernel
theorem dX10_where_16 : decode cX10_where 16 = .ok (.invokevirtual 165, 3) := by decide +kernel
theorem dX10_where_19 : decode cX10_where 19 = .ok (.ireturn, 1) := by decide +kernel
theorem dX10_colour_0 : decode cX10_colour 0 = .ok (.aload_n 0, 1) := by decide +kernel
theorem dX10_colour_1 : decode cX10_colour 1 = .ok (.iload_n 1, 1) := by decide +kernel
theorem dX10_colour_2 : decode cX10_colour 2 = .ok (.invokevirtual 159, 3) := by decide +kernel
theorem dX10_colour_5 : decode cX10_colour 5 = .ok (.ifCond .eq 12, 3) := by decide +kernel
theorem dX10_colour_8 : decode cX10_colour 8 = .ok (.aload_n 0, 1) := by decide +kernel
theorem dX10_colour_9 : decode cX10_colour 9 = .ok (.getfield 7, 3) := by decide +kernel
theorem dX10_colour_12 : decode cX10_colour 12 = .ok (.iload_n 1, 1) := by decide +kernel
theorem dX10_colour_13 : decode cX10_colour 13 = .ok (.iaload, 1) := by decide +kernel
theorem dX10_colour_14 : decode cX10_colour 14 = .ok (.goto 4, 3) := by decide +kernel
theorem dX10_colour_17 : decode cX10_colour 17 = .ok (.iconst (-1), 1) := by decide +kernel
theorem dX10_colour_18 : decode cX10_colour 18 = .ok (.ireturn, 1) := by decide +kernel
theorem dX10_remembers_0 : decode cX10_remembers 0 = .ok (.aload_n 0, 1) := by decide +kernel
theorem dX10_remembers_1 : decode cX10_remembers 1 = .ok (.getfield 134, 3) := by decide +kernel
theorem dX10_remembers_4 : decode cX10_remembers 4 = .ok (.bipush 8, 2) := by decide +kernel
theorem dX10_remembers_6 : decode cX10_remembers 6 = .ok (.if_icmp .ne 42, 3) := by decide +kernel
theorem dX10_remembers_9 : decode cX10_remembers 9 = .ok (.iconst 0, 1) := by decide +kernel
theorem dX10_remembers_10 : decode cX10_remembers 10 = .ok (.istore_n 1, 1) := by decide +kernel
theorem dX10_remembers_11 : decode cX10_remembers 11 = .ok (.iload_n 1, 1) := by decide +kernel
theorem dX10_remembers_12 : decode cX10_remembers 12 = .ok (.bipush 112, 2) := by decide +kernel
theorem dX10_remembers_14 : decode cX10_remembers 14 = .ok (.if_icmp .ge 24, 3) := by decide +kernel
theorem dX10_remembers_17 : decode cX10_remembers 17 = .ok (.aload_n 0, 1) := by decide +kernel
theorem dX10_remembers_18 : decode cX10_remembers 18 = .ok (.getfield 19, 3) := by decide +kernel
theorem dX10_remembers_21 : decode cX10_remembers 21 = .ok (.iload_n 1, 1) := by decide +kernel
theorem dX10_remembers_22 : decode cX10_remembers 22 = .ok (.aload_n 0, 1) := by decide +kernel
theorem dX10_remembers_23 : decode cX10_remembers 23 = .ok (.getfield 19, 3) := by decide +kernel
theorem dX10_remembers_26 : decode cX10_remembers 26 = .ok (.iload_n 1, 1) := by decide +kernel
theorem dX10_remembers_27 : decode cX10_remembers 27 = .ok (.bipush 16, 2) := by decide +kernel
theorem dX10_remembers_29 : decode cX10_remembers 29 = .ok (.iadd, 1) := by decide +kernel
theorem dX10_remembers_30 : decode cX10_remembers 30 = .ok (.iaload, 1) := by decide +kernel
theorem dX10_remembers_31 : decode cX10_remembers 31 = .ok (.iastore, 1) := by decide +kernel
theorem dX10_remembers_32 : decode cX10_remembers 32 = .ok (.iinc 1 1, 3) := by decide +kernel
theorem dX10_remembers_35 : decode cX10_remembers 35 = .ok (.goto (-24), 3) := by decide +kernel
theorem dX10_remembers_38 : decode cX10_remembers 38 = .ok (.aload_n 0, 1) := by decide +kernel
theorem dX10_remembers_39 : decode cX10_remembers 39 = .ok (.dup, 1) := by decide +kernel
theorem dX10_remembers_40 : decode cX10_remembers 40 = .ok (.getfield 134, 3) := by decide +kernel
theorem dX10_remembers_43 : decode cX10_remembers 43 = .ok (.iconst 1, 1) := by decide +kernel
theorem dX10_remembers_44 : decode cX10_remembers 44 = .ok (.isub, 1) := by decide +kernel
theorem dX10_remembers_45 : decode cX10_remembers 45 = .ok (.putfield 134, 3) := by decide +kernel
theorem dX10_remembers_48 : decode cX10_remembers 48 = .ok (.aload_n 0, 1) := by decide +kernel
theorem dX10_remembers_49 : decode cX10_remembers 49 = .ok (.getfield 19, 3) := by decide +kernel
theorem dX10_remembers_52 : decode cX10_remembers 52 = .ok (.bipush 16, 2) := by decide +kernel
theorem dX10_remembers_54 : decode cX10_remembers 54 = .ok (.aload_n 0, 1) := by decide +kernel
theorem dX10_remembers_55 : decode cX10_remembers 55 = .ok (.getfield 134, 3) := by decide +kernel
theorem dX10_remembers_58 : decode cX10_remembers 58 = .ok (.imul, 1) := by decide +kernel
theorem dX10_remembers_59 : decode cX10_remembers 59 = .ok (.aload_n 0, 1) := by decide +kernel
theorem dX10_remembers_60 : decode cX10_remembers 60 = .ok (.getfield 16, 3) := by decide +kernel
theorem dX10_remembers_63 : decode cX10_remembers 63 = .ok (.iconst 0, 1) := by decide +kernel
theorem dX10_remembers_64 : decode cX10_remembers 64 = .ok (.bipush 16, 2) := by decide +kernel
theorem dX10_remembers_66 : decode cX10_remembers 66 = .ok (.invokestatic 123, 3) := by decide +kernel
theorem dX10_remembers_69 : decode cX10_remembers 69 = .ok (.aload_n 0, 1) := by decide +kernel
theorem dX10_remembers_70 : decode cX10_remembers 70 = .ok (.dup, 1) := by decide +kernel
theorem dX10_remembers_71 : decode cX10_remembers 71 = .ok (.getfield 134, 3) := by decide +kernel
theorem dX10_remembers_74 : decode cX10_remembers 74 = .ok (.iconst 1, 1) := by decide +kernel
theorem dX10_remembers_75 : decode cX10_remembers 75 = .ok (.iadd, 1) := by decide +kernel
theorem dX10_remembers_76 : decode cX10_remembers 76 = .ok (.putfield 134, 3) := by decide +kernel
theorem dX10_remembers_79 : decode cX10_remembers 79 = .ok (.return_, 1) := by decide +kernel
theorem dX10_does_0 : decode cX10_does 0 = .ok (.aload_n 0, 1) := by decide +kernel
theorem dX10_does_1 : decode cX10_does 1 = .ok (.invokevirtual 168, 3) := by decide +kernel
theorem dX10_does_4 : decode cX10_does 4 = .ok (.aload_n 0, 1) := by decide +kernel
theorem dX10_does_5 : decode cX10_does 5 = .ok (.invokevirtual 162, 3) := by decide +kernel
theorem dX10_does_8 : decode cX10_does 8 = .ok (.aload_n 0, 1) := by decide +kernel
theorem dX10_does_9 : decode cX10_does 9 = .ok (.iload_n 1, 1) := by decide +kernel
theorem dX10_does_10 : decode cX10_does 10 = .ok (.invokevirtual 157, 3) := by decide +kernel
theorem dX10_does_13 : decode cX10_does 13 = .ok (.aload_n 0, 1) := by decide +kernel
theorem dX10_does_14 : decode cX10_does 14 = .ok (.getfield 16, 3) := by decide +kernel
theorem dX10_does_17 : decode cX10_does 17 = .ok (.iconst 0, 1) := by decide +kernel
theorem dX10_does_18 : decode cX10_does 18 = .ok (.aload_n 0, 1) := by decide +kernel
theorem dX10_does_19 : decode cX10_does 19 = .ok (.getfield 40, 3) := by decide +kernel
theorem dX10_does_22 : decode cX10_does 22 = .ok (.iconst 0, 1) := by decide +kernel
theorem dX10_does_23 : decode cX10_does 23 = .ok (.bipush 16, 2) := by decide +kernel
theorem dX10_does_25 : decode cX10_does 25 = .ok (.invokestatic 123, 3) := by decide +kernel
theorem dX10_does_28 : decode cX10_does 28 = .ok (.aload_n 0, 1) := by decide +kernel
theorem dX10_does_29 : decode cX10_does 29 = .ok (.getfield 16, 3) := by decide +kernel
theorem dX10_does_32 : decode cX10_does 32 = .ok (.iconst 0, 1) := by decide +kernel
theorem dX10_does_33 : decode cX10_does 33 = .ok (.iaload, 1) := by decide +kernel
theorem dX10_does_34 : decode cX10_does 34 = .ok (.ireturn, 1) := by decide +kernel
theorem dX10_lace_0 : decode cX10_lace 0 = .ok (.iload_n 1, 1) := by decide +kernel
theorem dX10_lace_1 : decode cX10_lace 1 = .ok (.invokestatic 171, 3) := by decide +kernel
theorem dX10_lace_4 : decode cX10_lace 4 = .ok (.ifCond .eq 11, 3) := by decide +kernel
theorem dX10_lace_7 : decode cX10_lace 7 = .ok (.aload_n 0, 1) := by decide +kernel
theorem dX10_lace_8 : decode cX10_lace 8 = .ok (.iload_n 1, 1) := by decide +kernel
theorem dX10_lace_9 : decode cX10_lace 9 = .ok (.invokevirtual 174, 3) := by decide +kernel
theorem dX10_lace_12 : decode cX10_lace 12 = .ok (.goto 4, 3) := by decide +kernel
theorem dX10_lace_15 : decode cX10_lace 15 = .ok (.iconst (-1), 1) := by decide +kernel
theorem dX10_lace_16 : decode cX10_lace 16 = .ok (.ireturn, 1) := by decide +kernel
theorem dX10_cut_0 : decode cX10_cut 0 = .ok (.aload_n 0, 1) := by decide +kernel
theorem dX10_cut_1 : decode cX10_cut 1 = .ok (.iload_n 1, 1) := by decide +kernel
theorem dX10_cut_2 : decode cX10_cut 2 = .ok (.invokevirtual 159, 3) := by decide +kernel
theorem dX10_cut_5 : decode cX10_cut 5 = .ok (.ifCond .eq 14, 3) := by decide +kernel
theorem dX10_cut_8 : decode cX10_cut 8 = .ok (.aload_n 0, 1) := by decide +kernel
theorem dX10_cut_9 : decode cX10_cut 9 = .ok (.bipush 6, 2) := by decide +kernel
theorem dX10_cut_11 : decode cX10_cut 11 = .ok (.iload_n 1, 1) := by decide +kernel
theorem dX10_cut_12 : decode cX10_cut 12 = .ok (.iadd, 1) := by decide +kernel
theorem dX10_cut_13 : decode cX10_cut 13 = .ok (.invokevirtual 174, 3) := by decide +kernel
theorem dX10_cut_16 : decode cX10_cut 16 = .ok (.goto 4, 3) := by decide +kernel
theorem dX10_cut_19 : decode cX10_cut 19 = .ok (.iconst (-1), 1) := by decide +kernel
theorem dX10_cut_20 : decode cX10_cut 20 = .ok (.ireturn, 1) := by decide +kernel
theorem dX10_turn_0 : decode cX10_turn 0 = .ok (.aload_n 0, 1) := by decide +kernel
theorem dX10_turn_1 : decode cX10_turn 1 = .ok (.iconst 5, 1) := by decide +kernel
theorem dX10_turn_2 : decode cX10_turn 2 = .ok (.invokevirtual 174, 3) := by decide +kernel
theorem dX10_turn_5 : decode cX10_turn 5 = .ok (.ireturn, 1) := by decide +kernel
theorem dX10_deal_0 : decode cX10_deal 0 = .ok (.aload_n 0, 1) := by decide +kernel
theorem dX10_deal_1 : decode cX10_deal 1 = .ok (.invokevirtual 168, 3) := by decide +kernel
theorem dX10_deal_4 : decode cX10_deal 4 = .ok (.aload_n 0, 1) := by decide +kernel
theorem dX10_deal_5 : decode cX10_deal 5 = .ok (.invokevirtual 162, 3) := by decide +kernel
theorem dX10_deal_8 : decode cX10_deal 8 = .ok (.aload_n 0, 1) := by decide +kernel
theorem dX10_deal_9 : decode cX10_deal 9 = .ok (.invokevirtual 177, 3) := by decide +kernel
theorem dX10_deal_12 : decode cX10_deal 12 = .ok (.aload_n 0, 1) := by decide +kernel
theorem dX10_deal_13 : decode cX10_deal 13 = .ok (.getfield 16, 3) := by decide +kernel
theorem dX10_deal_16 : decode cX10_deal 16 = .ok (.iconst 0, 1) := by decide +kernel
theorem dX10_deal_17 : decode cX10_deal 17 = .ok (.aload_n 0, 1) := by decide +kernel
theorem dX10_deal_18 : decode cX10_deal 18 = .ok (.getfield 40, 3) := by decide +kernel
theorem dX10_deal_21 : decode cX10_deal 21 = .ok (.iconst 0, 1) := by decide +kernel
theorem dX10_deal_22 : decode cX10_deal 22 = .ok (.bipush 16, 2) := by decide +kernel
theorem dX10_deal_24 : decode cX10_deal 24 = .ok (.invokestatic 123, 3) := by decide +kernel
theorem dX10_deal_27 : decode cX10_deal 27 = .ok (.aload_n 0, 1) := by decide +kernel
theorem dX10_deal_28 : decode cX10_deal 28 = .ok (.getfield 16, 3) := by decide +kernel
theorem dX10_deal_31 : decode cX10_deal 31 = .ok (.iconst 0, 1) := by decide +kernel
theorem dX10_deal_32 : decode cX10_deal 32 = .ok (.iaload, 1) := by decide +kernel
theorem dX10_deal_33 : decode cX10_deal 33 = .ok (.ireturn, 1) := by decide +kernel
theorem dX10_undo_0 : decode cX10_undo 0 = .ok (.aload_n 0, 1) := by decide +kernel
theorem dX10_undo_1 : decode cX10_undo 1 = .ok (.getfield 134, 3) := by decide +kernel
theorem dX10_undo_4 : decode cX10_undo 4 = .ok (.ifCond .ne 6, 3) := by decide +kernel
theorem dX10_undo_7 : decode cX10_undo 7 = .ok (.bipush (-2), 2) := by decide +kernel
theorem dX10_undo_9 : decode cX10_undo 9 = .ok (.ireturn, 1) := by decide +kernel
theorem dX10_undo_10 : decode cX10_undo 10 = .ok (.aload_n 0, 1) := by decide +kernel
theorem dX10_undo_11 : decode cX10_undo 11 = .ok (.dup, 1) := by decide +kernel
theorem dX10_undo_12 : decode cX10_undo 12 = .ok (.getfield 134, 3) := by decide +kernel
theorem dX10_undo_15 : decode cX10_undo 15 = .ok (.iconst 1, 1) := by decide +kernel
theorem dX10_undo_16 : decode cX10_undo 16 = .ok (.isub, 1) := by decide +kernel
theorem dX10_undo_17 : decode cX10_undo 17 = .ok (.putfield 134, 3) := by decide +kernel
theorem dX10_undo_20 : decode cX10_undo 20 = .ok (.aload_n 0, 1) := by decide +kernel
theorem dX10_undo_21 : decode cX10_undo 21 = .ok (.getfield 16, 3) := by decide +kernel
theorem dX10_undo_24 : decode cX10_undo 24 = .ok (.iconst 0, 1) := by decide +kernel
theorem dX10_undo_25 : decode cX10_undo 25 = .ok (.aload_n 0, 1) := by decide +kernel
theorem dX10_undo_26 : decode cX10_undo 26 = .ok (.getfield 19, 3) := by decide +kernel
theorem dX10_undo_29 : decode cX10_undo 29 = .ok (.bipush 16, 2) := by decide +kernel
theorem dX10_undo_31 : decode cX10_undo 31 = .ok (.aload_n 0, 1) := by decide +kernel
theorem dX10_undo_32 : decode cX10_undo 32 = .ok (.getfield 134, 3) := by decide +kernel
theorem dX10_undo_35 : decode cX10_undo 35 = .ok (.imul, 1) := by decide +kernel
theorem dX10_undo_36 : decode cX10_undo 36 = .ok (.bipush 16, 2) := by decide +kernel
theorem dX10_undo_38 : decode cX10_undo 38 = .ok (.invokestatic 123, 3) := by decide +kernel
theorem dX10_undo_41 : decode cX10_undo 41 = .ok (.aload_n 0, 1) := by decide +kernel
theorem dX10_undo_42 : decode cX10_undo 42 = .ok (.getfield 134, 3) := by decide +kernel
theorem dX10_undo_45 : decode cX10_undo 45 = .ok (.ireturn, 1) := by decide +kernel
theorem dX10_isInOrder_0 : decode cX10_isInOrder 0 = .ok (.iconst 1, 1) := by decide +kernel
theorem dX10_isInOrder_1 : decode cX10_isInOrder 1 = .ok (.istore_n 1, 1) := by decide +kernel
theorem dX10_isInOrder_2 : decode cX10_isInOrder 2 = .ok (.iconst 0, 1) := by decide +kernel
theorem dX10_isInOrder_3 : decode cX10_isInOrder 3 = .ok (.istore_n 2, 1) := by decide +kernel
theorem dX10_isInOrder_4 : decode cX10_isInOrder 4 = .ok (.iload_n 2, 1) := by decide +kernel
theorem dX10_isInOrder_5 : decode cX10_isInOrder 5 = .ok (.aload_n 0, 1) := by decide +kernel
theorem dX10_isInOrder_6 : decode cX10_isInOrder 6 = .ok (.getfield 74, 3) := by decide +kernel
theorem dX10_isInOrder_9 : decode cX10_isInOrder 9 = .ok (.if_icmp .ge 29, 3) := by decide +kernel
theorem dX10_isInOrder_12 : decode cX10_isInOrder 12 = .ok (.iload_n 1, 1) := by decide +kernel
theorem dX10_isInOrder_13 : decode cX10_isInOrder 13 = .ok (.ifCond .eq 17, 3) := by decide +kernel
theorem dX10_isInOrder_16 : decode cX10_isInOrder 16 = .ok (.aload_n 0, 1) := by decide +kernel
theorem dX10_isInOrder_17 : decode cX10_isInOrder 17 = .ok (.getfield 40, 3) := by decide +kernel
theorem dX10_isInOrder_20 : decode cX10_isInOrder 20 = .ok (.iload_n 2, 1) := by decide +kernel
theorem dX10_isInOrder_21 : decode cX10_isInOrder 21 = .ok (.iaload, 1) := by decide +kernel
theorem dX10_isInOrder_22 : decode cX10_isInOrder 22 = .ok (.iload_n 2, 1) := by decide +kernel
theorem dX10_isInOrder_23 : decode cX10_isInOrder 23 = .ok (.if_icmp .ne 7, 3) := by decide +kernel
theorem dX10_isInOrder_26 : decode cX10_isInOrder 26 = .ok (.iconst 1, 1) := by decide +kernel
theorem dX10_isInOrder_27 : decode cX10_isInOrder 27 = .ok (.goto 4, 3) := by decide +kernel
theorem dX10_isInOrder_30 : decode cX10_isInOrder 30 = .ok (.iconst 0, 1) := by decide +kernel
theorem dX10_isInOrder_31 : decode cX10_isInOrder 31 = .ok (.istore_n 1, 1) := by decide +kernel
theorem dX10_isInOrder_32 : decode cX10_isInOrder 32 = .ok (.iinc 2 1, 3) := by decide +kernel
theorem dX10_isInOrder_35 : decode cX10_isInOrder 35 = .ok (.goto (-31), 3) := by decide +kernel
theorem dX10_isInOrder_38 : decode cX10_isInOrder 38 = .ok (.iload_n 1, 1) := by decide +kernel
theorem dX10_isInOrder_39 : decode cX10_isInOrder 39 = .ok (.ireturn, 1) := by decide +kernel
theorem dX10_again_0 : decode cX10_again 0 = .ok (.iload_n 1, 1) := by decide +kernel
theorem dX10_again_1 : decode cX10_again 1 = .ok (.iconst 0, 1) := by decide +kernel
theorem dX10_again_2 : decode cX10_again 2 = .ok (.iconst 5, 1) := by decide +kernel
theorem dX10_again_3 : decode cX10_again 3 = .ok (.invokestatic 77, 3) := by decide +kernel
theorem dX10_again_6 : decode cX10_again 6 = .ok (.ifCond .ne 5, 3) := by decide +kernel
theorem dX10_again_9 : decode cX10_again 9 = .ok (.iconst (-1), 1) := by decide +kernel
theorem dX10_again_10 : decode cX10_again 10 = .ok (.ireturn, 1) := by decide +kernel
theorem dX10_again_11 : decode cX10_again 11 = .ok (.aload_n 0, 1) := by decide +kernel
theorem dX10_again_12 : decode cX10_again 12 = .ok (.getfield 40, 3) := by decide +kernel
theorem dX10_again_15 : decode cX10_again 15 = .ok (.invokestatic 130, 3) := by decide +kernel
theorem dX10_again_18 : decode cX10_again 18 = .ok (.iconst 0, 1) := by decide +kernel
theorem dX10_again_19 : decode cX10_again 19 = .ok (.istore_n 2, 1) := by decide +kernel
theorem dX10_again_20 : decode cX10_again 20 = .ok (.iconst 1, 1) := by decide +kernel
theorem dX10_again_21 : decode cX10_again 21 = .ok (.istore_n 3, 1) := by decide +kernel
theorem dX10_again_22 : decode cX10_again 22 = .ok (.iload_n 3, 1) := by decide +kernel
theorem dX10_again_23 : decode cX10_again 23 = .ok (.ifCond .eq 39, 3) := by decide +kernel
theorem dX10_again_26 : decode cX10_again 26 = .ok (.iload_n 1, 1) := by decide +kernel
theorem dX10_again_27 : decode cX10_again 27 = .ok (.iconst 5, 1) := by decide +kernel
theorem dX10_again_28 : decode cX10_again 28 = .ok (.if_icmp .ne 10, 3) := by decide +kernel
theorem dX10_again_31 : decode cX10_again 31 = .ok (.aload_n 0, 1) := by decide +kernel
theorem dX10_again_32 : decode cX10_again 32 = .ok (.invokevirtual 177, 3) := by decide +kernel
theorem dX10_again_35 : decode cX10_again 35 = .ok (.goto 8, 3) := by decide +kernel
theorem dX10_again_38 : decode cX10_again 38 = .ok (.aload_n 0, 1) := by decide +kernel
theorem dX10_again_39 : decode cX10_again 39 = .ok (.iload_n 1, 1) := by decide +kernel
theorem dX10_again_40 : decode cX10_again 40 = .ok (.invokevirtual 157, 3) := by decide +kernel
theorem dX10_again_43 : decode cX10_again 43 = .ok (.iinc 2 1, 3) := by decide +kernel
theorem dX10_again_46 : decode cX10_again 46 = .ok (.aload_n 0, 1) := by decide +kernel
theorem dX10_again_47 : decode cX10_again 47 = .ok (.invokevirtual 180, 3) := by decide +kernel
theorem dX10_again_50 : decode cX10_again 50 = .ok (.ifCond .ne 7, 3) := by decide +kernel
theorem dX10_again_53 : decode cX10_again 53 = .ok (.iconst 1, 1) := by decide +kernel
theorem dX10_again_54 : decode cX10_again 54 = .ok (.goto 4, 3) := by decide +kernel
theorem dX10_again_57 : decode cX10_again 57 = .ok (.iconst 0, 1) := by decide +kernel
theorem dX10_again_58 : decode cX10_again 58 = .ok (.istore_n 3, 1) := by decide +kernel
theorem dX10_again_59 : decode cX10_again 59 = .ok (.goto (-37), 3) := by decide +kernel
theorem dX10_again_62 : decode cX10_again 62 = .ok (.iload_n 2, 1) := by decide +kernel
theorem dX10_again_63 : decode cX10_again 63 = .ok (.ireturn, 1) := by decide +kernel
theorem dX10_round_0 : decode cX10_round 0 = .ok (.aload_n 0, 1) := by decide +kernel
theorem dX10_round_1 : decode cX10_round 1 = .ok (.iload_n 1, 1) := by decide +kernel
theorem dX10_round_2 : decode cX10_round 2 = .ok (.invokevirtual 159, 3) := by decide +kernel
theorem dX10_round_5 : decode cX10_round 5 = .ok (.ifCond .eq 10, 3) := by decide +kernel
theorem dX10_round_8 : decode cX10_round 8 = .ok (.iload_n 2, 1) := by decide +kernel
theorem dX10_round_9 : decode cX10_round 9 = .ok (.invokestatic 171, 3) := by decide +kernel
theorem dX10_round_12 : decode cX10_round 12 = .ok (.ifCond .ne 5, 3) := by decide +kernel
theorem dX10_round_15 : decode cX10_round 15 = .ok (.iconst (-1), 1) := by decide +kernel
theorem dX10_round_16 : decode cX10_round 16 = .ok (.ireturn, 1) := by decide +kernel
theorem dX10_round_17 : decode cX10_round 17 = .ok (.aload_n 0, 1) := by decide +kernel
theorem dX10_round_18 : decode cX10_round 18 = .ok (.getfield 40, 3) := by decide +kernel
theorem dX10_round_21 : decode cX10_round 21 = .ok (.invokestatic 130, 3) := by decide +kernel
theorem dX10_round_24 : decode cX10_round 24 = .ok (.iconst 0, 1) := by decide +kernel
theorem dX10_round_25 : decode cX10_round 25 = .ok (.istore_n 3, 1) := by decide +kernel
theorem dX10_round_26 : decode cX10_round 26 = .ok (.iconst 1, 1) := by decide +kernel
theorem dX10_round_27 : decode cX10_round 27 = .ok (.istore 4, 2) := by decide +kernel
theorem dX10_round_29 : decode cX10_round 29 = .ok (.iload 4, 2) := by decide +kernel
theorem dX10_round_31 : decode cX10_round 31 = .ok (.ifCond .eq 31, 3) := by decide +kernel
theorem dX10_round_34 : decode cX10_round 34 = .ok (.aload_n 0, 1) := by decide +kernel
theorem dX10_round_35 : decode cX10_round 35 = .ok (.iload_n 2, 1) := by decide +kernel
theorem dX10_round_36 : decode cX10_round 36 = .ok (.invokevirtual 157, 3) := by decide +kernel
theorem dX10_round_39 : decode cX10_round 39 = .ok (.iinc 3 1, 3) := by decide +kernel
theorem dX10_round_42 : decode cX10_round 42 = .ok (.aload_n 0, 1) := by decide +kernel
theorem dX10_round_43 : decode cX10_round 43 = .ok (.getfield 40, 3) := by decide +kernel
theorem dX10_round_46 : decode cX10_round 46 = .ok (.iload_n 1, 1) := by decide +kernel
theorem dX10_round_47 : decode cX10_round 47 = .ok (.iaload, 1) := by decide +kernel
theorem dX10_round_48 : decode cX10_round 48 = .ok (.iload_n 1, 1) := by decide +kernel
theorem dX10_round_49 : decode cX10_round 49 = .ok (.if_icmp .eq 7, 3) := by decide +kernel
theorem dX10_round_52 : decode cX10_round 52 = .ok (.iconst 1, 1) := by decide +kernel
theorem dX10_round_53 : decode cX10_round 53 = .ok (.goto 4, 3) := by decide +kernel
theorem dX10_round_56 : decode cX10_round 56 = .ok (.iconst 0, 1) := by decide +kernel
theorem dX10_round_57 : decode cX10_round 57 = .ok (.istore 4, 2) := by decide +kernel
theorem dX10_round_59 : decode cX10_round 59 = .ok (.goto (-30), 3) := by decide +kernel
theorem dX10_round_62 : decode cX10_round 62 = .ok (.iload_n 3, 1) := by decide +kernel
theorem dX10_round_63 : decode cX10_round 63 = .ok (.ireturn, 1) := by decide +kernel
theorem dX10_rounds_0 : decode cX10_rounds 0 = .ok (.iload_n 1, 1) := by decide +kernel
theorem dX10_rounds_1 : decode cX10_rounds 1 = .ok (.invokestatic 171, 3) := by decide +kernel
theorem dX10_rounds_4 : decode cX10_rounds 4 = .ok (.ifCond .ne 5, 3) := by decide +kernel
theorem dX10_rounds_7 : decode cX10_rounds 7 = .ok (.iconst (-1), 1) := by decide +kernel
theorem dX10_rounds_8 : decode cX10_rounds 8 = .ok (.ireturn, 1) := by decide +kernel
theorem dX10_rounds_9 : decode cX10_rounds 9 = .ok (.aload_n 0, 1) := by decide +kernel
theorem dX10_rounds_10 : decode cX10_rounds 10 = .ok (.getfield 40, 3) := by decide +kernel
theorem dX10_rounds_13 : decode cX10_rounds 13 = .ok (.invokestatic 130, 3) := by decide +kernel
theorem dX10_rounds_16 : decode cX10_rounds 16 = .ok (.aload_n 0, 1) := by decide +kernel
theorem dX10_rounds_17 : decode cX10_rounds 17 = .ok (.iload_n 1, 1) := by decide +kernel
theorem dX10_rounds_18 : decode cX10_rounds 18 = .ok (.invokevirtual 157, 3) := by decide +kernel
theorem dX10_rounds_21 : decode cX10_rounds 21 = .ok (.iconst 0, 1) := by decide +kernel
theorem dX10_rounds_22 : decode cX10_rounds 22 = .ok (.istore_n 2, 1) := by decide +kernel
theorem dX10_rounds_23 : decode cX10_rounds 23 = .ok (.iconst 0, 1) := by decide +kernel
theorem dX10_rounds_24 : decode cX10_rounds 24 = .ok (.istore_n 3, 1) := by decide +kernel
theorem dX10_rounds_25 : decode cX10_rounds 25 = .ok (.iconst 0, 1) := by decide +kernel
theorem dX10_rounds_26 : decode cX10_rounds 26 = .ok (.istore 4, 2) := by decide +kernel
theorem dX10_rounds_28 : decode cX10_rounds 28 = .ok (.iload 4, 2) := by decide +kernel
theorem dX10_rounds_30 : decode cX10_rounds 30 = .ok (.aload_n 0, 1) := by decide +kernel
theorem dX10_rounds_31 : decode cX10_rounds 31 = .ok (.getfield 74, 3) := by decide +kernel
theorem dX10_rounds_34 : decode cX10_rounds 34 = .ok (.if_icmp .ge 58, 3) := by decide +kernel
theorem dX10_rounds_37 : decode cX10_rounds 37 = .ok (.iload_n 3, 1) := by decide +kernel
theorem dX10_rounds_38 : decode cX10_rounds 38 = .ok (.iload_n 2, 1) := by decide +kernel
theorem dX10_rounds_39 : decode cX10_rounds 39 = .ok (.iload 4, 2) := by decide +kernel
theorem dX10_rounds_41 : decode cX10_rounds 41 = .ok (.ishr, 1) := by decide +kernel
theorem dX10_rounds_42 : decode cX10_rounds 42 = .ok (.iconst 1, 1) := by decide +kernel
theorem dX10_rounds_43 : decode cX10_rounds 43 = .ok (.iand, 1) := by decide +kernel
theorem dX10_rounds_44 : decode cX10_rounds 44 = .ok (.ifCond .ne 7, 3) := by decide +kernel
theorem dX10_rounds_47 : decode cX10_rounds 47 = .ok (.iconst 1, 1) := by decide +kernel
theorem dX10_rounds_48 : decode cX10_rounds 48 = .ok (.goto 4, 3) := by decide +kernel
theorem dX10_rounds_51 : decode cX10_rounds 51 = .ok (.iconst 0, 1) := by decide +kernel
theorem dX10_rounds_52 : decode cX10_rounds 52 = .ok (.iadd, 1) := by decide +kernel
theorem dX10_rounds_53 : decode cX10_rounds 53 = .ok (.istore_n 3, 1) := by decide +kernel
theorem dX10_rounds_54 : decode cX10_rounds 54 = .ok (.iload 4, 2) := by decide +kernel
theorem dX10_rounds_56 : decode cX10_rounds 56 = .ok (.istore 5, 2) := by decide +kernel
theorem dX10_rounds_58 : decode cX10_rounds 58 = .ok (.iload_n 2, 1) := by decide +kernel
theorem dX10_rounds_59 : decode cX10_rounds 59 = .ok (.iload 5, 2) := by decide +kernel
theorem dX10_rounds_61 : decode cX10_rounds 61 = .ok (.ishr, 1) := by decide +kernel
theorem dX10_rounds_62 : decode cX10_rounds 62 = .ok (.iconst 1, 1) := by decide +kernel
theorem dX10_rounds_63 : decode cX10_rounds 63 = .ok (.iand, 1) := by decide +kernel
theorem dX10_rounds_64 : decode cX10_rounds 64 = .ok (.ifCond .ne 22, 3) := by decide +kernel
theorem dX10_rounds_67 : decode cX10_rounds 67 = .ok (.iload_n 2, 1) := by decide +kernel
theorem dX10_rounds_68 : decode cX10_rounds 68 = .ok (.iconst 1, 1) := by decide +kernel
theorem dX10_rounds_69 : decode cX10_rounds 69 = .ok (.iload 5, 2) := by decide +kernel
theorem dX10_rounds_71 : decode cX10_rounds 71 = .ok (.ishl, 1) := by decide +kernel
theorem dX10_rounds_72 : decode cX10_rounds 72 = .ok (.ior, 1) := by decide +kernel
theorem dX10_rounds_73 : decode cX10_rounds 73 = .ok (.istore_n 2, 1) := by decide +kernel
theorem dX10_rounds_74 : decode cX10_rounds 74 = .ok (.aload_n 0, 1) := by decide +kernel
theorem dX10_rounds_75 : decode cX10_rounds 75 = .ok (.getfield 40, 3) := by decide +kernel
theorem dX10_rounds_78 : decode cX10_rounds 78 = .ok (.iload 5, 2) := by decide +kernel
theorem dX10_rounds_80 : decode cX10_rounds 80 = .ok (.iaload, 1) := by decide +kernel
theorem dX10_rounds_81 : decode cX10_rounds 81 = .ok (.istore 5, 2) := by decide +kernel
theorem dX10_rounds_83 : decode cX10_rounds 83 = .ok (.goto (-25), 3) := by decide +kernel
theorem dX10_rounds_86 : decode cX10_rounds 86 = .ok (.iinc 4 1, 3) := by decide +kernel
theorem dX10_rounds_89 : decode cX10_rounds 89 = .ok (.goto (-61), 3) := by decide +kernel
theorem dX10_rounds_92 : decode cX10_rounds 92 = .ok (.iload_n 3, 1) := by decide +kernel
theorem dX10_rounds_93 : decode cX10_rounds 93 = .ok (.ireturn, 1) := by decide +kernel
theorem dX10_findGoes_0 : decode cX10_findGoes 0 = .ok (.iconst 0, 1) := by decide +kernel
theorem dX10_findGoes_1 : decode cX10_findGoes 1 = .ok (.istore_n 1, 1) := by decide +kernel
theorem dX10_findGoes_2 : decode cX10_findGoes 2 = .ok (.iload_n 1, 1) := by decide +kernel
theorem dX10_findGoes_3 : decode cX10_findGoes 3 = .ok (.iconst 1, 1) := by decide +kernel
theorem dX10_findGoes_4 : decode cX10_findGoes 4 = .ok (.if_icmp .gt 54, 3) := by decide +kernel
theorem dX10_findGoes_7 : decode cX10_findGoes 7 = .ok (.aload_n 0, 1) := by decide +kernel
theorem dX10_findGoes_8 : decode cX10_findGoes 8 = .ok (.getfield 40, 3) := by decide +kernel
theorem dX10_findGoes_11 : decode cX10_findGoes 11 = .ok (.invokestatic 130, 3) := by decide +kernel
theorem dX10_findGoes_14 : decode cX10_findGoes 14 = .ok (.aload_n 0, 1) := by decide +kernel
theorem dX10_findGoes_15 : decode cX10_findGoes 15 = .ok (.iload_n 1, 1) := by decide +kernel
theorem dX10_findGoes_16 : decode cX10_findGoes 16 = .ok (.invokevirtual 157, 3) := by decide +kernel
theorem dX10_findGoes_19 : decode cX10_findGoes 19 = .ok (.iconst 0, 1) := by decide +kernel
theorem dX10_findGoes_20 : decode cX10_findGoes 20 = .ok (.istore_n 2, 1) := by decide +kernel
theorem dX10_findGoes_21 : decode cX10_findGoes 21 = .ok (.iload_n 2, 1) := by decide +kernel
theorem dX10_findGoes_22 : decode cX10_findGoes 22 = .ok (.aload_n 0, 1) := by decide +kernel
theorem dX10_findGoes_23 : decode cX10_findGoes 23 = .ok (.getfield 74, 3) := by decide +kernel
theorem dX10_findGoes_26 : decode cX10_findGoes 26 = .ok (.if_icmp .ge 26, 3) := by decide +kernel
theorem dX10_findGoes_29 : decode cX10_findGoes 29 = .ok (.aload_n 0, 1) := by decide +kernel
theorem dX10_findGoes_30 : decode cX10_findGoes 30 = .ok (.getfield 49, 3) := by decide +kernel
theorem dX10_findGoes_33 : decode cX10_findGoes 33 = .ok (.bipush 16, 2) := by decide +kernel
theorem dX10_findGoes_35 : decode cX10_findGoes 35 = .ok (.iload_n 1, 1) := by decide +kernel
theorem dX10_findGoes_36 : decode cX10_findGoes 36 = .ok (.imul, 1) := by decide +kernel
theorem dX10_findGoes_37 : decode cX10_findGoes 37 = .ok (.aload_n 0, 1) := by decide +kernel
theorem dX10_findGoes_38 : decode cX10_findGoes 38 = .ok (.getfield 40, 3) := by decide +kernel
theorem dX10_findGoes_41 : decode cX10_findGoes 41 = .ok (.iload_n 2, 1) := by decide +kernel
theorem dX10_findGoes_42 : decode cX10_findGoes 42 = .ok (.iaload, 1) := by decide +kernel
theorem dX10_findGoes_43 : decode cX10_findGoes 43 = .ok (.iadd, 1) := by decide +kernel
theorem dX10_findGoes_44 : decode cX10_findGoes 44 = .ok (.iload_n 2, 1) := by decide +kernel
theorem dX10_findGoes_45 : decode cX10_findGoes 45 = .ok (.iastore, 1) := by decide +kernel
theorem dX10_findGoes_46 : decode cX10_findGoes 46 = .ok (.iinc 2 1, 3) := by decide +kernel
theorem dX10_findGoes_49 : decode cX10_findGoes 49 = .ok (.goto (-28), 3) := by decide +kernel
theorem dX10_findGoes_52 : decode cX10_findGoes 52 = .ok (.iinc 1 1, 3) := by decide +kernel
theorem dX10_findGoes_55 : decode cX10_findGoes 55 = .ok (.goto (-53), 3) := by decide +kernel
theorem dX10_findGoes_58 : decode cX10_findGoes 58 = .ok (.return_, 1) := by decide +kernel
theorem dX10_findFar_0 : decode cX10_findFar 0 = .ok (.aload_n 0, 1) := by decide +kernel
theorem dX10_findFar_1 : decode cX10_findFar 1 = .ok (.invokevirtual 183, 3) := by decide +kernel
theorem dX10_findFar_4 : decode cX10_findFar 4 = .ok (.iconst 0, 1) := by decide +kernel
theorem dX10_findFar_5 : decode cX10_findFar 5 = .ok (.istore_n 2, 1) := by decide +kernel
theorem dX10_findFar_6 : decode cX10_findFar 6 = .ok (.iload_n 2, 1) := by decide +kernel
theorem dX10_findFar_7 : decode cX10_findFar 7 = .ok (.bipush 16, 2) := by decide +kernel
theorem dX10_findFar_9 : decode cX10_findFar 9 = .ok (.if_icmp .ge 26, 3) := by decide +kernel
theorem dX10_findFar_12 : decode cX10_findFar 12 = .ok (.aload_n 0, 1) := by decide +kernel
theorem dX10_findFar_13 : decode cX10_findFar 13 = .ok (.getfield 52, 3) := by decide +kernel
theorem dX10_findFar_16 : decode cX10_findFar 16 = .ok (.iload_n 2, 1) := by decide +kernel
theorem dX10_findFar_17 : decode cX10_findFar 17 = .ok (.iload_n 2, 1) := by decide +kernel
theorem dX10_findFar_18 : decode cX10_findFar 18 = .ok (.iload_n 1, 1) := by decide +kernel
theorem dX10_findFar_19 : decode cX10_findFar 19 = .ok (.if_icmp .ne 7, 3) := by decide +kernel
theorem dX10_findFar_22 : decode cX10_findFar 22 = .ok (.iconst 0, 1) := by decide +kernel
theorem dX10_findFar_23 : decode cX10_findFar 23 = .ok (.goto 5, 3) := by decide +kernel
theorem dX10_findFar_26 : decode cX10_findFar 26 = .ok (.bipush (-4), 2) := by decide +kernel
theorem dX10_findFar_28 : decode cX10_findFar 28 = .ok (.iastore, 1) := by decide +kernel
theorem dX10_findFar_29 : decode cX10_findFar 29 = .ok (.iinc 2 1, 3) := by decide +kernel
theorem dX10_findFar_32 : decode cX10_findFar 32 = .ok (.goto (-26), 3) := by decide +kernel
theorem dX10_findFar_35 : decode cX10_findFar 35 = .ok (.iconst 1, 1) := by decide +kernel
theorem dX10_findFar_36 : decode cX10_findFar 36 = .ok (.istore_n 2, 1) := by decide +kernel
theorem dX10_findFar_37 : decode cX10_findFar 37 = .ok (.iload_n 2, 1) := by decide +kernel
theorem dX10_findFar_38 : decode cX10_findFar 38 = .ok (.bipush 16, 2) := by decide +kernel
theorem dX10_findFar_40 : decode cX10_findFar 40 = .ok (.if_icmp .ge 99, 3) := by decide +kernel
theorem dX10_findFar_43 : decode cX10_findFar 43 = .ok (.iconst 0, 1) := by decide +kernel
theorem dX10_findFar_44 : decode cX10_findFar 44 = .ok (.istore_n 3, 1) := by decide +kernel
theorem dX10_findFar_45 : decode cX10_findFar 45 = .ok (.iload_n 3, 1) := by decide +kernel
theorem dX10_findFar_46 : decode cX10_findFar 46 = .ok (.aload_n 0, 1) := by decide +kernel
theorem dX10_findFar_47 : decode cX10_findFar 47 = .ok (.getfield 74, 3) := by decide +kernel
theorem dX10_findFar_50 : decode cX10_findFar 50 = .ok (.if_icmp .ge 83, 3) := by decide +kernel
theorem dX10_findFar_53 : decode cX10_findFar 53 = .ok (.aload_n 0, 1) := by decide +kernel
theorem dX10_findFar_54 : decode cX10_findFar 54 = .ok (.getfield 52, 3) := by decide +kernel
theorem dX10_findFar_57 : decode cX10_findFar 57 = .ok (.aload_n 0, 1) := by decide +kernel
theorem dX10_findFar_58 : decode cX10_findFar 58 = .ok (.getfield 49, 3) := by decide +kernel
theorem dX10_findFar_61 : decode cX10_findFar 61 = .ok (.iload_n 3, 1) := by decide +kernel
theorem dX10_findFar_62 : decode cX10_findFar 62 = .ok (.iaload, 1) := by decide +kernel
theorem dX10_findFar_63 : decode cX10_findFar 63 = .ok (.iaload, 1) := by decide +kernel
theorem dX10_findFar_64 : decode cX10_findFar 64 = .ok (.iload_n 2, 1) := by decide +kernel
theorem dX10_findFar_65 : decode cX10_findFar 65 = .ok (.iconst 1, 1) := by decide +kernel
theorem dX10_findFar_66 : decode cX10_findFar 66 = .ok (.isub, 1) := by decide +kernel
theorem dX10_findFar_67 : decode cX10_findFar 67 = .ok (.if_icmp .eq 23, 3) := by decide +kernel
theorem dX10_findFar_70 : decode cX10_findFar 70 = .ok (.aload_n 0, 1) := by decide +kernel
theorem dX10_findFar_71 : decode cX10_findFar 71 = .ok (.getfield 52, 3) := by decide +kernel
theorem dX10_findFar_74 : decode cX10_findFar 74 = .ok (.aload_n 0, 1) := by decide +kernel
theorem dX10_findFar_75 : decode cX10_findFar 75 = .ok (.getfield 49, 3) := by decide +kernel
theorem dX10_findFar_78 : decode cX10_findFar 78 = .ok (.bipush 16, 2) := by decide +kernel
theorem dX10_findFar_80 : decode cX10_findFar 80 = .ok (.iload_n 3, 1) := by decide +kernel
theorem dX10_findFar_81 : decode cX10_findFar 81 = .ok (.iadd, 1) := by decide +kernel
theorem dX10_findFar_82 : decode cX10_findFar 82 = .ok (.iaload, 1) := by decide +kernel
theorem dX10_findFar_83 : decode cX10_findFar 83 = .ok (.iaload, 1) := by decide +kernel
theorem dX10_findFar_84 : decode cX10_findFar 84 = .ok (.iload_n 2, 1) := by decide +kernel
theorem dX10_findFar_85 : decode cX10_findFar 85 = .ok (.iconst 1, 1) := by decide +kernel
theorem dX10_findFar_86 : decode cX10_findFar 86 = .ok (.isub, 1) := by decide +kernel
theorem dX10_findFar_87 : decode cX10_findFar 87 = .ok (.if_icmp .ne 7, 3) := by decide +kernel
theorem dX10_findFar_90 : decode cX10_findFar 90 = .ok (.iconst 1, 1) := by decide +kernel
theorem dX10_findFar_91 : decode cX10_findFar 91 = .ok (.goto 4, 3) := by decide +kernel
theorem dX10_findFar_94 : decode cX10_findFar 94 = .ok (.iconst 0, 1) := by decide +kernel
theorem dX10_findFar_95 : decode cX10_findFar 95 = .ok (.istore 4, 2) := by decide +kernel
theorem dX10_findFar_97 : decode cX10_findFar 97 = .ok (.aload_n 0, 1) := by decide +kernel
theorem dX10_findFar_98 : decode cX10_findFar 98 = .ok (.getfield 52, 3) := by decide +kernel
theorem dX10_findFar_101 : decode cX10_findFar 101 = .ok (.iload_n 3, 1) := by decide +kernel
theorem dX10_findFar_102 : decode cX10_findFar 102 = .ok (.aload_n 0, 1) := by decide +kernel
theorem dX10_findFar_103 : decode cX10_findFar 103 = .ok (.getfield 52, 3) := by decide +kernel
theorem dX10_findFar_106 : decode cX10_findFar 106 = .ok (.iload_n 3, 1) := by decide +kernel
theorem dX10_findFar_107 : decode cX10_findFar 107 = .ok (.iaload, 1) := by decide +kernel
theorem dX10_findFar_108 : decode cX10_findFar 108 = .ok (.ifCond .ge 12, 3) := by decide +kernel
theorem dX10_findFar_111 : decode cX10_findFar 111 = .ok (.iload 4, 2) := by decide +kernel
theorem dX10_findFar_113 : decode cX10_findFar 113 = .ok (.ifCond .eq 7, 3) := by decide +kernel
theorem dX10_findFar_116 : decode cX10_findFar 116 = .ok (.iload_n 2, 1) := by decide +kernel
theorem dX10_findFar_117 : decode cX10_findFar 117 = .ok (.goto 9, 3) := by decide +kernel
theorem dX10_findFar_120 : decode cX10_findFar 120 = .ok (.aload_n 0, 1) := by decide +kernel
theorem dX10_findFar_121 : decode cX10_findFar 121 = .ok (.getfield 52, 3) := by decide +kernel
theorem dX10_findFar_124 : decode cX10_findFar 124 = .ok (.iload_n 3, 1) := by decide +kernel
theorem dX10_findFar_125 : decode cX10_findFar 125 = .ok (.iaload, 1) := by decide +kernel
theorem dX10_findFar_126 : decode cX10_findFar 126 = .ok (.iastore, 1) := by decide +kernel
theorem dX10_findFar_127 : decode cX10_findFar 127 = .ok (.iinc 3 1, 3) := by decide +kernel
theorem dX10_findFar_130 : decode cX10_findFar 130 = .ok (.goto (-85), 3) := by decide +kernel
theorem dX10_findFar_133 : decode cX10_findFar 133 = .ok (.iinc 2 1, 3) := by decide +kernel
theorem dX10_findFar_136 : decode cX10_findFar 136 = .ok (.goto (-99), 3) := by decide +kernel
theorem dX10_findFar_139 : decode cX10_findFar 139 = .ok (.return_, 1) := by decide +kernel
theorem dX10_bring_0 : decode cX10_bring 0 = .ok (.aload_n 0, 1) := by decide +kernel
theorem dX10_bring_1 : decode cX10_bring 1 = .ok (.iload_n 1, 1) := by decide +kernel
theorem dX10_bring_2 : decode cX10_bring 2 = .ok (.invokevirtual 159, 3) := by decide +kernel
theorem dX10_bring_5 : decode cX10_bring 5 = .ok (.ifCond .eq 16, 3) := by decide +kernel
theorem dX10_bring_8 : decode cX10_bring 8 = .ok (.aload_n 0, 1) := by decide +kernel
theorem dX10_bring_9 : decode cX10_bring 9 = .ok (.iload_n 2, 1) := by decide +kernel
theorem dX10_bring_10 : decode cX10_bring 10 = .ok (.invokevirtual 159, 3) := by decide +kernel
theorem dX10_bring_13 : decode cX10_bring 13 = .ok (.ifCond .eq 8, 3) := by decide +kernel
theorem dX10_bring_16 : decode cX10_bring 16 = .ok (.iload_n 3, 1) := by decide +kernel
theorem dX10_bring_17 : decode cX10_bring 17 = .ok (.iconst (-1), 1) := by decide +kernel
theorem dX10_bring_18 : decode cX10_bring 18 = .ok (.if_icmp .ge 5, 3) := by decide +kernel
theorem dX10_bring_21 : decode cX10_bring 21 = .ok (.iconst (-1), 1) := by decide +kernel
theorem dX10_bring_22 : decode cX10_bring 22 = .ok (.ireturn, 1) := by decide +kernel
theorem dX10_bring_23 : decode cX10_bring 23 = .ok (.aload_n 0, 1) := by decide +kernel
theorem dX10_bring_24 : decode cX10_bring 24 = .ok (.iload_n 2, 1) := by decide +kernel
theorem dX10_bring_25 : decode cX10_bring 25 = .ok (.invokevirtual 186, 3) := by decide +kernel
theorem dX10_bring_28 : decode cX10_bring 28 = .ok (.aload_n 0, 1) := by decide +kernel
theorem dX10_bring_29 : decode cX10_bring 29 = .ok (.invokevirtual 162, 3) := by decide +kernel
theorem dX10_bring_32 : decode cX10_bring 32 = .ok (.aload_n 0, 1) := by decide +kernel
theorem dX10_bring_33 : decode cX10_bring 33 = .ok (.iload_n 1, 1) := by decide +kernel
theorem dX10_bring_34 : decode cX10_bring 34 = .ok (.invokevirtual 165, 3) := by decide +kernel
theorem dX10_bring_37 : decode cX10_bring 37 = .ok (.istore 4, 2) := by decide +kernel
theorem dX10_bring_39 : decode cX10_bring 39 = .ok (.aload_n 0, 1) := by decide +kernel
theorem dX10_bring_40 : decode cX10_bring 40 = .ok (.getfield 52, 3) := by decide +kernel
theorem dX10_bring_43 : decode cX10_bring 43 = .ok (.iload 4, 2) := by decide +kernel
theorem dX10_bring_45 : decode cX10_bring 45 = .ok (.iaload, 1) := by decide +kernel
theorem dX10_bring_46 : decode cX10_bring 46 = .ok (.istore 5, 2) := by decide +kernel
theorem dX10_bring_48 : decode cX10_bring 48 = .ok (.iload 5, 2) := by decide +kernel
theorem dX10_bring_50 : decode cX10_bring 50 = .ok (.ifCond .lt 7, 3) := by decide +kernel
theorem dX10_bring_53 : decode cX10_bring 53 = .ok (.iload_n 3, 1) := by decide +kernel
theorem dX10_bring_54 : decode cX10_bring 54 = .ok (.ifCond .ge 6, 3) := by decide +kernel
theorem dX10_bring_57 : decode cX10_bring 57 = .ok (.iload 5, 2) := by decide +kernel
theorem dX10_bring_59 : decode cX10_bring 59 = .ok (.ireturn, 1) := by decide +kernel
theorem dX10_bring_60 : decode cX10_bring 60 = .ok (.iconst 0, 1) := by decide +kernel
theorem dX10_bring_61 : decode cX10_bring 61 = .ok (.istore 6, 2) := by decide +kernel
theorem dX10_bring_63 : decode cX10_bring 63 = .ok (.iload 6, 2) := by decide +kernel
theorem dX10_bring_65 : decode cX10_bring 65 = .ok (.iload 5, 2) := by decide +kernel
theorem dX10_bring_67 : decode cX10_bring 67 = .ok (.if_icmp .ge 62, 3) := by decide +kernel
theorem dX10_bring_70 : decode cX10_bring 70 = .ok (.aload_n 0, 1) := by decide +kernel
theorem dX10_bring_71 : decode cX10_bring 71 = .ok (.getfield 52, 3) := by decide +kernel
theorem dX10_bring_74 : decode cX10_bring 74 = .ok (.aload_n 0, 1) := by decide +kernel
theorem dX10_bring_75 : decode cX10_bring 75 = .ok (.getfield 49, 3) := by decide +kernel
theorem dX10_bring_78 : decode cX10_bring 78 = .ok (.iload 4, 2) := by decide +kernel
theorem dX10_bring_80 : decode cX10_bring 80 = .ok (.iaload, 1) := by decide +kernel
theorem dX10_bring_81 : decode cX10_bring 81 = .ok (.iaload, 1) := by decide +kernel
theorem dX10_bring_82 : decode cX10_bring 82 = .ok (.iload 5, 2) := by decide +kernel
theorem dX10_bring_84 : decode cX10_bring 84 = .ok (.iconst 1, 1) := by decide +kernel
theorem dX10_bring_85 : decode cX10_bring 85 = .ok (.isub, 1) := by decide +kernel
theorem dX10_bring_86 : decode cX10_bring 86 = .ok (.iload 6, 2) := by decide +kernel
theorem dX10_bring_88 : decode cX10_bring 88 = .ok (.isub, 1) := by decide +kernel
theorem dX10_bring_89 : decode cX10_bring 89 = .ok (.if_icmp .ne 7, 3) := by decide +kernel
theorem dX10_bring_92 : decode cX10_bring 92 = .ok (.iconst 0, 1) := by decide +kernel
theorem dX10_bring_93 : decode cX10_bring 93 = .ok (.goto 4, 3) := by decide +kernel
theorem dX10_bring_96 : decode cX10_bring 96 = .ok (.iconst 1, 1) := by decide +kernel
theorem dX10_bring_97 : decode cX10_bring 97 = .ok (.istore 7, 2) := by decide +kernel
theorem dX10_bring_99 : decode cX10_bring 99 = .ok (.iload 6, 2) := by decide +kernel
theorem dX10_bring_101 : decode cX10_bring 101 = .ok (.iload_n 3, 1) := by decide +kernel
theorem dX10_bring_102 : decode cX10_bring 102 = .ok (.if_icmp .ne 6, 3) := by decide +kernel
theorem dX10_bring_105 : decode cX10_bring 105 = .ok (.iload 7, 2) := by decide +kernel
theorem dX10_bring_107 : decode cX10_bring 107 = .ok (.ireturn, 1) := by decide +kernel
theorem dX10_bring_108 : decode cX10_bring 108 = .ok (.aload_n 0, 1) := by decide +kernel
theorem dX10_bring_109 : decode cX10_bring 109 = .ok (.getfield 49, 3) := by decide +kernel
theorem dX10_bring_112 : decode cX10_bring 112 = .ok (.bipush 16, 2) := by decide +kernel
theorem dX10_bring_114 : decode cX10_bring 114 = .ok (.iload 7, 2) := by decide +kernel
theorem dX10_bring_116 : decode cX10_bring 116 = .ok (.imul, 1) := by decide +kernel
theorem dX10_bring_117 : decode cX10_bring 117 = .ok (.iload 4, 2) := by decide +kernel
theorem dX10_bring_119 : decode cX10_bring 119 = .ok (.iadd, 1) := by decide +kernel
theorem dX10_bring_120 : decode cX10_bring 120 = .ok (.iaload, 1) := by decide +kernel
theorem dX10_bring_121 : decode cX10_bring 121 = .ok (.istore 4, 2) := by decide +kernel
theorem dX10_bring_123 : decode cX10_bring 123 = .ok (.iinc 6 1, 3) := by decide +kernel
theorem dX10_bring_126 : decode cX10_bring 126 = .ok (.goto (-63), 3) := by decide +kernel
theorem dX10_bring_129 : decode cX10_bring 129 = .ok (.bipush (-4), 2) := by decide +kernel
theorem dX10_bring_131 : decode cX10_bring 131 = .ok (.ireturn, 1) := by decide +kernel
theorem dX10_beside_0 : decode cX10_beside 0 = .ok (.aload_n 0, 1) := by decide +kernel
theorem dX10_beside_1 : decode cX10_beside 1 = .ok (.iload_n 1, 1) := by decide +kernel
theorem dX10_beside_2 : decode cX10_beside 2 = .ok (.invokevirtual 159, 3) := by decide +kernel
theorem dX10_beside_5 : decode cX10_beside 5 = .ok (.ifCond .eq 16, 3) := by decide +kernel
theorem dX10_beside_8 : decode cX10_beside 8 = .ok (.aload_n 0, 1) := by decide +kernel
theorem dX10_beside_9 : decode cX10_beside 9 = .ok (.iload_n 2, 1) := by decide +kernel
theorem dX10_beside_10 : decode cX10_beside 10 = .ok (.invokevirtual 159, 3) := by decide +kernel
theorem dX10_beside_13 : decode cX10_beside 13 = .ok (.ifCond .eq 8, 3) := by decide +kernel
theorem dX10_beside_16 : decode cX10_beside 16 = .ok (.iload_n 1, 1) := by decide +kernel
theorem dX10_beside_17 : decode cX10_beside 17 = .ok (.iload_n 2, 1) := by decide +kernel
theorem dX10_beside_18 : decode cX10_beside 18 = .ok (.if_icmp .ne 5, 3) := by decide +kernel
theorem dX10_beside_21 : decode cX10_beside 21 = .ok (.iconst (-1), 1) := by decide +kernel
theorem dX10_beside_22 : decode cX10_beside 22 = .ok (.ireturn, 1) := by decide +kernel
theorem dX10_beside_23 : decode cX10_beside 23 = .ok (.aload_n 0, 1) := by decide +kernel
theorem dX10_beside_24 : decode cX10_beside 24 = .ok (.invokevirtual 183, 3) := by decide +kernel
theorem dX10_beside_27 : decode cX10_beside 27 = .ok (.aload_n 0, 1) := by decide +kernel
theorem dX10_beside_28 : decode cX10_beside 28 = .ok (.invokevirtual 162, 3) := by decide +kernel
theorem dX10_beside_31 : decode cX10_beside 31 = .ok (.aload_n 0, 1) := by decide +kernel
theorem dX10_beside_32 : decode cX10_beside 32 = .ok (.iload_n 1, 1) := by decide +kernel
theorem dX10_beside_33 : decode cX10_beside 33 = .ok (.invokevirtual 165, 3) := by decide +kernel
theorem dX10_beside_36 : decode cX10_beside 36 = .ok (.istore_n 3, 1) := by decide +kernel
theorem dX10_beside_37 : decode cX10_beside 37 = .ok (.aload_n 0, 1) := by decide +kernel
theorem dX10_beside_38 : decode cX10_beside 38 = .ok (.iload_n 2, 1) := by decide +kernel
theorem dX10_beside_39 : decode cX10_beside 39 = .ok (.invokevirtual 165, 3) := by decide +kernel
theorem dX10_beside_42 : decode cX10_beside 42 = .ok (.istore 4, 2) := by decide +kernel
theorem dX10_beside_44 : decode cX10_beside 44 = .ok (.iconst 0, 1) := by decide +kernel
theorem dX10_beside_45 : decode cX10_beside 45 = .ok (.istore 5, 2) := by decide +kernel
theorem dX10_beside_47 : decode cX10_beside 47 = .ok (.iload 5, 2) := by decide +kernel
theorem dX10_beside_49 : decode cX10_beside 49 = .ok (.bipush 8, 2) := by decide +kernel
theorem dX10_beside_51 : decode cX10_beside 51 = .ok (.if_icmp .gt 110, 3) := by decide +kernel
theorem dX10_beside_54 : decode cX10_beside 54 = .ok (.iconst 0, 1) := by decide +kernel
theorem dX10_beside_55 : decode cX10_beside 55 = .ok (.istore 6, 2) := by decide +kernel
theorem dX10_beside_57 : decode cX10_beside 57 = .ok (.iload 6, 2) := by decide +kernel
theorem dX10_beside_59 : decode cX10_beside 59 = .ok (.iconst 1, 1) := by decide +kernel
theorem dX10_beside_60 : decode cX10_beside 60 = .ok (.iload 5, 2) := by decide +kernel
theorem dX10_beside_62 : decode cX10_beside 62 = .ok (.ishl, 1) := by decide +kernel
theorem dX10_beside_63 : decode cX10_beside 63 = .ok (.if_icmp .ge 92, 3) := by decide +kernel
theorem dX10_beside_66 : decode cX10_beside 66 = .ok (.iload_n 3, 1) := by decide +kernel
theorem dX10_beside_67 : decode cX10_beside 67 = .ok (.istore 7, 2) := by decide +kernel
theorem dX10_beside_69 : decode cX10_beside 69 = .ok (.iload 4, 2) := by decide +kernel
theorem dX10_beside_71 : decode cX10_beside 71 = .ok (.istore 8, 2) := by decide +kernel
theorem dX10_beside_73 : decode cX10_beside 73 = .ok (.iconst 0, 1) := by decide +kernel
theorem dX10_beside_74 : decode cX10_beside 74 = .ok (.istore 9, 2) := by decide +kernel
theorem dX10_beside_76 : decode cX10_beside 76 = .ok (.iload 9, 2) := by decide +kernel
theorem dX10_beside_78 : decode cX10_beside 78 = .ok (.iload 5, 2) := by decide +kernel
theorem dX10_beside_80 : decode cX10_beside 80 = .ok (.if_icmp .ge 48, 3) := by decide +kernel
theorem dX10_beside_83 : decode cX10_beside 83 = .ok (.iload 6, 2) := by decide +kernel
theorem dX10_beside_85 : decode cX10_beside 85 = .ok (.iload 9, 2) := by decide +kernel
theorem dX10_beside_87 : decode cX10_beside 87 = .ok (.ishr, 1) := by decide +kernel
theorem dX10_beside_88 : decode cX10_beside 88 = .ok (.iconst 1, 1) := by decide +kernel
theorem dX10_beside_89 : decode cX10_beside 89 = .ok (.iand, 1) := by decide +kernel
theorem dX10_beside_90 : decode cX10_beside 90 = .ok (.istore 10, 2) := by decide +kernel
theorem dX10_beside_92 : decode cX10_beside 92 = .ok (.aload_n 0, 1) := by decide +kernel
theorem dX10_beside_93 : decode cX10_beside 93 = .ok (.getfield 49, 3) := by decide +kernel
theorem dX10_beside_96 : decode cX10_beside 96 = .ok (.bipush 16, 2) := by decide +kernel
theorem dX10_beside_98 : decode cX10_beside 98 = .ok (.iload 10, 2) := by decide +kernel
theorem dX10_beside_100 : decode cX10_beside 100 = .ok (.imul, 1) := by decide +kernel
theorem dX10_beside_101 : decode cX10_beside 101 = .ok (.iload 7, 2) := by decide +kernel
theorem dX10_beside_103 : decode cX10_beside 103 = .ok (.iadd, 1) := by decide +kernel
theorem dX10_beside_104 : decode cX10_beside 104 = .ok (.iaload, 1) := by decide +kernel
theorem dX10_beside_105 : decode cX10_beside 105 = .ok (.istore 7, 2) := by decide +kernel
theorem dX10_beside_107 : decode cX10_beside 107 = .ok (.aload_n 0, 1) := by decide +kernel
theorem dX10_beside_108 : decode cX10_beside 108 = .ok (.getfield 49, 3) := by decide +kernel
theorem dX10_beside_111 : decode cX10_beside 111 = .ok (.bipush 16, 2) := by decide +kernel
theorem dX10_beside_113 : decode cX10_beside 113 = .ok (.iload 10, 2) := by decide +kernel
theorem dX10_beside_115 : decode cX10_beside 115 = .ok (.imul, 1) := by decide +kernel
theorem dX10_beside_116 : decode cX10_beside 116 = .ok (.iload 8, 2) := by decide +kernel
theorem dX10_beside_118 : decode cX10_beside 118 = .ok (.iadd, 1) := by decide +kernel
theorem dX10_beside_119 : decode cX10_beside 119 = .ok (.iaload, 1) := by decide +kernel
theorem dX10_beside_120 : decode cX10_beside 120 = .ok (.istore 8, 2) := by decide +kernel
theorem dX10_beside_122 : decode cX10_beside 122 = .ok (.iinc 9 1, 3) := by decide +kernel
theorem dX10_beside_125 : decode cX10_beside 125 = .ok (.goto (-49), 3) := by decide +kernel
theorem dX10_beside_128 : decode cX10_beside 128 = .ok (.iload 7, 2) := by decide +kernel
theorem dX10_beside_130 : decode cX10_beside 130 = .ok (.iload 8, 2) := by decide +kernel
theorem dX10_beside_132 : decode cX10_beside 132 = .ok (.isub, 1) := by decide +kernel
theorem dX10_beside_133 : decode cX10_beside 133 = .ok (.iconst 1, 1) := by decide +kernel
theorem dX10_beside_134 : decode cX10_beside 134 = .ok (.if_icmp .eq 12, 3) := by decide +kernel
theorem dX10_beside_137 : decode cX10_beside 137 = .ok (.iload 8, 2) := by decide +kernel
theorem dX10_beside_139 : decode cX10_beside 139 = .ok (.iload 7, 2) := by decide +kernel
theorem dX10_beside_141 : decode cX10_beside 141 = .ok (.isub, 1) := by decide +kernel
theorem dX10_beside_142 : decode cX10_beside 142 = .ok (.iconst 1, 1) := by decide +kernel
theorem dX10_beside_143 : decode cX10_beside 143 = .ok (.if_icmp .ne 6, 3) := by decide +kernel
theorem dX10_beside_146 : decode cX10_beside 146 = .ok (.iload 5, 2) := by decide +kernel
theorem dX10_beside_148 : decode cX10_beside 148 = .ok (.ireturn, 1) := by decide +kernel
theorem dX10_beside_149 : decode cX10_beside 149 = .ok (.iinc 6 1, 3) := by decide +kernel
theorem dX10_beside_152 : decode cX10_beside 152 = .ok (.goto (-95), 3) := by decide +kernel
theorem dX10_beside_155 : decode cX10_beside 155 = .ok (.iinc 5 1, 3) := by decide +kernel
theorem dX10_beside_158 : decode cX10_beside 158 = .ok (.goto (-111), 3) := by decide +kernel
theorem dX10_beside_161 : decode cX10_beside 161 = .ok (.bipush (-4), 2) := by decide +kernel
theorem dX10_beside_163 : decode cX10_beside 163 = .ok (.ireturn, 1) := by decide +kernel
theorem dX10_isMet_0 : decode cX10_isMet 0 = .ok (.iconst 0, 1) := by decide +kernel
theorem dX10_isMet_1 : decode cX10_isMet 1 = .ok (.istore_n 1, 1) := by decide +kernel
theorem dX10_isMet_2 : decode cX10_isMet 2 = .ok (.iconst 0, 1) := by decide +kernel
theorem dX10_isMet_3 : decode cX10_isMet 3 = .ok (.istore_n 2, 1) := by decide +kernel
theorem dX10_isMet_4 : decode cX10_isMet 4 = .ok (.iload_n 2, 1) := by decide +kernel
theorem dX10_isMet_5 : decode cX10_isMet 5 = .ok (.aload_n 0, 1) := by decide +kernel
theorem dX10_isMet_6 : decode cX10_isMet 6 = .ok (.getfield 189, 3) := by decide +kernel
theorem dX10_isMet_9 : decode cX10_isMet 9 = .ok (.if_icmp .ge 75, 3) := by decide +kernel
theorem dX10_isMet_12 : decode cX10_isMet 12 = .ok (.iconst 1, 1) := by decide +kernel
theorem dX10_isMet_13 : decode cX10_isMet 13 = .ok (.istore_n 3, 1) := by decide +kernel
theorem dX10_isMet_14 : decode cX10_isMet 14 = .ok (.iconst 0, 1) := by decide +kernel
theorem dX10_isMet_15 : decode cX10_isMet 15 = .ok (.istore 4, 2) := by decide +kernel
theorem dX10_isMet_17 : decode cX10_isMet 17 = .ok (.iload 4, 2) := by decide +kernel
theorem dX10_isMet_19 : decode cX10_isMet 19 = .ok (.aload_n 0, 1) := by decide +kernel
theorem dX10_isMet_20 : decode cX10_isMet 20 = .ok (.getfield 74, 3) := by decide +kernel
theorem dX10_isMet_23 : decode cX10_isMet 23 = .ok (.if_icmp .ge 41, 3) := by decide +kernel
theorem dX10_isMet_26 : decode cX10_isMet 26 = .ok (.iload_n 3, 1) := by decide +kernel
theorem dX10_isMet_27 : decode cX10_isMet 27 = .ok (.ifCond .eq 29, 3) := by decide +kernel
theorem dX10_isMet_30 : decode cX10_isMet 30 = .ok (.aload_n 0, 1) := by decide +kernel
theorem dX10_isMet_31 : decode cX10_isMet 31 = .ok (.getfield 55, 3) := by decide +kernel
theorem dX10_isMet_34 : decode cX10_isMet 34 = .ok (.bipush 16, 2) := by decide +kernel
theorem dX10_isMet_36 : decode cX10_isMet 36 = .ok (.iload_n 2, 1) := by decide +kernel
theorem dX10_isMet_37 : decode cX10_isMet 37 = .ok (.imul, 1) := by decide +kernel
theorem dX10_isMet_38 : decode cX10_isMet 38 = .ok (.iload 4, 2) := by decide +kernel
theorem dX10_isMet_40 : decode cX10_isMet 40 = .ok (.iadd, 1) := by decide +kernel
theorem dX10_isMet_41 : decode cX10_isMet 41 = .ok (.iaload, 1) := by decide +kernel
theorem dX10_isMet_42 : decode cX10_isMet 42 = .ok (.aload_n 0, 1) := by decide +kernel
theorem dX10_isMet_43 : decode cX10_isMet 43 = .ok (.getfield 40, 3) := by decide +kernel
theorem dX10_isMet_46 : decode cX10_isMet 46 = .ok (.iload 4, 2) := by decide +kernel
theorem dX10_isMet_48 : decode cX10_isMet 48 = .ok (.iaload, 1) := by decide +kernel
theorem dX10_isMet_49 : decode cX10_isMet 49 = .ok (.if_icmp .ne 7, 3) := by decide +kernel
theorem dX10_isMet_52 : decode cX10_isMet 52 = .ok (.iconst 1, 1) := by decide +kernel
theorem dX10_isMet_53 : decode cX10_isMet 53 = .ok (.goto 4, 3) := by decide +kernel
theorem dX10_isMet_56 : decode cX10_isMet 56 = .ok (.iconst 0, 1) := by decide +kernel
theorem dX10_isMet_57 : decode cX10_isMet 57 = .ok (.istore_n 3, 1) := by decide +kernel
theorem dX10_isMet_58 : decode cX10_isMet 58 = .ok (.iinc 4 1, 3) := by decide +kernel
theorem dX10_isMet_61 : decode cX10_isMet 61 = .ok (.goto (-44), 3) := by decide +kernel
theorem dX10_isMet_64 : decode cX10_isMet 64 = .ok (.iload_n 1, 1) := by decide +kernel
theorem dX10_isMet_65 : decode cX10_isMet 65 = .ok (.ifCond .ne 7, 3) := by decide +kernel
theorem dX10_isMet_68 : decode cX10_isMet 68 = .ok (.iload_n 3, 1) := by decide +kernel
theorem dX10_isMet_69 : decode cX10_isMet 69 = .ok (.ifCond .eq 7, 3) := by decide +kernel
theorem dX10_isMet_72 : decode cX10_isMet 72 = .ok (.iconst 1, 1) := by decide +kernel
theorem dX10_isMet_73 : decode cX10_isMet 73 = .ok (.goto 4, 3) := by decide +kernel
theorem dX10_isMet_76 : decode cX10_isMet 76 = .ok (.iconst 0, 1) := by decide +kernel
theorem dX10_isMet_77 : decode cX10_isMet 77 = .ok (.istore_n 1, 1) := by decide +kernel
theorem dX10_isMet_78 : decode cX10_isMet 78 = .ok (.iinc 2 1, 3) := by decide +kernel
theorem dX10_isMet_81 : decode cX10_isMet 81 = .ok (.goto (-77), 3) := by decide +kernel
theorem dX10_isMet_84 : decode cX10_isMet 84 = .ok (.iload_n 1, 1) := by decide +kernel
theorem dX10_isMet_85 : decode cX10_isMet 85 = .ok (.ireturn, 1) := by decide +kernel
theorem dX10_orders_0 : decode cX10_orders 0 = .ok (.iload_n 1, 1) := by decide +kernel
theorem dX10_orders_1 : decode cX10_orders 1 = .ok (.iconst 0, 1) := by decide +kernel
theorem dX10_orders_2 : decode cX10_orders 2 = .ok (.bipush 6, 2) := by decide +kernel
theorem dX10_orders_4 : decode cX10_orders 4 = .ok (.invokestatic 77, 3) := by decide +kernel
theorem dX10_orders_7 : decode cX10_orders 7 = .ok (.ifCond .ne 5, 3) := by decide +kernel
theorem dX10_orders_10 : decode cX10_orders 10 = .ok (.iconst (-1), 1) := by decide +kernel
theorem dX10_orders_11 : decode cX10_orders 11 = .ok (.ireturn, 1) := by decide +kernel
theorem dX10_orders_12 : decode cX10_orders 12 = .ok (.aload_n 0, 1) := by decide +kernel
theorem dX10_orders_13 : decode cX10_orders 13 = .ok (.iconst 0, 1) := by decide +kernel
theorem dX10_orders_14 : decode cX10_orders 14 = .ok (.putfield 189, 3) := by decide +kernel
theorem dX10_orders_17 : decode cX10_orders 17 = .ok (.iconst 0, 1) := by decide +kernel
theorem dX10_orders_18 : decode cX10_orders 18 = .ok (.istore_n 2, 1) := by decide +kernel
theorem dX10_orders_19 : decode cX10_orders 19 = .ok (.iload_n 2, 1) := by decide +kernel
theorem dX10_orders_20 : decode cX10_orders 20 = .ok (.iload_n 1, 1) := by decide +kernel
theorem dX10_orders_21 : decode cX10_orders 21 = .ok (.if_icmp .gt 94, 3) := by decide +kernel
theorem dX10_orders_24 : decode cX10_orders 24 = .ok (.iconst 0, 1) := by decide +kernel
theorem dX10_orders_25 : decode cX10_orders 25 = .ok (.istore_n 3, 1) := by decide +kernel
theorem dX10_orders_26 : decode cX10_orders 26 = .ok (.iload_n 3, 1) := by decide +kernel
theorem dX10_orders_27 : decode cX10_orders 27 = .ok (.iconst 1, 1) := by decide +kernel
theorem dX10_orders_28 : decode cX10_orders 28 = .ok (.iload_n 2, 1) := by decide +kernel
theorem dX10_orders_29 : decode cX10_orders 29 = .ok (.ishl, 1) := by decide +kernel
theorem dX10_orders_30 : decode cX10_orders 30 = .ok (.if_icmp .ge 79, 3) := by decide +kernel
theorem dX10_orders_33 : decode cX10_orders 33 = .ok (.aload_n 0, 1) := by decide +kernel
theorem dX10_orders_34 : decode cX10_orders 34 = .ok (.getfield 40, 3) := by decide +kernel
theorem dX10_orders_37 : decode cX10_orders 37 = .ok (.invokestatic 130, 3) := by decide +kernel
theorem dX10_orders_40 : decode cX10_orders 40 = .ok (.iconst 0, 1) := by decide +kernel
theorem dX10_orders_41 : decode cX10_orders 41 = .ok (.istore 4, 2) := by decide +kernel
theorem dX10_orders_43 : decode cX10_orders 43 = .ok (.iload 4, 2) := by decide +kernel
theorem dX10_orders_45 : decode cX10_orders 45 = .ok (.iload_n 2, 1) := by decide +kernel
theorem dX10_orders_46 : decode cX10_orders 46 = .ok (.if_icmp .ge 19, 3) := by decide +kernel
theorem dX10_orders_49 : decode cX10_orders 49 = .ok (.aload_n 0, 1) := by decide +kernel
theorem dX10_orders_50 : decode cX10_orders 50 = .ok (.iload_n 3, 1) := by decide +kernel
theorem dX10_orders_51 : decode cX10_orders 51 = .ok (.iload 4, 2) := by decide +kernel
theorem dX10_orders_53 : decode cX10_orders 53 = .ok (.ishr, 1) := by decide +kernel
theorem dX10_orders_54 : decode cX10_orders 54 = .ok (.iconst 1, 1) := by decide +kernel
theorem dX10_orders_55 : decode cX10_orders 55 = .ok (.iand, 1) := by decide +kernel
theorem dX10_orders_56 : decode cX10_orders 56 = .ok (.invokevirtual 157, 3) := by decide +kernel
theorem dX10_orders_59 : decode cX10_orders 59 = .ok (.iinc 4 1, 3) := by decide +kernel
theorem dX10_orders_62 : decode cX10_orders 62 = .ok (.goto (-19), 3) := by decide +kernel
theorem dX10_orders_65 : decode cX10_orders 65 = .ok (.aload_n 0, 1) := by decide +kernel
theorem dX10_orders_66 : decode cX10_orders 66 = .ok (.invokevirtual 192, 3) := by decide +kernel
theorem dX10_orders_69 : decode cX10_orders 69 = .ok (.ifCond .ne 34, 3) := by decide +kernel
theorem dX10_orders_72 : decode cX10_orders 72 = .ok (.aload_n 0, 1) := by decide +kernel
theorem dX10_orders_73 : decode cX10_orders 73 = .ok (.getfield 55, 3) := by decide +kernel
theorem dX10_orders_76 : decode cX10_orders 76 = .ok (.bipush 16, 2) := by decide +kernel
theorem dX10_orders_78 : decode cX10_orders 78 = .ok (.aload_n 0, 1) := by decide +kernel
theorem dX10_orders_79 : decode cX10_orders 79 = .ok (.getfield 189, 3) := by decide +kernel
theorem dX10_orders_82 : decode cX10_orders 82 = .ok (.imul, 1) := by decide +kernel
theorem dX10_orders_83 : decode cX10_orders 83 = .ok (.aload_n 0, 1) := by decide +kernel
theorem dX10_orders_84 : decode cX10_orders 84 = .ok (.getfield 40, 3) := by decide +kernel
theorem dX10_orders_87 : decode cX10_orders 87 = .ok (.iconst 0, 1) := by decide +kernel
theorem dX10_orders_88 : decode cX10_orders 88 = .ok (.bipush 16, 2) := by decide +kernel
theorem dX10_orders_90 : decode cX10_orders 90 = .ok (.invokestatic 123, 3) := by decide +kernel
theorem dX10_orders_93 : decode cX10_orders 93 = .ok (.aload_n 0, 1) := by decide +kernel
theorem dX10_orders_94 : decode cX10_orders 94 = .ok (.dup, 1) := by decide +kernel
theorem dX10_orders_95 : decode cX10_orders 95 = .ok (.getfield 189, 3) := by decide +kernel
theorem dX10_orders_98 : decode cX10_orders 98 = .ok (.iconst 1, 1) := by decide +kernel
theorem dX10_orders_99 : decode cX10_orders 99 = .ok (.iadd, 1) := by decide +kernel
theorem dX10_orders_100 : decode cX10_orders 100 = .ok (.putfield 189, 3) := by decide +kernel
theorem dX10_orders_103 : decode cX10_orders 103 = .ok (.iinc 3 1, 3) := by decide +kernel
theorem dX10_orders_106 : decode cX10_orders 106 = .ok (.goto (-80), 3) := by decide +kernel
theorem dX10_orders_109 : decode cX10_orders 109 = .ok (.iinc 2 1, 3) := by decide +kernel
theorem dX10_orders_112 : decode cX10_orders 112 = .ok (.goto (-93), 3) := by decide +kernel
theorem dX10_orders_115 : decode cX10_orders 115 = .ok (.aload_n 0, 1) := by decide +kernel
theorem dX10_orders_116 : decode cX10_orders 116 = .ok (.getfield 189, 3) := by decide +kernel
theorem dX10_orders_119 : decode cX10_orders 119 = .ok (.ireturn, 1) := by decide +kernel
theorem dX10_risingNow_0 : decode cX10_risingNow 0 = .ok (.iconst 1, 1) := by decide +kernel
theorem dX10_risingNow_1 : decode cX10_risingNow 1 = .ok (.istore_n 1, 1) := by decide +kernel
theorem dX10_risingNow_2 : decode cX10_risingNow 2 = .ok (.iconst 0, 1) := by decide +kernel
theorem dX10_risingNow_3 : decode cX10_risingNow 3 = .ok (.istore_n 2, 1) := by decide +kernel
theorem dX10_risingNow_4 : decode cX10_risingNow 4 = .ok (.iload_n 2, 1) := by decide +kernel
theorem dX10_risingNow_5 : decode cX10_risingNow 5 = .ok (.iconst 1, 1) := by decide +kernel
theorem dX10_risingNow_6 : decode cX10_risingNow 6 = .ok (.iadd, 1) := by decide +kernel
theorem dX10_risingNow_7 : decode cX10_risingNow 7 = .ok (.aload_n 0, 1) := by decide +kernel
theorem dX10_risingNow_8 : decode cX10_risingNow 8 = .ok (.getfield 74, 3) := by decide +kernel
theorem dX10_risingNow_11 : decode cX10_risingNow 11 = .ok (.if_icmp .ge 32, 3) := by decide +kernel
theorem dX10_risingNow_14 : decode cX10_risingNow 14 = .ok (.iload_n 1, 1) := by decide +kernel
theorem dX10_risingNow_15 : decode cX10_risingNow 15 = .ok (.aload_n 0, 1) := by decide +kernel
theorem dX10_risingNow_16 : decode cX10_risingNow 16 = .ok (.iload_n 2, 1) := by decide +kernel
theorem dX10_risingNow_17 : decode cX10_risingNow 17 = .ok (.iconst 1, 1) := by decide +kernel
theorem dX10_risingNow_18 : decode cX10_risingNow 18 = .ok (.iadd, 1) := by decide +kernel
theorem dX10_risingNow_19 : decode cX10_risingNow 19 = .ok (.invokevirtual 165, 3) := by decide +kernel
theorem dX10_risingNow_22 : decode cX10_risingNow 22 = .ok (.aload_n 0, 1) := by decide +kernel
theorem dX10_risingNow_23 : decode cX10_risingNow 23 = .ok (.iload_n 2, 1) := by decide +kernel
theorem dX10_risingNow_24 : decode cX10_risingNow 24 = .ok (.invokevirtual 165, 3) := by decide +kernel
theorem dX10_risingNow_27 : decode cX10_risingNow 27 = .ok (.if_icmp .ge 7, 3) := by decide +kernel
theorem dX10_risingNow_30 : decode cX10_risingNow 30 = .ok (.iconst 1, 1) := by decide +kernel
theorem dX10_risingNow_31 : decode cX10_risingNow 31 = .ok (.goto 4, 3) := by decide +kernel
theorem dX10_risingNow_34 : decode cX10_risingNow 34 = .ok (.iconst 0, 1) := by decide +kernel
theorem dX10_risingNow_35 : decode cX10_risingNow 35 = .ok (.iadd, 1) := by decide +kernel
theorem dX10_risingNow_36 : decode cX10_risingNow 36 = .ok (.istore_n 1, 1) := by decide +kernel
theorem dX10_risingNow_37 : decode cX10_risingNow 37 = .ok (.iinc 2 1, 3) := by decide +kernel
theorem dX10_risingNow_40 : decode cX10_risingNow 40 = .ok (.goto (-36), 3) := by decide +kernel
theorem dX10_risingNow_43 : decode cX10_risingNow 43 = .ok (.iload_n 1, 1) := by decide +kernel
theorem dX10_risingNow_44 : decode cX10_risingNow 44 = .ok (.ireturn, 1) := by decide +kernel
theorem dX10_rising_0 : decode cX10_rising 0 = .ok (.aload_n 0, 1) := by decide +kernel
theorem dX10_rising_1 : decode cX10_rising 1 = .ok (.invokevirtual 162, 3) := by decide +kernel
theorem dX10_rising_4 : decode cX10_rising 4 = .ok (.aload_n 0, 1) := by decide +kernel
theorem dX10_rising_5 : decode cX10_rising 5 = .ok (.invokevirtual 195, 3) := by decide +kernel
theorem dX10_rising_8 : decode cX10_rising 8 = .ok (.ireturn, 1) := by decide +kernel
theorem dX10_unlike_0 : decode cX10_unlike 0 = .ok (.iconst 0, 1) := by decide +kernel
theorem dX10_unlike_1 : decode cX10_unlike 1 = .ok (.istore_n 2, 1) := by decide +kernel
theorem dX10_unlike_2 : decode cX10_unlike 2 = .ok (.iconst 0, 1) := by decide +kernel
theorem dX10_unlike_3 : decode cX10_unlike 3 = .ok (.istore_n 3, 1) := by decide +kernel
theorem dX10_unlike_4 : decode cX10_unlike 4 = .ok (.iload_n 3, 1) := by decide +kernel
theorem dX10_unlike_5 : decode cX10_unlike 5 = .ok (.iconst 1, 1) := by decide +kernel
theorem dX10_unlike_6 : decode cX10_unlike 6 = .ok (.iadd, 1) := by decide +kernel
theorem dX10_unlike_7 : decode cX10_unlike 7 = .ok (.aload_n 0, 1) := by decide +kernel
theorem dX10_unlike_8 : decode cX10_unlike 8 = .ok (.getfield 74, 3) := by decide +kernel
theorem dX10_unlike_11 : decode cX10_unlike 11 = .ok (.if_icmp .ge 38, 3) := by decide +kernel
theorem dX10_unlike_14 : decode cX10_unlike 14 = .ok (.iload_n 2, 1) := by decide +kernel
theorem dX10_unlike_15 : decode cX10_unlike 15 = .ok (.aload_n 0, 1) := by decide +kernel
theorem dX10_unlike_16 : decode cX10_unlike 16 = .ok (.getfield 7, 3) := by decide +kernel
theorem dX10_unlike_19 : decode cX10_unlike 19 = .ok (.aload_n 1, 1) := by decide +kernel
theorem dX10_unlike_20 : decode cX10_unlike 20 = .ok (.iload_n 3, 1) := by decide +kernel
theorem dX10_unlike_21 : decode cX10_unlike 21 = .ok (.iaload, 1) := by decide +kernel
theorem dX10_unlike_22 : decode cX10_unlike 22 = .ok (.iaload, 1) := by decide +kernel
theorem dX10_unlike_23 : decode cX10_unlike 23 = .ok (.aload_n 0, 1) := by decide +kernel
theorem dX10_unlike_24 : decode cX10_unlike 24 = .ok (.getfield 7, 3) := by decide +kernel
theorem dX10_unlike_27 : decode cX10_unlike 27 = .ok (.aload_n 1, 1) := by decide +kernel
theorem dX10_unlike_28 : decode cX10_unlike 28 = .ok (.iload_n 3, 1) := by decide +kernel
theorem dX10_unlike_29 : decode cX10_unlike 29 = .ok (.iconst 1, 1) := by decide +kernel
theorem dX10_unlike_30 : decode cX10_unlike 30 = .ok (.iadd, 1) := by decide +kernel
theorem dX10_unlike_31 : decode cX10_unlike 31 = .ok (.iaload, 1) := by decide +kernel
theorem dX10_unlike_32 : decode cX10_unlike 32 = .ok (.iaload, 1) := by decide +kernel
theorem dX10_unlike_33 : decode cX10_unlike 33 = .ok (.if_icmp .eq 7, 3) := by decide +kernel
theorem dX10_unlike_36 : decode cX10_unlike 36 = .ok (.iconst 1, 1) := by decide +kernel
theorem dX10_unlike_37 : decode cX10_unlike 37 = .ok (.goto 4, 3) := by decide +kernel
theorem dX10_unlike_40 : decode cX10_unlike 40 = .ok (.iconst 0, 1) := by decide +kernel
theorem dX10_unlike_41 : decode cX10_unlike 41 = .ok (.iadd, 1) := by decide +kernel
theorem dX10_unlike_42 : decode cX10_unlike 42 = .ok (.istore_n 2, 1) := by decide +kernel
theorem dX10_unlike_43 : decode cX10_unlike 43 = .ok (.iinc 3 2, 3) := by decide +kernel
theorem dX10_unlike_46 : decode cX10_unlike 46 = .ok (.goto (-42), 3) := by decide +kernel
theorem dX10_unlike_49 : decode cX10_unlike 49 = .ok (.iload_n 2, 1) := by decide +kernel
theorem dX10_unlike_50 : decode cX10_unlike 50 = .ok (.ireturn, 1) := by decide +kernel
theorem dX10_pairs_0 : decode cX10_pairs 0 = .ok (.aload_n 0, 1) := by decide +kernel
theorem dX10_pairs_1 : decode cX10_pairs 1 = .ok (.aload_n 0, 1) := by decide +kernel
theorem dX10_pairs_2 : decode cX10_pairs 2 = .ok (.getfield 16, 3) := by decide +kernel
theorem dX10_pairs_5 : decode cX10_pairs 5 = .ok (.invokevirtual 198, 3) := by decide +kernel
theorem dX10_pairs_8 : decode cX10_pairs 8 = .ok (.ireturn, 1) := by decide +kernel
theorem dX10_lowest_0 : decode cX10_lowest 0 = .ok (.iload_n 0, 1) := by decide +kernel
theorem dX10_lowest_1 : decode cX10_lowest 1 = .ok (.istore_n 3, 1) := by decide +kernel
theorem dX10_lowest_2 : decode cX10_lowest 2 = .ok (.iload_n 1, 1) := by decide +kernel
theorem dX10_lowest_3 : decode cX10_lowest 3 = .ok (.istore 4, 2) := by decide +kernel
theorem dX10_lowest_5 : decode cX10_lowest 5 = .ok (.iload 4, 2) := by decide +kernel
theorem dX10_lowest_7 : decode cX10_lowest 7 = .ok (.ifCond .le 19, 3) := by decide +kernel
theorem dX10_lowest_10 : decode cX10_lowest 10 = .ok (.iload_n 3, 1) := by decide +kernel
theorem dX10_lowest_11 : decode cX10_lowest 11 = .ok (.iload 4, 2) := by decide +kernel
theorem dX10_lowest_13 : decode cX10_lowest 13 = .ok (.irem, 1) := by decide +kernel
theorem dX10_lowest_14 : decode cX10_lowest 14 = .ok (.istore 5, 2) := by decide +kernel
theorem dX10_lowest_16 : decode cX10_lowest 16 = .ok (.iload 4, 2) := by decide +kernel
theorem dX10_lowest_18 : decode cX10_lowest 18 = .ok (.istore_n 3, 1) := by decide +kernel
theorem dX10_lowest_19 : decode cX10_lowest 19 = .ok (.iload 5, 2) := by decide +kernel
theorem dX10_lowest_21 : decode cX10_lowest 21 = .ok (.istore 4, 2) := by decide +kernel
theorem dX10_lowest_23 : decode cX10_lowest 23 = .ok (.goto (-18), 3) := by decide +kernel
theorem dX10_lowest_26 : decode cX10_lowest 26 = .ok (.iload_n 2, 1) := by decide +kernel
theorem dX10_lowest_27 : decode cX10_lowest 27 = .ok (.ifCond .ne 7, 3) := by decide +kernel
theorem dX10_lowest_30 : decode cX10_lowest 30 = .ok (.iload_n 0, 1) := by decide +kernel
theorem dX10_lowest_31 : decode cX10_lowest 31 = .ok (.goto 4, 3) := by decide +kernel
theorem dX10_lowest_34 : decode cX10_lowest 34 = .ok (.iload_n 1, 1) := by decide +kernel
theorem dX10_lowest_35 : decode cX10_lowest 35 = .ok (.iload_n 3, 1) := by decide +kernel
theorem dX10_lowest_36 : decode cX10_lowest 36 = .ok (.idiv, 1) := by decide +kernel
theorem dX10_lowest_37 : decode cX10_lowest 37 = .ok (.ireturn, 1) := by decide +kernel
theorem dX10_bits_0 : decode cX10_bits 0 = .ok (.iconst 0, 1) := by decide +kernel
theorem dX10_bits_1 : decode cX10_bits 1 = .ok (.istore_n 1, 1) := by decide +kernel
theorem dX10_bits_2 : decode cX10_bits 2 = .ok (.iconst 0, 1) := by decide +kernel
theorem dX10_bits_3 : decode cX10_bits 3 = .ok (.istore_n 2, 1) := by decide +kernel
theorem dX10_bits_4 : decode cX10_bits 4 = .ok (.iload_n 2, 1) := by decide +kernel
theorem dX10_bits_5 : decode cX10_bits 5 = .ok (.bipush 16, 2) := by decide +kernel
theorem dX10_bits_7 : decode cX10_bits 7 = .ok (.if_icmp .ge 17, 3) := by decide +kernel
theorem dX10_bits_10 : decode cX10_bits 10 = .ok (.iload_n 1, 1) := by decide +kernel
theorem dX10_bits_11 : decode cX10_bits 11 = .ok (.iload_n 0, 1) := by decide +kernel
theorem dX10_bits_12 : decode cX10_bits 12 = .ok (.iload_n 2, 1) := by decide +kernel
theorem dX10_bits_13 : decode cX10_bits 13 = .ok (.ishr, 1) := by decide +kernel
theorem dX10_bits_14 : decode cX10_bits 14 = .ok (.iconst 1, 1) := by decide +kernel
theorem dX10_bits_15 : decode cX10_bits 15 = .ok (.iand, 1) := by decide +kernel
theorem dX10_bits_16 : decode cX10_bits 16 = .ok (.iadd, 1) := by decide +kernel
theorem dX10_bits_17 : decode cX10_bits 17 = .ok (.istore_n 1, 1) := by decide +kernel
theorem dX10_bits_18 : decode cX10_bits 18 = .ok (.iinc 2 1, 3) := by decide +kernel
theorem dX10_bits_21 : decode cX10_bits 21 = .ok (.goto (-17), 3) := by decide +kernel
theorem dX10_bits_24 : decode cX10_bits 24 = .ok (.iload_n 1, 1) := by decide +kernel
theorem dX10_bits_25 : decode cX10_bits 25 = .ok (.ireturn, 1) := by decide +kernel
theorem dX10_sure_0 : decode cX10_sure 0 = .ok (.iload_n 1, 1) := by decide +kernel
theorem dX10_sure_1 : decode cX10_sure 1 = .ok (.iconst 0, 1) := by decide +kernel
theorem dX10_sure_2 : decode cX10_sure 2 = .ok (.aload_n 0, 1) := by decide +kernel
theorem dX10_sure_3 : decode cX10_sure 3 = .ok (.getfield 74, 3) := by decide +kernel
theorem dX10_sure_6 : decode cX10_sure 6 = .ok (.invokestatic 77, 3) := by decide +kernel
theorem dX10_sure_9 : decode cX10_sure 9 = .ok (.ifCond .eq 12, 3) := by decide +kernel
theorem dX10_sure_12 : decode cX10_sure 12 = .ok (.iload_n 2, 1) := by decide +kernel
theorem dX10_sure_13 : decode cX10_sure 13 = .ok (.iconst 0, 1) := by decide +kernel
theorem dX10_sure_14 : decode cX10_sure 14 = .ok (.iconst 1, 1) := by decide +kernel
theorem dX10_sure_15 : decode cX10_sure 15 = .ok (.invokestatic 77, 3) := by decide +kernel
theorem dX10_sure_18 : decode cX10_sure 18 = .ok (.ifCond .ne 5, 3) := by decide +kernel
theorem dX10_sure_21 : decode cX10_sure 21 = .ok (.iconst (-1), 1) := by decide +kernel
theorem dX10_sure_22 : decode cX10_sure 22 = .ok (.ireturn, 1) := by decide +kernel
theorem dX10_sure_23 : decode cX10_sure 23 = .ok (.iconst 0, 1) := by decide +kernel
theorem dX10_sure_24 : decode cX10_sure 24 = .ok (.istore_n 3, 1) := by decide +kernel
theorem dX10_sure_25 : decode cX10_sure 25 = .ok (.iconst 0, 1) := by decide +kernel
theorem dX10_sure_26 : decode cX10_sure 26 = .ok (.istore 4, 2) := by decide +kernel
theorem dX10_sure_28 : decode cX10_sure 28 = .ok (.iconst 0, 1) := by decide +kernel
theorem dX10_sure_29 : decode cX10_sure 29 = .ok (.istore 5, 2) := by decide +kernel
theorem dX10_sure_31 : decode cX10_sure 31 = .ok (.iload 5, 2) := by decide +kernel
theorem dX10_sure_33 : decode cX10_sure 33 = .ok (.iconst 1, 1) := by decide +kernel
theorem dX10_sure_34 : decode cX10_sure 34 = .ok (.aload_n 0, 1) := by decide +kernel
theorem dX10_sure_35 : decode cX10_sure 35 = .ok (.getfield 74, 3) := by decide +kernel
theorem dX10_sure_38 : decode cX10_sure 38 = .ok (.ishl, 1) := by decide +kernel
theorem dX10_sure_39 : decode cX10_sure 39 = .ok (.if_icmp .ge 144, 3) := by decide +kernel
theorem dX10_sure_42 : decode cX10_sure 42 = .ok (.iload 5, 2) := by decide +kernel
theorem dX10_sure_44 : decode cX10_sure 44 = .ok (.invokestatic 202, 3) := by decide +kernel
theorem dX10_sure_47 : decode cX10_sure 47 = .ok (.iload_n 1, 1) := by decide +kernel
theorem dX10_sure_48 : decode cX10_sure 48 = .ok (.if_icmp .ne 129, 3) := by decide +kernel
theorem dX10_sure_51 : decode cX10_sure 51 = .ok (.iload_n 1, 1) := by decide +kernel
theorem dX10_sure_52 : decode cX10_sure 52 = .ok (.iconst 1, 1) := by decide +kernel
theorem dX10_sure_53 : decode cX10_sure 53 = .ok (.isub, 1) := by decide +kernel
theorem dX10_sure_54 : decode cX10_sure 54 = .ok (.istore 6, 2) := by decide +kernel
theorem dX10_sure_56 : decode cX10_sure 56 = .ok (.iload_n 1, 1) := by decide +kernel
theorem dX10_sure_57 : decode cX10_sure 57 = .ok (.istore 7, 2) := by decide +kernel
theorem dX10_sure_59 : decode cX10_sure 59 = .ok (.iconst 0, 1) := by decide +kernel
theorem dX10_sure_60 : decode cX10_sure 60 = .ok (.istore 8, 2) := by decide +kernel
theorem dX10_sure_62 : decode cX10_sure 62 = .ok (.iload 8, 2) := by decide +kernel
theorem dX10_sure_64 : decode cX10_sure 64 = .ok (.aload_n 0, 1) := by decide +kernel
theorem dX10_sure_65 : decode cX10_sure 65 = .ok (.getfield 74, 3) := by decide +kernel
theorem dX10_sure_68 : decode cX10_sure 68 = .ok (.if_icmp .ge 81, 3) := by decide +kernel
theorem dX10_sure_71 : decode cX10_sure 71 = .ok (.iload 5, 2) := by decide +kernel
theorem dX10_sure_73 : decode cX10_sure 73 = .ok (.iload 8, 2) := by decide +kernel
theorem dX10_sure_75 : decode cX10_sure 75 = .ok (.ishr, 1) := by decide +kernel
theorem dX10_sure_76 : decode cX10_sure 76 = .ok (.iconst 1, 1) := by decide +kernel
theorem dX10_sure_77 : decode cX10_sure 77 = .ok (.iand, 1) := by decide +kernel
theorem dX10_sure_78 : decode cX10_sure 78 = .ok (.iconst 1, 1) := by decide +kernel
theorem dX10_sure_79 : decode cX10_sure 79 = .ok (.if_icmp .ne 7, 3) := by decide +kernel
theorem dX10_sure_82 : decode cX10_sure 82 = .ok (.iconst 1, 1) := by decide +kernel
theorem dX10_sure_83 : decode cX10_sure 83 = .ok (.goto 4, 3) := by decide +kernel
theorem dX10_sure_86 : decode cX10_sure 86 = .ok (.iconst 0, 1) := by decide +kernel
theorem dX10_sure_87 : decode cX10_sure 87 = .ok (.istore 9, 2) := by decide +kernel
theorem dX10_sure_89 : decode cX10_sure 89 = .ok (.aload_n 0, 1) := by decide +kernel
theorem dX10_sure_90 : decode cX10_sure 90 = .ok (.getfield 43, 3) := by decide +kernel
theorem dX10_sure_93 : decode cX10_sure 93 = .ok (.iload 8, 2) := by decide +kernel
theorem dX10_sure_95 : decode cX10_sure 95 = .ok (.aload_n 0, 1) := by decide +kernel
theorem dX10_sure_96 : decode cX10_sure 96 = .ok (.getfield 16, 3) := by decide +kernel
theorem dX10_sure_99 : decode cX10_sure 99 = .ok (.iload 9, 2) := by decide +kernel
theorem dX10_sure_101 : decode cX10_sure 101 = .ok (.ifCond .eq 8, 3) := by decide +kernel
theorem dX10_sure_104 : decode cX10_sure 104 = .ok (.iload 6, 2) := by decide +kernel
theorem dX10_sure_106 : decode cX10_sure 106 = .ok (.goto 5, 3) := by decide +kernel
theorem dX10_sure_109 : decode cX10_sure 109 = .ok (.iload 7, 2) := by decide +kernel
theorem dX10_sure_111 : decode cX10_sure 111 = .ok (.iaload, 1) := by decide +kernel
theorem dX10_sure_112 : decode cX10_sure 112 = .ok (.iastore, 1) := by decide +kernel
theorem dX10_sure_113 : decode cX10_sure 113 = .ok (.iload 6, 2) := by decide +kernel
theorem dX10_sure_115 : decode cX10_sure 115 = .ok (.iload 9, 2) := by decide +kernel
theorem dX10_sure_117 : decode cX10_sure 117 = .ok (.ifCond .eq 7, 3) := by decide +kernel
theorem dX10_sure_120 : decode cX10_sure 120 = .ok (.iconst 1, 1) := by decide +kernel
theorem dX10_sure_121 : decode cX10_sure 121 = .ok (.goto 4, 3) := by decide +kernel
theorem dX10_sure_124 : decode cX10_sure 124 = .ok (.iconst 0, 1) := by decide +kernel
theorem dX10_sure_125 : decode cX10_sure 125 = .ok (.isub, 1) := by decide +kernel
theorem dX10_sure_126 : decode cX10_sure 126 = .ok (.istore 6, 2) := by decide +kernel
theorem dX10_sure_128 : decode cX10_sure 128 = .ok (.iload 7, 2) := by decide +kernel
theorem dX10_sure_130 : decode cX10_sure 130 = .ok (.iload 9, 2) := by decide +kernel
theorem dX10_sure_132 : decode cX10_sure 132 = .ok (.ifCond .eq 7, 3) := by decide +kernel
theorem dX10_sure_135 : decode cX10_sure 135 = .ok (.iconst 0, 1) := by decide +kernel
theorem dX10_sure_136 : decode cX10_sure 136 = .ok (.goto 4, 3) := by decide +kernel
theorem dX10_sure_139 : decode cX10_sure 139 = .ok (.iconst 1, 1) := by decide +kernel
theorem dX10_sure_140 : decode cX10_sure 140 = .ok (.iadd, 1) := by decide +kernel
theorem dX10_sure_141 : decode cX10_sure 141 = .ok (.istore 7, 2) := by decide +kernel
theorem dX10_sure_143 : decode cX10_sure 143 = .ok (.iinc 8 1, 3) := by decide +kernel
theorem dX10_sure_146 : decode cX10_sure 146 = .ok (.goto (-84), 3) := by decide +kernel
theorem dX10_sure_149 : decode cX10_sure 149 = .ok (.iinc 4 1, 3) := by decide +kernel
theorem dX10_sure_152 : decode cX10_sure 152 = .ok (.iload_n 3, 1) := by decide +kernel
theorem dX10_sure_153 : decode cX10_sure 153 = .ok (.aload_n 0, 1) := by decide +kernel
theorem dX10_sure_154 : decode cX10_sure 154 = .ok (.aload_n 0, 1) := by decide +kernel
theorem dX10_sure_155 : decode cX10_sure 155 = .ok (.getfield 43, 3) := by decide +kernel
theorem dX10_sure_158 : decode cX10_sure 158 = .ok (.invokevirtual 198, 3) := by decide +kernel
theorem dX10_sure_161 : decode cX10_sure 161 = .ok (.aload_n 0, 1) := by decide +kernel
theorem dX10_sure_162 : decode cX10_sure 162 = .ok (.getfield 74, 3) := by decide +kernel
theorem dX10_sure_165 : decode cX10_sure 165 = .ok (.iconst 2, 1) := by decide +kernel
theorem dX10_sure_166 : decode cX10_sure 166 = .ok (.idiv, 1) := by decide +kernel
theorem dX10_sure_167 : decode cX10_sure 167 = .ok (.if_icmp .ne 7, 3) := by decide +kernel
theorem dX10_sure_170 : decode cX10_sure 170 = .ok (.iconst 1, 1) := by decide +kernel
theorem dX10_sure_171 : decode cX10_sure 171 = .ok (.goto 4, 3) := by decide +kernel
theorem dX10_sure_174 : decode cX10_sure 174 = .ok (.iconst 0, 1) := by decide +kernel
theorem dX10_sure_175 : decode cX10_sure 175 = .ok (.iadd, 1) := by decide +kernel
theorem dX10_sure_176 : decode cX10_sure 176 = .ok (.istore_n 3, 1) := by decide +kernel
theorem dX10_sure_177 : decode cX10_sure 177 = .ok (.iinc 5 1, 3) := by decide +kernel
theorem dX10_sure_180 : decode cX10_sure 180 = .ok (.goto (-149), 3) := by decide +kernel
theorem dX10_sure_183 : decode cX10_sure 183 = .ok (.iload_n 3, 1) := by decide +kernel
theorem dX10_sure_184 : decode cX10_sure 184 = .ok (.iload 4, 2) := by decide +kernel
theorem dX10_sure_186 : decode cX10_sure 186 = .ok (.iload_n 2, 1) := by decide +kernel
theorem dX10_sure_187 : decode cX10_sure 187 = .ok (.invokestatic 205, 3) := by decide +kernel
theorem dX10_sure_190 : decode cX10_sure 190 = .ok (.ireturn, 1) := by decide +kernel
theorem dX10_seen_0 : decode cX10_seen 0 = .ok (.aload_n 0, 1) := by decide +kernel
theorem dX10_seen_1 : decode cX10_seen 1 = .ok (.iload_n 1, 1) := by decide +kernel
theorem dX10_seen_2 : decode cX10_seen 2 = .ok (.invokevirtual 159, 3) := by decide +kernel
theorem dX10_seen_5 : decode cX10_seen 5 = .ok (.ifCond .eq 11, 3) := by decide +kernel
theorem dX10_seen_8 : decode cX10_seen 8 = .ok (.aload_n 0, 1) := by decide +kernel
theorem dX10_seen_9 : decode cX10_seen 9 = .ok (.iload_n 2, 1) := by decide +kernel
theorem dX10_seen_10 : decode cX10_seen 10 = .ok (.invokevirtual 159, 3) := by decide +kernel
theorem dX10_seen_13 : decode cX10_seen 13 = .ok (.ifCond .ne 5, 3) := by decide +kernel
theorem dX10_seen_16 : decode cX10_seen 16 = .ok (.iconst (-1), 1) := by decide +kernel
theorem dX10_seen_17 : decode cX10_seen 17 = .ok (.ireturn, 1) := by decide +kernel
theorem dX10_seen_18 : decode cX10_seen 18 = .ok (.aload_n 0, 1) := by decide +kernel
theorem dX10_seen_19 : decode cX10_seen 19 = .ok (.getfield 140, 3) := by decide +kernel
theorem dX10_seen_22 : decode cX10_seen 22 = .ok (.bipush 8, 2) := by decide +kernel
theorem dX10_seen_24 : decode cX10_seen 24 = .ok (.if_icmp .ne 6, 3) := by decide +kernel
theorem dX10_seen_27 : decode cX10_seen 27 = .ok (.bipush (-3), 2) := by decide +kernel
theorem dX10_seen_29 : decode cX10_seen 29 = .ok (.ireturn, 1) := by decide +kernel
theorem dX10_seen_30 : decode cX10_seen 30 = .ok (.aload_n 0, 1) := by decide +kernel
theorem dX10_seen_31 : decode cX10_seen 31 = .ok (.getfield 25, 3) := by decide +kernel
theorem dX10_seen_34 : decode cX10_seen 34 = .ok (.iconst 2, 1) := by decide +kernel
theorem dX10_seen_35 : decode cX10_seen 35 = .ok (.aload_n 0, 1) := by decide +kernel
theorem dX10_seen_36 : decode cX10_seen 36 = .ok (.getfield 140, 3) := by decide +kernel
theorem dX10_seen_39 : decode cX10_seen 39 = .ok (.imul, 1) := by decide +kernel
theorem dX10_seen_40 : decode cX10_seen 40 = .ok (.iload_n 1, 1) := by decide +kernel
theorem dX10_seen_41 : decode cX10_seen 41 = .ok (.iastore, 1) := by decide +kernel
theorem dX10_seen_42 : decode cX10_seen 42 = .ok (.aload_n 0, 1) := by decide +kernel
theorem dX10_seen_43 : decode cX10_seen 43 = .ok (.getfield 25, 3) := by decide +kernel
theorem dX10_seen_46 : decode cX10_seen 46 = .ok (.iconst 2, 1) := by decide +kernel
theorem dX10_seen_47 : decode cX10_seen 47 = .ok (.aload_n 0, 1) := by decide +kernel
theorem dX10_seen_48 : decode cX10_seen 48 = .ok (.getfield 140, 3) := by decide +kernel
theorem dX10_seen_51 : decode cX10_seen 51 = .ok (.imul, 1) := by decide +kernel
theorem dX10_seen_52 : decode cX10_seen 52 = .ok (.iconst 1, 1) := by decide +kernel
theorem dX10_seen_53 : decode cX10_seen 53 = .ok (.iadd, 1) := by decide +kernel
theorem dX10_seen_54 : decode cX10_seen 54 = .ok (.iload_n 2, 1) := by decide +kernel
theorem dX10_seen_55 : decode cX10_seen 55 = .ok (.iastore, 1) := by decide +kernel
theorem dX10_seen_56 : decode cX10_seen 56 = .ok (.aload_n 0, 1) := by decide +kernel
theorem dX10_seen_57 : decode cX10_seen 57 = .ok (.dup, 1) := by decide +kernel
theorem dX10_seen_58 : decode cX10_seen 58 = .ok (.getfield 140, 3) := by decide +kernel
theorem dX10_seen_61 : decode cX10_seen 61 = .ok (.iconst 1, 1) := by decide +kernel
theorem dX10_seen_62 : decode cX10_seen 62 = .ok (.iadd, 1) := by decide +kernel
theorem dX10_seen_63 : decode cX10_seen 63 = .ok (.putfield 140, 3) := by decide +kernel
theorem dX10_seen_66 : decode cX10_seen 66 = .ok (.aload_n 0, 1) := by decide +kernel
theorem dX10_seen_67 : decode cX10_seen 67 = .ok (.getfield 140, 3) := by decide +kernel
theorem dX10_seen_70 : decode cX10_seen 70 = .ok (.ireturn, 1) := by decide +kernel
theorem dX10_forget_0 : decode cX10_forget 0 = .ok (.aload_n 0, 1) := by decide +kernel
theorem dX10_forget_1 : decode cX10_forget 1 = .ok (.getfield 140, 3) := by decide +kernel
theorem dX10_forget_4 : decode cX10_forget 4 = .ok (.istore_n 1, 1) := by decide +kernel
theorem dX10_forget_5 : decode cX10_forget 5 = .ok (.aload_n 0, 1) := by decide +kernel
theorem dX10_forget_6 : decode cX10_forget 6 = .ok (.iconst 0, 1) := by decide +kernel
theorem dX10_forget_7 : decode cX10_forget 7 = .ok (.putfield 140, 3) := by decide +kernel
theorem dX10_forget_10 : decode cX10_forget 10 = .ok (.iload_n 1, 1) := by decide +kernel
theorem dX10_forget_11 : decode cX10_forget 11 = .ok (.ireturn, 1) := by decide +kernel
theorem dX10_isBy_0 : decode cX10_isBy 0 = .ok (.aload_n 0, 1) := by decide +kernel
theorem dX10_isBy_1 : decode cX10_isBy 1 = .ok (.getfield 40, 3) := by decide +kernel
theorem dX10_isBy_4 : decode cX10_isBy 4 = .ok (.invokestatic 130, 3) := by decide +kernel
theorem dX10_isBy_7 : decode cX10_isBy 7 = .ok (.aload_n 0, 1) := by decide +kernel
theorem dX10_isBy_8 : decode cX10_isBy 8 = .ok (.iload_n 1, 1) := by decide +kernel
theorem dX10_isBy_9 : decode cX10_isBy 9 = .ok (.invokevirtual 157, 3) := by decide +kernel
theorem dX10_isBy_12 : decode cX10_isBy 12 = .ok (.iconst 1, 1) := by decide +kernel
theorem dX10_isBy_13 : decode cX10_isBy 13 = .ok (.istore_n 2, 1) := by decide +kernel
theorem dX10_isBy_14 : decode cX10_isBy 14 = .ok (.iconst 0, 1) := by decide +kernel
theorem dX10_isBy_15 : decode cX10_isBy 15 = .ok (.istore_n 3, 1) := by decide +kernel
theorem dX10_isBy_16 : decode cX10_isBy 16 = .ok (.iload_n 3, 1) := by decide +kernel
theorem dX10_isBy_17 : decode cX10_isBy 17 = .ok (.aload_n 0, 1) := by decide +kernel
theorem dX10_isBy_18 : decode cX10_isBy 18 = .ok (.getfield 140, 3) := by decide +kernel
theorem dX10_isBy_21 : decode cX10_isBy 21 = .ok (.if_icmp .ge 45, 3) := by decide +kernel
theorem dX10_isBy_24 : decode cX10_isBy 24 = .ok (.iload_n 2, 1) := by decide +kernel
theorem dX10_isBy_25 : decode cX10_isBy 25 = .ok (.ifCond .eq 33, 3) := by decide +kernel
theorem dX10_isBy_28 : decode cX10_isBy 28 = .ok (.aload_n 0, 1) := by decide +kernel
theorem dX10_isBy_29 : decode cX10_isBy 29 = .ok (.getfield 40, 3) := by decide +kernel
theorem dX10_isBy_32 : decode cX10_isBy 32 = .ok (.aload_n 0, 1) := by decide +kernel
theorem dX10_isBy_33 : decode cX10_isBy 33 = .ok (.getfield 25, 3) := by decide +kernel
theorem dX10_isBy_36 : decode cX10_isBy 36 = .ok (.iconst 2, 1) := by decide +kernel
theorem dX10_isBy_37 : decode cX10_isBy 37 = .ok (.iload_n 3, 1) := by decide +kernel
theorem dX10_isBy_38 : decode cX10_isBy 38 = .ok (.imul, 1) := by decide +kernel
theorem dX10_isBy_39 : decode cX10_isBy 39 = .ok (.iconst 1, 1) := by decide +kernel
theorem dX10_isBy_40 : decode cX10_isBy 40 = .ok (.iadd, 1) := by decide +kernel
theorem dX10_isBy_41 : decode cX10_isBy 41 = .ok (.iaload, 1) := by decide +kernel
theorem dX10_isBy_42 : decode cX10_isBy 42 = .ok (.iaload, 1) := by decide +kernel
theorem dX10_isBy_43 : decode cX10_isBy 43 = .ok (.aload_n 0, 1) := by decide +kernel
theorem dX10_isBy_44 : decode cX10_isBy 44 = .ok (.getfield 25, 3) := by decide +kernel
theorem dX10_isBy_47 : decode cX10_isBy 47 = .ok (.iconst 2, 1) := by decide +kernel
theorem dX10_isBy_48 : decode cX10_isBy 48 = .ok (.iload_n 3, 1) := by decide +kernel
theorem dX10_isBy_49 : decode cX10_isBy 49 = .ok (.imul, 1) := by decide +kernel
theorem dX10_isBy_50 : decode cX10_isBy 50 = .ok (.iaload, 1) := by decide +kernel
theorem dX10_isBy_51 : decode cX10_isBy 51 = .ok (.if_icmp .ne 7, 3) := by decide +kernel
theorem dX10_isBy_54 : decode cX10_isBy 54 = .ok (.iconst 1, 1) := by decide +kernel
theorem dX10_isBy_55 : decode cX10_isBy 55 = .ok (.goto 4, 3) := by decide +kernel
theorem dX10_isBy_58 : decode cX10_isBy 58 = .ok (.iconst 0, 1) := by decide +kernel
theorem dX10_isBy_59 : decode cX10_isBy 59 = .ok (.istore_n 2, 1) := by decide +kernel
theorem dX10_isBy_60 : decode cX10_isBy 60 = .ok (.iinc 3 1, 3) := by decide +kernel
theorem dX10_isBy_63 : decode cX10_isBy 63 = .ok (.goto (-47), 3) := by decide +kernel
theorem dX10_isBy_66 : decode cX10_isBy 66 = .ok (.iload_n 2, 1) := by decide +kernel
theorem dX10_isBy_67 : decode cX10_isBy 67 = .ok (.ireturn, 1) := by decide +kernel
theorem dX10_done_0 : decode cX10_done 0 = .ok (.iload_n 1, 1) := by decide +kernel
theorem dX10_done_1 : decode cX10_done 1 = .ok (.iconst 0, 1) := by decide +kernel
theorem dX10_done_2 : decode cX10_done 2 = .ok (.iconst 1, 1) := by decide +kernel
theorem dX10_done_3 : decode cX10_done 3 = .ok (.invokestatic 77, 3) := by decide +kernel
theorem dX10_done_6 : decode cX10_done 6 = .ok (.ifCond .ne 5, 3) := by decide +kernel
theorem dX10_done_9 : decode cX10_done 9 = .ok (.iconst (-1), 1) := by decide +kernel
theorem dX10_done_10 : decode cX10_done 10 = .ok (.ireturn, 1) := by decide +kernel
theorem dX10_done_11 : decode cX10_done 11 = .ok (.iconst 0, 1) := by decide +kernel
theorem dX10_done_12 : decode cX10_done 12 = .ok (.istore_n 2, 1) := by decide +kernel
theorem dX10_done_13 : decode cX10_done 13 = .ok (.iconst 0, 1) := by decide +kernel
theorem dX10_done_14 : decode cX10_done 14 = .ok (.istore_n 3, 1) := by decide +kernel
theorem dX10_done_15 : decode cX10_done 15 = .ok (.iload_n 3, 1) := by decide +kernel
theorem dX10_done_16 : decode cX10_done 16 = .ok (.iload_n 1, 1) := by decide +kernel
theorem dX10_done_17 : decode cX10_done 17 = .ok (.ifCond .ne 8, 3) := by decide +kernel
theorem dX10_done_20 : decode cX10_done 20 = .ok (.bipush 6, 2) := by decide +kernel
theorem dX10_done_22 : decode cX10_done 22 = .ok (.goto 7, 3) := by decide +kernel
theorem dX10_done_25 : decode cX10_done 25 = .ok (.aload_n 0, 1) := by decide +kernel
theorem dX10_done_26 : decode cX10_done 26 = .ok (.getfield 74, 3) := by decide +kernel
theorem dX10_done_29 : decode cX10_done 29 = .ok (.if_icmp .ge 38, 3) := by decide +kernel
theorem dX10_done_32 : decode cX10_done 32 = .ok (.iload_n 2, 1) := by decide +kernel
theorem dX10_done_33 : decode cX10_done 33 = .ok (.aload_n 0, 1) := by decide +kernel
theorem dX10_done_34 : decode cX10_done 34 = .ok (.iload_n 1, 1) := by decide +kernel
theorem dX10_done_35 : decode cX10_done 35 = .ok (.ifCond .ne 7, 3) := by decide +kernel
theorem dX10_done_38 : decode cX10_done 38 = .ok (.iload_n 3, 1) := by decide +kernel
theorem dX10_done_39 : decode cX10_done 39 = .ok (.goto 7, 3) := by decide +kernel
theorem dX10_done_42 : decode cX10_done 42 = .ok (.bipush 6, 2) := by decide +kernel
theorem dX10_done_44 : decode cX10_done 44 = .ok (.iload_n 3, 1) := by decide +kernel
theorem dX10_done_45 : decode cX10_done 45 = .ok (.iadd, 1) := by decide +kernel
theorem dX10_done_46 : decode cX10_done 46 = .ok (.invokevirtual 209, 3) := by decide +kernel
theorem dX10_done_49 : decode cX10_done 49 = .ok (.ifCond .eq 9, 3) := by decide +kernel
theorem dX10_done_52 : decode cX10_done 52 = .ok (.iconst 1, 1) := by decide +kernel
theorem dX10_done_53 : decode cX10_done 53 = .ok (.iload_n 3, 1) := by decide +kernel
theorem dX10_done_54 : decode cX10_done 54 = .ok (.ishl, 1) := by decide +kernel
theorem dX10_done_55 : decode cX10_done 55 = .ok (.goto 4, 3) := by decide +kernel
theorem dX10_done_58 : decode cX10_done 58 = .ok (.iconst 0, 1) := by decide +kernel
theorem dX10_done_59 : decode cX10_done 59 = .ok (.ior, 1) := by decide +kernel
theorem dX10_done_60 : decode cX10_done 60 = .ok (.istore_n 2, 1) := by decide +kernel
theorem dX10_done_61 : decode cX10_done 61 = .ok (.iinc 3 1, 3) := by decide +kernel
theorem dX10_done_64 : decode cX10_done 64 = .ok (.goto (-49), 3) := by decide +kernel
theorem dX10_done_67 : decode cX10_done 67 = .ok (.iload_n 2, 1) := by decide +kernel
theorem dX10_done_68 : decode cX10_done 68 = .ok (.ireturn, 1) := by decide +kernel
theorem dX10_likely_0 : decode cX10_likely 0 = .ok (.aload_n 0, 1) := by decide +kernel
theorem dX10_likely_1 : decode cX10_likely 1 = .ok (.iload_n 1, 1) := by decide +kernel
theorem dX10_likely_2 : decode cX10_likely 2 = .ok (.invokevirtual 159, 3) := by decide +kernel
theorem dX10_likely_5 : decode cX10_likely 5 = .ok (.ifCond .eq 41, 3) := by decide +kernel
theorem dX10_likely_8 : decode cX10_likely 8 = .ok (.aload_n 0, 1) := by decide +kernel
theorem dX10_likely_9 : decode cX10_likely 9 = .ok (.iload_n 2, 1) := by decide +kernel
theorem dX10_likely_10 : decode cX10_likely 10 = .ok (.invokevirtual 159, 3) := by decide +kernel
theorem dX10_likely_13 : decode cX10_likely 13 = .ok (.ifCond .eq 33, 3) := by decide +kernel
theorem dX10_likely_16 : decode cX10_likely 16 = .ok (.iload_n 3, 1) := by decide +kernel
theorem dX10_likely_17 : decode cX10_likely 17 = .ok (.iconst 0, 1) := by decide +kernel
theorem dX10_likely_18 : decode cX10_likely 18 = .ok (.iconst 5, 1) := by decide +kernel
theorem dX10_likely_19 : decode cX10_likely 19 = .ok (.invokestatic 77, 3) := by decide +kernel
theorem dX10_likely_22 : decode cX10_likely 22 = .ok (.ifCond .eq 24, 3) := by decide +kernel
theorem dX10_likely_25 : decode cX10_likely 25 = .ok (.iload 4, 2) := by decide +kernel
theorem dX10_likely_27 : decode cX10_likely 27 = .ok (.iconst 0, 1) := by decide +kernel
theorem dX10_likely_28 : decode cX10_likely 28 = .ok (.bipush 10, 2) := by decide +kernel
theorem dX10_likely_30 : decode cX10_likely 30 = .ok (.invokestatic 77, 3) := by decide +kernel
theorem dX10_likely_33 : decode cX10_likely 33 = .ok (.ifCond .eq 13, 3) := by decide +kernel
theorem dX10_likely_36 : decode cX10_likely 36 = .ok (.iload 5, 2) := by decide +kernel
theorem dX10_likely_38 : decode cX10_likely 38 = .ok (.iconst 0, 1) := by decide +kernel
theorem dX10_likely_39 : decode cX10_likely 39 = .ok (.iconst 1, 1) := by decide +kernel
theorem dX10_likely_40 : decode cX10_likely 40 = .ok (.invokestatic 77, 3) := by decide +kernel
theorem dX10_likely_43 : decode cX10_likely 43 = .ok (.ifCond .ne 5, 3) := by decide +kernel
theorem dX10_likely_46 : decode cX10_likely 46 = .ok (.iconst (-1), 1) := by decide +kernel
theorem dX10_likely_47 : decode cX10_likely 47 = .ok (.ireturn, 1) := by decide +kernel
theorem dX10_likely_48 : decode cX10_likely 48 = .ok (.aload_n 0, 1) := by decide +kernel
theorem dX10_likely_49 : decode cX10_likely 49 = .ok (.invokevirtual 183, 3) := by decide +kernel
theorem dX10_likely_52 : decode cX10_likely 52 = .ok (.aload_n 0, 1) := by decide +kernel
theorem dX10_likely_53 : decode cX10_likely 53 = .ok (.invokevirtual 162, 3) := by decide +kernel
theorem dX10_likely_56 : decode cX10_likely 56 = .ok (.aload_n 0, 1) := by decide +kernel
theorem dX10_likely_57 : decode cX10_likely 57 = .ok (.iload_n 1, 1) := by decide +kernel
theorem dX10_likely_58 : decode cX10_likely 58 = .ok (.invokevirtual 165, 3) := by decide +kernel
theorem dX10_likely_61 : decode cX10_likely 61 = .ok (.istore 6, 2) := by decide +kernel
theorem dX10_likely_63 : decode cX10_likely 63 = .ok (.iconst 0, 1) := by decide +kernel
theorem dX10_likely_64 : decode cX10_likely 64 = .ok (.istore 7, 2) := by decide +kernel
theorem dX10_likely_66 : decode cX10_likely 66 = .ok (.iconst 1, 1) := by decide +kernel
theorem dX10_likely_67 : decode cX10_likely 67 = .ok (.istore 8, 2) := by decide +kernel
theorem dX10_likely_69 : decode cX10_likely 69 = .ok (.iconst 0, 1) := by decide +kernel
theorem dX10_likely_70 : decode cX10_likely 70 = .ok (.istore 9, 2) := by decide +kernel
theorem dX10_likely_72 : decode cX10_likely 72 = .ok (.iload 9, 2) := by decide +kernel
theorem dX10_likely_74 : decode cX10_likely 74 = .ok (.iload_n 3, 1) := by decide +kernel
theorem dX10_likely_75 : decode cX10_likely 75 = .ok (.if_icmp .ge 16, 3) := by decide +kernel
theorem dX10_likely_78 : decode cX10_likely 78 = .ok (.iload 8, 2) := by decide +kernel
theorem dX10_likely_80 : decode cX10_likely 80 = .ok (.bipush 10, 2) := by decide +kernel
theorem dX10_likely_82 : decode cX10_likely 82 = .ok (.imul, 1) := by decide +kernel
theorem dX10_likely_83 : decode cX10_likely 83 = .ok (.istore 8, 2) := by decide +kernel
theorem dX10_likely_85 : decode cX10_likely 85 = .ok (.iinc 9 1, 3) := by decide +kernel
theorem dX10_likely_88 : decode cX10_likely 88 = .ok (.goto (-16), 3) := by decide +kernel
theorem dX10_likely_91 : decode cX10_likely 91 = .ok (.iconst 0, 1) := by decide +kernel
theorem dX10_likely_92 : decode cX10_likely 92 = .ok (.istore 9, 2) := by decide +kernel
theorem dX10_likely_94 : decode cX10_likely 94 = .ok (.iload 9, 2) := by decide +kernel
theorem dX10_likely_96 : decode cX10_likely 96 = .ok (.iconst 1, 1) := by decide +kernel
theorem dX10_likely_97 : decode cX10_likely 97 = .ok (.iload_n 3, 1) := by decide +kernel
theorem dX10_likely_98 : decode cX10_likely 98 = .ok (.ishl, 1) := by decide +kernel
theorem dX10_likely_99 : decode cX10_likely 99 = .ok (.if_icmp .ge 92, 3) := by decide +kernel
theorem dX10_likely_102 : decode cX10_likely 102 = .ok (.iload 6, 2) := by decide +kernel
theorem dX10_likely_104 : decode cX10_likely 104 = .ok (.istore 10, 2) := by decide +kernel
theorem dX10_likely_106 : decode cX10_likely 106 = .ok (.iconst 1, 1) := by decide +kernel
theorem dX10_likely_107 : decode cX10_likely 107 = .ok (.istore 11, 2) := by decide +kernel
theorem dX10_likely_109 : decode cX10_likely 109 = .ok (.iconst 0, 1) := by decide +kernel
theorem dX10_likely_110 : decode cX10_likely 110 = .ok (.istore 12, 2) := by decide +kernel
theorem dX10_likely_112 : decode cX10_likely 112 = .ok (.iload 12, 2) := by decide +kernel
theorem dX10_likely_114 : decode cX10_likely 114 = .ok (.iload_n 3, 1) := by decide +kernel
theorem dX10_likely_115 : decode cX10_likely 115 = .ok (.if_icmp .ge 53, 3) := by decide +kernel
theorem dX10_likely_118 : decode cX10_likely 118 = .ok (.iload 9, 2) := by decide +kernel
theorem dX10_likely_120 : decode cX10_likely 120 = .ok (.iload 12, 2) := by decide +kernel
theorem dX10_likely_122 : decode cX10_likely 122 = .ok (.ishr, 1) := by decide +kernel
theorem dX10_likely_123 : decode cX10_likely 123 = .ok (.iconst 1, 1) := by decide +kernel
theorem dX10_likely_124 : decode cX10_likely 124 = .ok (.iand, 1) := by decide +kernel
theorem dX10_likely_125 : decode cX10_likely 125 = .ok (.istore 13, 2) := by decide +kernel
theorem dX10_likely_127 : decode cX10_likely 127 = .ok (.iload 11, 2) := by decide +kernel
theorem dX10_likely_129 : decode cX10_likely 129 = .ok (.iload 13, 2) := by decide +kernel
theorem dX10_likely_131 : decode cX10_likely 131 = .ok (.ifCond .ne 8, 3) := by decide +kernel
theorem dX10_likely_134 : decode cX10_likely 134 = .ok (.iload 4, 2) := by decide +kernel
theorem dX10_likely_136 : decode cX10_likely 136 = .ok (.goto 8, 3) := by decide +kernel
theorem dX10_likely_139 : decode cX10_likely 139 = .ok (.bipush 10, 2) := by decide +kernel
theorem dX10_likely_141 : decode cX10_likely 141 = .ok (.iload 4, 2) := by decide +kernel
theorem dX10_likely_143 : decode cX10_likely 143 = .ok (.isub, 1) := by decide +kernel
theorem dX10_likely_144 : decode cX10_likely 144 = .ok (.imul, 1) := by decide +kernel
theorem dX10_likely_145 : decode cX10_likely 145 = .ok (.istore 11, 2) := by decide +kernel
theorem dX10_likely_147 : decode cX10_likely 147 = .ok (.aload_n 0, 1) := by decide +kernel
theorem dX10_likely_148 : decode cX10_likely 148 = .ok (.getfield 49, 3) := by decide +kernel
theorem dX10_likely_151 : decode cX10_likely 151 = .ok (.bipush 16, 2) := by decide +kernel
theorem dX10_likely_153 : decode cX10_likely 153 = .ok (.iload 13, 2) := by decide +kernel
theorem dX10_likely_155 : decode cX10_likely 155 = .ok (.imul, 1) := by decide +kernel
theorem dX10_likely_156 : decode cX10_likely 156 = .ok (.iload 10, 2) := by decide +kernel
theorem dX10_likely_158 : decode cX10_likely 158 = .ok (.iadd, 1) := by decide +kernel
theorem dX10_likely_159 : decode cX10_likely 159 = .ok (.iaload, 1) := by decide +kernel
theorem dX10_likely_160 : decode cX10_likely 160 = .ok (.istore 10, 2) := by decide +kernel
theorem dX10_likely_162 : decode cX10_likely 162 = .ok (.iinc 12 1, 3) := by decide +kernel
theorem dX10_likely_165 : decode cX10_likely 165 = .ok (.goto (-53), 3) := by decide +kernel
theorem dX10_likely_168 : decode cX10_likely 168 = .ok (.iload 7, 2) := by decide +kernel
theorem dX10_likely_170 : decode cX10_likely 170 = .ok (.iload 10, 2) := by decide +kernel
theorem dX10_likely_172 : decode cX10_likely 172 = .ok (.iload_n 2, 1) := by decide +kernel
theorem dX10_likely_173 : decode cX10_likely 173 = .ok (.if_icmp .ne 8, 3) := by decide +kernel
theorem dX10_likely_176 : decode cX10_likely 176 = .ok (.iload 11, 2) := by decide +kernel
theorem dX10_likely_178 : decode cX10_likely 178 = .ok (.goto 4, 3) := by decide +kernel
theorem dX10_likely_181 : decode cX10_likely 181 = .ok (.iconst 0, 1) := by decide +kernel
theorem dX10_likely_182 : decode cX10_likely 182 = .ok (.iadd, 1) := by decide +kernel
theorem dX10_likely_183 : decode cX10_likely 183 = .ok (.istore 7, 2) := by decide +kernel
theorem dX10_likely_185 : decode cX10_likely 185 = .ok (.iinc 9 1, 3) := by decide +kernel
theorem dX10_likely_188 : decode cX10_likely 188 = .ok (.goto (-94), 3) := by decide +kernel
theorem dX10_likely_191 : decode cX10_likely 191 = .ok (.iload 7, 2) := by decide +kernel
theorem dX10_likely_193 : decode cX10_likely 193 = .ok (.iload 8, 2) := by decide +kernel
theorem dX10_likely_195 : decode cX10_likely 195 = .ok (.iload 5, 2) := by decide +kernel
theorem dX10_likely_197 : decode cX10_likely 197 = .ok (.invokestatic 205, 3) := by decide +kernel
theorem dX10_likely_200 : decode cX10_likely 200 = .ok (.ireturn, 1) := by decide +kernel
theorem dX10_dealing_0 : decode cX10_dealing 0 = .ok (.iload_n 1, 1) := by decide +kernel
theorem dX10_dealing_1 : decode cX10_dealing 1 = .ok (.iconst 0, 1) := by decide +kernel
theorem dX10_dealing_2 : decode cX10_dealing 2 = .ok (.sipush 9999, 3) := by decide +kernel
theorem dX10_dealing_5 : decode cX10_dealing 5 = .ok (.invokestatic 77, 3) := by decide +kernel
theorem dX10_dealing_8 : decode cX10_dealing 8 = .ok (.ifCond .eq 22, 3) := by decide +kernel
theorem dX10_dealing_11 : decode cX10_dealing 11 = .ok (.iload_n 2, 1) := by decide +kernel
theorem dX10_dealing_12 : decode cX10_dealing 12 = .ok (.iconst 1, 1) := by decide +kernel
theorem dX10_dealing_13 : decode cX10_dealing 13 = .ok (.bipush 60, 2) := by decide +kernel
theorem dX10_dealing_15 : decode cX10_dealing 15 = .ok (.invokestatic 77, 3) := by decide +kernel
theorem dX10_dealing_18 : decode cX10_dealing 18 = .ok (.ifCond .eq 12, 3) := by decide +kernel
theorem dX10_dealing_21 : decode cX10_dealing 21 = .ok (.iload_n 3, 1) := by decide +kernel
theorem dX10_dealing_22 : decode cX10_dealing 22 = .ok (.iconst 0, 1) := by decide +kernel
theorem dX10_dealing_23 : decode cX10_dealing 23 = .ok (.iconst 2, 1) := by decide +kernel
theorem dX10_dealing_24 : decode cX10_dealing 24 = .ok (.invokestatic 77, 3) := by decide +kernel
theorem dX10_dealing_27 : decode cX10_dealing 27 = .ok (.ifCond .ne 5, 3) := by decide +kernel
theorem dX10_dealing_30 : decode cX10_dealing 30 = .ok (.iconst (-1), 1) := by decide +kernel
theorem dX10_dealing_31 : decode cX10_dealing 31 = .ok (.ireturn, 1) := by decide +kernel
theorem dX10_dealing_32 : decode cX10_dealing 32 = .ok (.aload_n 0, 1) := by decide +kernel
theorem dX10_dealing_33 : decode cX10_dealing 33 = .ok (.invokevirtual 162, 3) := by decide +kernel
theorem dX10_dealing_36 : decode cX10_dealing 36 = .ok (.iconst 0, 1) := by decide +kernel
theorem dX10_dealing_37 : decode cX10_dealing 37 = .ok (.istore 4, 2) := by decide +kernel
theorem dX10_dealing_39 : decode cX10_dealing 39 = .ok (.iload 4, 2) := by decide +kernel
theorem dX10_dealing_41 : decode cX10_dealing 41 = .ok (.iload_n 2, 1) := by decide +kernel
theorem dX10_dealing_42 : decode cX10_dealing 42 = .ok (.if_icmp .ge 88, 3) := by decide +kernel
theorem dX10_dealing_45 : decode cX10_dealing 45 = .ok (.ldc2_w 212, 3) := by decide +kernel
theorem dX10_dealing_48 : decode cX10_dealing 48 = .ok (.iload_n 1, 1) := by decide +kernel
theorem dX10_dealing_49 : decode cX10_dealing 49 = .ok (.i2l, 1) := by decide +kernel
theorem dX10_dealing_50 : decode cX10_dealing 50 = .ok (.lmul, 1) := by decide +kernel
theorem dX10_dealing_51 : decode cX10_dealing 51 = .ok (.ldc2_w 214, 3) := by decide +kernel
theorem dX10_dealing_54 : decode cX10_dealing 54 = .ok (.iload 4, 2) := by decide +kernel
theorem dX10_dealing_56 : decode cX10_dealing 56 = .ok (.i2l, 1) := by decide +kernel
theorem dX10_dealing_57 : decode cX10_dealing 57 = .ok (.lmul, 1) := by decide +kernel
theorem dX10_dealing_58 : decode cX10_dealing 58 = .ok (.ladd, 1) := by decide +kernel
theorem dX10_dealing_59 : decode cX10_dealing 59 = .ok (.lconst 1, 1) := by decide +kernel
theorem dX10_dealing_60 : decode cX10_dealing 60 = .ok (.ladd, 1) := by decide +kernel
theorem dX10_dealing_61 : decode cX10_dealing 61 = .ok (.lstore 5, 2) := by decide +kernel
theorem dX10_dealing_63 : decode cX10_dealing 63 = .ok (.lload 5, 2) := by decide +kernel
theorem dX10_dealing_65 : decode cX10_dealing 65 = .ok (.lload 5, 2) := by decide +kernel
theorem dX10_dealing_67 : decode cX10_dealing 67 = .ok (.lmul, 1) := by decide +kernel
theorem dX10_dealing_68 : decode cX10_dealing 68 = .ok (.ldc2_w 216, 3) := by decide +kernel
theorem dX10_dealing_71 : decode cX10_dealing 71 = .ok (.lrem, 1) := by decide +kernel
theorem dX10_dealing_72 : decode cX10_dealing 72 = .ok (.ldc2_w 218, 3) := by decide +kernel
theorem dX10_dealing_75 : decode cX10_dealing 75 = .ok (.ldiv, 1) := by decide +kernel
theorem dX10_dealing_76 : decode cX10_dealing 76 = .ok (.l2i, 1) := by decide +kernel
theorem dX10_dealing_77 : decode cX10_dealing 77 = .ok (.istore 7, 2) := by decide +kernel
theorem dX10_dealing_79 : decode cX10_dealing 79 = .ok (.iload 7, 2) := by decide +kernel
theorem dX10_dealing_81 : decode cX10_dealing 81 = .ok (.bipush 7, 2) := by decide +kernel
theorem dX10_dealing_83 : decode cX10_dealing 83 = .ok (.irem, 1) := by decide +kernel
theorem dX10_dealing_84 : decode cX10_dealing 84 = .ok (.istore 8, 2) := by decide +kernel
theorem dX10_dealing_86 : decode cX10_dealing 86 = .ok (.aload_n 0, 1) := by decide +kernel
theorem dX10_dealing_87 : decode cX10_dealing 87 = .ok (.iload 8, 2) := by decide +kernel
theorem dX10_dealing_89 : decode cX10_dealing 89 = .ok (.iconst 5, 1) := by decide +kernel
theorem dX10_dealing_90 : decode cX10_dealing 90 = .ok (.if_icmp .ge 8, 3) := by decide +kernel
theorem dX10_dealing_93 : decode cX10_dealing 93 = .ok (.iload 8, 2) := by decide +kernel
theorem dX10_dealing_95 : decode cX10_dealing 95 = .ok (.goto 26, 3) := by decide +kernel
theorem dX10_dealing_98 : decode cX10_dealing 98 = .ok (.iload 8, 2) := by decide +kernel
theorem dX10_dealing_100 : decode cX10_dealing 100 = .ok (.iconst 5, 1) := by decide +kernel
theorem dX10_dealing_101 : decode cX10_dealing 101 = .ok (.if_icmp .ne 19, 3) := by decide +kernel
theorem dX10_dealing_104 : decode cX10_dealing 104 = .ok (.bipush 6, 2) := by decide +kernel
theorem dX10_dealing_106 : decode cX10_dealing 106 = .ok (.iload 7, 2) := by decide +kernel
theorem dX10_dealing_108 : decode cX10_dealing 108 = .ok (.bipush 8, 2) := by decide +kernel
theorem dX10_dealing_110 : decode cX10_dealing 110 = .ok (.idiv, 1) := by decide +kernel
theorem dX10_dealing_111 : decode cX10_dealing 111 = .ok (.aload_n 0, 1) := by decide +kernel
theorem dX10_dealing_112 : decode cX10_dealing 112 = .ok (.getfield 74, 3) := by decide +kernel
theorem dX10_dealing_115 : decode cX10_dealing 115 = .ok (.irem, 1) := by decide +kernel
theorem dX10_dealing_116 : decode cX10_dealing 116 = .ok (.iadd, 1) := by decide +kernel
theorem dX10_dealing_117 : decode cX10_dealing 117 = .ok (.goto 4, 3) := by decide +kernel
theorem dX10_dealing_120 : decode cX10_dealing 120 = .ok (.iconst 5, 1) := by decide +kernel
theorem dX10_dealing_121 : decode cX10_dealing 121 = .ok (.invokevirtual 157, 3) := by decide +kernel
theorem dX10_dealing_124 : decode cX10_dealing 124 = .ok (.iinc 4 1, 3) := by decide +kernel
theorem dX10_dealing_127 : decode cX10_dealing 127 = .ok (.goto (-88), 3) := by decide +kernel
theorem dX10_dealing_130 : decode cX10_dealing 130 = .ok (.iconst 0, 1) := by decide +kernel
theorem dX10_dealing_131 : decode cX10_dealing 131 = .ok (.istore 4, 2) := by decide +kernel
theorem dX10_dealing_133 : decode cX10_dealing 133 = .ok (.iconst 0, 1) := by decide +kernel
theorem dX10_dealing_134 : decode cX10_dealing 134 = .ok (.istore 5, 2) := by decide +kernel
theorem dX10_dealing_136 : decode cX10_dealing 136 = .ok (.iload 5, 2) := by decide +kernel
theorem dX10_dealing_138 : decode cX10_dealing 138 = .ok (.aload_n 0, 1) := by decide +kernel
theorem dX10_dealing_139 : decode cX10_dealing 139 = .ok (.getfield 74, 3) := by decide +kernel
theorem dX10_dealing_142 : decode cX10_dealing 142 = .ok (.if_icmp .ge 36, 3) := by decide +kernel
theorem dX10_dealing_145 : decode cX10_dealing 145 = .ok (.iload 4, 2) := by decide +kernel
theorem dX10_dealing_147 : decode cX10_dealing 147 = .ok (.aload_n 0, 1) := by decide +kernel
theorem dX10_dealing_148 : decode cX10_dealing 148 = .ok (.getfield 40, 3) := by decide +kernel
theorem dX10_dealing_151 : decode cX10_dealing 151 = .ok (.iload 5, 2) := by decide +kernel
theorem dX10_dealing_153 : decode cX10_dealing 153 = .ok (.iaload, 1) := by decide +kernel
theorem dX10_dealing_154 : decode cX10_dealing 154 = .ok (.aload_n 0, 1) := by decide +kernel
theorem dX10_dealing_155 : decode cX10_dealing 155 = .ok (.getfield 16, 3) := by decide +kernel
theorem dX10_dealing_158 : decode cX10_dealing 158 = .ok (.iload 5, 2) := by decide +kernel
theorem dX10_dealing_160 : decode cX10_dealing 160 = .ok (.iaload, 1) := by decide +kernel
theorem dX10_dealing_161 : decode cX10_dealing 161 = .ok (.if_icmp .ne 7, 3) := by decide +kernel
theorem dX10_dealing_164 : decode cX10_dealing 164 = .ok (.iconst 1, 1) := by decide +kernel
theorem dX10_dealing_165 : decode cX10_dealing 165 = .ok (.goto 4, 3) := by decide +kernel
theorem dX10_dealing_168 : decode cX10_dealing 168 = .ok (.iconst 0, 1) := by decide +kernel
theorem dX10_dealing_169 : decode cX10_dealing 169 = .ok (.iadd, 1) := by decide +kernel
theorem dX10_dealing_170 : decode cX10_dealing 170 = .ok (.istore 4, 2) := by decide +kernel
theorem dX10_dealing_172 : decode cX10_dealing 172 = .ok (.iinc 5 1, 3) := by decide +kernel
theorem dX10_dealing_175 : decode cX10_dealing 175 = .ok (.goto (-39), 3) := by decide +kernel
theorem dX10_dealing_178 : decode cX10_dealing 178 = .ok (.iload_n 3, 1) := by decide +kernel
theorem dX10_dealing_179 : decode cX10_dealing 179 = .ok (.ifCond .ne 12, 3) := by decide +kernel
theorem dX10_dealing_182 : decode cX10_dealing 182 = .ok (.aload_n 0, 1) := by decide +kernel
theorem dX10_dealing_183 : decode cX10_dealing 183 = .ok (.getfield 40, 3) := by decide +kernel
theorem dX10_dealing_186 : decode cX10_dealing 186 = .ok (.iconst 0, 1) := by decide +kernel
theorem dX10_dealing_187 : decode cX10_dealing 187 = .ok (.iaload, 1) := by decide +kernel
theorem dX10_dealing_188 : decode cX10_dealing 188 = .ok (.goto 17, 3) := by decide +kernel
theorem dX10_dealing_191 : decode cX10_dealing 191 = .ok (.iload_n 3, 1) := by decide +kernel
theorem dX10_dealing_192 : decode cX10_dealing 192 = .ok (.iconst 1, 1) := by decide +kernel
theorem dX10_dealing_193 : decode cX10_dealing 193 = .ok (.if_icmp .ne 8, 3) := by decide +kernel
theorem dX10_dealing_196 : decode cX10_dealing 196 = .ok (.iload 4, 2) := by decide +kernel
theorem dX10_dealing_198 : decode cX10_dealing 198 = .ok (.goto 7, 3) := by decide +kernel
theorem dX10_dealing_201 : decode cX10_dealing 201 = .ok (.aload_n 0, 1) := by decide +kernel
theorem dX10_dealing_202 : decode cX10_dealing 202 = .ok (.invokevirtual 195, 3) := by decide +kernel
theorem dX10_dealing_205 : decode cX10_dealing 205 = .ok (.ireturn, 1) := by decide +kernel
theorem dX10_keep_0 : decode cX10_keep 0 = .ok (.aload_n 0, 1) := by decide +kernel
theorem dX10_keep_1 : decode cX10_keep 1 = .ok (.getfield 137, 3) := by decide +kernel
theorem dX10_keep_4 : decode cX10_keep 4 = .ok (.iconst 2, 1) := by decide +kernel
theorem dX10_keep_5 : decode cX10_keep 5 = .ok (.if_icmp .ne 6, 3) := by decide +kernel
theorem dX10_keep_8 : decode cX10_keep 8 = .ok (.bipush (-3), 2) := by decide +kernel
theorem dX10_keep_10 : decode cX10_keep 10 = .ok (.ireturn, 1) := by decide +kernel
theorem dX10_keep_11 : decode cX10_keep 11 = .ok (.aload_n 0, 1) := by decide +kernel
theorem dX10_keep_12 : decode cX10_keep 12 = .ok (.getfield 22, 3) := by decide +kernel
theorem dX10_keep_15 : decode cX10_keep 15 = .ok (.bipush 16, 2) := by decide +kernel
theorem dX10_keep_17 : decode cX10_keep 17 = .ok (.aload_n 0, 1) := by decide +kernel
theorem dX10_keep_18 : decode cX10_keep 18 = .ok (.getfield 137, 3) := by decide +kernel
theorem dX10_keep_21 : decode cX10_keep 21 = .ok (.imul, 1) := by decide +kernel
theorem dX10_keep_22 : decode cX10_keep 22 = .ok (.aload_n 0, 1) := by decide +kernel
theorem dX10_keep_23 : decode cX10_keep 23 = .ok (.getfield 16, 3) := by decide +kernel
theorem dX10_keep_26 : decode cX10_keep 26 = .ok (.iconst 0, 1) := by decide +kernel
theorem dX10_keep_27 : decode cX10_keep 27 = .ok (.bipush 16, 2) := by decide +kernel
theorem dX10_keep_29 : decode cX10_keep 29 = .ok (.invokestatic 123, 3) := by decide +kernel
theorem dX10_keep_32 : decode cX10_keep 32 = .ok (.aload_n 0, 1) := by decide +kernel
theorem dX10_keep_33 : decode cX10_keep 33 = .ok (.dup, 1) := by decide +kernel
theorem dX10_keep_34 : decode cX10_keep 34 = .ok (.getfield 137, 3) := by decide +kernel
theorem dX10_keep_37 : decode cX10_keep 37 = .ok (.iconst 1, 1) := by decide +kernel
theorem dX10_keep_38 : decode cX10_keep 38 = .ok (.iadd, 1) := by decide +kernel
theorem dX10_keep_39 : decode cX10_keep 39 = .ok (.putfield 137, 3) := by decide +kernel
theorem dX10_keep_42 : decode cX10_keep 42 = .ok (.aload_n 0, 1) := by decide +kernel
theorem dX10_keep_43 : decode cX10_keep 43 = .ok (.getfield 137, 3) := by decide +kernel
theorem dX10_keep_46 : decode cX10_keep 46 = .ok (.ireturn, 1) := by decide +kernel
theorem dX10_back_0 : decode cX10_back 0 = .ok (.aload_n 0, 1) := by decide +kernel
theorem dX10_back_1 : decode cX10_back 1 = .ok (.getfield 137, 3) := by decide +kernel
theorem dX10_back_4 : decode cX10_back 4 = .ok (.ifCond .ne 6, 3) := by decide +kernel
theorem dX10_back_7 : decode cX10_back 7 = .ok (.bipush (-2), 2) := by decide +kernel
theorem dX10_back_9 : decode cX10_back 9 = .ok (.ireturn, 1) := by decide +kernel
theorem dX10_back_10 : decode cX10_back 10 = .ok (.aload_n 0, 1) := by decide +kernel
theorem dX10_back_11 : decode cX10_back 11 = .ok (.dup, 1) := by decide +kernel
theorem dX10_back_12 : decode cX10_back 12 = .ok (.getfield 137, 3) := by decide +kernel
theorem dX10_back_15 : decode cX10_back 15 = .ok (.iconst 1, 1) := by decide +kernel
theorem dX10_back_16 : decode cX10_back 16 = .ok (.isub, 1) := by decide +kernel
theorem dX10_back_17 : decode cX10_back 17 = .ok (.putfield 137, 3) := by decide +kernel
theorem dX10_back_20 : decode cX10_back 20 = .ok (.aload_n 0, 1) := by decide +kernel
theorem dX10_back_21 : decode cX10_back 21 = .ok (.getfield 16, 3) := by decide +kernel
theorem dX10_back_24 : decode cX10_back 24 = .ok (.iconst 0, 1) := by decide +kernel
theorem dX10_back_25 : decode cX10_back 25 = .ok (.aload_n 0, 1) := by decide +kernel
theorem dX10_back_26 : decode cX10_back 26 = .ok (.getfield 22, 3) := by decide +kernel
theorem dX10_back_29 : decode cX10_back 29 = .ok (.bipush 16, 2) := by decide +kernel
theorem dX10_back_31 : decode cX10_back 31 = .ok (.aload_n 0, 1) := by decide +kernel
theorem dX10_back_32 : decode cX10_back 32 = .ok (.getfield 137, 3) := by decide +kernel
theorem dX10_back_35 : decode cX10_back 35 = .ok (.imul, 1) := by decide +kernel
theorem dX10_back_36 : decode cX10_back 36 = .ok (.bipush 16, 2) := by decide +kernel
theorem dX10_back_38 : decode cX10_back 38 = .ok (.invokestatic 123, 3) := by decide +kernel
theorem dX10_back_41 : decode cX10_back 41 = .ok (.aload_n 0, 1) := by decide +kernel
theorem dX10_back_42 : decode cX10_back 42 = .ok (.iconst 0, 1) := by decide +kernel
theorem dX10_back_43 : decode cX10_back 43 = .ok (.putfield 134, 3) := by decide +kernel
theorem dX10_back_46 : decode cX10_back 46 = .ok (.aload_n 0, 1) := by decide +kernel
theorem dX10_back_47 : decode cX10_back 47 = .ok (.getfield 137, 3) := by decide +kernel
theorem dX10_back_50 : decode cX10_back 50 = .ok (.ireturn, 1) := by decide +kernel
theorem dX10_count_0 : decode cX10_count 0 = .ok (.iload_n 1, 1) := by decide +kernel
theorem dX10_count_1 : decode cX10_count 1 = .ok (.tableswitch 69 0 5 #[39, 44, 49, 54, 59, 64], 39) := by decide +kernel
theorem dX10_count_40 : decode cX10_count 40 = .ok (.aload_n 0, 1) := by decide +kernel
theorem dX10_count_41 : decode cX10_count 41 = .ok (.getfield 74, 3) := by decide +kernel
theorem dX10_count_44 : decode cX10_count 44 = .ok (.ireturn, 1) := by decide +kernel
theorem dX10_count_45 : decode cX10_count 45 = .ok (.aload_n 0, 1) := by decide +kernel
theorem dX10_count_46 : decode cX10_count 46 = .ok (.getfield 127, 3) := by decide +kernel
theorem dX10_count_49 : decode cX10_count 49 = .ok (.ireturn, 1) := by decide +kernel
theorem dX10_count_50 : decode cX10_count 50 = .ok (.aload_n 0, 1) := by decide +kernel
theorem dX10_count_51 : decode cX10_count 51 = .ok (.getfield 140, 3) := by decide +kernel
theorem dX10_count_54 : decode cX10_count 54 = .ok (.ireturn, 1) := by decide +kernel
theorem dX10_count_55 : decode cX10_count 55 = .ok (.aload_n 0, 1) := by decide +kernel
theorem dX10_count_56 : decode cX10_count 56 = .ok (.getfield 134, 3) := by decide +kernel
theorem dX10_count_59 : decode cX10_count 59 = .ok (.ireturn, 1) := by decide +kernel
theorem dX10_count_60 : decode cX10_count 60 = .ok (.aload_n 0, 1) := by decide +kernel
theorem dX10_count_61 : decode cX10_count 61 = .ok (.getfield 137, 3) := by decide +kernel
theorem dX10_count_64 : decode cX10_count 64 = .ok (.ireturn, 1) := by decide +kernel
theorem dX10_count_65 : decode cX10_count 65 = .ok (.aload_n 0, 1) := by decide +kernel
theorem dX10_count_66 : decode cX10_count 66 = .ok (.getfield 81, 3) := by decide +kernel
theorem dX10_count_69 : decode cX10_count 69 = .ok (.ireturn, 1) := by decide +kernel
theorem dX10_count_70 : decode cX10_count 70 = .ok (.iconst (-1), 1) := by decide +kernel
theorem dX10_count_71 : decode cX10_count 71 = .ok (.ireturn, 1) := by decide +kernel
