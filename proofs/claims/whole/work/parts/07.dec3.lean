theorem dX11_init_0 : decode cX11_init 0 = .ok (.aload_n 0, 1) := by decide +kernel
theorem dX11_init_1 : decode cX11_init 1 = .ok (.invokespecial 3, 3) := by decide +kernel
theorem dX11_init_4 : decode cX11_init 4 = .ok (.aload_n 0, 1) := by decide +kernel
theorem dX11_init_5 : decode cX11_init 5 = .ok (.sipush 282, 3) := by decide +kernel
theorem dX11_init_8 : decode cX11_init 8 = .ok (.newarray .int, 2) := by decide +kernel
theorem dX11_init_10 : decode cX11_init 10 = .ok (.putfield 9, 3) := by decide +kernel
theorem dX11_init_13 : decode cX11_init 13 = .ok (.aload_n 0, 1) := by decide +kernel
theorem dX11_init_14 : decode cX11_init 14 = .ok (.sipush 2256, 3) := by decide +kernel
theorem dX11_init_17 : decode cX11_init 17 = .ok (.newarray .int, 2) := by decide +kernel
theorem dX11_init_19 : decode cX11_init 19 = .ok (.putfield 13, 3) := by decide +kernel
theorem dX11_init_22 : decode cX11_init 22 = .ok (.aload_n 0, 1) := by decide +kernel
theorem dX11_init_23 : decode cX11_init 23 = .ok (.bipush 30, 2) := by decide +kernel
theorem dX11_init_25 : decode cX11_init 25 = .ok (.newarray .int, 2) := by decide +kernel
theorem dX11_init_27 : decode cX11_init 27 = .ok (.putfield 16, 3) := by decide +kernel
theorem dX11_init_30 : decode cX11_init 30 = .ok (.aload_n 0, 1) := by decide +kernel
theorem dX11_init_31 : decode cX11_init 31 = .ok (.bipush 6, 2) := by decide +kernel
theorem dX11_init_33 : decode cX11_init 33 = .ok (.newarray .int, 2) := by decide +kernel
theorem dX11_init_35 : decode cX11_init 35 = .ok (.putfield 19, 3) := by decide +kernel
theorem dX11_init_38 : decode cX11_init 38 = .ok (.aload_n 0, 1) := by decide +kernel
theorem dX11_init_39 : decode cX11_init 39 = .ok (.bipush 6, 2) := by decide +kernel
theorem dX11_init_41 : decode cX11_init 41 = .ok (.newarray .int, 2) := by decide +kernel
theorem dX11_init_43 : decode cX11_init 43 = .ok (.putfield 22, 3) := by decide +kernel
theorem dX11_init_46 : decode cX11_init 46 = .ok (.aload_n 0, 1) := by decide +kernel
theorem dX11_init_47 : decode cX11_init 47 = .ok (.iconst 4, 1) := by decide +kernel
theorem dX11_init_48 : decode cX11_init 48 = .ok (.newarray .int, 2) := by decide +kernel
theorem dX11_init_50 : decode cX11_init 50 = .ok (.putfield 25, 3) := by decide +kernel
theorem dX11_init_53 : decode cX11_init 53 = .ok (.aload_n 0, 1) := by decide +kernel
theorem dX11_init_54 : decode cX11_init 54 = .ok (.iconst 4, 1) := by decide +kernel
theorem dX11_init_55 : decode cX11_init 55 = .ok (.newarray .int, 2) := by decide +kernel
theorem dX11_init_57 : decode cX11_init 57 = .ok (.putfield 28, 3) := by decide +kernel
theorem dX11_init_60 : decode cX11_init 60 = .ok (.aload_n 0, 1) := by decide +kernel
theorem dX11_init_61 : decode cX11_init 61 = .ok (.iconst 4, 1) := by decide +kernel
theorem dX11_init_62 : decode cX11_init 62 = .ok (.newarray .int, 2) := by decide +kernel
theorem dX11_init_64 : decode cX11_init 64 = .ok (.putfield 31, 3) := by decide +kernel
theorem dX11_init_67 : decode cX11_init 67 = .ok (.aload_n 0, 1) := by decide +kernel
theorem dX11_init_68 : decode cX11_init 68 = .ok (.iconst 4, 1) := by decide +kernel
theorem dX11_init_69 : decode cX11_init 69 = .ok (.newarray .int, 2) := by decide +kernel
theorem dX11_init_71 : decode cX11_init 71 = .ok (.putfield 34, 3) := by decide +kernel
theorem dX11_init_74 : decode cX11_init 74 = .ok (.aload_n 0, 1) := by decide +kernel
theorem dX11_init_75 : decode cX11_init 75 = .ok (.bipush 124, 2) := by decide +kernel
theorem dX11_init_77 : decode cX11_init 77 = .ok (.newarray .int, 2) := by decide +kernel
theorem dX11_init_79 : decode cX11_init 79 = .ok (.putfield 37, 3) := by decide +kernel
theorem dX11_init_82 : decode cX11_init 82 = .ok (.aload_n 0, 1) := by decide +kernel
theorem dX11_init_83 : decode cX11_init 83 = .ok (.bipush 9, 2) := by decide +kernel
theorem dX11_init_85 : decode cX11_init 85 = .ok (.newarray .int, 2) := by decide +kernel
theorem dX11_init_87 : decode cX11_init 87 = .ok (.putfield 40, 3) := by decide +kernel
theorem dX11_init_90 : decode cX11_init 90 = .ok (.aload_n 0, 1) := by decide +kernel
theorem dX11_init_91 : decode cX11_init 91 = .ok (.bipush 36, 2) := by decide +kernel
theorem dX11_init_93 : decode cX11_init 93 = .ok (.newarray .int, 2) := by decide +kernel
theorem dX11_init_95 : decode cX11_init 95 = .ok (.putfield 43, 3) := by decide +kernel
theorem dX11_init_98 : decode cX11_init 98 = .ok (.aload_n 0, 1) := by decide +kernel
theorem dX11_init_99 : decode cX11_init 99 = .ok (.bipush 8, 2) := by decide +kernel
theorem dX11_init_101 : decode cX11_init 101 = .ok (.newarray .int, 2) := by decide +kernel
theorem dX11_init_103 : decode cX11_init 103 = .ok (.putfield 46, 3) := by decide +kernel
theorem dX11_init_106 : decode cX11_init 106 = .ok (.aload_n 0, 1) := by decide +kernel
theorem dX11_init_107 : decode cX11_init 107 = .ok (.bipush 6, 2) := by decide +kernel
theorem dX11_init_109 : decode cX11_init 109 = .ok (.newarray .int, 2) := by decide +kernel
theorem dX11_init_111 : decode cX11_init 111 = .ok (.putfield 49, 3) := by decide +kernel
theorem dX11_init_114 : decode cX11_init 114 = .ok (.aload_n 0, 1) := by decide +kernel
theorem dX11_init_115 : decode cX11_init 115 = .ok (.bipush 6, 2) := by decide +kernel
theorem dX11_init_117 : decode cX11_init 117 = .ok (.newarray .int, 2) := by decide +kernel
theorem dX11_init_119 : decode cX11_init 119 = .ok (.putfield 52, 3) := by decide +kernel
theorem dX11_init_122 : decode cX11_init 122 = .ok (.aload_n 0, 1) := by decide +kernel
theorem dX11_init_123 : decode cX11_init 123 = .ok (.iconst 4, 1) := by decide +kernel
theorem dX11_init_124 : decode cX11_init 124 = .ok (.newarray .int, 2) := by decide +kernel
theorem dX11_init_126 : decode cX11_init 126 = .ok (.putfield 55, 3) := by decide +kernel
theorem dX11_init_129 : decode cX11_init 129 = .ok (.aload_n 0, 1) := by decide +kernel
theorem dX11_init_130 : decode cX11_init 130 = .ok (.bipush 30, 2) := by decide +kernel
theorem dX11_init_132 : decode cX11_init 132 = .ok (.newarray .int, 2) := by decide +kernel
theorem dX11_init_134 : decode cX11_init 134 = .ok (.putfield 58, 3) := by decide +kernel
theorem dX11_init_137 : decode cX11_init 137 = .ok (.aload_n 0, 1) := by decide +kernel
theorem dX11_init_138 : decode cX11_init 138 = .ok (.iconst 0, 1) := by decide +kernel
theorem dX11_init_139 : decode cX11_init 139 = .ok (.bipush 12, 2) := by decide +kernel
theorem dX11_init_141 : decode cX11_init 141 = .ok (.iconst 0, 1) := by decide +kernel
theorem dX11_init_142 : decode cX11_init 142 = .ok (.invokevirtual 61, 3) := by decide +kernel
theorem dX11_init_145 : decode cX11_init 145 = .ok (.aload_n 0, 1) := by decide +kernel
theorem dX11_init_146 : decode cX11_init 146 = .ok (.iconst 0, 1) := by decide +kernel
theorem dX11_init_147 : decode cX11_init 147 = .ok (.iconst 0, 1) := by decide +kernel
theorem dX11_init_148 : decode cX11_init 148 = .ok (.iconst 3, 1) := by decide +kernel
theorem dX11_init_149 : decode cX11_init 149 = .ok (.invokevirtual 65, 3) := by decide +kernel
theorem dX11_init_152 : decode cX11_init 152 = .ok (.pop, 1) := by decide +kernel
theorem dX11_init_153 : decode cX11_init 153 = .ok (.aload_n 0, 1) := by decide +kernel
theorem dX11_init_154 : decode cX11_init 154 = .ok (.iconst 0, 1) := by decide +kernel
theorem dX11_init_155 : decode cX11_init 155 = .ok (.iconst 1, 1) := by decide +kernel
theorem dX11_init_156 : decode cX11_init 156 = .ok (.iconst 4, 1) := by decide +kernel
theorem dX11_init_157 : decode cX11_init 157 = .ok (.invokevirtual 65, 3) := by decide +kernel
theorem dX11_init_160 : decode cX11_init 160 = .ok (.pop, 1) := by decide +kernel
theorem dX11_init_161 : decode cX11_init 161 = .ok (.aload_n 0, 1) := by decide +kernel
theorem dX11_init_162 : decode cX11_init 162 = .ok (.iconst 0, 1) := by decide +kernel
theorem dX11_init_163 : decode cX11_init 163 = .ok (.bipush 9, 2) := by decide +kernel
theorem dX11_init_165 : decode cX11_init 165 = .ok (.iconst 1, 1) := by decide +kernel
theorem dX11_init_166 : decode cX11_init 166 = .ok (.invokevirtual 61, 3) := by decide +kernel
theorem dX11_init_169 : decode cX11_init 169 = .ok (.aload_n 0, 1) := by decide +kernel
theorem dX11_init_170 : decode cX11_init 170 = .ok (.iconst 1, 1) := by decide +kernel
theorem dX11_init_171 : decode cX11_init 171 = .ok (.iconst 1, 1) := by decide +kernel
theorem dX11_init_172 : decode cX11_init 172 = .ok (.iconst 2, 1) := by decide +kernel
theorem dX11_init_173 : decode cX11_init 173 = .ok (.invokevirtual 65, 3) := by decide +kernel
theorem dX11_init_176 : decode cX11_init 176 = .ok (.pop, 1) := by decide +kernel
theorem dX11_init_177 : decode cX11_init 177 = .ok (.aload_n 0, 1) := by decide +kernel
theorem dX11_init_178 : decode cX11_init 178 = .ok (.iconst 1, 1) := by decide +kernel
theorem dX11_init_179 : decode cX11_init 179 = .ok (.iconst 0, 1) := by decide +kernel
theorem dX11_init_180 : decode cX11_init 180 = .ok (.iconst 5, 1) := by decide +kernel
theorem dX11_init_181 : decode cX11_init 181 = .ok (.invokevirtual 65, 3) := by decide +kernel
theorem dX11_init_184 : decode cX11_init 184 = .ok (.pop, 1) := by decide +kernel
theorem dX11_init_185 : decode cX11_init 185 = .ok (.aload_n 0, 1) := by decide +kernel
theorem dX11_init_186 : decode cX11_init 186 = .ok (.iconst 0, 1) := by decide +kernel
theorem dX11_init_187 : decode cX11_init 187 = .ok (.bipush 10, 2) := by decide +kernel
theorem dX11_init_189 : decode cX11_init 189 = .ok (.iconst 2, 1) := by decide +kernel
theorem dX11_init_190 : decode cX11_init 190 = .ok (.invokevirtual 61, 3) := by decide +kernel
theorem dX11_init_193 : decode cX11_init 193 = .ok (.aload_n 0, 1) := by decide +kernel
theorem dX11_init_194 : decode cX11_init 194 = .ok (.iconst 2, 1) := by decide +kernel
theorem dX11_init_195 : decode cX11_init 195 = .ok (.iconst 0, 1) := by decide +kernel
theorem dX11_init_196 : decode cX11_init 196 = .ok (.iconst 4, 1) := by decide +kernel
theorem dX11_init_197 : decode cX11_init 197 = .ok (.invokevirtual 65, 3) := by decide +kernel
theorem dX11_init_200 : decode cX11_init 200 = .ok (.pop, 1) := by decide +kernel
theorem dX11_init_201 : decode cX11_init 201 = .ok (.aload_n 0, 1) := by decide +kernel
theorem dX11_init_202 : decode cX11_init 202 = .ok (.iconst 2, 1) := by decide +kernel
theorem dX11_init_203 : decode cX11_init 203 = .ok (.iconst 2, 1) := by decide +kernel
theorem dX11_init_204 : decode cX11_init 204 = .ok (.iconst 1, 1) := by decide +kernel
theorem dX11_init_205 : decode cX11_init 205 = .ok (.invokevirtual 65, 3) := by decide +kernel
theorem dX11_init_208 : decode cX11_init 208 = .ok (.pop, 1) := by decide +kernel
theorem dX11_init_209 : decode cX11_init 209 = .ok (.return_, 1) := by decide +kernel
theorem dX11_thrown_0 : decode cX11_thrown 0 = .ok (.aload_n 0, 1) := by decide +kernel
theorem dX11_thrown_1 : decode cX11_thrown 1 = .ok (.getfield 69, 3) := by decide +kernel
theorem dX11_thrown_4 : decode cX11_thrown 4 = .ok (.ireturn, 1) := by decide +kernel
theorem dX11_in_0 : decode cX11_in 0 = .ok (.iload_n 0, 1) := by decide +kernel
theorem dX11_in_1 : decode cX11_in 1 = .ok (.iload_n 1, 1) := by decide +kernel
theorem dX11_in_2 : decode cX11_in 2 = .ok (.if_icmp .lt 12, 3) := by decide +kernel
theorem dX11_in_5 : decode cX11_in 5 = .ok (.iload_n 0, 1) := by decide +kernel
theorem dX11_in_6 : decode cX11_in 6 = .ok (.iload_n 2, 1) := by decide +kernel
theorem dX11_in_7 : decode cX11_in 7 = .ok (.if_icmp .gt 7, 3) := by decide +kernel
theorem dX11_in_10 : decode cX11_in 10 = .ok (.iconst 1, 1) := by decide +kernel
theorem dX11_in_11 : decode cX11_in 11 = .ok (.goto 4, 3) := by decide +kernel
theorem dX11_in_14 : decode cX11_in 14 = .ok (.iconst 0, 1) := by decide +kernel
theorem dX11_in_15 : decode cX11_in 15 = .ok (.ireturn, 1) := by decide +kernel
theorem dX11_fits_0 : decode cX11_fits 0 = .ok (.aload_n 0, 1) := by decide +kernel
theorem dX11_fits_1 : decode cX11_fits 1 = .ok (.iload_n 1, 1) := by decide +kernel
theorem dX11_fits_2 : decode cX11_fits 2 = .ok (.ifCond .ne 7, 3) := by decide +kernel
theorem dX11_fits_5 : decode cX11_fits 5 = .ok (.iconst 1, 1) := by decide +kernel
theorem dX11_fits_6 : decode cX11_fits 6 = .ok (.goto 20, 3) := by decide +kernel
theorem dX11_fits_9 : decode cX11_fits 9 = .ok (.iload_n 2, 1) := by decide +kernel
theorem dX11_fits_10 : decode cX11_fits 10 = .ok (.ifCond .ne 7, 3) := by decide +kernel
theorem dX11_fits_13 : decode cX11_fits 13 = .ok (.iconst 2, 1) := by decide +kernel
theorem dX11_fits_14 : decode cX11_fits 14 = .ok (.goto 12, 3) := by decide +kernel
theorem dX11_fits_17 : decode cX11_fits 17 = .ok (.iload_n 3, 1) := by decide +kernel
theorem dX11_fits_18 : decode cX11_fits 18 = .ok (.ifCond .ne 7, 3) := by decide +kernel
theorem dX11_fits_21 : decode cX11_fits 21 = .ok (.iconst 3, 1) := by decide +kernel
theorem dX11_fits_22 : decode cX11_fits 22 = .ok (.goto 4, 3) := by decide +kernel
theorem dX11_fits_25 : decode cX11_fits 25 = .ok (.iconst 0, 1) := by decide +kernel
theorem dX11_fits_26 : decode cX11_fits 26 = .ok (.putfield 69, 3) := by decide +kernel
theorem dX11_fits_29 : decode cX11_fits 29 = .ok (.aload_n 0, 1) := by decide +kernel
theorem dX11_fits_30 : decode cX11_fits 30 = .ok (.getfield 69, 3) := by decide +kernel
theorem dX11_fits_33 : decode cX11_fits 33 = .ok (.ifCond .ne 7, 3) := by decide +kernel
theorem dX11_fits_36 : decode cX11_fits 36 = .ok (.iconst 1, 1) := by decide +kernel
theorem dX11_fits_37 : decode cX11_fits 37 = .ok (.goto 4, 3) := by decide +kernel
theorem dX11_fits_40 : decode cX11_fits 40 = .ok (.iconst 0, 1) := by decide +kernel
theorem dX11_fits_41 : decode cX11_fits 41 = .ok (.ireturn, 1) := by decide +kernel
theorem dX11_laysJob_0 : decode cX11_laysJob 0 = .ok (.bipush 61, 2) := by decide +kernel
theorem dX11_laysJob_2 : decode cX11_laysJob 2 = .ok (.aload_n 0, 1) := by decide +kernel
theorem dX11_laysJob_3 : decode cX11_laysJob 3 = .ok (.getfield 9, 3) := by decide +kernel
theorem dX11_laysJob_6 : decode cX11_laysJob 6 = .ok (.iconst 0, 1) := by decide +kernel
theorem dX11_laysJob_7 : decode cX11_laysJob 7 = .ok (.iaload, 1) := by decide +kernel
theorem dX11_laysJob_8 : decode cX11_laysJob 8 = .ok (.bipush 15, 2) := by decide +kernel
theorem dX11_laysJob_10 : decode cX11_laysJob 10 = .ok (.imul, 1) := by decide +kernel
theorem dX11_laysJob_11 : decode cX11_laysJob 11 = .ok (.iadd, 1) := by decide +kernel
theorem dX11_laysJob_12 : decode cX11_laysJob 12 = .ok (.istore 4, 2) := by decide +kernel
theorem dX11_laysJob_14 : decode cX11_laysJob 14 = .ok (.aload_n 0, 1) := by decide +kernel
theorem dX11_laysJob_15 : decode cX11_laysJob 15 = .ok (.getfield 9, 3) := by decide +kernel
theorem dX11_laysJob_18 : decode cX11_laysJob 18 = .ok (.iload 4, 2) := by decide +kernel
theorem dX11_laysJob_20 : decode cX11_laysJob 20 = .ok (.iconst 0, 1) := by decide +kernel
theorem dX11_laysJob_21 : decode cX11_laysJob 21 = .ok (.iadd, 1) := by decide +kernel
theorem dX11_laysJob_22 : decode cX11_laysJob 22 = .ok (.iload_n 1, 1) := by decide +kernel
theorem dX11_laysJob_23 : decode cX11_laysJob 23 = .ok (.iastore, 1) := by decide +kernel
theorem dX11_laysJob_24 : decode cX11_laysJob 24 = .ok (.aload_n 0, 1) := by decide +kernel
theorem dX11_laysJob_25 : decode cX11_laysJob 25 = .ok (.getfield 9, 3) := by decide +kernel
theorem dX11_laysJob_28 : decode cX11_laysJob 28 = .ok (.iload 4, 2) := by decide +kernel
theorem dX11_laysJob_30 : decode cX11_laysJob 30 = .ok (.iconst 1, 1) := by decide +kernel
theorem dX11_laysJob_31 : decode cX11_laysJob 31 = .ok (.iadd, 1) := by decide +kernel
theorem dX11_laysJob_32 : decode cX11_laysJob 32 = .ok (.iload_n 2, 1) := by decide +kernel
theorem dX11_laysJob_33 : decode cX11_laysJob 33 = .ok (.iastore, 1) := by decide +kernel
theorem dX11_laysJob_34 : decode cX11_laysJob 34 = .ok (.aload_n 0, 1) := by decide +kernel
theorem dX11_laysJob_35 : decode cX11_laysJob 35 = .ok (.getfield 9, 3) := by decide +kernel
theorem dX11_laysJob_38 : decode cX11_laysJob 38 = .ok (.iload 4, 2) := by decide +kernel
theorem dX11_laysJob_40 : decode cX11_laysJob 40 = .ok (.iconst 2, 1) := by decide +kernel
theorem dX11_laysJob_41 : decode cX11_laysJob 41 = .ok (.iadd, 1) := by decide +kernel
theorem dX11_laysJob_42 : decode cX11_laysJob 42 = .ok (.iconst 1, 1) := by decide +kernel
theorem dX11_laysJob_43 : decode cX11_laysJob 43 = .ok (.iastore, 1) := by decide +kernel
theorem dX11_laysJob_44 : decode cX11_laysJob 44 = .ok (.aload_n 0, 1) := by decide +kernel
theorem dX11_laysJob_45 : decode cX11_laysJob 45 = .ok (.getfield 9, 3) := by decide +kernel
theorem dX11_laysJob_48 : decode cX11_laysJob 48 = .ok (.iload 4, 2) := by decide +kernel
theorem dX11_laysJob_50 : decode cX11_laysJob 50 = .ok (.iconst 3, 1) := by decide +kernel
theorem dX11_laysJob_51 : decode cX11_laysJob 51 = .ok (.iadd, 1) := by decide +kernel
theorem dX11_laysJob_52 : decode cX11_laysJob 52 = .ok (.iload_n 3, 1) := by decide +kernel
theorem dX11_laysJob_53 : decode cX11_laysJob 53 = .ok (.iastore, 1) := by decide +kernel
theorem dX11_laysJob_54 : decode cX11_laysJob 54 = .ok (.aload_n 0, 1) := by decide +kernel
theorem dX11_laysJob_55 : decode cX11_laysJob 55 = .ok (.getfield 9, 3) := by decide +kernel
theorem dX11_laysJob_58 : decode cX11_laysJob 58 = .ok (.iload 4, 2) := by decide +kernel
theorem dX11_laysJob_60 : decode cX11_laysJob 60 = .ok (.iconst 4, 1) := by decide +kernel
theorem dX11_laysJob_61 : decode cX11_laysJob 61 = .ok (.iadd, 1) := by decide +kernel
theorem dX11_laysJob_62 : decode cX11_laysJob 62 = .ok (.iconst 0, 1) := by decide +kernel
theorem dX11_laysJob_63 : decode cX11_laysJob 63 = .ok (.iastore, 1) := by decide +kernel
theorem dX11_laysJob_64 : decode cX11_laysJob 64 = .ok (.aload_n 0, 1) := by decide +kernel
theorem dX11_laysJob_65 : decode cX11_laysJob 65 = .ok (.getfield 9, 3) := by decide +kernel
theorem dX11_laysJob_68 : decode cX11_laysJob 68 = .ok (.iconst 0, 1) := by decide +kernel
theorem dX11_laysJob_69 : decode cX11_laysJob 69 = .ok (.dup2, 1) := by decide +kernel
theorem dX11_laysJob_70 : decode cX11_laysJob 70 = .ok (.iaload, 1) := by decide +kernel
theorem dX11_laysJob_71 : decode cX11_laysJob 71 = .ok (.iconst 1, 1) := by decide +kernel
theorem dX11_laysJob_72 : decode cX11_laysJob 72 = .ok (.iadd, 1) := by decide +kernel
theorem dX11_laysJob_73 : decode cX11_laysJob 73 = .ok (.iastore, 1) := by decide +kernel
theorem dX11_laysJob_74 : decode cX11_laysJob 74 = .ok (.return_, 1) := by decide +kernel
theorem dX11_laysStep_0 : decode cX11_laysStep 0 = .ok (.aload_n 0, 1) := by decide +kernel
theorem dX11_laysStep_1 : decode cX11_laysStep 1 = .ok (.iload_n 1, 1) := by decide +kernel
theorem dX11_laysStep_2 : decode cX11_laysStep 2 = .ok (.iconst 4, 1) := by decide +kernel
theorem dX11_laysStep_3 : decode cX11_laysStep 3 = .ok (.invokevirtual 73, 3) := by decide +kernel
theorem dX11_laysStep_6 : decode cX11_laysStep 6 = .ok (.istore 4, 2) := by decide +kernel
theorem dX11_laysStep_8 : decode cX11_laysStep 8 = .ok (.bipush 61, 2) := by decide +kernel
theorem dX11_laysStep_10 : decode cX11_laysStep 10 = .ok (.iload_n 1, 1) := by decide +kernel
theorem dX11_laysStep_11 : decode cX11_laysStep 11 = .ok (.bipush 15, 2) := by decide +kernel
theorem dX11_laysStep_13 : decode cX11_laysStep 13 = .ok (.imul, 1) := by decide +kernel
theorem dX11_laysStep_14 : decode cX11_laysStep 14 = .ok (.iadd, 1) := by decide +kernel
theorem dX11_laysStep_15 : decode cX11_laysStep 15 = .ok (.istore 5, 2) := by decide +kernel
theorem dX11_laysStep_17 : decode cX11_laysStep 17 = .ok (.aload_n 0, 1) := by decide +kernel
theorem dX11_laysStep_18 : decode cX11_laysStep 18 = .ok (.getfield 9, 3) := by decide +kernel
theorem dX11_laysStep_21 : decode cX11_laysStep 21 = .ok (.iload 5, 2) := by decide +kernel
theorem dX11_laysStep_23 : decode cX11_laysStep 23 = .ok (.iconst 5, 1) := by decide +kernel
theorem dX11_laysStep_24 : decode cX11_laysStep 24 = .ok (.iadd, 1) := by decide +kernel
theorem dX11_laysStep_25 : decode cX11_laysStep 25 = .ok (.iconst 2, 1) := by decide +kernel
theorem dX11_laysStep_26 : decode cX11_laysStep 26 = .ok (.iload 4, 2) := by decide +kernel
theorem dX11_laysStep_28 : decode cX11_laysStep 28 = .ok (.imul, 1) := by decide +kernel
theorem dX11_laysStep_29 : decode cX11_laysStep 29 = .ok (.iadd, 1) := by decide +kernel
theorem dX11_laysStep_30 : decode cX11_laysStep 30 = .ok (.iload_n 2, 1) := by decide +kernel
theorem dX11_laysStep_31 : decode cX11_laysStep 31 = .ok (.iastore, 1) := by decide +kernel
theorem dX11_laysStep_32 : decode cX11_laysStep 32 = .ok (.aload_n 0, 1) := by decide +kernel
theorem dX11_laysStep_33 : decode cX11_laysStep 33 = .ok (.getfield 9, 3) := by decide +kernel
theorem dX11_laysStep_36 : decode cX11_laysStep 36 = .ok (.iload 5, 2) := by decide +kernel
theorem dX11_laysStep_38 : decode cX11_laysStep 38 = .ok (.iconst 5, 1) := by decide +kernel
theorem dX11_laysStep_39 : decode cX11_laysStep 39 = .ok (.iadd, 1) := by decide +kernel
theorem dX11_laysStep_40 : decode cX11_laysStep 40 = .ok (.iconst 2, 1) := by decide +kernel
theorem dX11_laysStep_41 : decode cX11_laysStep 41 = .ok (.iload 4, 2) := by decide +kernel
theorem dX11_laysStep_43 : decode cX11_laysStep 43 = .ok (.imul, 1) := by decide +kernel
theorem dX11_laysStep_44 : decode cX11_laysStep 44 = .ok (.iadd, 1) := by decide +kernel
theorem dX11_laysStep_45 : decode cX11_laysStep 45 = .ok (.iconst 1, 1) := by decide +kernel
theorem dX11_laysStep_46 : decode cX11_laysStep 46 = .ok (.iadd, 1) := by decide +kernel
theorem dX11_laysStep_47 : decode cX11_laysStep 47 = .ok (.iload_n 3, 1) := by decide +kernel
theorem dX11_laysStep_48 : decode cX11_laysStep 48 = .ok (.iastore, 1) := by decide +kernel
theorem dX11_laysStep_49 : decode cX11_laysStep 49 = .ok (.aload_n 0, 1) := by decide +kernel
theorem dX11_laysStep_50 : decode cX11_laysStep 50 = .ok (.getfield 9, 3) := by decide +kernel
theorem dX11_laysStep_53 : decode cX11_laysStep 53 = .ok (.iload 5, 2) := by decide +kernel
theorem dX11_laysStep_55 : decode cX11_laysStep 55 = .ok (.iconst 4, 1) := by decide +kernel
theorem dX11_laysStep_56 : decode cX11_laysStep 56 = .ok (.iadd, 1) := by decide +kernel
theorem dX11_laysStep_57 : decode cX11_laysStep 57 = .ok (.dup2, 1) := by decide +kernel
theorem dX11_laysStep_58 : decode cX11_laysStep 58 = .ok (.iaload, 1) := by decide +kernel
theorem dX11_laysStep_59 : decode cX11_laysStep 59 = .ok (.iconst 1, 1) := by decide +kernel
theorem dX11_laysStep_60 : decode cX11_laysStep 60 = .ok (.iadd, 1) := by decide +kernel
theorem dX11_laysStep_61 : decode cX11_laysStep 61 = .ok (.iastore, 1) := by decide +kernel
theorem dX11_laysStep_62 : decode cX11_laysStep 62 = .ok (.iload 4, 2) := by decide +kernel
theorem dX11_laysStep_64 : decode cX11_laysStep 64 = .ok (.ireturn, 1) := by decide +kernel
theorem dX11_of_0 : decode cX11_of 0 = .ok (.aload_n 0, 1) := by decide +kernel
theorem dX11_of_1 : decode cX11_of 1 = .ok (.getfield 9, 3) := by decide +kernel
theorem dX11_of_4 : decode cX11_of 4 = .ok (.bipush 61, 2) := by decide +kernel
theorem dX11_of_6 : decode cX11_of 6 = .ok (.iload_n 1, 1) := by decide +kernel
theorem dX11_of_7 : decode cX11_of 7 = .ok (.bipush 15, 2) := by decide +kernel
theorem dX11_of_9 : decode cX11_of 9 = .ok (.imul, 1) := by decide +kernel
theorem dX11_of_10 : decode cX11_of 10 = .ok (.iadd, 1) := by decide +kernel
theorem dX11_of_11 : decode cX11_of 11 = .ok (.iload_n 2, 1) := by decide +kernel
theorem dX11_of_12 : decode cX11_of 12 = .ok (.iadd, 1) := by decide +kernel
theorem dX11_of_13 : decode cX11_of 13 = .ok (.iaload, 1) := by decide +kernel
theorem dX11_of_14 : decode cX11_of 14 = .ok (.ireturn, 1) := by decide +kernel
theorem dX11_machineOf_0 : decode cX11_machineOf 0 = .ok (.aload_n 0, 1) := by decide +kernel
theorem dX11_machineOf_1 : decode cX11_machineOf 1 = .ok (.iload_n 1, 1) := by decide +kernel
theorem dX11_machineOf_2 : decode cX11_machineOf 2 = .ok (.iconst 5, 1) := by decide +kernel
theorem dX11_machineOf_3 : decode cX11_machineOf 3 = .ok (.iconst 2, 1) := by decide +kernel
theorem dX11_machineOf_4 : decode cX11_machineOf 4 = .ok (.iload_n 2, 1) := by decide +kernel
theorem dX11_machineOf_5 : decode cX11_machineOf 5 = .ok (.imul, 1) := by decide +kernel
theorem dX11_machineOf_6 : decode cX11_machineOf 6 = .ok (.iadd, 1) := by decide +kernel
theorem dX11_machineOf_7 : decode cX11_machineOf 7 = .ok (.invokevirtual 73, 3) := by decide +kernel
theorem dX11_machineOf_10 : decode cX11_machineOf 10 = .ok (.ireturn, 1) := by decide +kernel
theorem dX11_hoursOf_0 : decode cX11_hoursOf 0 = .ok (.aload_n 0, 1) := by decide +kernel
theorem dX11_hoursOf_1 : decode cX11_hoursOf 1 = .ok (.iload_n 1, 1) := by decide +kernel
theorem dX11_hoursOf_2 : decode cX11_hoursOf 2 = .ok (.iconst 5, 1) := by decide +kernel
theorem dX11_hoursOf_3 : decode cX11_hoursOf 3 = .ok (.iconst 2, 1) := by decide +kernel
theorem dX11_hoursOf_4 : decode cX11_hoursOf 4 = .ok (.iload_n 2, 1) := by decide +kernel
theorem dX11_hoursOf_5 : decode cX11_hoursOf 5 = .ok (.imul, 1) := by decide +kernel
theorem dX11_hoursOf_6 : decode cX11_hoursOf 6 = .ok (.iadd, 1) := by decide +kernel
theorem dX11_hoursOf_7 : decode cX11_hoursOf 7 = .ok (.iconst 1, 1) := by decide +kernel
theorem dX11_hoursOf_8 : decode cX11_hoursOf 8 = .ok (.iadd, 1) := by decide +kernel
theorem dX11_hoursOf_9 : decode cX11_hoursOf 9 = .ok (.invokevirtual 73, 3) := by decide +kernel
theorem dX11_hoursOf_12 : decode cX11_hoursOf 12 = .ok (.ireturn, 1) := by decide +kernel
theorem dX11_left_0 : decode cX11_left 0 = .ok (.iconst 0, 1) := by decide +kernel
theorem dX11_left_1 : decode cX11_left 1 = .ok (.istore_n 3, 1) := by decide +kernel
theorem dX11_left_2 : decode cX11_left 2 = .ok (.iload_n 2, 1) := by decide +kernel
theorem dX11_left_3 : decode cX11_left 3 = .ok (.istore 4, 2) := by decide +kernel
theorem dX11_left_5 : decode cX11_left 5 = .ok (.iload 4, 2) := by decide +kernel
theorem dX11_left_7 : decode cX11_left 7 = .ok (.aload_n 0, 1) := by decide +kernel
theorem dX11_left_8 : decode cX11_left 8 = .ok (.iload_n 1, 1) := by decide +kernel
theorem dX11_left_9 : decode cX11_left 9 = .ok (.iconst 4, 1) := by decide +kernel
theorem dX11_left_10 : decode cX11_left 10 = .ok (.invokevirtual 73, 3) := by decide +kernel
theorem dX11_left_13 : decode cX11_left 13 = .ok (.if_icmp .ge 19, 3) := by decide +kernel
theorem dX11_left_16 : decode cX11_left 16 = .ok (.iload_n 3, 1) := by decide +kernel
theorem dX11_left_17 : decode cX11_left 17 = .ok (.aload_n 0, 1) := by decide +kernel
theorem dX11_left_18 : decode cX11_left 18 = .ok (.iload_n 1, 1) := by decide +kernel
theorem dX11_left_19 : decode cX11_left 19 = .ok (.iload 4, 2) := by decide +kernel
theorem dX11_left_21 : decode cX11_left 21 = .ok (.invokevirtual 77, 3) := by decide +kernel
theorem dX11_left_24 : decode cX11_left 24 = .ok (.iadd, 1) := by decide +kernel
theorem dX11_left_25 : decode cX11_left 25 = .ok (.istore_n 3, 1) := by decide +kernel
theorem dX11_left_26 : decode cX11_left 26 = .ok (.iinc 4 1, 3) := by decide +kernel
theorem dX11_left_29 : decode cX11_left 29 = .ok (.goto (-24), 3) := by decide +kernel
theorem dX11_left_32 : decode cX11_left 32 = .ok (.iload_n 3, 1) := by decide +kernel
theorem dX11_left_33 : decode cX11_left 33 = .ok (.ireturn, 1) := by decide +kernel
theorem dX11_length_0 : decode cX11_length 0 = .ok (.aload_n 0, 1) := by decide +kernel
theorem dX11_length_1 : decode cX11_length 1 = .ok (.iload_n 1, 1) := by decide +kernel
theorem dX11_length_2 : decode cX11_length 2 = .ok (.iconst 0, 1) := by decide +kernel
theorem dX11_length_3 : decode cX11_length 3 = .ok (.invokevirtual 80, 3) := by decide +kernel
theorem dX11_length_6 : decode cX11_length 6 = .ok (.ireturn, 1) := by decide +kernel
theorem dX11_allSteps_0 : decode cX11_allSteps 0 = .ok (.iconst 0, 1) := by decide +kernel
theorem dX11_allSteps_1 : decode cX11_allSteps 1 = .ok (.istore_n 1, 1) := by decide +kernel
theorem dX11_allSteps_2 : decode cX11_allSteps 2 = .ok (.iconst 0, 1) := by decide +kernel
theorem dX11_allSteps_3 : decode cX11_allSteps 3 = .ok (.istore_n 2, 1) := by decide +kernel
theorem dX11_allSteps_4 : decode cX11_allSteps 4 = .ok (.iload_n 2, 1) := by decide +kernel
theorem dX11_allSteps_5 : decode cX11_allSteps 5 = .ok (.aload_n 0, 1) := by decide +kernel
theorem dX11_allSteps_6 : decode cX11_allSteps 6 = .ok (.getfield 9, 3) := by decide +kernel
theorem dX11_allSteps_9 : decode cX11_allSteps 9 = .ok (.iconst 0, 1) := by decide +kernel
theorem dX11_allSteps_10 : decode cX11_allSteps 10 = .ok (.iaload, 1) := by decide +kernel
theorem dX11_allSteps_11 : decode cX11_allSteps 11 = .ok (.if_icmp .ge 18, 3) := by decide +kernel
theorem dX11_allSteps_14 : decode cX11_allSteps 14 = .ok (.iload_n 1, 1) := by decide +kernel
theorem dX11_allSteps_15 : decode cX11_allSteps 15 = .ok (.aload_n 0, 1) := by decide +kernel
theorem dX11_allSteps_16 : decode cX11_allSteps 16 = .ok (.iload_n 2, 1) := by decide +kernel
theorem dX11_allSteps_17 : decode cX11_allSteps 17 = .ok (.iconst 4, 1) := by decide +kernel
theorem dX11_allSteps_18 : decode cX11_allSteps 18 = .ok (.invokevirtual 73, 3) := by decide +kernel
theorem dX11_allSteps_21 : decode cX11_allSteps 21 = .ok (.iadd, 1) := by decide +kernel
theorem dX11_allSteps_22 : decode cX11_allSteps 22 = .ok (.istore_n 1, 1) := by decide +kernel
theorem dX11_allSteps_23 : decode cX11_allSteps 23 = .ok (.iinc 2 1, 3) := by decide +kernel
theorem dX11_allSteps_26 : decode cX11_allSteps 26 = .ok (.goto (-22), 3) := by decide +kernel
theorem dX11_allSteps_29 : decode cX11_allSteps 29 = .ok (.iload_n 1, 1) := by decide +kernel
theorem dX11_allSteps_30 : decode cX11_allSteps 30 = .ok (.ireturn, 1) := by decide +kernel
theorem dX11_isJob_0 : decode cX11_isJob 0 = .ok (.iload_n 1, 1) := by decide +kernel
theorem dX11_isJob_1 : decode cX11_isJob 1 = .ok (.iconst 0, 1) := by decide +kernel
theorem dX11_isJob_2 : decode cX11_isJob 2 = .ok (.aload_n 0, 1) := by decide +kernel
theorem dX11_isJob_3 : decode cX11_isJob 3 = .ok (.getfield 9, 3) := by decide +kernel
theorem dX11_isJob_6 : decode cX11_isJob 6 = .ok (.iconst 0, 1) := by decide +kernel
theorem dX11_isJob_7 : decode cX11_isJob 7 = .ok (.iaload, 1) := by decide +kernel
theorem dX11_isJob_8 : decode cX11_isJob 8 = .ok (.iconst 1, 1) := by decide +kernel
theorem dX11_isJob_9 : decode cX11_isJob 9 = .ok (.isub, 1) := by decide +kernel
theorem dX11_isJob_10 : decode cX11_isJob 10 = .ok (.invokestatic 83, 3) := by decide +kernel
theorem dX11_isJob_13 : decode cX11_isJob 13 = .ok (.ireturn, 1) := by decide +kernel
theorem dX11_isStep_0 : decode cX11_isStep 0 = .ok (.aload_n 0, 1) := by decide +kernel
theorem dX11_isStep_1 : decode cX11_isStep 1 = .ok (.iload_n 1, 1) := by decide +kernel
theorem dX11_isStep_2 : decode cX11_isStep 2 = .ok (.invokevirtual 87, 3) := by decide +kernel
theorem dX11_isStep_5 : decode cX11_isStep 5 = .ok (.ifCond .eq 23, 3) := by decide +kernel
theorem dX11_isStep_8 : decode cX11_isStep 8 = .ok (.iload_n 2, 1) := by decide +kernel
theorem dX11_isStep_9 : decode cX11_isStep 9 = .ok (.iconst 0, 1) := by decide +kernel
theorem dX11_isStep_10 : decode cX11_isStep 10 = .ok (.aload_n 0, 1) := by decide +kernel
theorem dX11_isStep_11 : decode cX11_isStep 11 = .ok (.iload_n 1, 1) := by decide +kernel
theorem dX11_isStep_12 : decode cX11_isStep 12 = .ok (.iconst 4, 1) := by decide +kernel
theorem dX11_isStep_13 : decode cX11_isStep 13 = .ok (.invokevirtual 73, 3) := by decide +kernel
theorem dX11_isStep_16 : decode cX11_isStep 16 = .ok (.iconst 1, 1) := by decide +kernel
theorem dX11_isStep_17 : decode cX11_isStep 17 = .ok (.isub, 1) := by decide +kernel
theorem dX11_isStep_18 : decode cX11_isStep 18 = .ok (.invokestatic 83, 3) := by decide +kernel
theorem dX11_isStep_21 : decode cX11_isStep 21 = .ok (.ifCond .eq 7, 3) := by decide +kernel
theorem dX11_isStep_24 : decode cX11_isStep 24 = .ok (.iconst 1, 1) := by decide +kernel
theorem dX11_isStep_25 : decode cX11_isStep 25 = .ok (.goto 4, 3) := by decide +kernel
theorem dX11_isStep_28 : decode cX11_isStep 28 = .ok (.iconst 0, 1) := by decide +kernel
theorem dX11_isStep_29 : decode cX11_isStep 29 = .ok (.ireturn, 1) := by decide +kernel
theorem dX11_hasPlan_0 : decode cX11_hasPlan 0 = .ok (.aload_n 0, 1) := by decide +kernel
theorem dX11_hasPlan_1 : decode cX11_hasPlan 1 = .ok (.getfield 9, 3) := by decide +kernel
theorem dX11_hasPlan_4 : decode cX11_hasPlan 4 = .ok (.sipush 151, 3) := by decide +kernel
theorem dX11_hasPlan_7 : decode cX11_hasPlan 7 = .ok (.iaload, 1) := by decide +kernel
theorem dX11_hasPlan_8 : decode cX11_hasPlan 8 = .ok (.iconst 1, 1) := by decide +kernel
theorem dX11_hasPlan_9 : decode cX11_hasPlan 9 = .ok (.if_icmp .ne 7, 3) := by decide +kernel
theorem dX11_hasPlan_12 : decode cX11_hasPlan 12 = .ok (.iconst 1, 1) := by decide +kernel
theorem dX11_hasPlan_13 : decode cX11_hasPlan 13 = .ok (.goto 4, 3) := by decide +kernel
theorem dX11_hasPlan_16 : decode cX11_hasPlan 16 = .ok (.iconst 0, 1) := by decide +kernel
theorem dX11_hasPlan_17 : decode cX11_hasPlan 17 = .ok (.ireturn, 1) := by decide +kernel
theorem dX11_startsPlan_0 : decode cX11_startsPlan 0 = .ok (.iconst 0, 1) := by decide +kernel
theorem dX11_startsPlan_1 : decode cX11_startsPlan 1 = .ok (.istore_n 1, 1) := by decide +kernel
theorem dX11_startsPlan_2 : decode cX11_startsPlan 2 = .ok (.iload_n 1, 1) := by decide +kernel
theorem dX11_startsPlan_3 : decode cX11_startsPlan 3 = .ok (.bipush 6, 2) := by decide +kernel
theorem dX11_startsPlan_5 : decode cX11_startsPlan 5 = .ok (.if_icmp .ge 42, 3) := by decide +kernel
theorem dX11_startsPlan_8 : decode cX11_startsPlan 8 = .ok (.aload_n 0, 1) := by decide +kernel
theorem dX11_startsPlan_9 : decode cX11_startsPlan 9 = .ok (.getfield 19, 3) := by decide +kernel
theorem dX11_startsPlan_12 : decode cX11_startsPlan 12 = .ok (.iload_n 1, 1) := by decide +kernel
theorem dX11_startsPlan_13 : decode cX11_startsPlan 13 = .ok (.iconst 0, 1) := by decide +kernel
theorem dX11_startsPlan_14 : decode cX11_startsPlan 14 = .ok (.iastore, 1) := by decide +kernel
theorem dX11_startsPlan_15 : decode cX11_startsPlan 15 = .ok (.aload_n 0, 1) := by decide +kernel
theorem dX11_startsPlan_16 : decode cX11_startsPlan 16 = .ok (.getfield 22, 3) := by decide +kernel
theorem dX11_startsPlan_19 : decode cX11_startsPlan 19 = .ok (.iload_n 1, 1) := by decide +kernel
theorem dX11_startsPlan_20 : decode cX11_startsPlan 20 = .ok (.iload_n 1, 1) := by decide +kernel
theorem dX11_startsPlan_21 : decode cX11_startsPlan 21 = .ok (.aload_n 0, 1) := by decide +kernel
theorem dX11_startsPlan_22 : decode cX11_startsPlan 22 = .ok (.getfield 9, 3) := by decide +kernel
theorem dX11_startsPlan_25 : decode cX11_startsPlan 25 = .ok (.iconst 0, 1) := by decide +kernel
theorem dX11_startsPlan_26 : decode cX11_startsPlan 26 = .ok (.iaload, 1) := by decide +kernel
theorem dX11_startsPlan_27 : decode cX11_startsPlan 27 = .ok (.if_icmp .ge 12, 3) := by decide +kernel
theorem dX11_startsPlan_30 : decode cX11_startsPlan 30 = .ok (.aload_n 0, 1) := by decide +kernel
theorem dX11_startsPlan_31 : decode cX11_startsPlan 31 = .ok (.iload_n 1, 1) := by decide +kernel
theorem dX11_startsPlan_32 : decode cX11_startsPlan 32 = .ok (.iconst 0, 1) := by decide +kernel
theorem dX11_startsPlan_33 : decode cX11_startsPlan 33 = .ok (.invokevirtual 73, 3) := by decide +kernel
theorem dX11_startsPlan_36 : decode cX11_startsPlan 36 = .ok (.goto 4, 3) := by decide +kernel
theorem dX11_startsPlan_39 : decode cX11_startsPlan 39 = .ok (.iconst 0, 1) := by decide +kernel
theorem dX11_startsPlan_40 : decode cX11_startsPlan 40 = .ok (.iastore, 1) := by decide +kernel
theorem dX11_startsPlan_41 : decode cX11_startsPlan 41 = .ok (.iinc 1 1, 3) := by decide +kernel
theorem dX11_startsPlan_44 : decode cX11_startsPlan 44 = .ok (.goto (-42), 3) := by decide +kernel
theorem dX11_startsPlan_47 : decode cX11_startsPlan 47 = .ok (.iconst 0, 1) := by decide +kernel
theorem dX11_startsPlan_48 : decode cX11_startsPlan 48 = .ok (.istore_n 1, 1) := by decide +kernel
theorem dX11_startsPlan_49 : decode cX11_startsPlan 49 = .ok (.iload_n 1, 1) := by decide +kernel
theorem dX11_startsPlan_50 : decode cX11_startsPlan 50 = .ok (.iconst 4, 1) := by decide +kernel
theorem dX11_startsPlan_51 : decode cX11_startsPlan 51 = .ok (.if_icmp .ge 37, 3) := by decide +kernel
theorem dX11_startsPlan_54 : decode cX11_startsPlan 54 = .ok (.aload_n 0, 1) := by decide +kernel
theorem dX11_startsPlan_55 : decode cX11_startsPlan 55 = .ok (.getfield 25, 3) := by decide +kernel
theorem dX11_startsPlan_58 : decode cX11_startsPlan 58 = .ok (.iload_n 1, 1) := by decide +kernel
theorem dX11_startsPlan_59 : decode cX11_startsPlan 59 = .ok (.iconst (-1), 1) := by decide +kernel
theorem dX11_startsPlan_60 : decode cX11_startsPlan 60 = .ok (.iastore, 1) := by decide +kernel
theorem dX11_startsPlan_61 : decode cX11_startsPlan 61 = .ok (.aload_n 0, 1) := by decide +kernel
theorem dX11_startsPlan_62 : decode cX11_startsPlan 62 = .ok (.getfield 28, 3) := by decide +kernel
theorem dX11_startsPlan_65 : decode cX11_startsPlan 65 = .ok (.iload_n 1, 1) := by decide +kernel
theorem dX11_startsPlan_66 : decode cX11_startsPlan 66 = .ok (.iconst 0, 1) := by decide +kernel
theorem dX11_startsPlan_67 : decode cX11_startsPlan 67 = .ok (.iastore, 1) := by decide +kernel
theorem dX11_startsPlan_68 : decode cX11_startsPlan 68 = .ok (.aload_n 0, 1) := by decide +kernel
theorem dX11_startsPlan_69 : decode cX11_startsPlan 69 = .ok (.getfield 31, 3) := by decide +kernel
theorem dX11_startsPlan_72 : decode cX11_startsPlan 72 = .ok (.iload_n 1, 1) := by decide +kernel
theorem dX11_startsPlan_73 : decode cX11_startsPlan 73 = .ok (.iconst 0, 1) := by decide +kernel
theorem dX11_startsPlan_74 : decode cX11_startsPlan 74 = .ok (.iastore, 1) := by decide +kernel
theorem dX11_startsPlan_75 : decode cX11_startsPlan 75 = .ok (.aload_n 0, 1) := by decide +kernel
theorem dX11_startsPlan_76 : decode cX11_startsPlan 76 = .ok (.getfield 34, 3) := by decide +kernel
theorem dX11_startsPlan_79 : decode cX11_startsPlan 79 = .ok (.iload_n 1, 1) := by decide +kernel
theorem dX11_startsPlan_80 : decode cX11_startsPlan 80 = .ok (.iconst 0, 1) := by decide +kernel
theorem dX11_startsPlan_81 : decode cX11_startsPlan 81 = .ok (.iastore, 1) := by decide +kernel
theorem dX11_startsPlan_82 : decode cX11_startsPlan 82 = .ok (.iinc 1 1, 3) := by decide +kernel
theorem dX11_startsPlan_85 : decode cX11_startsPlan 85 = .ok (.goto (-36), 3) := by decide +kernel
theorem dX11_startsPlan_88 : decode cX11_startsPlan 88 = .ok (.return_, 1) := by decide +kernel
theorem dX11_open_0 : decode cX11_open 0 = .ok (.iload_n 2, 1) := by decide +kernel
theorem dX11_open_1 : decode cX11_open 1 = .ok (.istore 4, 2) := by decide +kernel
theorem dX11_open_3 : decode cX11_open 3 = .ok (.iconst 1, 1) := by decide +kernel
theorem dX11_open_4 : decode cX11_open 4 = .ok (.istore 5, 2) := by decide +kernel
theorem dX11_open_6 : decode cX11_open 6 = .ok (.iload 5, 2) := by decide +kernel
theorem dX11_open_8 : decode cX11_open 8 = .ok (.ifCond .eq 94, 3) := by decide +kernel
theorem dX11_open_11 : decode cX11_open 11 = .ok (.iconst 0, 1) := by decide +kernel
theorem dX11_open_12 : decode cX11_open 12 = .ok (.istore 5, 2) := by decide +kernel
theorem dX11_open_14 : decode cX11_open 14 = .ok (.iconst 0, 1) := by decide +kernel
theorem dX11_open_15 : decode cX11_open 15 = .ok (.istore 6, 2) := by decide +kernel
theorem dX11_open_17 : decode cX11_open 17 = .ok (.iload 6, 2) := by decide +kernel
theorem dX11_open_19 : decode cX11_open 19 = .ok (.aload_n 0, 1) := by decide +kernel
theorem dX11_open_20 : decode cX11_open 20 = .ok (.getfield 9, 3) := by decide +kernel
theorem dX11_open_23 : decode cX11_open 23 = .ok (.iconst 1, 1) := by decide +kernel
theorem dX11_open_24 : decode cX11_open 24 = .ok (.iload_n 1, 1) := by decide +kernel
theorem dX11_open_25 : decode cX11_open 25 = .ok (.bipush 11, 2) := by decide +kernel
theorem dX11_open_27 : decode cX11_open 27 = .ok (.imul, 1) := by decide +kernel
theorem dX11_open_28 : decode cX11_open 28 = .ok (.iadd, 1) := by decide +kernel
theorem dX11_open_29 : decode cX11_open 29 = .ok (.iaload, 1) := by decide +kernel
theorem dX11_open_30 : decode cX11_open 30 = .ok (.if_icmp .ge 69, 3) := by decide +kernel
theorem dX11_open_33 : decode cX11_open 33 = .ok (.iconst 1, 1) := by decide +kernel
theorem dX11_open_34 : decode cX11_open 34 = .ok (.iload_n 1, 1) := by decide +kernel
theorem dX11_open_35 : decode cX11_open 35 = .ok (.bipush 11, 2) := by decide +kernel
theorem dX11_open_37 : decode cX11_open 37 = .ok (.imul, 1) := by decide +kernel
theorem dX11_open_38 : decode cX11_open 38 = .ok (.iadd, 1) := by decide +kernel
theorem dX11_open_39 : decode cX11_open 39 = .ok (.iconst 1, 1) := by decide +kernel
theorem dX11_open_40 : decode cX11_open 40 = .ok (.iadd, 1) := by decide +kernel
theorem dX11_open_41 : decode cX11_open 41 = .ok (.iconst 2, 1) := by decide +kernel
theorem dX11_open_42 : decode cX11_open 42 = .ok (.iload 6, 2) := by decide +kernel
theorem dX11_open_44 : decode cX11_open 44 = .ok (.imul, 1) := by decide +kernel
theorem dX11_open_45 : decode cX11_open 45 = .ok (.iadd, 1) := by decide +kernel
theorem dX11_open_46 : decode cX11_open 46 = .ok (.istore 7, 2) := by decide +kernel
theorem dX11_open_48 : decode cX11_open 48 = .ok (.iload 4, 2) := by decide +kernel
theorem dX11_open_50 : decode cX11_open 50 = .ok (.aload_n 0, 1) := by decide +kernel
theorem dX11_open_51 : decode cX11_open 51 = .ok (.getfield 9, 3) := by decide +kernel
theorem dX11_open_54 : decode cX11_open 54 = .ok (.iload 7, 2) := by decide +kernel
theorem dX11_open_56 : decode cX11_open 56 = .ok (.iconst 1, 1) := by decide +kernel
theorem dX11_open_57 : decode cX11_open 57 = .ok (.iadd, 1) := by decide +kernel
theorem dX11_open_58 : decode cX11_open 58 = .ok (.iaload, 1) := by decide +kernel
theorem dX11_open_59 : decode cX11_open 59 = .ok (.if_icmp .ge 34, 3) := by decide +kernel
theorem dX11_open_62 : decode cX11_open 62 = .ok (.iload 4, 2) := by decide +kernel
theorem dX11_open_64 : decode cX11_open 64 = .ok (.iload_n 3, 1) := by decide +kernel
theorem dX11_open_65 : decode cX11_open 65 = .ok (.iadd, 1) := by decide +kernel
theorem dX11_open_66 : decode cX11_open 66 = .ok (.aload_n 0, 1) := by decide +kernel
theorem dX11_open_67 : decode cX11_open 67 = .ok (.getfield 9, 3) := by decide +kernel
theorem dX11_open_70 : decode cX11_open 70 = .ok (.iload 7, 2) := by decide +kernel
theorem dX11_open_72 : decode cX11_open 72 = .ok (.iaload, 1) := by decide +kernel
theorem dX11_open_73 : decode cX11_open 73 = .ok (.if_icmp .gt 6, 3) := by decide +kernel
theorem dX11_open_76 : decode cX11_open 76 = .ok (.goto 17, 3) := by decide +kernel
theorem dX11_open_79 : decode cX11_open 79 = .ok (.aload_n 0, 1) := by decide +kernel
theorem dX11_open_80 : decode cX11_open 80 = .ok (.getfield 9, 3) := by decide +kernel
theorem dX11_open_83 : decode cX11_open 83 = .ok (.iload 7, 2) := by decide +kernel
theorem dX11_open_85 : decode cX11_open 85 = .ok (.iconst 1, 1) := by decide +kernel
theorem dX11_open_86 : decode cX11_open 86 = .ok (.iadd, 1) := by decide +kernel
theorem dX11_open_87 : decode cX11_open 87 = .ok (.iaload, 1) := by decide +kernel
theorem dX11_open_88 : decode cX11_open 88 = .ok (.istore 4, 2) := by decide +kernel
theorem dX11_open_90 : decode cX11_open 90 = .ok (.iconst 1, 1) := by decide +kernel
theorem dX11_open_91 : decode cX11_open 91 = .ok (.istore 5, 2) := by decide +kernel
theorem dX11_open_93 : decode cX11_open 93 = .ok (.iinc 6 1, 3) := by decide +kernel
theorem dX11_open_96 : decode cX11_open 96 = .ok (.goto (-79), 3) := by decide +kernel
theorem dX11_open_99 : decode cX11_open 99 = .ok (.goto (-93), 3) := by decide +kernel
theorem dX11_open_102 : decode cX11_open 102 = .ok (.iload 4, 2) := by decide +kernel
theorem dX11_open_104 : decode cX11_open 104 = .ok (.ireturn, 1) := by decide +kernel
theorem dX11_isChanged_0 : decode cX11_isChanged 0 = .ok (.aload_n 0, 1) := by decide +kernel
theorem dX11_isChanged_1 : decode cX11_isChanged 1 = .ok (.getfield 9, 3) := by decide +kernel
theorem dX11_isChanged_4 : decode cX11_isChanged 4 = .ok (.iconst 1, 1) := by decide +kernel
theorem dX11_isChanged_5 : decode cX11_isChanged 5 = .ok (.iload_n 1, 1) := by decide +kernel
theorem dX11_isChanged_6 : decode cX11_isChanged 6 = .ok (.bipush 11, 2) := by decide +kernel
theorem dX11_isChanged_8 : decode cX11_isChanged 8 = .ok (.imul, 1) := by decide +kernel
theorem dX11_isChanged_9 : decode cX11_isChanged 9 = .ok (.iadd, 1) := by decide +kernel
theorem dX11_isChanged_10 : decode cX11_isChanged 10 = .ok (.bipush 9, 2) := by decide +kernel
theorem dX11_isChanged_12 : decode cX11_isChanged 12 = .ok (.iadd, 1) := by decide +kernel
theorem dX11_isChanged_13 : decode cX11_isChanged 13 = .ok (.iaload, 1) := by decide +kernel
theorem dX11_isChanged_14 : decode cX11_isChanged 14 = .ok (.istore_n 3, 1) := by decide +kernel
theorem dX11_isChanged_15 : decode cX11_isChanged 15 = .ok (.aload_n 0, 1) := by decide +kernel
theorem dX11_isChanged_16 : decode cX11_isChanged 16 = .ok (.getfield 25, 3) := by decide +kernel
theorem dX11_isChanged_19 : decode cX11_isChanged 19 = .ok (.iload_n 1, 1) := by decide +kernel
theorem dX11_isChanged_20 : decode cX11_isChanged 20 = .ok (.iaload, 1) := by decide +kernel
theorem dX11_isChanged_21 : decode cX11_isChanged 21 = .ok (.iconst (-1), 1) := by decide +kernel
theorem dX11_isChanged_22 : decode cX11_isChanged 22 = .ok (.if_icmp .eq 23, 3) := by decide +kernel
theorem dX11_isChanged_25 : decode cX11_isChanged 25 = .ok (.iload_n 3, 1) := by decide +kernel
theorem dX11_isChanged_26 : decode cX11_isChanged 26 = .ok (.ifCond .le 19, 3) := by decide +kernel
theorem dX11_isChanged_29 : decode cX11_isChanged 29 = .ok (.aload_n 0, 1) := by decide +kernel
theorem dX11_isChanged_30 : decode cX11_isChanged 30 = .ok (.getfield 31, 3) := by decide +kernel
theorem dX11_isChanged_33 : decode cX11_isChanged 33 = .ok (.iload_n 1, 1) := by decide +kernel
theorem dX11_isChanged_34 : decode cX11_isChanged 34 = .ok (.iaload, 1) := by decide +kernel
theorem dX11_isChanged_35 : decode cX11_isChanged 35 = .ok (.iload_n 2, 1) := by decide +kernel
theorem dX11_isChanged_36 : decode cX11_isChanged 36 = .ok (.iadd, 1) := by decide +kernel
theorem dX11_isChanged_37 : decode cX11_isChanged 37 = .ok (.iload_n 3, 1) := by decide +kernel
theorem dX11_isChanged_38 : decode cX11_isChanged 38 = .ok (.if_icmp .le 7, 3) := by decide +kernel
theorem dX11_isChanged_41 : decode cX11_isChanged 41 = .ok (.iconst 1, 1) := by decide +kernel
theorem dX11_isChanged_42 : decode cX11_isChanged 42 = .ok (.goto 4, 3) := by decide +kernel
theorem dX11_isChanged_45 : decode cX11_isChanged 45 = .ok (.iconst 0, 1) := by decide +kernel
theorem dX11_isChanged_46 : decode cX11_isChanged 46 = .ok (.ireturn, 1) := by decide +kernel
theorem dX11_between_0 : decode cX11_between 0 = .ok (.aload_n 0, 1) := by decide +kernel
theorem dX11_between_1 : decode cX11_between 1 = .ok (.getfield 25, 3) := by decide +kernel
theorem dX11_between_4 : decode cX11_between 4 = .ok (.iload_n 1, 1) := by decide +kernel
theorem dX11_between_5 : decode cX11_between 5 = .ok (.iaload, 1) := by decide +kernel
theorem dX11_between_6 : decode cX11_between 6 = .ok (.iconst (-1), 1) := by decide +kernel
theorem dX11_between_7 : decode cX11_between 7 = .ok (.if_icmp .ne 5, 3) := by decide +kernel
theorem dX11_between_10 : decode cX11_between 10 = .ok (.iconst 0, 1) := by decide +kernel
theorem dX11_between_11 : decode cX11_between 11 = .ok (.ireturn, 1) := by decide +kernel
theorem dX11_between_12 : decode cX11_between 12 = .ok (.aload_n 0, 1) := by decide +kernel
theorem dX11_between_13 : decode cX11_between 13 = .ok (.getfield 9, 3) := by decide +kernel
theorem dX11_between_16 : decode cX11_between 16 = .ok (.bipush 45, 2) := by decide +kernel
theorem dX11_between_18 : decode cX11_between 18 = .ok (.iconst 4, 1) := by decide +kernel
theorem dX11_between_19 : decode cX11_between 19 = .ok (.aload_n 0, 1) := by decide +kernel
theorem dX11_between_20 : decode cX11_between 20 = .ok (.aload_n 0, 1) := by decide +kernel
theorem dX11_between_21 : decode cX11_between 21 = .ok (.getfield 25, 3) := by decide +kernel
theorem dX11_between_24 : decode cX11_between 24 = .ok (.iload_n 1, 1) := by decide +kernel
theorem dX11_between_25 : decode cX11_between 25 = .ok (.iaload, 1) := by decide +kernel
theorem dX11_between_26 : decode cX11_between 26 = .ok (.bipush 10, 2) := by decide +kernel
theorem dX11_between_28 : decode cX11_between 28 = .ok (.idiv, 1) := by decide +kernel
theorem dX11_between_29 : decode cX11_between 29 = .ok (.iconst 3, 1) := by decide +kernel
theorem dX11_between_30 : decode cX11_between 30 = .ok (.invokevirtual 73, 3) := by decide +kernel
theorem dX11_between_33 : decode cX11_between 33 = .ok (.imul, 1) := by decide +kernel
theorem dX11_between_34 : decode cX11_between 34 = .ok (.iadd, 1) := by decide +kernel
theorem dX11_between_35 : decode cX11_between 35 = .ok (.aload_n 0, 1) := by decide +kernel
theorem dX11_between_36 : decode cX11_between 36 = .ok (.iload_n 2, 1) := by decide +kernel
theorem dX11_between_37 : decode cX11_between 37 = .ok (.iconst 3, 1) := by decide +kernel
theorem dX11_between_38 : decode cX11_between 38 = .ok (.invokevirtual 73, 3) := by decide +kernel
theorem dX11_between_41 : decode cX11_between 41 = .ok (.iadd, 1) := by decide +kernel
theorem dX11_between_42 : decode cX11_between 42 = .ok (.iaload, 1) := by decide +kernel
theorem dX11_between_43 : decode cX11_between 43 = .ok (.aload_n 0, 1) := by decide +kernel
theorem dX11_between_44 : decode cX11_between 44 = .ok (.iload_n 1, 1) := by decide +kernel
theorem dX11_between_45 : decode cX11_between 45 = .ok (.iload_n 3, 1) := by decide +kernel
theorem dX11_between_46 : decode cX11_between 46 = .ok (.invokevirtual 91, 3) := by decide +kernel
theorem dX11_between_49 : decode cX11_between 49 = .ok (.ifCond .eq 20, 3) := by decide +kernel
theorem dX11_between_52 : decode cX11_between 52 = .ok (.aload_n 0, 1) := by decide +kernel
theorem dX11_between_53 : decode cX11_between 53 = .ok (.getfield 9, 3) := by decide +kernel
theorem dX11_between_56 : decode cX11_between 56 = .ok (.iconst 1, 1) := by decide +kernel
theorem dX11_between_57 : decode cX11_between 57 = .ok (.iload_n 1, 1) := by decide +kernel
theorem dX11_between_58 : decode cX11_between 58 = .ok (.bipush 11, 2) := by decide +kernel
theorem dX11_between_60 : decode cX11_between 60 = .ok (.imul, 1) := by decide +kernel
theorem dX11_between_61 : decode cX11_between 61 = .ok (.iadd, 1) := by decide +kernel
theorem dX11_between_62 : decode cX11_between 62 = .ok (.bipush 10, 2) := by decide +kernel
theorem dX11_between_64 : decode cX11_between 64 = .ok (.iadd, 1) := by decide +kernel
theorem dX11_between_65 : decode cX11_between 65 = .ok (.iaload, 1) := by decide +kernel
theorem dX11_between_66 : decode cX11_between 66 = .ok (.goto 4, 3) := by decide +kernel
theorem dX11_between_69 : decode cX11_between 69 = .ok (.iconst 0, 1) := by decide +kernel
theorem dX11_between_70 : decode cX11_between 70 = .ok (.iadd, 1) := by decide +kernel
theorem dX11_between_71 : decode cX11_between 71 = .ok (.ireturn, 1) := by decide +kernel
theorem dX11_beginOf_0 : decode cX11_beginOf 0 = .ok (.aload_n 0, 1) := by decide +kernel
theorem dX11_beginOf_1 : decode cX11_beginOf 1 = .ok (.iload_n 1, 1) := by decide +kernel
theorem dX11_beginOf_2 : decode cX11_beginOf 2 = .ok (.aload_n 0, 1) := by decide +kernel
theorem dX11_beginOf_3 : decode cX11_beginOf 3 = .ok (.getfield 19, 3) := by decide +kernel
theorem dX11_beginOf_6 : decode cX11_beginOf 6 = .ok (.iload_n 1, 1) := by decide +kernel
theorem dX11_beginOf_7 : decode cX11_beginOf 7 = .ok (.iaload, 1) := by decide +kernel
theorem dX11_beginOf_8 : decode cX11_beginOf 8 = .ok (.invokevirtual 95, 3) := by decide +kernel
theorem dX11_beginOf_11 : decode cX11_beginOf 11 = .ok (.istore_n 2, 1) := by decide +kernel
theorem dX11_beginOf_12 : decode cX11_beginOf 12 = .ok (.aload_n 0, 1) := by decide +kernel
theorem dX11_beginOf_13 : decode cX11_beginOf 13 = .ok (.iload_n 1, 1) := by decide +kernel
theorem dX11_beginOf_14 : decode cX11_beginOf 14 = .ok (.aload_n 0, 1) := by decide +kernel
theorem dX11_beginOf_15 : decode cX11_beginOf 15 = .ok (.getfield 19, 3) := by decide +kernel
theorem dX11_beginOf_18 : decode cX11_beginOf 18 = .ok (.iload_n 1, 1) := by decide +kernel
theorem dX11_beginOf_19 : decode cX11_beginOf 19 = .ok (.iaload, 1) := by decide +kernel
theorem dX11_beginOf_20 : decode cX11_beginOf 20 = .ok (.invokevirtual 77, 3) := by decide +kernel
theorem dX11_beginOf_23 : decode cX11_beginOf 23 = .ok (.istore_n 3, 1) := by decide +kernel
theorem dX11_beginOf_24 : decode cX11_beginOf 24 = .ok (.aload_n 0, 1) := by decide +kernel
theorem dX11_beginOf_25 : decode cX11_beginOf 25 = .ok (.iload_n 2, 1) := by decide +kernel
theorem dX11_beginOf_26 : decode cX11_beginOf 26 = .ok (.aload_n 0, 1) := by decide +kernel
theorem dX11_beginOf_27 : decode cX11_beginOf 27 = .ok (.getfield 22, 3) := by decide +kernel
theorem dX11_beginOf_30 : decode cX11_beginOf 30 = .ok (.iload_n 1, 1) := by decide +kernel
theorem dX11_beginOf_31 : decode cX11_beginOf 31 = .ok (.iaload, 1) := by decide +kernel
theorem dX11_beginOf_32 : decode cX11_beginOf 32 = .ok (.aload_n 0, 1) := by decide +kernel
theorem dX11_beginOf_33 : decode cX11_beginOf 33 = .ok (.getfield 28, 3) := by decide +kernel
theorem dX11_beginOf_36 : decode cX11_beginOf 36 = .ok (.iload_n 2, 1) := by decide +kernel
theorem dX11_beginOf_37 : decode cX11_beginOf 37 = .ok (.iaload, 1) := by decide +kernel
theorem dX11_beginOf_38 : decode cX11_beginOf 38 = .ok (.aload_n 0, 1) := by decide +kernel
theorem dX11_beginOf_39 : decode cX11_beginOf 39 = .ok (.iload_n 2, 1) := by decide +kernel
theorem dX11_beginOf_40 : decode cX11_beginOf 40 = .ok (.iload_n 1, 1) := by decide +kernel
theorem dX11_beginOf_41 : decode cX11_beginOf 41 = .ok (.iload_n 3, 1) := by decide +kernel
theorem dX11_beginOf_42 : decode cX11_beginOf 42 = .ok (.invokevirtual 98, 3) := by decide +kernel
theorem dX11_beginOf_45 : decode cX11_beginOf 45 = .ok (.iadd, 1) := by decide +kernel
theorem dX11_beginOf_46 : decode cX11_beginOf 46 = .ok (.invokestatic 101, 3) := by decide +kernel
theorem dX11_beginOf_49 : decode cX11_beginOf 49 = .ok (.iload_n 3, 1) := by decide +kernel
theorem dX11_beginOf_50 : decode cX11_beginOf 50 = .ok (.invokevirtual 106, 3) := by decide +kernel
theorem dX11_beginOf_53 : decode cX11_beginOf 53 = .ok (.ireturn, 1) := by decide +kernel
theorem dX11_does_0 : decode cX11_does 0 = .ok (.aload_n 0, 1) := by decide +kernel
theorem dX11_does_1 : decode cX11_does 1 = .ok (.getfield 19, 3) := by decide +kernel
theorem dX11_does_4 : decode cX11_does 4 = .ok (.iload_n 1, 1) := by decide +kernel
theorem dX11_does_5 : decode cX11_does 5 = .ok (.iaload, 1) := by decide +kernel
theorem dX11_does_6 : decode cX11_does 6 = .ok (.istore_n 3, 1) := by decide +kernel
theorem dX11_does_7 : decode cX11_does 7 = .ok (.aload_n 0, 1) := by decide +kernel
theorem dX11_does_8 : decode cX11_does 8 = .ok (.iload_n 1, 1) := by decide +kernel
theorem dX11_does_9 : decode cX11_does 9 = .ok (.iload_n 3, 1) := by decide +kernel
theorem dX11_does_10 : decode cX11_does 10 = .ok (.invokevirtual 95, 3) := by decide +kernel
theorem dX11_does_13 : decode cX11_does 13 = .ok (.istore 4, 2) := by decide +kernel
theorem dX11_does_15 : decode cX11_does 15 = .ok (.aload_n 0, 1) := by decide +kernel
theorem dX11_does_16 : decode cX11_does 16 = .ok (.iload_n 1, 1) := by decide +kernel
theorem dX11_does_17 : decode cX11_does 17 = .ok (.iload_n 3, 1) := by decide +kernel
theorem dX11_does_18 : decode cX11_does 18 = .ok (.invokevirtual 77, 3) := by decide +kernel
theorem dX11_does_21 : decode cX11_does 21 = .ok (.istore 5, 2) := by decide +kernel
theorem dX11_does_23 : decode cX11_does 23 = .ok (.aload_n 0, 1) := by decide +kernel
theorem dX11_does_24 : decode cX11_does 24 = .ok (.getfield 31, 3) := by decide +kernel
theorem dX11_does_27 : decode cX11_does 27 = .ok (.iload 4, 2) := by decide +kernel
theorem dX11_does_29 : decode cX11_does 29 = .ok (.aload_n 0, 1) := by decide +kernel
theorem dX11_does_30 : decode cX11_does 30 = .ok (.iload 4, 2) := by decide +kernel
theorem dX11_does_32 : decode cX11_does 32 = .ok (.iload 5, 2) := by decide +kernel
theorem dX11_does_34 : decode cX11_does 34 = .ok (.invokevirtual 91, 3) := by decide +kernel
theorem dX11_does_37 : decode cX11_does 37 = .ok (.ifCond .eq 8, 3) := by decide +kernel
theorem dX11_does_40 : decode cX11_does 40 = .ok (.iload 5, 2) := by decide +kernel
theorem dX11_does_42 : decode cX11_does 42 = .ok (.goto 13, 3) := by decide +kernel
theorem dX11_does_45 : decode cX11_does 45 = .ok (.aload_n 0, 1) := by decide +kernel
theorem dX11_does_46 : decode cX11_does 46 = .ok (.getfield 31, 3) := by decide +kernel
theorem dX11_does_49 : decode cX11_does 49 = .ok (.iload 4, 2) := by decide +kernel
theorem dX11_does_51 : decode cX11_does 51 = .ok (.iaload, 1) := by decide +kernel
theorem dX11_does_52 : decode cX11_does 52 = .ok (.iload 5, 2) := by decide +kernel
theorem dX11_does_54 : decode cX11_does 54 = .ok (.iadd, 1) := by decide +kernel
theorem dX11_does_55 : decode cX11_does 55 = .ok (.iastore, 1) := by decide +kernel
theorem dX11_does_56 : decode cX11_does 56 = .ok (.aload_n 0, 1) := by decide +kernel
theorem dX11_does_57 : decode cX11_does 57 = .ok (.getfield 16, 3) := by decide +kernel
theorem dX11_does_60 : decode cX11_does 60 = .ok (.iload_n 1, 1) := by decide +kernel
theorem dX11_does_61 : decode cX11_does 61 = .ok (.iconst 5, 1) := by decide +kernel
theorem dX11_does_62 : decode cX11_does 62 = .ok (.imul, 1) := by decide +kernel
theorem dX11_does_63 : decode cX11_does 63 = .ok (.iload_n 3, 1) := by decide +kernel
theorem dX11_does_64 : decode cX11_does 64 = .ok (.iadd, 1) := by decide +kernel
theorem dX11_does_65 : decode cX11_does 65 = .ok (.iload_n 2, 1) := by decide +kernel
theorem dX11_does_66 : decode cX11_does 66 = .ok (.iastore, 1) := by decide +kernel
theorem dX11_does_67 : decode cX11_does 67 = .ok (.aload_n 0, 1) := by decide +kernel
theorem dX11_does_68 : decode cX11_does 68 = .ok (.getfield 25, 3) := by decide +kernel
theorem dX11_does_71 : decode cX11_does 71 = .ok (.iload 4, 2) := by decide +kernel
theorem dX11_does_73 : decode cX11_does 73 = .ok (.bipush 10, 2) := by decide +kernel
theorem dX11_does_75 : decode cX11_does 75 = .ok (.iload_n 1, 1) := by decide +kernel
theorem dX11_does_76 : decode cX11_does 76 = .ok (.imul, 1) := by decide +kernel
theorem dX11_does_77 : decode cX11_does 77 = .ok (.iload_n 3, 1) := by decide +kernel
theorem dX11_does_78 : decode cX11_does 78 = .ok (.iadd, 1) := by decide +kernel
theorem dX11_does_79 : decode cX11_does 79 = .ok (.iastore, 1) := by decide +kernel
theorem dX11_does_80 : decode cX11_does 80 = .ok (.aload_n 0, 1) := by decide +kernel
theorem dX11_does_81 : decode cX11_does 81 = .ok (.getfield 28, 3) := by decide +kernel
theorem dX11_does_84 : decode cX11_does 84 = .ok (.iload 4, 2) := by decide +kernel
theorem dX11_does_86 : decode cX11_does 86 = .ok (.iload_n 2, 1) := by decide +kernel
theorem dX11_does_87 : decode cX11_does 87 = .ok (.iload 5, 2) := by decide +kernel
theorem dX11_does_89 : decode cX11_does 89 = .ok (.iadd, 1) := by decide +kernel
theorem dX11_does_90 : decode cX11_does 90 = .ok (.iastore, 1) := by decide +kernel
theorem dX11_does_91 : decode cX11_does 91 = .ok (.aload_n 0, 1) := by decide +kernel
theorem dX11_does_92 : decode cX11_does 92 = .ok (.getfield 22, 3) := by decide +kernel
theorem dX11_does_95 : decode cX11_does 95 = .ok (.iload_n 1, 1) := by decide +kernel
theorem dX11_does_96 : decode cX11_does 96 = .ok (.iload_n 2, 1) := by decide +kernel
theorem dX11_does_97 : decode cX11_does 97 = .ok (.iload 5, 2) := by decide +kernel
theorem dX11_does_99 : decode cX11_does 99 = .ok (.iadd, 1) := by decide +kernel
theorem dX11_does_100 : decode cX11_does 100 = .ok (.iastore, 1) := by decide +kernel
theorem dX11_does_101 : decode cX11_does 101 = .ok (.aload_n 0, 1) := by decide +kernel
theorem dX11_does_102 : decode cX11_does 102 = .ok (.getfield 19, 3) := by decide +kernel
theorem dX11_does_105 : decode cX11_does 105 = .ok (.iload_n 1, 1) := by decide +kernel
theorem dX11_does_106 : decode cX11_does 106 = .ok (.dup2, 1) := by decide +kernel
theorem dX11_does_107 : decode cX11_does 107 = .ok (.iaload, 1) := by decide +kernel
theorem dX11_does_108 : decode cX11_does 108 = .ok (.iconst 1, 1) := by decide +kernel
theorem dX11_does_109 : decode cX11_does 109 = .ok (.iadd, 1) := by decide +kernel
theorem dX11_does_110 : decode cX11_does 110 = .ok (.iastore, 1) := by decide +kernel
theorem dX11_does_111 : decode cX11_does 111 = .ok (.aload_n 0, 1) := by decide +kernel
theorem dX11_does_112 : decode cX11_does 112 = .ok (.getfield 34, 3) := by decide +kernel
theorem dX11_does_115 : decode cX11_does 115 = .ok (.iload 4, 2) := by decide +kernel
theorem dX11_does_117 : decode cX11_does 117 = .ok (.dup2, 1) := by decide +kernel
theorem dX11_does_118 : decode cX11_does 118 = .ok (.iaload, 1) := by decide +kernel
theorem dX11_does_119 : decode cX11_does 119 = .ok (.iconst 1, 1) := by decide +kernel
theorem dX11_does_120 : decode cX11_does 120 = .ok (.iadd, 1) := by decide +kernel
theorem dX11_does_121 : decode cX11_does 121 = .ok (.iastore, 1) := by decide +kernel
theorem dX11_does_122 : decode cX11_does 122 = .ok (.return_, 1) := by decide +kernel
theorem dX11_worksOut_0 : decode cX11_worksOut 0 = .ok (.aload_n 0, 1) := by decide +kernel
theorem dX11_worksOut_1 : decode cX11_worksOut 1 = .ok (.invokevirtual 109, 3) := by decide +kernel
theorem dX11_worksOut_4 : decode cX11_worksOut 4 = .ok (.iconst 1, 1) := by decide +kernel
theorem dX11_worksOut_5 : decode cX11_worksOut 5 = .ok (.istore 5, 2) := by decide +kernel
theorem dX11_worksOut_7 : decode cX11_worksOut 7 = .ok (.iconst 0, 1) := by decide +kernel
theorem dX11_worksOut_8 : decode cX11_worksOut 8 = .ok (.istore 6, 2) := by decide +kernel
theorem dX11_worksOut_10 : decode cX11_worksOut 10 = .ok (.iload 5, 2) := by decide +kernel
theorem dX11_worksOut_12 : decode cX11_worksOut 12 = .ok (.ifCond .eq 149, 3) := by decide +kernel
theorem dX11_worksOut_15 : decode cX11_worksOut 15 = .ok (.iconst 0, 1) := by decide +kernel
theorem dX11_worksOut_16 : decode cX11_worksOut 16 = .ok (.istore 5, 2) := by decide +kernel
theorem dX11_worksOut_18 : decode cX11_worksOut 18 = .ok (.iconst 0, 1) := by decide +kernel
theorem dX11_worksOut_19 : decode cX11_worksOut 19 = .ok (.istore 7, 2) := by decide +kernel
theorem dX11_worksOut_21 : decode cX11_worksOut 21 = .ok (.iload 7, 2) := by decide +kernel
theorem dX11_worksOut_23 : decode cX11_worksOut 23 = .ok (.iconst 4, 1) := by decide +kernel
theorem dX11_worksOut_24 : decode cX11_worksOut 24 = .ok (.if_icmp .ge 134, 3) := by decide +kernel
theorem dX11_worksOut_27 : decode cX11_worksOut 27 = .ok (.iload_n 2, 1) := by decide +kernel
theorem dX11_worksOut_28 : decode cX11_worksOut 28 = .ok (.iload 7, 2) := by decide +kernel
theorem dX11_worksOut_30 : decode cX11_worksOut 30 = .ok (.bipush 31, 2) := by decide +kernel
theorem dX11_worksOut_32 : decode cX11_worksOut 32 = .ok (.imul, 1) := by decide +kernel
theorem dX11_worksOut_33 : decode cX11_worksOut 33 = .ok (.iadd, 1) := by decide +kernel
theorem dX11_worksOut_34 : decode cX11_worksOut 34 = .ok (.istore 8, 2) := by decide +kernel
theorem dX11_worksOut_36 : decode cX11_worksOut 36 = .ok (.aload_n 0, 1) := by decide +kernel
theorem dX11_worksOut_37 : decode cX11_worksOut 37 = .ok (.getfield 34, 3) := by decide +kernel
theorem dX11_worksOut_40 : decode cX11_worksOut 40 = .ok (.iload 7, 2) := by decide +kernel
theorem dX11_worksOut_42 : decode cX11_worksOut 42 = .ok (.iaload, 1) := by decide +kernel
theorem dX11_worksOut_43 : decode cX11_worksOut 43 = .ok (.aload_n 1, 1) := by decide +kernel
theorem dX11_worksOut_44 : decode cX11_worksOut 44 = .ok (.iload 8, 2) := by decide +kernel
theorem dX11_worksOut_46 : decode cX11_worksOut 46 = .ok (.iaload, 1) := by decide +kernel
theorem dX11_worksOut_47 : decode cX11_worksOut 47 = .ok (.if_icmp .ne 6, 3) := by decide +kernel
theorem dX11_worksOut_50 : decode cX11_worksOut 50 = .ok (.goto 102, 3) := by decide +kernel
theorem dX11_worksOut_53 : decode cX11_worksOut 53 = .ok (.aload_n 1, 1) := by decide +kernel
theorem dX11_worksOut_54 : decode cX11_worksOut 54 = .ok (.iload 8, 2) := by decide +kernel
theorem dX11_worksOut_56 : decode cX11_worksOut 56 = .ok (.iconst 1, 1) := by decide +kernel
theorem dX11_worksOut_57 : decode cX11_worksOut 57 = .ok (.iadd, 1) := by decide +kernel
theorem dX11_worksOut_58 : decode cX11_worksOut 58 = .ok (.aload_n 0, 1) := by decide +kernel
theorem dX11_worksOut_59 : decode cX11_worksOut 59 = .ok (.getfield 34, 3) := by decide +kernel
theorem dX11_worksOut_62 : decode cX11_worksOut 62 = .ok (.iload 7, 2) := by decide +kernel
theorem dX11_worksOut_64 : decode cX11_worksOut 64 = .ok (.iaload, 1) := by decide +kernel
theorem dX11_worksOut_65 : decode cX11_worksOut 65 = .ok (.iadd, 1) := by decide +kernel
theorem dX11_worksOut_66 : decode cX11_worksOut 66 = .ok (.iaload, 1) := by decide +kernel
theorem dX11_worksOut_67 : decode cX11_worksOut 67 = .ok (.istore 9, 2) := by decide +kernel
theorem dX11_worksOut_69 : decode cX11_worksOut 69 = .ok (.aload_n 0, 1) := by decide +kernel
theorem dX11_worksOut_70 : decode cX11_worksOut 70 = .ok (.getfield 19, 3) := by decide +kernel
theorem dX11_worksOut_73 : decode cX11_worksOut 73 = .ok (.iload 9, 2) := by decide +kernel
theorem dX11_worksOut_75 : decode cX11_worksOut 75 = .ok (.bipush 10, 2) := by decide +kernel
theorem dX11_worksOut_77 : decode cX11_worksOut 77 = .ok (.idiv, 1) := by decide +kernel
theorem dX11_worksOut_78 : decode cX11_worksOut 78 = .ok (.iaload, 1) := by decide +kernel
theorem dX11_worksOut_79 : decode cX11_worksOut 79 = .ok (.iload 9, 2) := by decide +kernel
theorem dX11_worksOut_81 : decode cX11_worksOut 81 = .ok (.bipush 10, 2) := by decide +kernel
theorem dX11_worksOut_83 : decode cX11_worksOut 83 = .ok (.irem, 1) := by decide +kernel
theorem dX11_worksOut_84 : decode cX11_worksOut 84 = .ok (.if_icmp .eq 6, 3) := by decide +kernel
theorem dX11_worksOut_87 : decode cX11_worksOut 87 = .ok (.goto 65, 3) := by decide +kernel
theorem dX11_worksOut_90 : decode cX11_worksOut 90 = .ok (.aload_n 0, 1) := by decide +kernel
theorem dX11_worksOut_91 : decode cX11_worksOut 91 = .ok (.iload 9, 2) := by decide +kernel
theorem dX11_worksOut_93 : decode cX11_worksOut 93 = .ok (.bipush 10, 2) := by decide +kernel
theorem dX11_worksOut_95 : decode cX11_worksOut 95 = .ok (.idiv, 1) := by decide +kernel
theorem dX11_worksOut_96 : decode cX11_worksOut 96 = .ok (.invokevirtual 112, 3) := by decide +kernel
theorem dX11_worksOut_99 : decode cX11_worksOut 99 = .ok (.istore 10, 2) := by decide +kernel
theorem dX11_worksOut_101 : decode cX11_worksOut 101 = .ok (.aload_n 0, 1) := by decide +kernel
theorem dX11_worksOut_102 : decode cX11_worksOut 102 = .ok (.iload 9, 2) := by decide +kernel
theorem dX11_worksOut_104 : decode cX11_worksOut 104 = .ok (.bipush 10, 2) := by decide +kernel
theorem dX11_worksOut_106 : decode cX11_worksOut 106 = .ok (.idiv, 1) := by decide +kernel
theorem dX11_worksOut_107 : decode cX11_worksOut 107 = .ok (.iload 9, 2) := by decide +kernel
theorem dX11_worksOut_109 : decode cX11_worksOut 109 = .ok (.iload_n 3, 1) := by decide +kernel
theorem dX11_worksOut_110 : decode cX11_worksOut 110 = .ok (.if_icmp .ne 31, 3) := by decide +kernel
theorem dX11_worksOut_113 : decode cX11_worksOut 113 = .ok (.aload_n 0, 1) := by decide +kernel
theorem dX11_worksOut_114 : decode cX11_worksOut 114 = .ok (.iload 7, 2) := by decide +kernel
theorem dX11_worksOut_116 : decode cX11_worksOut 116 = .ok (.iload 10, 2) := by decide +kernel
theorem dX11_worksOut_118 : decode cX11_worksOut 118 = .ok (.iload 4, 2) := by decide +kernel
theorem dX11_worksOut_120 : decode cX11_worksOut 120 = .ok (.iadd, 1) := by decide +kernel
theorem dX11_worksOut_121 : decode cX11_worksOut 121 = .ok (.aload_n 0, 1) := by decide +kernel
theorem dX11_worksOut_122 : decode cX11_worksOut 122 = .ok (.iload 9, 2) := by decide +kernel
theorem dX11_worksOut_124 : decode cX11_worksOut 124 = .ok (.bipush 10, 2) := by decide +kernel
theorem dX11_worksOut_126 : decode cX11_worksOut 126 = .ok (.idiv, 1) := by decide +kernel
theorem dX11_worksOut_127 : decode cX11_worksOut 127 = .ok (.iload 9, 2) := by decide +kernel
theorem dX11_worksOut_129 : decode cX11_worksOut 129 = .ok (.bipush 10, 2) := by decide +kernel
theorem dX11_worksOut_131 : decode cX11_worksOut 131 = .ok (.irem, 1) := by decide +kernel
theorem dX11_worksOut_132 : decode cX11_worksOut 132 = .ok (.invokevirtual 77, 3) := by decide +kernel
theorem dX11_worksOut_135 : decode cX11_worksOut 135 = .ok (.invokevirtual 106, 3) := by decide +kernel
theorem dX11_worksOut_138 : decode cX11_worksOut 138 = .ok (.goto 5, 3) := by decide +kernel
theorem dX11_worksOut_141 : decode cX11_worksOut 141 = .ok (.iload 10, 2) := by decide +kernel
theorem dX11_worksOut_143 : decode cX11_worksOut 143 = .ok (.invokevirtual 116, 3) := by decide +kernel
theorem dX11_worksOut_146 : decode cX11_worksOut 146 = .ok (.iconst 1, 1) := by decide +kernel
theorem dX11_worksOut_147 : decode cX11_worksOut 147 = .ok (.istore 5, 2) := by decide +kernel
theorem dX11_worksOut_149 : decode cX11_worksOut 149 = .ok (.iinc 6 1, 3) := by decide +kernel
theorem dX11_worksOut_152 : decode cX11_worksOut 152 = .ok (.iinc 7 1, 3) := by decide +kernel
theorem dX11_worksOut_155 : decode cX11_worksOut 155 = .ok (.goto (-134), 3) := by decide +kernel
theorem dX11_worksOut_158 : decode cX11_worksOut 158 = .ok (.goto (-148), 3) := by decide +kernel
theorem dX11_worksOut_161 : decode cX11_worksOut 161 = .ok (.iload 6, 2) := by decide +kernel
theorem dX11_worksOut_163 : decode cX11_worksOut 163 = .ok (.aload_n 0, 1) := by decide +kernel
theorem dX11_worksOut_164 : decode cX11_worksOut 164 = .ok (.invokevirtual 120, 3) := by decide +kernel
theorem dX11_worksOut_167 : decode cX11_worksOut 167 = .ok (.if_icmp .ne 7, 3) := by decide +kernel
theorem dX11_worksOut_170 : decode cX11_worksOut 170 = .ok (.iconst 1, 1) := by decide +kernel
theorem dX11_worksOut_171 : decode cX11_worksOut 171 = .ok (.goto 4, 3) := by decide +kernel
theorem dX11_worksOut_174 : decode cX11_worksOut 174 = .ok (.iconst 0, 1) := by decide +kernel
theorem dX11_worksOut_175 : decode cX11_worksOut 175 = .ok (.ireturn, 1) := by decide +kernel
theorem dX11_works_0 : decode cX11_works 0 = .ok (.aload_n 0, 1) := by decide +kernel
theorem dX11_works_1 : decode cX11_works 1 = .ok (.aload_n 0, 1) := by decide +kernel
theorem dX11_works_2 : decode cX11_works 2 = .ok (.getfield 9, 3) := by decide +kernel
theorem dX11_works_5 : decode cX11_works 5 = .ok (.sipush 152, 3) := by decide +kernel
theorem dX11_works_8 : decode cX11_works 8 = .ok (.iconst (-1), 1) := by decide +kernel
theorem dX11_works_9 : decode cX11_works 9 = .ok (.iconst 0, 1) := by decide +kernel
theorem dX11_works_10 : decode cX11_works 10 = .ok (.invokevirtual 124, 3) := by decide +kernel
theorem dX11_works_13 : decode cX11_works 13 = .ok (.ireturn, 1) := by decide +kernel
theorem dX11_planEnd_0 : decode cX11_planEnd 0 = .ok (.iconst 0, 1) := by decide +kernel
theorem dX11_planEnd_1 : decode cX11_planEnd 1 = .ok (.istore_n 1, 1) := by decide +kernel
theorem dX11_planEnd_2 : decode cX11_planEnd 2 = .ok (.iconst 0, 1) := by decide +kernel
theorem dX11_planEnd_3 : decode cX11_planEnd 3 = .ok (.istore_n 2, 1) := by decide +kernel
theorem dX11_planEnd_4 : decode cX11_planEnd 4 = .ok (.iload_n 2, 1) := by decide +kernel
theorem dX11_planEnd_5 : decode cX11_planEnd 5 = .ok (.aload_n 0, 1) := by decide +kernel
theorem dX11_planEnd_6 : decode cX11_planEnd 6 = .ok (.getfield 9, 3) := by decide +kernel
theorem dX11_planEnd_9 : decode cX11_planEnd 9 = .ok (.iconst 0, 1) := by decide +kernel
theorem dX11_planEnd_10 : decode cX11_planEnd 10 = .ok (.iaload, 1) := by decide +kernel
theorem dX11_planEnd_11 : decode cX11_planEnd 11 = .ok (.if_icmp .ge 20, 3) := by decide +kernel
theorem dX11_planEnd_14 : decode cX11_planEnd 14 = .ok (.iload_n 1, 1) := by decide +kernel
theorem dX11_planEnd_15 : decode cX11_planEnd 15 = .ok (.aload_n 0, 1) := by decide +kernel
theorem dX11_planEnd_16 : decode cX11_planEnd 16 = .ok (.getfield 22, 3) := by decide +kernel
theorem dX11_planEnd_19 : decode cX11_planEnd 19 = .ok (.iload_n 2, 1) := by decide +kernel
theorem dX11_planEnd_20 : decode cX11_planEnd 20 = .ok (.iaload, 1) := by decide +kernel
theorem dX11_planEnd_21 : decode cX11_planEnd 21 = .ok (.invokestatic 101, 3) := by decide +kernel
theorem dX11_planEnd_24 : decode cX11_planEnd 24 = .ok (.istore_n 1, 1) := by decide +kernel
theorem dX11_planEnd_25 : decode cX11_planEnd 25 = .ok (.iinc 2 1, 3) := by decide +kernel
theorem dX11_planEnd_28 : decode cX11_planEnd 28 = .ok (.goto (-24), 3) := by decide +kernel
theorem dX11_planEnd_31 : decode cX11_planEnd 31 = .ok (.iload_n 1, 1) := by decide +kernel
theorem dX11_planEnd_32 : decode cX11_planEnd 32 = .ok (.ireturn, 1) := by decide +kernel
theorem dX11_valueOf_0 : decode cX11_valueOf 0 = .ok (.iconst 0, 1) := by decide +kernel
theorem dX11_valueOf_1 : decode cX11_valueOf 1 = .ok (.istore_n 2, 1) := by decide +kernel
theorem dX11_valueOf_2 : decode cX11_valueOf 2 = .ok (.iconst 0, 1) := by decide +kernel
theorem dX11_valueOf_3 : decode cX11_valueOf 3 = .ok (.istore_n 3, 1) := by decide +kernel
theorem dX11_valueOf_4 : decode cX11_valueOf 4 = .ok (.iload_n 3, 1) := by decide +kernel
theorem dX11_valueOf_5 : decode cX11_valueOf 5 = .ok (.aload_n 0, 1) := by decide +kernel
theorem dX11_valueOf_6 : decode cX11_valueOf 6 = .ok (.getfield 9, 3) := by decide +kernel
theorem dX11_valueOf_9 : decode cX11_valueOf 9 = .ok (.iconst 0, 1) := by decide +kernel
theorem dX11_valueOf_10 : decode cX11_valueOf 10 = .ok (.iaload, 1) := by decide +kernel
theorem dX11_valueOf_11 : decode cX11_valueOf 11 = .ok (.if_icmp .ge 137, 3) := by decide +kernel
theorem dX11_valueOf_14 : decode cX11_valueOf 14 = .ok (.aload_n 0, 1) := by decide +kernel
theorem dX11_valueOf_15 : decode cX11_valueOf 15 = .ok (.getfield 22, 3) := by decide +kernel
theorem dX11_valueOf_18 : decode cX11_valueOf 18 = .ok (.iload_n 3, 1) := by decide +kernel
theorem dX11_valueOf_19 : decode cX11_valueOf 19 = .ok (.iaload, 1) := by decide +kernel
theorem dX11_valueOf_20 : decode cX11_valueOf 20 = .ok (.aload_n 0, 1) := by decide +kernel
theorem dX11_valueOf_21 : decode cX11_valueOf 21 = .ok (.iload_n 3, 1) := by decide +kernel
theorem dX11_valueOf_22 : decode cX11_valueOf 22 = .ok (.iconst 1, 1) := by decide +kernel
theorem dX11_valueOf_23 : decode cX11_valueOf 23 = .ok (.invokevirtual 73, 3) := by decide +kernel
theorem dX11_valueOf_26 : decode cX11_valueOf 26 = .ok (.isub, 1) := by decide +kernel
theorem dX11_valueOf_27 : decode cX11_valueOf 27 = .ok (.istore 4, 2) := by decide +kernel
theorem dX11_valueOf_29 : decode cX11_valueOf 29 = .ok (.iload_n 1, 1) := by decide +kernel
theorem dX11_valueOf_30 : decode cX11_valueOf 30 = .ok (.tableswitch 91 0 3 #[30, 44, 56, 75], 30) := by decide +kernel
theorem dX11_valueOf_60 : decode cX11_valueOf 60 = .ok (.iload_n 2, 1) := by decide +kernel
theorem dX11_valueOf_61 : decode cX11_valueOf 61 = .ok (.aload_n 0, 1) := by decide +kernel
theorem dX11_valueOf_62 : decode cX11_valueOf 62 = .ok (.getfield 22, 3) := by decide +kernel
theorem dX11_valueOf_65 : decode cX11_valueOf 65 = .ok (.iload_n 3, 1) := by decide +kernel
theorem dX11_valueOf_66 : decode cX11_valueOf 66 = .ok (.iaload, 1) := by decide +kernel
theorem dX11_valueOf_67 : decode cX11_valueOf 67 = .ok (.invokestatic 101, 3) := by decide +kernel
theorem dX11_valueOf_70 : decode cX11_valueOf 70 = .ok (.istore_n 2, 1) := by decide +kernel
theorem dX11_valueOf_71 : decode cX11_valueOf 71 = .ok (.goto 71, 3) := by decide +kernel
theorem dX11_valueOf_74 : decode cX11_valueOf 74 = .ok (.iload_n 2, 1) := by decide +kernel
theorem dX11_valueOf_75 : decode cX11_valueOf 75 = .ok (.aload_n 0, 1) := by decide +kernel
theorem dX11_valueOf_76 : decode cX11_valueOf 76 = .ok (.getfield 22, 3) := by decide +kernel
theorem dX11_valueOf_79 : decode cX11_valueOf 79 = .ok (.iload_n 3, 1) := by decide +kernel
theorem dX11_valueOf_80 : decode cX11_valueOf 80 = .ok (.iaload, 1) := by decide +kernel
theorem dX11_valueOf_81 : decode cX11_valueOf 81 = .ok (.iadd, 1) := by decide +kernel
theorem dX11_valueOf_82 : decode cX11_valueOf 82 = .ok (.istore_n 2, 1) := by decide +kernel
theorem dX11_valueOf_83 : decode cX11_valueOf 83 = .ok (.goto 59, 3) := by decide +kernel
theorem dX11_valueOf_86 : decode cX11_valueOf 86 = .ok (.iload_n 3, 1) := by decide +kernel
theorem dX11_valueOf_87 : decode cX11_valueOf 87 = .ok (.ifCond .ne 8, 3) := by decide +kernel
theorem dX11_valueOf_90 : decode cX11_valueOf 90 = .ok (.iload 4, 2) := by decide +kernel
theorem dX11_valueOf_92 : decode cX11_valueOf 92 = .ok (.goto 9, 3) := by decide +kernel
theorem dX11_valueOf_95 : decode cX11_valueOf 95 = .ok (.iload_n 2, 1) := by decide +kernel
theorem dX11_valueOf_96 : decode cX11_valueOf 96 = .ok (.iload 4, 2) := by decide +kernel
theorem dX11_valueOf_98 : decode cX11_valueOf 98 = .ok (.invokestatic 101, 3) := by decide +kernel
theorem dX11_valueOf_101 : decode cX11_valueOf 101 = .ok (.istore_n 2, 1) := by decide +kernel
theorem dX11_valueOf_102 : decode cX11_valueOf 102 = .ok (.goto 40, 3) := by decide +kernel
theorem dX11_valueOf_105 : decode cX11_valueOf 105 = .ok (.iload_n 2, 1) := by decide +kernel
theorem dX11_valueOf_106 : decode cX11_valueOf 106 = .ok (.iload 4, 2) := by decide +kernel
theorem dX11_valueOf_108 : decode cX11_valueOf 108 = .ok (.ifCond .le 7, 3) := by decide +kernel
theorem dX11_valueOf_111 : decode cX11_valueOf 111 = .ok (.iconst 1, 1) := by decide +kernel
theorem dX11_valueOf_112 : decode cX11_valueOf 112 = .ok (.goto 4, 3) := by decide +kernel
theorem dX11_valueOf_115 : decode cX11_valueOf 115 = .ok (.iconst 0, 1) := by decide +kernel
theorem dX11_valueOf_116 : decode cX11_valueOf 116 = .ok (.iadd, 1) := by decide +kernel
theorem dX11_valueOf_117 : decode cX11_valueOf 117 = .ok (.istore_n 2, 1) := by decide +kernel
theorem dX11_valueOf_118 : decode cX11_valueOf 118 = .ok (.goto 24, 3) := by decide +kernel
theorem dX11_valueOf_121 : decode cX11_valueOf 121 = .ok (.iload_n 2, 1) := by decide +kernel
theorem dX11_valueOf_122 : decode cX11_valueOf 122 = .ok (.iload 4, 2) := by decide +kernel
theorem dX11_valueOf_124 : decode cX11_valueOf 124 = .ok (.ifCond .le 15, 3) := by decide +kernel
theorem dX11_valueOf_127 : decode cX11_valueOf 127 = .ok (.aload_n 0, 1) := by decide +kernel
theorem dX11_valueOf_128 : decode cX11_valueOf 128 = .ok (.iload_n 3, 1) := by decide +kernel
theorem dX11_valueOf_129 : decode cX11_valueOf 129 = .ok (.iconst 2, 1) := by decide +kernel
theorem dX11_valueOf_130 : decode cX11_valueOf 130 = .ok (.invokevirtual 73, 3) := by decide +kernel
theorem dX11_valueOf_133 : decode cX11_valueOf 133 = .ok (.iload 4, 2) := by decide +kernel
theorem dX11_valueOf_135 : decode cX11_valueOf 135 = .ok (.imul, 1) := by decide +kernel
theorem dX11_valueOf_136 : decode cX11_valueOf 136 = .ok (.goto 4, 3) := by decide +kernel
theorem dX11_valueOf_139 : decode cX11_valueOf 139 = .ok (.iconst 0, 1) := by decide +kernel
theorem dX11_valueOf_140 : decode cX11_valueOf 140 = .ok (.iadd, 1) := by decide +kernel
theorem dX11_valueOf_141 : decode cX11_valueOf 141 = .ok (.istore_n 2, 1) := by decide +kernel
theorem dX11_valueOf_142 : decode cX11_valueOf 142 = .ok (.iinc 3 1, 3) := by decide +kernel
theorem dX11_valueOf_145 : decode cX11_valueOf 145 = .ok (.goto (-141), 3) := by decide +kernel
theorem dX11_valueOf_148 : decode cX11_valueOf 148 = .ok (.iload_n 2, 1) := by decide +kernel
theorem dX11_valueOf_149 : decode cX11_valueOf 149 = .ok (.ireturn, 1) := by decide +kernel
theorem dX11_isAhead_0 : decode cX11_isAhead 0 = .ok (.aload_n 0, 1) := by decide +kernel
theorem dX11_isAhead_1 : decode cX11_isAhead 1 = .ok (.iload_n 2, 1) := by decide +kernel
theorem dX11_isAhead_2 : decode cX11_isAhead 2 = .ok (.aload_n 0, 1) := by decide +kernel
theorem dX11_isAhead_3 : decode cX11_isAhead 3 = .ok (.getfield 19, 3) := by decide +kernel
theorem dX11_isAhead_6 : decode cX11_isAhead 6 = .ok (.iload_n 2, 1) := by decide +kernel
theorem dX11_isAhead_7 : decode cX11_isAhead 7 = .ok (.iaload, 1) := by decide +kernel
theorem dX11_isAhead_8 : decode cX11_isAhead 8 = .ok (.invokevirtual 77, 3) := by decide +kernel
theorem dX11_isAhead_11 : decode cX11_isAhead 11 = .ok (.istore 4, 2) := by decide +kernel
theorem dX11_isAhead_13 : decode cX11_isAhead 13 = .ok (.aload_n 0, 1) := by decide +kernel
theorem dX11_isAhead_14 : decode cX11_isAhead 14 = .ok (.iload_n 3, 1) := by decide +kernel
theorem dX11_isAhead_15 : decode cX11_isAhead 15 = .ok (.aload_n 0, 1) := by decide +kernel
theorem dX11_isAhead_16 : decode cX11_isAhead 16 = .ok (.getfield 19, 3) := by decide +kernel
theorem dX11_isAhead_19 : decode cX11_isAhead 19 = .ok (.iload_n 3, 1) := by decide +kernel
theorem dX11_isAhead_20 : decode cX11_isAhead 20 = .ok (.iaload, 1) := by decide +kernel
theorem dX11_isAhead_21 : decode cX11_isAhead 21 = .ok (.invokevirtual 77, 3) := by decide +kernel
theorem dX11_isAhead_24 : decode cX11_isAhead 24 = .ok (.istore 5, 2) := by decide +kernel
theorem dX11_isAhead_26 : decode cX11_isAhead 26 = .ok (.iload_n 1, 1) := by decide +kernel
theorem dX11_isAhead_27 : decode cX11_isAhead 27 = .ok (.tableswitch 212 0 6 #[41, 54, 67, 88, 109, 140, 185], 41) := by decide +kernel
theorem dX11_isAhead_68 : decode cX11_isAhead 68 = .ok (.iload 4, 2) := by decide +kernel
theorem dX11_isAhead_70 : decode cX11_isAhead 70 = .ok (.iload 5, 2) := by decide +kernel
theorem dX11_isAhead_72 : decode cX11_isAhead 72 = .ok (.if_icmp .ge 7, 3) := by decide +kernel
theorem dX11_isAhead_75 : decode cX11_isAhead 75 = .ok (.iconst 1, 1) := by decide +kernel
theorem dX11_isAhead_76 : decode cX11_isAhead 76 = .ok (.goto 4, 3) := by decide +kernel
theorem dX11_isAhead_79 : decode cX11_isAhead 79 = .ok (.iconst 0, 1) := by decide +kernel
theorem dX11_isAhead_80 : decode cX11_isAhead 80 = .ok (.ireturn, 1) := by decide +kernel
theorem dX11_isAhead_81 : decode cX11_isAhead 81 = .ok (.iload 4, 2) := by decide +kernel
theorem dX11_isAhead_83 : decode cX11_isAhead 83 = .ok (.iload 5, 2) := by decide +kernel
theorem dX11_isAhead_85 : decode cX11_isAhead 85 = .ok (.if_icmp .le 7, 3) := by decide +kernel
theorem dX11_isAhead_88 : decode cX11_isAhead 88 = .ok (.iconst 1, 1) := by decide +kernel
theorem dX11_isAhead_89 : decode cX11_isAhead 89 = .ok (.goto 4, 3) := by decide +kernel
theorem dX11_isAhead_92 : decode cX11_isAhead 92 = .ok (.iconst 0, 1) := by decide +kernel
theorem dX11_isAhead_93 : decode cX11_isAhead 93 = .ok (.ireturn, 1) := by decide +kernel
theorem dX11_isAhead_94 : decode cX11_isAhead 94 = .ok (.aload_n 0, 1) := by decide +kernel
theorem dX11_isAhead_95 : decode cX11_isAhead 95 = .ok (.iload_n 2, 1) := by decide +kernel
theorem dX11_isAhead_96 : decode cX11_isAhead 96 = .ok (.iconst 1, 1) := by decide +kernel
theorem dX11_isAhead_97 : decode cX11_isAhead 97 = .ok (.invokevirtual 73, 3) := by decide +kernel
theorem dX11_isAhead_100 : decode cX11_isAhead 100 = .ok (.aload_n 0, 1) := by decide +kernel
theorem dX11_isAhead_101 : decode cX11_isAhead 101 = .ok (.iload_n 3, 1) := by decide +kernel
theorem dX11_isAhead_102 : decode cX11_isAhead 102 = .ok (.iconst 1, 1) := by decide +kernel
theorem dX11_isAhead_103 : decode cX11_isAhead 103 = .ok (.invokevirtual 73, 3) := by decide +kernel
theorem dX11_isAhead_106 : decode cX11_isAhead 106 = .ok (.if_icmp .ge 7, 3) := by decide +kernel
theorem dX11_isAhead_109 : decode cX11_isAhead 109 = .ok (.iconst 1, 1) := by decide +kernel
theorem dX11_isAhead_110 : decode cX11_isAhead 110 = .ok (.goto 4, 3) := by decide +kernel
theorem dX11_isAhead_113 : decode cX11_isAhead 113 = .ok (.iconst 0, 1) := by decide +kernel
theorem dX11_isAhead_114 : decode cX11_isAhead 114 = .ok (.ireturn, 1) := by decide +kernel
theorem dX11_isAhead_115 : decode cX11_isAhead 115 = .ok (.aload_n 0, 1) := by decide +kernel
theorem dX11_isAhead_116 : decode cX11_isAhead 116 = .ok (.iload_n 2, 1) := by decide +kernel
theorem dX11_isAhead_117 : decode cX11_isAhead 117 = .ok (.iconst 2, 1) := by decide +kernel
theorem dX11_isAhead_118 : decode cX11_isAhead 118 = .ok (.invokevirtual 73, 3) := by decide +kernel
theorem dX11_isAhead_121 : decode cX11_isAhead 121 = .ok (.aload_n 0, 1) := by decide +kernel
theorem dX11_isAhead_122 : decode cX11_isAhead 122 = .ok (.iload_n 3, 1) := by decide +kernel
theorem dX11_isAhead_123 : decode cX11_isAhead 123 = .ok (.iconst 2, 1) := by decide +kernel
theorem dX11_isAhead_124 : decode cX11_isAhead 124 = .ok (.invokevirtual 73, 3) := by decide +kernel
theorem dX11_isAhead_127 : decode cX11_isAhead 127 = .ok (.if_icmp .le 7, 3) := by decide +kernel
theorem dX11_isAhead_130 : decode cX11_isAhead 130 = .ok (.iconst 1, 1) := by decide +kernel
theorem dX11_isAhead_131 : decode cX11_isAhead 131 = .ok (.goto 4, 3) := by decide +kernel
theorem dX11_isAhead_134 : decode cX11_isAhead 134 = .ok (.iconst 0, 1) := by decide +kernel
theorem dX11_isAhead_135 : decode cX11_isAhead 135 = .ok (.ireturn, 1) := by decide +kernel
theorem dX11_isAhead_136 : decode cX11_isAhead 136 = .ok (.aload_n 0, 1) := by decide +kernel
theorem dX11_isAhead_137 : decode cX11_isAhead 137 = .ok (.iload_n 2, 1) := by decide +kernel
theorem dX11_isAhead_138 : decode cX11_isAhead 138 = .ok (.aload_n 0, 1) := by decide +kernel
theorem dX11_isAhead_139 : decode cX11_isAhead 139 = .ok (.getfield 19, 3) := by decide +kernel
theorem dX11_isAhead_142 : decode cX11_isAhead 142 = .ok (.iload_n 2, 1) := by decide +kernel
theorem dX11_isAhead_143 : decode cX11_isAhead 143 = .ok (.iaload, 1) := by decide +kernel
theorem dX11_isAhead_144 : decode cX11_isAhead 144 = .ok (.invokevirtual 80, 3) := by decide +kernel
theorem dX11_isAhead_147 : decode cX11_isAhead 147 = .ok (.aload_n 0, 1) := by decide +kernel
theorem dX11_isAhead_148 : decode cX11_isAhead 148 = .ok (.iload_n 3, 1) := by decide +kernel
theorem dX11_isAhead_149 : decode cX11_isAhead 149 = .ok (.aload_n 0, 1) := by decide +kernel
theorem dX11_isAhead_150 : decode cX11_isAhead 150 = .ok (.getfield 19, 3) := by decide +kernel
theorem dX11_isAhead_153 : decode cX11_isAhead 153 = .ok (.iload_n 3, 1) := by decide +kernel
theorem dX11_isAhead_154 : decode cX11_isAhead 154 = .ok (.iaload, 1) := by decide +kernel
theorem dX11_isAhead_155 : decode cX11_isAhead 155 = .ok (.invokevirtual 80, 3) := by decide +kernel
theorem dX11_isAhead_158 : decode cX11_isAhead 158 = .ok (.if_icmp .le 7, 3) := by decide +kernel
theorem dX11_isAhead_161 : decode cX11_isAhead 161 = .ok (.iconst 1, 1) := by decide +kernel
theorem dX11_isAhead_162 : decode cX11_isAhead 162 = .ok (.goto 4, 3) := by decide +kernel
theorem dX11_isAhead_165 : decode cX11_isAhead 165 = .ok (.iconst 0, 1) := by decide +kernel
theorem dX11_isAhead_166 : decode cX11_isAhead 166 = .ok (.ireturn, 1) := by decide +kernel
theorem dX11_isAhead_167 : decode cX11_isAhead 167 = .ok (.aload_n 0, 1) := by decide +kernel
theorem dX11_isAhead_168 : decode cX11_isAhead 168 = .ok (.iload_n 2, 1) := by decide +kernel
theorem dX11_isAhead_169 : decode cX11_isAhead 169 = .ok (.iconst 1, 1) := by decide +kernel
theorem dX11_isAhead_170 : decode cX11_isAhead 170 = .ok (.invokevirtual 73, 3) := by decide +kernel
theorem dX11_isAhead_173 : decode cX11_isAhead 173 = .ok (.aload_n 0, 1) := by decide +kernel
theorem dX11_isAhead_174 : decode cX11_isAhead 174 = .ok (.iload_n 2, 1) := by decide +kernel
theorem dX11_isAhead_175 : decode cX11_isAhead 175 = .ok (.aload_n 0, 1) := by decide +kernel
theorem dX11_isAhead_176 : decode cX11_isAhead 176 = .ok (.getfield 19, 3) := by decide +kernel
theorem dX11_isAhead_179 : decode cX11_isAhead 179 = .ok (.iload_n 2, 1) := by decide +kernel
theorem dX11_isAhead_180 : decode cX11_isAhead 180 = .ok (.iaload, 1) := by decide +kernel
theorem dX11_isAhead_181 : decode cX11_isAhead 181 = .ok (.invokevirtual 80, 3) := by decide +kernel
theorem dX11_isAhead_184 : decode cX11_isAhead 184 = .ok (.isub, 1) := by decide +kernel
theorem dX11_isAhead_185 : decode cX11_isAhead 185 = .ok (.aload_n 0, 1) := by decide +kernel
theorem dX11_isAhead_186 : decode cX11_isAhead 186 = .ok (.iload_n 3, 1) := by decide +kernel
theorem dX11_isAhead_187 : decode cX11_isAhead 187 = .ok (.iconst 1, 1) := by decide +kernel
theorem dX11_isAhead_188 : decode cX11_isAhead 188 = .ok (.invokevirtual 73, 3) := by decide +kernel
theorem dX11_isAhead_191 : decode cX11_isAhead 191 = .ok (.aload_n 0, 1) := by decide +kernel
theorem dX11_isAhead_192 : decode cX11_isAhead 192 = .ok (.iload_n 3, 1) := by decide +kernel
theorem dX11_isAhead_193 : decode cX11_isAhead 193 = .ok (.aload_n 0, 1) := by decide +kernel
theorem dX11_isAhead_194 : decode cX11_isAhead 194 = .ok (.getfield 19, 3) := by decide +kernel
theorem dX11_isAhead_197 : decode cX11_isAhead 197 = .ok (.iload_n 3, 1) := by decide +kernel
theorem dX11_isAhead_198 : decode cX11_isAhead 198 = .ok (.iaload, 1) := by decide +kernel
theorem dX11_isAhead_199 : decode cX11_isAhead 199 = .ok (.invokevirtual 80, 3) := by decide +kernel
theorem dX11_isAhead_202 : decode cX11_isAhead 202 = .ok (.isub, 1) := by decide +kernel
theorem dX11_isAhead_203 : decode cX11_isAhead 203 = .ok (.if_icmp .ge 7, 3) := by decide +kernel
theorem dX11_isAhead_206 : decode cX11_isAhead 206 = .ok (.iconst 1, 1) := by decide +kernel
theorem dX11_isAhead_207 : decode cX11_isAhead 207 = .ok (.goto 4, 3) := by decide +kernel
theorem dX11_isAhead_210 : decode cX11_isAhead 210 = .ok (.iconst 0, 1) := by decide +kernel
theorem dX11_isAhead_211 : decode cX11_isAhead 211 = .ok (.ireturn, 1) := by decide +kernel
theorem dX11_isAhead_212 : decode cX11_isAhead 212 = .ok (.aload_n 0, 1) := by decide +kernel
theorem dX11_isAhead_213 : decode cX11_isAhead 213 = .ok (.iload_n 2, 1) := by decide +kernel
theorem dX11_isAhead_214 : decode cX11_isAhead 214 = .ok (.iconst 2, 1) := by decide +kernel
theorem dX11_isAhead_215 : decode cX11_isAhead 215 = .ok (.invokevirtual 73, 3) := by decide +kernel
theorem dX11_isAhead_218 : decode cX11_isAhead 218 = .ok (.iload 5, 2) := by decide +kernel
theorem dX11_isAhead_220 : decode cX11_isAhead 220 = .ok (.imul, 1) := by decide +kernel
theorem dX11_isAhead_221 : decode cX11_isAhead 221 = .ok (.aload_n 0, 1) := by decide +kernel
theorem dX11_isAhead_222 : decode cX11_isAhead 222 = .ok (.iload_n 3, 1) := by decide +kernel
theorem dX11_isAhead_223 : decode cX11_isAhead 223 = .ok (.iconst 2, 1) := by decide +kernel
theorem dX11_isAhead_224 : decode cX11_isAhead 224 = .ok (.invokevirtual 73, 3) := by decide +kernel
theorem dX11_isAhead_227 : decode cX11_isAhead 227 = .ok (.iload 4, 2) := by decide +kernel
theorem dX11_isAhead_229 : decode cX11_isAhead 229 = .ok (.imul, 1) := by decide +kernel
theorem dX11_isAhead_230 : decode cX11_isAhead 230 = .ok (.if_icmp .le 7, 3) := by decide +kernel
theorem dX11_isAhead_233 : decode cX11_isAhead 233 = .ok (.iconst 1, 1) := by decide +kernel
theorem dX11_isAhead_234 : decode cX11_isAhead 234 = .ok (.goto 4, 3) := by decide +kernel
theorem dX11_isAhead_237 : decode cX11_isAhead 237 = .ok (.iconst 0, 1) := by decide +kernel
theorem dX11_isAhead_238 : decode cX11_isAhead 238 = .ok (.ireturn, 1) := by decide +kernel
theorem dX11_isAhead_239 : decode cX11_isAhead 239 = .ok (.aload_n 0, 1) := by decide +kernel
theorem dX11_isAhead_240 : decode cX11_isAhead 240 = .ok (.iload_n 2, 1) := by decide +kernel
theorem dX11_isAhead_241 : decode cX11_isAhead 241 = .ok (.iconst 0, 1) := by decide +kernel
theorem dX11_isAhead_242 : decode cX11_isAhead 242 = .ok (.invokevirtual 73, 3) := by decide +kernel
theorem dX11_isAhead_245 : decode cX11_isAhead 245 = .ok (.aload_n 0, 1) := by decide +kernel
theorem dX11_isAhead_246 : decode cX11_isAhead 246 = .ok (.iload_n 3, 1) := by decide +kernel
theorem dX11_isAhead_247 : decode cX11_isAhead 247 = .ok (.iconst 0, 1) := by decide +kernel
theorem dX11_isAhead_248 : decode cX11_isAhead 248 = .ok (.invokevirtual 73, 3) := by decide +kernel
theorem dX11_isAhead_251 : decode cX11_isAhead 251 = .ok (.if_icmp .ge 7, 3) := by decide +kernel
theorem dX11_isAhead_254 : decode cX11_isAhead 254 = .ok (.iconst 1, 1) := by decide +kernel
theorem dX11_isAhead_255 : decode cX11_isAhead 255 = .ok (.goto 4, 3) := by decide +kernel
theorem dX11_isAhead_258 : decode cX11_isAhead 258 = .ok (.iconst 0, 1) := by decide +kernel
theorem dX11_isAhead_259 : decode cX11_isAhead 259 = .ok (.ireturn, 1) := by decide +kernel
theorem dX11_goesByRule_0 : decode cX11_goesByRule 0 = .ok (.iconst 1, 1) := by decide +kernel
theorem dX11_goesByRule_1 : decode cX11_goesByRule 1 = .ok (.istore_n 2, 1) := by decide +kernel
theorem dX11_goesByRule_2 : decode cX11_goesByRule 2 = .ok (.iload_n 2, 1) := by decide +kernel
theorem dX11_goesByRule_3 : decode cX11_goesByRule 3 = .ok (.ifCond .eq 129, 3) := by decide +kernel
theorem dX11_goesByRule_6 : decode cX11_goesByRule 6 = .ok (.iconst (-1), 1) := by decide +kernel
theorem dX11_goesByRule_7 : decode cX11_goesByRule 7 = .ok (.istore_n 3, 1) := by decide +kernel
theorem dX11_goesByRule_8 : decode cX11_goesByRule 8 = .ok (.iconst 0, 1) := by decide +kernel
theorem dX11_goesByRule_9 : decode cX11_goesByRule 9 = .ok (.istore 4, 2) := by decide +kernel
theorem dX11_goesByRule_11 : decode cX11_goesByRule 11 = .ok (.iconst 0, 1) := by decide +kernel
theorem dX11_goesByRule_12 : decode cX11_goesByRule 12 = .ok (.istore 5, 2) := by decide +kernel
theorem dX11_goesByRule_14 : decode cX11_goesByRule 14 = .ok (.iload 5, 2) := by decide +kernel
theorem dX11_goesByRule_16 : decode cX11_goesByRule 16 = .ok (.aload_n 0, 1) := by decide +kernel
theorem dX11_goesByRule_17 : decode cX11_goesByRule 17 = .ok (.getfield 9, 3) := by decide +kernel
theorem dX11_goesByRule_20 : decode cX11_goesByRule 20 = .ok (.iconst 0, 1) := by decide +kernel
theorem dX11_goesByRule_21 : decode cX11_goesByRule 21 = .ok (.iaload, 1) := by decide +kernel
theorem dX11_goesByRule_22 : decode cX11_goesByRule 22 = .ok (.if_icmp .ge 77, 3) := by decide +kernel
theorem dX11_goesByRule_25 : decode cX11_goesByRule 25 = .ok (.aload_n 0, 1) := by decide +kernel
theorem dX11_goesByRule_26 : decode cX11_goesByRule 26 = .ok (.getfield 19, 3) := by decide +kernel
theorem dX11_goesByRule_29 : decode cX11_goesByRule 29 = .ok (.iload 5, 2) := by decide +kernel
theorem dX11_goesByRule_31 : decode cX11_goesByRule 31 = .ok (.iaload, 1) := by decide +kernel
theorem dX11_goesByRule_32 : decode cX11_goesByRule 32 = .ok (.aload_n 0, 1) := by decide +kernel
theorem dX11_goesByRule_33 : decode cX11_goesByRule 33 = .ok (.iload 5, 2) := by decide +kernel
theorem dX11_goesByRule_35 : decode cX11_goesByRule 35 = .ok (.iconst 4, 1) := by decide +kernel
theorem dX11_goesByRule_36 : decode cX11_goesByRule 36 = .ok (.invokevirtual 73, 3) := by decide +kernel
theorem dX11_goesByRule_39 : decode cX11_goesByRule 39 = .ok (.if_icmp .ne 6, 3) := by decide +kernel
theorem dX11_goesByRule_42 : decode cX11_goesByRule 42 = .ok (.goto 51, 3) := by decide +kernel
theorem dX11_goesByRule_45 : decode cX11_goesByRule 45 = .ok (.aload_n 0, 1) := by decide +kernel
theorem dX11_goesByRule_46 : decode cX11_goesByRule 46 = .ok (.iload 5, 2) := by decide +kernel
theorem dX11_goesByRule_48 : decode cX11_goesByRule 48 = .ok (.invokevirtual 112, 3) := by decide +kernel
theorem dX11_goesByRule_51 : decode cX11_goesByRule 51 = .ok (.istore 6, 2) := by decide +kernel
theorem dX11_goesByRule_53 : decode cX11_goesByRule 53 = .ok (.iload_n 3, 1) := by decide +kernel
theorem dX11_goesByRule_54 : decode cX11_goesByRule 54 = .ok (.iconst (-1), 1) := by decide +kernel
theorem dX11_goesByRule_55 : decode cX11_goesByRule 55 = .ok (.if_icmp .eq 31, 3) := by decide +kernel
theorem dX11_goesByRule_58 : decode cX11_goesByRule 58 = .ok (.iload 6, 2) := by decide +kernel
theorem dX11_goesByRule_60 : decode cX11_goesByRule 60 = .ok (.iload 4, 2) := by decide +kernel
theorem dX11_goesByRule_62 : decode cX11_goesByRule 62 = .ok (.if_icmp .gt 31, 3) := by decide +kernel
theorem dX11_goesByRule_65 : decode cX11_goesByRule 65 = .ok (.iload 6, 2) := by decide +kernel
theorem dX11_goesByRule_67 : decode cX11_goesByRule 67 = .ok (.iload 4, 2) := by decide +kernel
theorem dX11_goesByRule_69 : decode cX11_goesByRule 69 = .ok (.if_icmp .ne 17, 3) := by decide +kernel
theorem dX11_goesByRule_72 : decode cX11_goesByRule 72 = .ok (.aload_n 0, 1) := by decide +kernel
theorem dX11_goesByRule_73 : decode cX11_goesByRule 73 = .ok (.iload_n 1, 1) := by decide +kernel
theorem dX11_goesByRule_74 : decode cX11_goesByRule 74 = .ok (.iload 5, 2) := by decide +kernel
theorem dX11_goesByRule_76 : decode cX11_goesByRule 76 = .ok (.iload_n 3, 1) := by decide +kernel
theorem dX11_goesByRule_77 : decode cX11_goesByRule 77 = .ok (.invokevirtual 128, 3) := by decide +kernel
theorem dX11_goesByRule_80 : decode cX11_goesByRule 80 = .ok (.ifCond .ne 6, 3) := by decide +kernel
theorem dX11_goesByRule_83 : decode cX11_goesByRule 83 = .ok (.goto 10, 3) := by decide +kernel
theorem dX11_goesByRule_86 : decode cX11_goesByRule 86 = .ok (.iload 5, 2) := by decide +kernel
theorem dX11_goesByRule_88 : decode cX11_goesByRule 88 = .ok (.istore_n 3, 1) := by decide +kernel
theorem dX11_goesByRule_89 : decode cX11_goesByRule 89 = .ok (.iload 6, 2) := by decide +kernel
theorem dX11_goesByRule_91 : decode cX11_goesByRule 91 = .ok (.istore 4, 2) := by decide +kernel
theorem dX11_goesByRule_93 : decode cX11_goesByRule 93 = .ok (.iinc 5 1, 3) := by decide +kernel
theorem dX11_goesByRule_96 : decode cX11_goesByRule 96 = .ok (.goto (-82), 3) := by decide +kernel
theorem dX11_goesByRule_99 : decode cX11_goesByRule 99 = .ok (.iload_n 3, 1) := by decide +kernel
theorem dX11_goesByRule_100 : decode cX11_goesByRule 100 = .ok (.iconst (-1), 1) := by decide +kernel
theorem dX11_goesByRule_101 : decode cX11_goesByRule 101 = .ok (.if_icmp .eq 7, 3) := by decide +kernel
theorem dX11_goesByRule_104 : decode cX11_goesByRule 104 = .ok (.iconst 1, 1) := by decide +kernel
theorem dX11_goesByRule_105 : decode cX11_goesByRule 105 = .ok (.goto 4, 3) := by decide +kernel
theorem dX11_goesByRule_108 : decode cX11_goesByRule 108 = .ok (.iconst 0, 1) := by decide +kernel
theorem dX11_goesByRule_109 : decode cX11_goesByRule 109 = .ok (.istore_n 2, 1) := by decide +kernel
theorem dX11_goesByRule_110 : decode cX11_goesByRule 110 = .ok (.iload_n 2, 1) := by decide +kernel
theorem dX11_goesByRule_111 : decode cX11_goesByRule 111 = .ok (.ifCond .ne 6, 3) := by decide +kernel
theorem dX11_goesByRule_114 : decode cX11_goesByRule 114 = .ok (.goto (-112), 3) := by decide +kernel
theorem dX11_goesByRule_117 : decode cX11_goesByRule 117 = .ok (.aload_n 0, 1) := by decide +kernel
theorem dX11_goesByRule_118 : decode cX11_goesByRule 118 = .ok (.iload_n 3, 1) := by decide +kernel
theorem dX11_goesByRule_119 : decode cX11_goesByRule 119 = .ok (.invokevirtual 131, 3) := by decide +kernel
theorem dX11_goesByRule_122 : decode cX11_goesByRule 122 = .ok (.aload_n 0, 1) := by decide +kernel
theorem dX11_goesByRule_123 : decode cX11_goesByRule 123 = .ok (.iload_n 3, 1) := by decide +kernel
theorem dX11_goesByRule_124 : decode cX11_goesByRule 124 = .ok (.iload 4, 2) := by decide +kernel
theorem dX11_goesByRule_126 : decode cX11_goesByRule 126 = .ok (.invokevirtual 116, 3) := by decide +kernel
theorem dX11_goesByRule_129 : decode cX11_goesByRule 129 = .ok (.goto (-127), 3) := by decide +kernel
theorem dX11_goesByRule_132 : decode cX11_goesByRule 132 = .ok (.return_, 1) := by decide +kernel
theorem dX11_puts_0 : decode cX11_puts 0 = .ok (.aload_n 0, 1) := by decide +kernel
theorem dX11_puts_1 : decode cX11_puts 1 = .ok (.iload_n 1, 1) := by decide +kernel
theorem dX11_puts_2 : decode cX11_puts 2 = .ok (.aload_n 0, 1) := by decide +kernel
theorem dX11_puts_3 : decode cX11_puts 3 = .ok (.getfield 19, 3) := by decide +kernel
theorem dX11_puts_6 : decode cX11_puts 6 = .ok (.iload_n 1, 1) := by decide +kernel
theorem dX11_puts_7 : decode cX11_puts 7 = .ok (.iaload, 1) := by decide +kernel
theorem dX11_puts_8 : decode cX11_puts 8 = .ok (.invokevirtual 95, 3) := by decide +kernel
theorem dX11_puts_11 : decode cX11_puts 11 = .ok (.bipush 31, 2) := by decide +kernel
theorem dX11_puts_13 : decode cX11_puts 13 = .ok (.imul, 1) := by decide +kernel
theorem dX11_puts_14 : decode cX11_puts 14 = .ok (.istore_n 2, 1) := by decide +kernel
theorem dX11_puts_15 : decode cX11_puts 15 = .ok (.aload_n 0, 1) := by decide +kernel
theorem dX11_puts_16 : decode cX11_puts 16 = .ok (.getfield 37, 3) := by decide +kernel
theorem dX11_puts_19 : decode cX11_puts 19 = .ok (.iload_n 2, 1) := by decide +kernel
theorem dX11_puts_20 : decode cX11_puts 20 = .ok (.iconst 1, 1) := by decide +kernel
theorem dX11_puts_21 : decode cX11_puts 21 = .ok (.iadd, 1) := by decide +kernel
theorem dX11_puts_22 : decode cX11_puts 22 = .ok (.aload_n 0, 1) := by decide +kernel
theorem dX11_puts_23 : decode cX11_puts 23 = .ok (.getfield 37, 3) := by decide +kernel
theorem dX11_puts_26 : decode cX11_puts 26 = .ok (.iload_n 2, 1) := by decide +kernel
theorem dX11_puts_27 : decode cX11_puts 27 = .ok (.iaload, 1) := by decide +kernel
theorem dX11_puts_28 : decode cX11_puts 28 = .ok (.iadd, 1) := by decide +kernel
theorem dX11_puts_29 : decode cX11_puts 29 = .ok (.bipush 10, 2) := by decide +kernel
theorem dX11_puts_31 : decode cX11_puts 31 = .ok (.iload_n 1, 1) := by decide +kernel
theorem dX11_puts_32 : decode cX11_puts 32 = .ok (.imul, 1) := by decide +kernel
theorem dX11_puts_33 : decode cX11_puts 33 = .ok (.aload_n 0, 1) := by decide +kernel
theorem dX11_puts_34 : decode cX11_puts 34 = .ok (.getfield 19, 3) := by decide +kernel
theorem dX11_puts_37 : decode cX11_puts 37 = .ok (.iload_n 1, 1) := by decide +kernel
theorem dX11_puts_38 : decode cX11_puts 38 = .ok (.iaload, 1) := by decide +kernel
theorem dX11_puts_39 : decode cX11_puts 39 = .ok (.iadd, 1) := by decide +kernel
theorem dX11_puts_40 : decode cX11_puts 40 = .ok (.iastore, 1) := by decide +kernel
theorem dX11_puts_41 : decode cX11_puts 41 = .ok (.aload_n 0, 1) := by decide +kernel
theorem dX11_puts_42 : decode cX11_puts 42 = .ok (.getfield 37, 3) := by decide +kernel
theorem dX11_puts_45 : decode cX11_puts 45 = .ok (.iload_n 2, 1) := by decide +kernel
theorem dX11_puts_46 : decode cX11_puts 46 = .ok (.dup2, 1) := by decide +kernel
theorem dX11_puts_47 : decode cX11_puts 47 = .ok (.iaload, 1) := by decide +kernel
theorem dX11_puts_48 : decode cX11_puts 48 = .ok (.iconst 1, 1) := by decide +kernel
theorem dX11_puts_49 : decode cX11_puts 49 = .ok (.iadd, 1) := by decide +kernel
theorem dX11_puts_50 : decode cX11_puts 50 = .ok (.iastore, 1) := by decide +kernel
theorem dX11_puts_51 : decode cX11_puts 51 = .ok (.return_, 1) := by decide +kernel
theorem dX11_clearsOrder_0 : decode cX11_clearsOrder 0 = .ok (.iconst 0, 1) := by decide +kernel
theorem dX11_clearsOrder_1 : decode cX11_clearsOrder 1 = .ok (.istore_n 1, 1) := by decide +kernel
theorem dX11_clearsOrder_2 : decode cX11_clearsOrder 2 = .ok (.iload_n 1, 1) := by decide +kernel
theorem dX11_clearsOrder_3 : decode cX11_clearsOrder 3 = .ok (.iconst 4, 1) := by decide +kernel
theorem dX11_clearsOrder_4 : decode cX11_clearsOrder 4 = .ok (.if_icmp .ge 19, 3) := by decide +kernel
theorem dX11_clearsOrder_7 : decode cX11_clearsOrder 7 = .ok (.aload_n 0, 1) := by decide +kernel
theorem dX11_clearsOrder_8 : decode cX11_clearsOrder 8 = .ok (.getfield 37, 3) := by decide +kernel
theorem dX11_clearsOrder_11 : decode cX11_clearsOrder 11 = .ok (.iload_n 1, 1) := by decide +kernel
theorem dX11_clearsOrder_12 : decode cX11_clearsOrder 12 = .ok (.bipush 31, 2) := by decide +kernel
theorem dX11_clearsOrder_14 : decode cX11_clearsOrder 14 = .ok (.imul, 1) := by decide +kernel
theorem dX11_clearsOrder_15 : decode cX11_clearsOrder 15 = .ok (.iconst 0, 1) := by decide +kernel
theorem dX11_clearsOrder_16 : decode cX11_clearsOrder 16 = .ok (.iastore, 1) := by decide +kernel
theorem dX11_clearsOrder_17 : decode cX11_clearsOrder 17 = .ok (.iinc 1 1, 3) := by decide +kernel
theorem dX11_clearsOrder_20 : decode cX11_clearsOrder 20 = .ok (.goto (-18), 3) := by decide +kernel
theorem dX11_clearsOrder_23 : decode cX11_clearsOrder 23 = .ok (.return_, 1) := by decide +kernel
theorem dX11_takesOrder_0 : decode cX11_takesOrder 0 = .ok (.aload_n 0, 1) := by decide +kernel
theorem dX11_takesOrder_1 : decode cX11_takesOrder 1 = .ok (.getfield 37, 3) := by decide +kernel
theorem dX11_takesOrder_4 : decode cX11_takesOrder 4 = .ok (.iconst 0, 1) := by decide +kernel
theorem dX11_takesOrder_5 : decode cX11_takesOrder 5 = .ok (.aload_n 0, 1) := by decide +kernel
theorem dX11_takesOrder_6 : decode cX11_takesOrder 6 = .ok (.getfield 9, 3) := by decide +kernel
theorem dX11_takesOrder_9 : decode cX11_takesOrder 9 = .ok (.sipush 152, 3) := by decide +kernel
theorem dX11_takesOrder_12 : decode cX11_takesOrder 12 = .ok (.bipush 124, 2) := by decide +kernel
theorem dX11_takesOrder_14 : decode cX11_takesOrder 14 = .ok (.invokestatic 135, 3) := by decide +kernel
theorem dX11_takesOrder_17 : decode cX11_takesOrder 17 = .ok (.aload_n 0, 1) := by decide +kernel
theorem dX11_takesOrder_18 : decode cX11_takesOrder 18 = .ok (.getfield 9, 3) := by decide +kernel
theorem dX11_takesOrder_21 : decode cX11_takesOrder 21 = .ok (.sipush 151, 3) := by decide +kernel
theorem dX11_takesOrder_24 : decode cX11_takesOrder 24 = .ok (.iconst 1, 1) := by decide +kernel
theorem dX11_takesOrder_25 : decode cX11_takesOrder 25 = .ok (.iastore, 1) := by decide +kernel
theorem dX11_takesOrder_26 : decode cX11_takesOrder 26 = .ok (.aload_n 0, 1) := by decide +kernel
theorem dX11_takesOrder_27 : decode cX11_takesOrder 27 = .ok (.invokevirtual 141, 3) := by decide +kernel
theorem dX11_takesOrder_30 : decode cX11_takesOrder 30 = .ok (.istore_n 1, 1) := by decide +kernel
theorem dX11_takesOrder_31 : decode cX11_takesOrder 31 = .ok (.aload_n 0, 1) := by decide +kernel
theorem dX11_takesOrder_32 : decode cX11_takesOrder 32 = .ok (.invokevirtual 145, 3) := by decide +kernel
theorem dX11_takesOrder_35 : decode cX11_takesOrder 35 = .ok (.ireturn, 1) := by decide +kernel
theorem dX11_noPlan_0 : decode cX11_noPlan 0 = .ok (.aload_n 0, 1) := by decide +kernel
theorem dX11_noPlan_1 : decode cX11_noPlan 1 = .ok (.getfield 9, 3) := by decide +kernel
theorem dX11_noPlan_4 : decode cX11_noPlan 4 = .ok (.sipush 151, 3) := by decide +kernel
theorem dX11_noPlan_7 : decode cX11_noPlan 7 = .ok (.iconst 0, 1) := by decide +kernel
theorem dX11_noPlan_8 : decode cX11_noPlan 8 = .ok (.iastore, 1) := by decide +kernel
theorem dX11_noPlan_9 : decode cX11_noPlan 9 = .ok (.iconst 0, 1) := by decide +kernel
theorem dX11_noPlan_10 : decode cX11_noPlan 10 = .ok (.istore_n 1, 1) := by decide +kernel
theorem dX11_noPlan_11 : decode cX11_noPlan 11 = .ok (.iload_n 1, 1) := by decide +kernel
theorem dX11_noPlan_12 : decode cX11_noPlan 12 = .ok (.iconst 4, 1) := by decide +kernel
theorem dX11_noPlan_13 : decode cX11_noPlan 13 = .ok (.if_icmp .ge 23, 3) := by decide +kernel
theorem dX11_noPlan_16 : decode cX11_noPlan 16 = .ok (.aload_n 0, 1) := by decide +kernel
theorem dX11_noPlan_17 : decode cX11_noPlan 17 = .ok (.getfield 9, 3) := by decide +kernel
theorem dX11_noPlan_20 : decode cX11_noPlan 20 = .ok (.sipush 152, 3) := by decide +kernel
theorem dX11_noPlan_23 : decode cX11_noPlan 23 = .ok (.iload_n 1, 1) := by decide +kernel
theorem dX11_noPlan_24 : decode cX11_noPlan 24 = .ok (.bipush 31, 2) := by decide +kernel
theorem dX11_noPlan_26 : decode cX11_noPlan 26 = .ok (.imul, 1) := by decide +kernel
theorem dX11_noPlan_27 : decode cX11_noPlan 27 = .ok (.iadd, 1) := by decide +kernel
theorem dX11_noPlan_28 : decode cX11_noPlan 28 = .ok (.iconst 0, 1) := by decide +kernel
theorem dX11_noPlan_29 : decode cX11_noPlan 29 = .ok (.iastore, 1) := by decide +kernel
theorem dX11_noPlan_30 : decode cX11_noPlan 30 = .ok (.iinc 1 1, 3) := by decide +kernel
theorem dX11_noPlan_33 : decode cX11_noPlan 33 = .ok (.goto (-22), 3) := by decide +kernel
theorem dX11_noPlan_36 : decode cX11_noPlan 36 = .ok (.return_, 1) := by decide +kernel
theorem dX11_keeps_0 : decode cX11_keeps 0 = .ok (.aload_n 0, 1) := by decide +kernel
theorem dX11_keeps_1 : decode cX11_keeps 1 = .ok (.getfield 148, 3) := by decide +kernel
theorem dX11_keeps_4 : decode cX11_keeps 4 = .ok (.bipush 8, 2) := by decide +kernel
theorem dX11_keeps_6 : decode cX11_keeps 6 = .ok (.if_icmp .ne 31, 3) := by decide +kernel
theorem dX11_keeps_9 : decode cX11_keeps 9 = .ok (.aload_n 0, 1) := by decide +kernel
theorem dX11_keeps_10 : decode cX11_keeps 10 = .ok (.getfield 13, 3) := by decide +kernel
theorem dX11_keeps_13 : decode cX11_keeps 13 = .ok (.sipush 282, 3) := by decide +kernel
theorem dX11_keeps_16 : decode cX11_keeps 16 = .ok (.aload_n 0, 1) := by decide +kernel
theorem dX11_keeps_17 : decode cX11_keeps 17 = .ok (.getfield 13, 3) := by decide +kernel
theorem dX11_keeps_20 : decode cX11_keeps 20 = .ok (.iconst 0, 1) := by decide +kernel
theorem dX11_keeps_21 : decode cX11_keeps 21 = .ok (.sipush 1974, 3) := by decide +kernel
theorem dX11_keeps_24 : decode cX11_keeps 24 = .ok (.invokestatic 135, 3) := by decide +kernel
theorem dX11_keeps_27 : decode cX11_keeps 27 = .ok (.aload_n 0, 1) := by decide +kernel
theorem dX11_keeps_28 : decode cX11_keeps 28 = .ok (.dup, 1) := by decide +kernel
theorem dX11_keeps_29 : decode cX11_keeps 29 = .ok (.getfield 148, 3) := by decide +kernel
theorem dX11_keeps_32 : decode cX11_keeps 32 = .ok (.iconst 1, 1) := by decide +kernel
theorem dX11_keeps_33 : decode cX11_keeps 33 = .ok (.isub, 1) := by decide +kernel
theorem dX11_keeps_34 : decode cX11_keeps 34 = .ok (.putfield 148, 3) := by decide +kernel
theorem dX11_keeps_37 : decode cX11_keeps 37 = .ok (.aload_n 0, 1) := by decide +kernel
theorem dX11_keeps_38 : decode cX11_keeps 38 = .ok (.getfield 9, 3) := by decide +kernel
theorem dX11_keeps_41 : decode cX11_keeps 41 = .ok (.iconst 0, 1) := by decide +kernel
theorem dX11_keeps_42 : decode cX11_keeps 42 = .ok (.aload_n 0, 1) := by decide +kernel
theorem dX11_keeps_43 : decode cX11_keeps 43 = .ok (.getfield 13, 3) := by decide +kernel
theorem dX11_keeps_46 : decode cX11_keeps 46 = .ok (.aload_n 0, 1) := by decide +kernel
theorem dX11_keeps_47 : decode cX11_keeps 47 = .ok (.getfield 148, 3) := by decide +kernel
theorem dX11_keeps_50 : decode cX11_keeps 50 = .ok (.sipush 282, 3) := by decide +kernel
theorem dX11_keeps_53 : decode cX11_keeps 53 = .ok (.imul, 1) := by decide +kernel
theorem dX11_keeps_54 : decode cX11_keeps 54 = .ok (.sipush 282, 3) := by decide +kernel
theorem dX11_keeps_57 : decode cX11_keeps 57 = .ok (.invokestatic 135, 3) := by decide +kernel
theorem dX11_keeps_60 : decode cX11_keeps 60 = .ok (.aload_n 0, 1) := by decide +kernel
theorem dX11_keeps_61 : decode cX11_keeps 61 = .ok (.dup, 1) := by decide +kernel
theorem dX11_keeps_62 : decode cX11_keeps 62 = .ok (.getfield 148, 3) := by decide +kernel
theorem dX11_keeps_65 : decode cX11_keeps 65 = .ok (.iconst 1, 1) := by decide +kernel
theorem dX11_keeps_66 : decode cX11_keeps 66 = .ok (.iadd, 1) := by decide +kernel
theorem dX11_keeps_67 : decode cX11_keeps 67 = .ok (.putfield 148, 3) := by decide +kernel
theorem dX11_keeps_70 : decode cX11_keeps 70 = .ok (.return_, 1) := by decide +kernel
theorem dX11_close_0 : decode cX11_close 0 = .ok (.iload_n 1, 1) := by decide +kernel
theorem dX11_close_1 : decode cX11_close 1 = .ok (.iconst 0, 1) := by decide +kernel
theorem dX11_close_2 : decode cX11_close 2 = .ok (.iconst 3, 1) := by decide +kernel
theorem dX11_close_3 : decode cX11_close 3 = .ok (.invokestatic 83, 3) := by decide +kernel
theorem dX11_close_6 : decode cX11_close 6 = .ok (.istore 4, 2) := by decide +kernel
theorem dX11_close_8 : decode cX11_close 8 = .ok (.aload_n 0, 1) := by decide +kernel
theorem dX11_close_9 : decode cX11_close 9 = .ok (.iload 4, 2) := by decide +kernel
theorem dX11_close_11 : decode cX11_close 11 = .ok (.iload_n 2, 1) := by decide +kernel
theorem dX11_close_12 : decode cX11_close 12 = .ok (.iconst 0, 1) := by decide +kernel
theorem dX11_close_13 : decode cX11_close 13 = .ok (.sipush 2000, 3) := by decide +kernel
theorem dX11_close_16 : decode cX11_close 16 = .ok (.invokestatic 83, 3) := by decide +kernel
theorem dX11_close_19 : decode cX11_close 19 = .ok (.ifCond .eq 19, 3) := by decide +kernel
theorem dX11_close_22 : decode cX11_close 22 = .ok (.iload_n 3, 1) := by decide +kernel
theorem dX11_close_23 : decode cX11_close 23 = .ok (.iload_n 2, 1) := by decide +kernel
theorem dX11_close_24 : decode cX11_close 24 = .ok (.if_icmp .le 14, 3) := by decide +kernel
theorem dX11_close_27 : decode cX11_close 27 = .ok (.iload_n 3, 1) := by decide +kernel
theorem dX11_close_28 : decode cX11_close 28 = .ok (.sipush 2000, 3) := by decide +kernel
theorem dX11_close_31 : decode cX11_close 31 = .ok (.if_icmp .gt 7, 3) := by decide +kernel
theorem dX11_close_34 : decode cX11_close 34 = .ok (.iconst 1, 1) := by decide +kernel
theorem dX11_close_35 : decode cX11_close 35 = .ok (.goto 4, 3) := by decide +kernel
theorem dX11_close_38 : decode cX11_close 38 = .ok (.iconst 0, 1) := by decide +kernel
theorem dX11_close_39 : decode cX11_close 39 = .ok (.iload 4, 2) := by decide +kernel
theorem dX11_close_41 : decode cX11_close 41 = .ok (.ifCond .eq 22, 3) := by decide +kernel
theorem dX11_close_44 : decode cX11_close 44 = .ok (.aload_n 0, 1) := by decide +kernel
theorem dX11_close_45 : decode cX11_close 45 = .ok (.getfield 9, 3) := by decide +kernel
theorem dX11_close_48 : decode cX11_close 48 = .ok (.iconst 1, 1) := by decide +kernel
theorem dX11_close_49 : decode cX11_close 49 = .ok (.iload_n 1, 1) := by decide +kernel
theorem dX11_close_50 : decode cX11_close 50 = .ok (.bipush 11, 2) := by decide +kernel
theorem dX11_close_52 : decode cX11_close 52 = .ok (.imul, 1) := by decide +kernel
theorem dX11_close_53 : decode cX11_close 53 = .ok (.iadd, 1) := by decide +kernel
theorem dX11_close_54 : decode cX11_close 54 = .ok (.iaload, 1) := by decide +kernel
theorem dX11_close_55 : decode cX11_close 55 = .ok (.iconst 4, 1) := by decide +kernel
theorem dX11_close_56 : decode cX11_close 56 = .ok (.if_icmp .ge 7, 3) := by decide +kernel
theorem dX11_close_59 : decode cX11_close 59 = .ok (.iconst 1, 1) := by decide +kernel
theorem dX11_close_60 : decode cX11_close 60 = .ok (.goto 4, 3) := by decide +kernel
theorem dX11_close_63 : decode cX11_close 63 = .ok (.iconst 0, 1) := by decide +kernel
theorem dX11_close_64 : decode cX11_close 64 = .ok (.invokevirtual 151, 3) := by decide +kernel
theorem dX11_close_67 : decode cX11_close 67 = .ok (.ifCond .ne 5, 3) := by decide +kernel
theorem dX11_close_70 : decode cX11_close 70 = .ok (.iconst 0, 1) := by decide +kernel
theorem dX11_close_71 : decode cX11_close 71 = .ok (.ireturn, 1) := by decide +kernel
theorem dX11_close_72 : decode cX11_close 72 = .ok (.aload_n 0, 1) := by decide +kernel
theorem dX11_close_73 : decode cX11_close 73 = .ok (.invokevirtual 155, 3) := by decide +kernel
theorem dX11_close_76 : decode cX11_close 76 = .ok (.iconst 1, 1) := by decide +kernel
theorem dX11_close_77 : decode cX11_close 77 = .ok (.iload_n 1, 1) := by decide +kernel
theorem dX11_close_78 : decode cX11_close 78 = .ok (.bipush 11, 2) := by decide +kernel
theorem dX11_close_80 : decode cX11_close 80 = .ok (.imul, 1) := by decide +kernel
theorem dX11_close_81 : decode cX11_close 81 = .ok (.iadd, 1) := by decide +kernel
theorem dX11_close_82 : decode cX11_close 82 = .ok (.istore 5, 2) := by decide +kernel
theorem dX11_close_84 : decode cX11_close 84 = .ok (.aload_n 0, 1) := by decide +kernel
theorem dX11_close_85 : decode cX11_close 85 = .ok (.getfield 9, 3) := by decide +kernel
theorem dX11_close_88 : decode cX11_close 88 = .ok (.iload 5, 2) := by decide +kernel
theorem dX11_close_90 : decode cX11_close 90 = .ok (.iconst 1, 1) := by decide +kernel
theorem dX11_close_91 : decode cX11_close 91 = .ok (.iadd, 1) := by decide +kernel
theorem dX11_close_92 : decode cX11_close 92 = .ok (.iconst 2, 1) := by decide +kernel
theorem dX11_close_93 : decode cX11_close 93 = .ok (.aload_n 0, 1) := by decide +kernel
theorem dX11_close_94 : decode cX11_close 94 = .ok (.getfield 9, 3) := by decide +kernel
theorem dX11_close_97 : decode cX11_close 97 = .ok (.iload 5, 2) := by decide +kernel
theorem dX11_close_99 : decode cX11_close 99 = .ok (.iaload, 1) := by decide +kernel
theorem dX11_close_100 : decode cX11_close 100 = .ok (.imul, 1) := by decide +kernel
theorem dX11_close_101 : decode cX11_close 101 = .ok (.iadd, 1) := by decide +kernel
theorem dX11_close_102 : decode cX11_close 102 = .ok (.iload_n 2, 1) := by decide +kernel
theorem dX11_close_103 : decode cX11_close 103 = .ok (.iastore, 1) := by decide +kernel
theorem dX11_close_104 : decode cX11_close 104 = .ok (.aload_n 0, 1) := by decide +kernel
theorem dX11_close_105 : decode cX11_close 105 = .ok (.getfield 9, 3) := by decide +kernel
theorem dX11_close_108 : decode cX11_close 108 = .ok (.iload 5, 2) := by decide +kernel
theorem dX11_close_110 : decode cX11_close 110 = .ok (.iconst 1, 1) := by decide +kernel
theorem dX11_close_111 : decode cX11_close 111 = .ok (.iadd, 1) := by decide +kernel
theorem dX11_close_112 : decode cX11_close 112 = .ok (.iconst 2, 1) := by decide +kernel
theorem dX11_close_113 : decode cX11_close 113 = .ok (.aload_n 0, 1) := by decide +kernel
theorem dX11_close_114 : decode cX11_close 114 = .ok (.getfield 9, 3) := by decide +kernel
theorem dX11_close_117 : decode cX11_close 117 = .ok (.iload 5, 2) := by decide +kernel
theorem dX11_close_119 : decode cX11_close 119 = .ok (.iaload, 1) := by decide +kernel
theorem dX11_close_120 : decode cX11_close 120 = .ok (.imul, 1) := by decide +kernel
theorem dX11_close_121 : decode cX11_close 121 = .ok (.iadd, 1) := by decide +kernel
theorem dX11_close_122 : decode cX11_close 122 = .ok (.iconst 1, 1) := by decide +kernel
theorem dX11_close_123 : decode cX11_close 123 = .ok (.iadd, 1) := by decide +kernel
theorem dX11_close_124 : decode cX11_close 124 = .ok (.iload_n 3, 1) := by decide +kernel
theorem dX11_close_125 : decode cX11_close 125 = .ok (.iastore, 1) := by decide +kernel
theorem dX11_close_126 : decode cX11_close 126 = .ok (.aload_n 0, 1) := by decide +kernel
theorem dX11_close_127 : decode cX11_close 127 = .ok (.getfield 9, 3) := by decide +kernel
theorem dX11_close_130 : decode cX11_close 130 = .ok (.iload 5, 2) := by decide +kernel
theorem dX11_close_132 : decode cX11_close 132 = .ok (.dup2, 1) := by decide +kernel
theorem dX11_close_133 : decode cX11_close 133 = .ok (.iaload, 1) := by decide +kernel
theorem dX11_close_134 : decode cX11_close 134 = .ok (.iconst 1, 1) := by decide +kernel
theorem dX11_close_135 : decode cX11_close 135 = .ok (.iadd, 1) := by decide +kernel
theorem dX11_close_136 : decode cX11_close 136 = .ok (.iastore, 1) := by decide +kernel
theorem dX11_close_137 : decode cX11_close 137 = .ok (.aload_n 0, 1) := by decide +kernel
theorem dX11_close_138 : decode cX11_close 138 = .ok (.getfield 9, 3) := by decide +kernel
theorem dX11_close_141 : decode cX11_close 141 = .ok (.iload 5, 2) := by decide +kernel
theorem dX11_close_143 : decode cX11_close 143 = .ok (.iaload, 1) := by decide +kernel
theorem dX11_close_144 : decode cX11_close 144 = .ok (.ireturn, 1) := by decide +kernel
theorem dX11_setTool_0 : decode cX11_setTool 0 = .ok (.aload_n 0, 1) := by decide +kernel
theorem dX11_setTool_1 : decode cX11_setTool 1 = .ok (.iload_n 1, 1) := by decide +kernel
theorem dX11_setTool_2 : decode cX11_setTool 2 = .ok (.iconst 0, 1) := by decide +kernel
theorem dX11_setTool_3 : decode cX11_setTool 3 = .ok (.iconst 3, 1) := by decide +kernel
theorem dX11_setTool_4 : decode cX11_setTool 4 = .ok (.invokestatic 83, 3) := by decide +kernel
theorem dX11_setTool_7 : decode cX11_setTool 7 = .ok (.iload_n 2, 1) := by decide +kernel
theorem dX11_setTool_8 : decode cX11_setTool 8 = .ok (.ifCond .eq 15, 3) := by decide +kernel
theorem dX11_setTool_11 : decode cX11_setTool 11 = .ok (.iload_n 2, 1) := by decide +kernel
theorem dX11_setTool_12 : decode cX11_setTool 12 = .ok (.bipush 50, 2) := by decide +kernel
theorem dX11_setTool_14 : decode cX11_setTool 14 = .ok (.sipush 300, 3) := by decide +kernel
theorem dX11_setTool_17 : decode cX11_setTool 17 = .ok (.invokestatic 83, 3) := by decide +kernel
theorem dX11_setTool_20 : decode cX11_setTool 20 = .ok (.ifCond .eq 17, 3) := by decide +kernel
theorem dX11_setTool_23 : decode cX11_setTool 23 = .ok (.iload_n 3, 1) := by decide +kernel
theorem dX11_setTool_24 : decode cX11_setTool 24 = .ok (.iconst 0, 1) := by decide +kernel
theorem dX11_setTool_25 : decode cX11_setTool 25 = .ok (.bipush 20, 2) := by decide +kernel
theorem dX11_setTool_27 : decode cX11_setTool 27 = .ok (.invokestatic 83, 3) := by decide +kernel
theorem dX11_setTool_30 : decode cX11_setTool 30 = .ok (.ifCond .eq 7, 3) := by decide +kernel
theorem dX11_setTool_33 : decode cX11_setTool 33 = .ok (.iconst 1, 1) := by decide +kernel
theorem dX11_setTool_34 : decode cX11_setTool 34 = .ok (.goto 4, 3) := by decide +kernel
theorem dX11_setTool_37 : decode cX11_setTool 37 = .ok (.iconst 0, 1) := by decide +kernel
theorem dX11_setTool_38 : decode cX11_setTool 38 = .ok (.iconst 1, 1) := by decide +kernel
theorem dX11_setTool_39 : decode cX11_setTool 39 = .ok (.invokevirtual 151, 3) := by decide +kernel
theorem dX11_setTool_42 : decode cX11_setTool 42 = .ok (.ifCond .ne 5, 3) := by decide +kernel
theorem dX11_setTool_45 : decode cX11_setTool 45 = .ok (.iconst 0, 1) := by decide +kernel
theorem dX11_setTool_46 : decode cX11_setTool 46 = .ok (.ireturn, 1) := by decide +kernel
theorem dX11_setTool_47 : decode cX11_setTool 47 = .ok (.aload_n 0, 1) := by decide +kernel
theorem dX11_setTool_48 : decode cX11_setTool 48 = .ok (.invokevirtual 155, 3) := by decide +kernel
theorem dX11_setTool_51 : decode cX11_setTool 51 = .ok (.iconst 1, 1) := by decide +kernel
theorem dX11_setTool_52 : decode cX11_setTool 52 = .ok (.iload_n 1, 1) := by decide +kernel
theorem dX11_setTool_53 : decode cX11_setTool 53 = .ok (.bipush 11, 2) := by decide +kernel
theorem dX11_setTool_55 : decode cX11_setTool 55 = .ok (.imul, 1) := by decide +kernel
theorem dX11_setTool_56 : decode cX11_setTool 56 = .ok (.iadd, 1) := by decide +kernel
theorem dX11_setTool_57 : decode cX11_setTool 57 = .ok (.istore 4, 2) := by decide +kernel
theorem dX11_setTool_59 : decode cX11_setTool 59 = .ok (.aload_n 0, 1) := by decide +kernel
theorem dX11_setTool_60 : decode cX11_setTool 60 = .ok (.getfield 9, 3) := by decide +kernel
theorem dX11_setTool_63 : decode cX11_setTool 63 = .ok (.iload 4, 2) := by decide +kernel
theorem dX11_setTool_65 : decode cX11_setTool 65 = .ok (.bipush 9, 2) := by decide +kernel
theorem dX11_setTool_67 : decode cX11_setTool 67 = .ok (.iadd, 1) := by decide +kernel
theorem dX11_setTool_68 : decode cX11_setTool 68 = .ok (.iaload, 1) := by decide +kernel
theorem dX11_setTool_69 : decode cX11_setTool 69 = .ok (.istore 5, 2) := by decide +kernel
theorem dX11_setTool_71 : decode cX11_setTool 71 = .ok (.aload_n 0, 1) := by decide +kernel
theorem dX11_setTool_72 : decode cX11_setTool 72 = .ok (.getfield 9, 3) := by decide +kernel
theorem dX11_setTool_75 : decode cX11_setTool 75 = .ok (.iload 4, 2) := by decide +kernel
theorem dX11_setTool_77 : decode cX11_setTool 77 = .ok (.bipush 9, 2) := by decide +kernel
theorem dX11_setTool_79 : decode cX11_setTool 79 = .ok (.iadd, 1) := by decide +kernel
theorem dX11_setTool_80 : decode cX11_setTool 80 = .ok (.iload_n 2, 1) := by decide +kernel
theorem dX11_setTool_81 : decode cX11_setTool 81 = .ok (.iastore, 1) := by decide +kernel
theorem dX11_setTool_82 : decode cX11_setTool 82 = .ok (.aload_n 0, 1) := by decide +kernel
theorem dX11_setTool_83 : decode cX11_setTool 83 = .ok (.getfield 9, 3) := by decide +kernel
theorem dX11_setTool_86 : decode cX11_setTool 86 = .ok (.iload 4, 2) := by decide +kernel
theorem dX11_setTool_88 : decode cX11_setTool 88 = .ok (.bipush 10, 2) := by decide +kernel
theorem dX11_setTool_90 : decode cX11_setTool 90 = .ok (.iadd, 1) := by decide +kernel
theorem dX11_setTool_91 : decode cX11_setTool 91 = .ok (.iload_n 3, 1) := by decide +kernel
theorem dX11_setTool_92 : decode cX11_setTool 92 = .ok (.iastore, 1) := by decide +kernel
theorem dX11_setTool_93 : decode cX11_setTool 93 = .ok (.iload 5, 2) := by decide +kernel
theorem dX11_setTool_95 : decode cX11_setTool 95 = .ok (.ireturn, 1) := by decide +kernel
theorem dX11_setSetup_0 : decode cX11_setSetup 0 = .ok (.aload_n 0, 1) := by decide +kernel
theorem dX11_setSetup_1 : decode cX11_setSetup 1 = .ok (.iload_n 1, 1) := by decide +kernel
theorem dX11_setSetup_2 : decode cX11_setSetup 2 = .ok (.iconst 0, 1) := by decide +kernel
theorem dX11_setSetup_3 : decode cX11_setSetup 3 = .ok (.iconst 3, 1) := by decide +kernel
theorem dX11_setSetup_4 : decode cX11_setSetup 4 = .ok (.invokestatic 83, 3) := by decide +kernel
theorem dX11_setSetup_7 : decode cX11_setSetup 7 = .ok (.ifCond .eq 16, 3) := by decide +kernel
theorem dX11_setSetup_10 : decode cX11_setSetup 10 = .ok (.iload_n 2, 1) := by decide +kernel
theorem dX11_setSetup_11 : decode cX11_setSetup 11 = .ok (.iconst 0, 1) := by decide +kernel
theorem dX11_setSetup_12 : decode cX11_setSetup 12 = .ok (.iconst 3, 1) := by decide +kernel
theorem dX11_setSetup_13 : decode cX11_setSetup 13 = .ok (.invokestatic 83, 3) := by decide +kernel
theorem dX11_setSetup_16 : decode cX11_setSetup 16 = .ok (.ifCond .eq 7, 3) := by decide +kernel
theorem dX11_setSetup_19 : decode cX11_setSetup 19 = .ok (.iconst 1, 1) := by decide +kernel
theorem dX11_setSetup_20 : decode cX11_setSetup 20 = .ok (.goto 4, 3) := by decide +kernel
theorem dX11_setSetup_23 : decode cX11_setSetup 23 = .ok (.iconst 0, 1) := by decide +kernel
theorem dX11_setSetup_24 : decode cX11_setSetup 24 = .ok (.iload_n 3, 1) := by decide +kernel
theorem dX11_setSetup_25 : decode cX11_setSetup 25 = .ok (.iconst 0, 1) := by decide +kernel
theorem dX11_setSetup_26 : decode cX11_setSetup 26 = .ok (.bipush 20, 2) := by decide +kernel
theorem dX11_setSetup_28 : decode cX11_setSetup 28 = .ok (.invokestatic 83, 3) := by decide +kernel
theorem dX11_setSetup_31 : decode cX11_setSetup 31 = .ok (.iconst 1, 1) := by decide +kernel
theorem dX11_setSetup_32 : decode cX11_setSetup 32 = .ok (.invokevirtual 151, 3) := by decide +kernel
theorem dX11_setSetup_35 : decode cX11_setSetup 35 = .ok (.ifCond .ne 5, 3) := by decide +kernel
theorem dX11_setSetup_38 : decode cX11_setSetup 38 = .ok (.iconst 0, 1) := by decide +kernel
theorem dX11_setSetup_39 : decode cX11_setSetup 39 = .ok (.ireturn, 1) := by decide +kernel
theorem dX11_setSetup_40 : decode cX11_setSetup 40 = .ok (.aload_n 0, 1) := by decide +kernel
theorem dX11_setSetup_41 : decode cX11_setSetup 41 = .ok (.invokevirtual 155, 3) := by decide +kernel
theorem dX11_setSetup_44 : decode cX11_setSetup 44 = .ok (.aload_n 0, 1) := by decide +kernel
theorem dX11_setSetup_45 : decode cX11_setSetup 45 = .ok (.getfield 9, 3) := by decide +kernel
theorem dX11_setSetup_48 : decode cX11_setSetup 48 = .ok (.bipush 45, 2) := by decide +kernel
theorem dX11_setSetup_50 : decode cX11_setSetup 50 = .ok (.iconst 4, 1) := by decide +kernel
theorem dX11_setSetup_51 : decode cX11_setSetup 51 = .ok (.iload_n 1, 1) := by decide +kernel
theorem dX11_setSetup_52 : decode cX11_setSetup 52 = .ok (.imul, 1) := by decide +kernel
theorem dX11_setSetup_53 : decode cX11_setSetup 53 = .ok (.iadd, 1) := by decide +kernel
theorem dX11_setSetup_54 : decode cX11_setSetup 54 = .ok (.iload_n 2, 1) := by decide +kernel
theorem dX11_setSetup_55 : decode cX11_setSetup 55 = .ok (.iadd, 1) := by decide +kernel
theorem dX11_setSetup_56 : decode cX11_setSetup 56 = .ok (.iaload, 1) := by decide +kernel
theorem dX11_setSetup_57 : decode cX11_setSetup 57 = .ok (.istore 4, 2) := by decide +kernel
theorem dX11_setSetup_59 : decode cX11_setSetup 59 = .ok (.aload_n 0, 1) := by decide +kernel
theorem dX11_setSetup_60 : decode cX11_setSetup 60 = .ok (.getfield 9, 3) := by decide +kernel
theorem dX11_setSetup_63 : decode cX11_setSetup 63 = .ok (.bipush 45, 2) := by decide +kernel
theorem dX11_setSetup_65 : decode cX11_setSetup 65 = .ok (.iconst 4, 1) := by decide +kernel
theorem dX11_setSetup_66 : decode cX11_setSetup 66 = .ok (.iload_n 1, 1) := by decide +kernel
theorem dX11_setSetup_67 : decode cX11_setSetup 67 = .ok (.imul, 1) := by decide +kernel
theorem dX11_setSetup_68 : decode cX11_setSetup 68 = .ok (.iadd, 1) := by decide +kernel
theorem dX11_setSetup_69 : decode cX11_setSetup 69 = .ok (.iload_n 2, 1) := by decide +kernel
theorem dX11_setSetup_70 : decode cX11_setSetup 70 = .ok (.iadd, 1) := by decide +kernel
theorem dX11_setSetup_71 : decode cX11_setSetup 71 = .ok (.iload_n 3, 1) := by decide +kernel
theorem dX11_setSetup_72 : decode cX11_setSetup 72 = .ok (.iastore, 1) := by decide +kernel
theorem dX11_setSetup_73 : decode cX11_setSetup 73 = .ok (.aload_n 0, 1) := by decide +kernel
theorem dX11_setSetup_74 : decode cX11_setSetup 74 = .ok (.invokevirtual 158, 3) := by decide +kernel
theorem dX11_setSetup_77 : decode cX11_setSetup 77 = .ok (.iload 4, 2) := by decide +kernel
theorem dX11_setSetup_79 : decode cX11_setSetup 79 = .ok (.ireturn, 1) := by decide +kernel
theorem dX11_addJob_0 : decode cX11_addJob 0 = .ok (.aload_n 0, 1) := by decide +kernel
theorem dX11_addJob_1 : decode cX11_addJob 1 = .ok (.iload 4, 2) := by decide +kernel
theorem dX11_addJob_3 : decode cX11_addJob 3 = .ok (.iconst 0, 1) := by decide +kernel
theorem dX11_addJob_4 : decode cX11_addJob 4 = .ok (.iconst 3, 1) := by decide +kernel
theorem dX11_addJob_5 : decode cX11_addJob 5 = .ok (.invokestatic 83, 3) := by decide +kernel
theorem dX11_addJob_8 : decode cX11_addJob 8 = .ok (.iload_n 1, 1) := by decide +kernel
theorem dX11_addJob_9 : decode cX11_addJob 9 = .ok (.iconst 0, 1) := by decide +kernel
theorem dX11_addJob_10 : decode cX11_addJob 10 = .ok (.sipush 200, 3) := by decide +kernel
theorem dX11_addJob_13 : decode cX11_addJob 13 = .ok (.invokestatic 83, 3) := by decide +kernel
theorem dX11_addJob_16 : decode cX11_addJob 16 = .ok (.ifCond .eq 28, 3) := by decide +kernel
theorem dX11_addJob_19 : decode cX11_addJob 19 = .ok (.iload_n 2, 1) := by decide +kernel
theorem dX11_addJob_20 : decode cX11_addJob 20 = .ok (.iconst 0, 1) := by decide +kernel
theorem dX11_addJob_21 : decode cX11_addJob 21 = .ok (.sipush 1000, 3) := by decide +kernel
theorem dX11_addJob_24 : decode cX11_addJob 24 = .ok (.invokestatic 83, 3) := by decide +kernel
theorem dX11_addJob_27 : decode cX11_addJob 27 = .ok (.ifCond .eq 17, 3) := by decide +kernel
theorem dX11_addJob_30 : decode cX11_addJob 30 = .ok (.iload_n 3, 1) := by decide +kernel
theorem dX11_addJob_31 : decode cX11_addJob 31 = .ok (.iconst 1, 1) := by decide +kernel
theorem dX11_addJob_32 : decode cX11_addJob 32 = .ok (.bipush 9, 2) := by decide +kernel
theorem dX11_addJob_34 : decode cX11_addJob 34 = .ok (.invokestatic 83, 3) := by decide +kernel
theorem dX11_addJob_37 : decode cX11_addJob 37 = .ok (.ifCond .eq 7, 3) := by decide +kernel
theorem dX11_addJob_40 : decode cX11_addJob 40 = .ok (.iconst 1, 1) := by decide +kernel
theorem dX11_addJob_41 : decode cX11_addJob 41 = .ok (.goto 4, 3) := by decide +kernel
theorem dX11_addJob_44 : decode cX11_addJob 44 = .ok (.iconst 0, 1) := by decide +kernel
theorem dX11_addJob_45 : decode cX11_addJob 45 = .ok (.aload_n 0, 1) := by decide +kernel
theorem dX11_addJob_46 : decode cX11_addJob 46 = .ok (.getfield 9, 3) := by decide +kernel
theorem dX11_addJob_49 : decode cX11_addJob 49 = .ok (.iconst 0, 1) := by decide +kernel
theorem dX11_addJob_50 : decode cX11_addJob 50 = .ok (.iaload, 1) := by decide +kernel
theorem dX11_addJob_51 : decode cX11_addJob 51 = .ok (.bipush 6, 2) := by decide +kernel
theorem dX11_addJob_53 : decode cX11_addJob 53 = .ok (.if_icmp .ge 7, 3) := by decide +kernel
theorem dX11_addJob_56 : decode cX11_addJob 56 = .ok (.iconst 1, 1) := by decide +kernel
theorem dX11_addJob_57 : decode cX11_addJob 57 = .ok (.goto 4, 3) := by decide +kernel
theorem dX11_addJob_60 : decode cX11_addJob 60 = .ok (.iconst 0, 1) := by decide +kernel
theorem dX11_addJob_61 : decode cX11_addJob 61 = .ok (.invokevirtual 151, 3) := by decide +kernel
theorem dX11_addJob_64 : decode cX11_addJob 64 = .ok (.ifCond .ne 5, 3) := by decide +kernel
theorem dX11_addJob_67 : decode cX11_addJob 67 = .ok (.iconst 0, 1) := by decide +kernel
theorem dX11_addJob_68 : decode cX11_addJob 68 = .ok (.ireturn, 1) := by decide +kernel
theorem dX11_addJob_69 : decode cX11_addJob 69 = .ok (.aload_n 0, 1) := by decide +kernel
theorem dX11_addJob_70 : decode cX11_addJob 70 = .ok (.invokevirtual 155, 3) := by decide +kernel
theorem dX11_addJob_73 : decode cX11_addJob 73 = .ok (.aload_n 0, 1) := by decide +kernel
theorem dX11_addJob_74 : decode cX11_addJob 74 = .ok (.iload_n 1, 1) := by decide +kernel
theorem dX11_addJob_75 : decode cX11_addJob 75 = .ok (.iload_n 2, 1) := by decide +kernel
theorem dX11_addJob_76 : decode cX11_addJob 76 = .ok (.iload 4, 2) := by decide +kernel
theorem dX11_addJob_78 : decode cX11_addJob 78 = .ok (.invokevirtual 61, 3) := by decide +kernel
theorem dX11_addJob_81 : decode cX11_addJob 81 = .ok (.aload_n 0, 1) := by decide +kernel
theorem dX11_addJob_82 : decode cX11_addJob 82 = .ok (.getfield 9, 3) := by decide +kernel
theorem dX11_addJob_85 : decode cX11_addJob 85 = .ok (.bipush 61, 2) := by decide +kernel
theorem dX11_addJob_87 : decode cX11_addJob 87 = .ok (.aload_n 0, 1) := by decide +kernel
theorem dX11_addJob_88 : decode cX11_addJob 88 = .ok (.getfield 9, 3) := by decide +kernel
theorem dX11_addJob_91 : decode cX11_addJob 91 = .ok (.iconst 0, 1) := by decide +kernel
theorem dX11_addJob_92 : decode cX11_addJob 92 = .ok (.iaload, 1) := by decide +kernel
theorem dX11_addJob_93 : decode cX11_addJob 93 = .ok (.iconst 1, 1) := by decide +kernel
theorem dX11_addJob_94 : decode cX11_addJob 94 = .ok (.isub, 1) := by decide +kernel
theorem dX11_addJob_95 : decode cX11_addJob 95 = .ok (.bipush 15, 2) := by decide +kernel
theorem dX11_addJob_97 : decode cX11_addJob 97 = .ok (.imul, 1) := by decide +kernel
theorem dX11_addJob_98 : decode cX11_addJob 98 = .ok (.iadd, 1) := by decide +kernel
theorem dX11_addJob_99 : decode cX11_addJob 99 = .ok (.iconst 2, 1) := by decide +kernel
theorem dX11_addJob_100 : decode cX11_addJob 100 = .ok (.iadd, 1) := by decide +kernel
theorem dX11_addJob_101 : decode cX11_addJob 101 = .ok (.iload_n 3, 1) := by decide +kernel
theorem dX11_addJob_102 : decode cX11_addJob 102 = .ok (.iastore, 1) := by decide +kernel
theorem dX11_addJob_103 : decode cX11_addJob 103 = .ok (.aload_n 0, 1) := by decide +kernel
theorem dX11_addJob_104 : decode cX11_addJob 104 = .ok (.invokevirtual 158, 3) := by decide +kernel
theorem dX11_addJob_107 : decode cX11_addJob 107 = .ok (.aload_n 0, 1) := by decide +kernel
theorem dX11_addJob_108 : decode cX11_addJob 108 = .ok (.getfield 9, 3) := by decide +kernel
theorem dX11_addJob_111 : decode cX11_addJob 111 = .ok (.iconst 0, 1) := by decide +kernel
theorem dX11_addJob_112 : decode cX11_addJob 112 = .ok (.iaload, 1) := by decide +kernel
theorem dX11_addJob_113 : decode cX11_addJob 113 = .ok (.iconst 1, 1) := by decide +kernel
theorem dX11_addJob_114 : decode cX11_addJob 114 = .ok (.isub, 1) := by decide +kernel
theorem dX11_addJob_115 : decode cX11_addJob 115 = .ok (.ireturn, 1) := by decide +kernel
theorem dX11_addStep_0 : decode cX11_addStep 0 = .ok (.aload_n 0, 1) := by decide +kernel
theorem dX11_addStep_1 : decode cX11_addStep 1 = .ok (.aload_n 0, 1) := by decide +kernel
theorem dX11_addStep_2 : decode cX11_addStep 2 = .ok (.iload_n 1, 1) := by decide +kernel
theorem dX11_addStep_3 : decode cX11_addStep 3 = .ok (.invokevirtual 87, 3) := by decide +kernel
theorem dX11_addStep_6 : decode cX11_addStep 6 = .ok (.ifCond .eq 16, 3) := by decide +kernel
theorem dX11_addStep_9 : decode cX11_addStep 9 = .ok (.iload_n 2, 1) := by decide +kernel
theorem dX11_addStep_10 : decode cX11_addStep 10 = .ok (.iconst 0, 1) := by decide +kernel
theorem dX11_addStep_11 : decode cX11_addStep 11 = .ok (.iconst 3, 1) := by decide +kernel
theorem dX11_addStep_12 : decode cX11_addStep 12 = .ok (.invokestatic 83, 3) := by decide +kernel
theorem dX11_addStep_15 : decode cX11_addStep 15 = .ok (.ifCond .eq 7, 3) := by decide +kernel
theorem dX11_addStep_18 : decode cX11_addStep 18 = .ok (.iconst 1, 1) := by decide +kernel
theorem dX11_addStep_19 : decode cX11_addStep 19 = .ok (.goto 4, 3) := by decide +kernel
theorem dX11_addStep_22 : decode cX11_addStep 22 = .ok (.iconst 0, 1) := by decide +kernel
theorem dX11_addStep_23 : decode cX11_addStep 23 = .ok (.iload_n 3, 1) := by decide +kernel
theorem dX11_addStep_24 : decode cX11_addStep 24 = .ok (.iconst 1, 1) := by decide +kernel
theorem dX11_addStep_25 : decode cX11_addStep 25 = .ok (.bipush 50, 2) := by decide +kernel
theorem dX11_addStep_27 : decode cX11_addStep 27 = .ok (.invokestatic 83, 3) := by decide +kernel
theorem dX11_addStep_30 : decode cX11_addStep 30 = .ok (.aload_n 0, 1) := by decide +kernel
theorem dX11_addStep_31 : decode cX11_addStep 31 = .ok (.iload_n 1, 1) := by decide +kernel
theorem dX11_addStep_32 : decode cX11_addStep 32 = .ok (.invokevirtual 87, 3) := by decide +kernel
theorem dX11_addStep_35 : decode cX11_addStep 35 = .ok (.ifCond .eq 17, 3) := by decide +kernel
theorem dX11_addStep_38 : decode cX11_addStep 38 = .ok (.aload_n 0, 1) := by decide +kernel
theorem dX11_addStep_39 : decode cX11_addStep 39 = .ok (.iload_n 1, 1) := by decide +kernel
theorem dX11_addStep_40 : decode cX11_addStep 40 = .ok (.iconst 4, 1) := by decide +kernel
theorem dX11_addStep_41 : decode cX11_addStep 41 = .ok (.invokevirtual 73, 3) := by decide +kernel
theorem dX11_addStep_44 : decode cX11_addStep 44 = .ok (.iconst 5, 1) := by decide +kernel
theorem dX11_addStep_45 : decode cX11_addStep 45 = .ok (.if_icmp .ge 7, 3) := by decide +kernel
theorem dX11_addStep_48 : decode cX11_addStep 48 = .ok (.iconst 1, 1) := by decide +kernel
theorem dX11_addStep_49 : decode cX11_addStep 49 = .ok (.goto 4, 3) := by decide +kernel
theorem dX11_addStep_52 : decode cX11_addStep 52 = .ok (.iconst 0, 1) := by decide +kernel
theorem dX11_addStep_53 : decode cX11_addStep 53 = .ok (.invokevirtual 151, 3) := by decide +kernel
theorem dX11_addStep_56 : decode cX11_addStep 56 = .ok (.ifCond .ne 5, 3) := by decide +kernel
theorem dX11_addStep_59 : decode cX11_addStep 59 = .ok (.iconst 0, 1) := by decide +kernel
theorem dX11_addStep_60 : decode cX11_addStep 60 = .ok (.ireturn, 1) := by decide +kernel
theorem dX11_addStep_61 : decode cX11_addStep 61 = .ok (.aload_n 0, 1) := by decide +kernel
theorem dX11_addStep_62 : decode cX11_addStep 62 = .ok (.invokevirtual 155, 3) := by decide +kernel
theorem dX11_addStep_65 : decode cX11_addStep 65 = .ok (.aload_n 0, 1) := by decide +kernel
theorem dX11_addStep_66 : decode cX11_addStep 66 = .ok (.invokevirtual 158, 3) := by decide +kernel
theorem dX11_addStep_69 : decode cX11_addStep 69 = .ok (.aload_n 0, 1) := by decide +kernel
theorem dX11_addStep_70 : decode cX11_addStep 70 = .ok (.iload_n 1, 1) := by decide +kernel
theorem dX11_addStep_71 : decode cX11_addStep 71 = .ok (.iload_n 2, 1) := by decide +kernel
theorem dX11_addStep_72 : decode cX11_addStep 72 = .ok (.iload_n 3, 1) := by decide +kernel
theorem dX11_addStep_73 : decode cX11_addStep 73 = .ok (.invokevirtual 65, 3) := by decide +kernel
theorem dX11_addStep_76 : decode cX11_addStep 76 = .ok (.ireturn, 1) := by decide +kernel
theorem dX11_cut_0 : decode cX11_cut 0 = .ok (.aload_n 0, 1) := by decide +kernel
theorem dX11_cut_1 : decode cX11_cut 1 = .ok (.iload_n 1, 1) := by decide +kernel
theorem dX11_cut_2 : decode cX11_cut 2 = .ok (.invokevirtual 87, 3) := by decide +kernel
theorem dX11_cut_5 : decode cX11_cut 5 = .ok (.ifCond .eq 27, 3) := by decide +kernel
theorem dX11_cut_8 : decode cX11_cut 8 = .ok (.aload_n 0, 1) := by decide +kernel
theorem dX11_cut_9 : decode cX11_cut 9 = .ok (.getfield 9, 3) := by decide +kernel
theorem dX11_cut_12 : decode cX11_cut 12 = .ok (.iconst 0, 1) := by decide +kernel
theorem dX11_cut_13 : decode cX11_cut 13 = .ok (.iaload, 1) := by decide +kernel
theorem dX11_cut_14 : decode cX11_cut 14 = .ok (.bipush 6, 2) := by decide +kernel
theorem dX11_cut_16 : decode cX11_cut 16 = .ok (.if_icmp .ge 16, 3) := by decide +kernel
theorem dX11_cut_19 : decode cX11_cut 19 = .ok (.aload_n 0, 1) := by decide +kernel
theorem dX11_cut_20 : decode cX11_cut 20 = .ok (.iload_n 1, 1) := by decide +kernel
theorem dX11_cut_21 : decode cX11_cut 21 = .ok (.iconst 4, 1) := by decide +kernel
theorem dX11_cut_22 : decode cX11_cut 22 = .ok (.invokevirtual 73, 3) := by decide +kernel
theorem dX11_cut_25 : decode cX11_cut 25 = .ok (.ifCond .le 7, 3) := by decide +kernel
theorem dX11_cut_28 : decode cX11_cut 28 = .ok (.iconst 1, 1) := by decide +kernel
theorem dX11_cut_29 : decode cX11_cut 29 = .ok (.goto 4, 3) := by decide +kernel
theorem dX11_cut_32 : decode cX11_cut 32 = .ok (.iconst 0, 1) := by decide +kernel
theorem dX11_cut_33 : decode cX11_cut 33 = .ok (.istore_n 2, 1) := by decide +kernel
theorem dX11_cut_34 : decode cX11_cut 34 = .ok (.iconst 0, 1) := by decide +kernel
theorem dX11_cut_35 : decode cX11_cut 35 = .ok (.istore_n 3, 1) := by decide +kernel
theorem dX11_cut_36 : decode cX11_cut 36 = .ok (.iload_n 2, 1) := by decide +kernel
theorem dX11_cut_37 : decode cX11_cut 37 = .ok (.ifCond .eq 35, 3) := by decide +kernel
theorem dX11_cut_40 : decode cX11_cut 40 = .ok (.iload_n 3, 1) := by decide +kernel
theorem dX11_cut_41 : decode cX11_cut 41 = .ok (.aload_n 0, 1) := by decide +kernel
theorem dX11_cut_42 : decode cX11_cut 42 = .ok (.iload_n 1, 1) := by decide +kernel
theorem dX11_cut_43 : decode cX11_cut 43 = .ok (.iconst 4, 1) := by decide +kernel
theorem dX11_cut_44 : decode cX11_cut 44 = .ok (.invokevirtual 73, 3) := by decide +kernel
theorem dX11_cut_47 : decode cX11_cut 47 = .ok (.if_icmp .ge 25, 3) := by decide +kernel
theorem dX11_cut_50 : decode cX11_cut 50 = .ok (.aload_n 0, 1) := by decide +kernel
theorem dX11_cut_51 : decode cX11_cut 51 = .ok (.iload_n 1, 1) := by decide +kernel
theorem dX11_cut_52 : decode cX11_cut 52 = .ok (.iload_n 3, 1) := by decide +kernel
theorem dX11_cut_53 : decode cX11_cut 53 = .ok (.invokevirtual 77, 3) := by decide +kernel
theorem dX11_cut_56 : decode cX11_cut 56 = .ok (.iconst 2, 1) := by decide +kernel
theorem dX11_cut_57 : decode cX11_cut 57 = .ok (.if_icmp .lt 7, 3) := by decide +kernel
theorem dX11_cut_60 : decode cX11_cut 60 = .ok (.iconst 1, 1) := by decide +kernel
theorem dX11_cut_61 : decode cX11_cut 61 = .ok (.goto 4, 3) := by decide +kernel
theorem dX11_cut_64 : decode cX11_cut 64 = .ok (.iconst 0, 1) := by decide +kernel
theorem dX11_cut_65 : decode cX11_cut 65 = .ok (.istore_n 2, 1) := by decide +kernel
theorem dX11_cut_66 : decode cX11_cut 66 = .ok (.iinc 3 1, 3) := by decide +kernel
theorem dX11_cut_69 : decode cX11_cut 69 = .ok (.goto (-33), 3) := by decide +kernel
theorem dX11_cut_72 : decode cX11_cut 72 = .ok (.aload_n 0, 1) := by decide +kernel
theorem dX11_cut_73 : decode cX11_cut 73 = .ok (.aload_n 0, 1) := by decide +kernel
theorem dX11_cut_74 : decode cX11_cut 74 = .ok (.iload_n 1, 1) := by decide +kernel
theorem dX11_cut_75 : decode cX11_cut 75 = .ok (.invokevirtual 87, 3) := by decide +kernel
theorem dX11_cut_78 : decode cX11_cut 78 = .ok (.iload_n 2, 1) := by decide +kernel
theorem dX11_cut_79 : decode cX11_cut 79 = .ok (.iconst 1, 1) := by decide +kernel
theorem dX11_cut_80 : decode cX11_cut 80 = .ok (.invokevirtual 151, 3) := by decide +kernel
theorem dX11_cut_83 : decode cX11_cut 83 = .ok (.ifCond .ne 5, 3) := by decide +kernel
theorem dX11_cut_86 : decode cX11_cut 86 = .ok (.iconst 0, 1) := by decide +kernel
theorem dX11_cut_87 : decode cX11_cut 87 = .ok (.ireturn, 1) := by decide +kernel
theorem dX11_cut_88 : decode cX11_cut 88 = .ok (.aload_n 0, 1) := by decide +kernel
theorem dX11_cut_89 : decode cX11_cut 89 = .ok (.invokevirtual 155, 3) := by decide +kernel
theorem dX11_cut_92 : decode cX11_cut 92 = .ok (.aload_n 0, 1) := by decide +kernel
theorem dX11_cut_93 : decode cX11_cut 93 = .ok (.aload_n 0, 1) := by decide +kernel
theorem dX11_cut_94 : decode cX11_cut 94 = .ok (.iload_n 1, 1) := by decide +kernel
theorem dX11_cut_95 : decode cX11_cut 95 = .ok (.iconst 0, 1) := by decide +kernel
theorem dX11_cut_96 : decode cX11_cut 96 = .ok (.invokevirtual 73, 3) := by decide +kernel
theorem dX11_cut_99 : decode cX11_cut 99 = .ok (.aload_n 0, 1) := by decide +kernel
theorem dX11_cut_100 : decode cX11_cut 100 = .ok (.iload_n 1, 1) := by decide +kernel
theorem dX11_cut_101 : decode cX11_cut 101 = .ok (.iconst 1, 1) := by decide +kernel
theorem dX11_cut_102 : decode cX11_cut 102 = .ok (.invokevirtual 73, 3) := by decide +kernel
theorem dX11_cut_105 : decode cX11_cut 105 = .ok (.aload_n 0, 1) := by decide +kernel
theorem dX11_cut_106 : decode cX11_cut 106 = .ok (.iload_n 1, 1) := by decide +kernel
theorem dX11_cut_107 : decode cX11_cut 107 = .ok (.iconst 3, 1) := by decide +kernel
theorem dX11_cut_108 : decode cX11_cut 108 = .ok (.invokevirtual 73, 3) := by decide +kernel
theorem dX11_cut_111 : decode cX11_cut 111 = .ok (.invokevirtual 61, 3) := by decide +kernel
theorem dX11_cut_114 : decode cX11_cut 114 = .ok (.aload_n 0, 1) := by decide +kernel
theorem dX11_cut_115 : decode cX11_cut 115 = .ok (.getfield 9, 3) := by decide +kernel
theorem dX11_cut_118 : decode cX11_cut 118 = .ok (.iconst 0, 1) := by decide +kernel
theorem dX11_cut_119 : decode cX11_cut 119 = .ok (.iaload, 1) := by decide +kernel
theorem dX11_cut_120 : decode cX11_cut 120 = .ok (.iconst 1, 1) := by decide +kernel
theorem dX11_cut_121 : decode cX11_cut 121 = .ok (.isub, 1) := by decide +kernel
theorem dX11_cut_122 : decode cX11_cut 122 = .ok (.istore_n 3, 1) := by decide +kernel
theorem dX11_cut_123 : decode cX11_cut 123 = .ok (.aload_n 0, 1) := by decide +kernel
theorem dX11_cut_124 : decode cX11_cut 124 = .ok (.getfield 9, 3) := by decide +kernel
theorem dX11_cut_127 : decode cX11_cut 127 = .ok (.bipush 61, 2) := by decide +kernel
theorem dX11_cut_129 : decode cX11_cut 129 = .ok (.iload_n 3, 1) := by decide +kernel
theorem dX11_cut_130 : decode cX11_cut 130 = .ok (.bipush 15, 2) := by decide +kernel
theorem dX11_cut_132 : decode cX11_cut 132 = .ok (.imul, 1) := by decide +kernel
theorem dX11_cut_133 : decode cX11_cut 133 = .ok (.iadd, 1) := by decide +kernel
theorem dX11_cut_134 : decode cX11_cut 134 = .ok (.iconst 2, 1) := by decide +kernel
theorem dX11_cut_135 : decode cX11_cut 135 = .ok (.iadd, 1) := by decide +kernel
theorem dX11_cut_136 : decode cX11_cut 136 = .ok (.aload_n 0, 1) := by decide +kernel
theorem dX11_cut_137 : decode cX11_cut 137 = .ok (.iload_n 1, 1) := by decide +kernel
theorem dX11_cut_138 : decode cX11_cut 138 = .ok (.iconst 2, 1) := by decide +kernel
theorem dX11_cut_139 : decode cX11_cut 139 = .ok (.invokevirtual 73, 3) := by decide +kernel
theorem dX11_cut_142 : decode cX11_cut 142 = .ok (.iastore, 1) := by decide +kernel
theorem dX11_cut_143 : decode cX11_cut 143 = .ok (.iconst 0, 1) := by decide +kernel
theorem dX11_cut_144 : decode cX11_cut 144 = .ok (.istore 4, 2) := by decide +kernel
theorem dX11_cut_146 : decode cX11_cut 146 = .ok (.iload 4, 2) := by decide +kernel
theorem dX11_cut_148 : decode cX11_cut 148 = .ok (.aload_n 0, 1) := by decide +kernel
theorem dX11_cut_149 : decode cX11_cut 149 = .ok (.iload_n 1, 1) := by decide +kernel
theorem dX11_cut_150 : decode cX11_cut 150 = .ok (.iconst 4, 1) := by decide +kernel
theorem dX11_cut_151 : decode cX11_cut 151 = .ok (.invokevirtual 73, 3) := by decide +kernel
theorem dX11_cut_154 : decode cX11_cut 154 = .ok (.if_icmp .ge 62, 3) := by decide +kernel
theorem dX11_cut_157 : decode cX11_cut 157 = .ok (.aload_n 0, 1) := by decide +kernel
theorem dX11_cut_158 : decode cX11_cut 158 = .ok (.iload_n 1, 1) := by decide +kernel
theorem dX11_cut_159 : decode cX11_cut 159 = .ok (.iload 4, 2) := by decide +kernel
theorem dX11_cut_161 : decode cX11_cut 161 = .ok (.invokevirtual 77, 3) := by decide +kernel
theorem dX11_cut_164 : decode cX11_cut 164 = .ok (.iconst 2, 1) := by decide +kernel
theorem dX11_cut_165 : decode cX11_cut 165 = .ok (.idiv, 1) := by decide +kernel
theorem dX11_cut_166 : decode cX11_cut 166 = .ok (.istore 5, 2) := by decide +kernel
theorem dX11_cut_168 : decode cX11_cut 168 = .ok (.aload_n 0, 1) := by decide +kernel
theorem dX11_cut_169 : decode cX11_cut 169 = .ok (.iload_n 3, 1) := by decide +kernel
theorem dX11_cut_170 : decode cX11_cut 170 = .ok (.aload_n 0, 1) := by decide +kernel
theorem dX11_cut_171 : decode cX11_cut 171 = .ok (.iload_n 1, 1) := by decide +kernel
theorem dX11_cut_172 : decode cX11_cut 172 = .ok (.iload 4, 2) := by decide +kernel
theorem dX11_cut_174 : decode cX11_cut 174 = .ok (.invokevirtual 95, 3) := by decide +kernel
theorem dX11_cut_177 : decode cX11_cut 177 = .ok (.iload 5, 2) := by decide +kernel
theorem dX11_cut_179 : decode cX11_cut 179 = .ok (.invokevirtual 65, 3) := by decide +kernel
theorem dX11_cut_182 : decode cX11_cut 182 = .ok (.istore 6, 2) := by decide +kernel
theorem dX11_cut_184 : decode cX11_cut 184 = .ok (.aload_n 0, 1) := by decide +kernel
theorem dX11_cut_185 : decode cX11_cut 185 = .ok (.getfield 9, 3) := by decide +kernel
theorem dX11_cut_188 : decode cX11_cut 188 = .ok (.bipush 61, 2) := by decide +kernel
theorem dX11_cut_190 : decode cX11_cut 190 = .ok (.iload_n 1, 1) := by decide +kernel
theorem dX11_cut_191 : decode cX11_cut 191 = .ok (.bipush 15, 2) := by decide +kernel
theorem dX11_cut_193 : decode cX11_cut 193 = .ok (.imul, 1) := by decide +kernel
theorem dX11_cut_194 : decode cX11_cut 194 = .ok (.iadd, 1) := by decide +kernel
theorem dX11_cut_195 : decode cX11_cut 195 = .ok (.iconst 5, 1) := by decide +kernel
theorem dX11_cut_196 : decode cX11_cut 196 = .ok (.iadd, 1) := by decide +kernel
theorem dX11_cut_197 : decode cX11_cut 197 = .ok (.iconst 2, 1) := by decide +kernel
theorem dX11_cut_198 : decode cX11_cut 198 = .ok (.iload 4, 2) := by decide +kernel
theorem dX11_cut_200 : decode cX11_cut 200 = .ok (.imul, 1) := by decide +kernel
theorem dX11_cut_201 : decode cX11_cut 201 = .ok (.iadd, 1) := by decide +kernel
theorem dX11_cut_202 : decode cX11_cut 202 = .ok (.iconst 1, 1) := by decide +kernel
theorem dX11_cut_203 : decode cX11_cut 203 = .ok (.iadd, 1) := by decide +kernel
theorem dX11_cut_204 : decode cX11_cut 204 = .ok (.dup2, 1) := by decide +kernel
theorem dX11_cut_205 : decode cX11_cut 205 = .ok (.iaload, 1) := by decide +kernel
theorem dX11_cut_206 : decode cX11_cut 206 = .ok (.iload 5, 2) := by decide +kernel
theorem dX11_cut_208 : decode cX11_cut 208 = .ok (.isub, 1) := by decide +kernel
theorem dX11_cut_209 : decode cX11_cut 209 = .ok (.iastore, 1) := by decide +kernel
theorem dX11_cut_210 : decode cX11_cut 210 = .ok (.iinc 4 1, 3) := by decide +kernel
theorem dX11_cut_213 : decode cX11_cut 213 = .ok (.goto (-67), 3) := by decide +kernel
theorem dX11_cut_216 : decode cX11_cut 216 = .ok (.aload_n 0, 1) := by decide +kernel
theorem dX11_cut_217 : decode cX11_cut 217 = .ok (.invokevirtual 158, 3) := by decide +kernel
theorem dX11_cut_220 : decode cX11_cut 220 = .ok (.iload_n 3, 1) := by decide +kernel
theorem dX11_cut_221 : decode cX11_cut 221 = .ok (.ireturn, 1) := by decide +kernel
theorem dX11_plan_0 : decode cX11_plan 0 = .ok (.aload_n 0, 1) := by decide +kernel
theorem dX11_plan_1 : decode cX11_plan 1 = .ok (.iload_n 1, 1) := by decide +kernel
theorem dX11_plan_2 : decode cX11_plan 2 = .ok (.iconst 0, 1) := by decide +kernel
theorem dX11_plan_3 : decode cX11_plan 3 = .ok (.bipush 7, 2) := by decide +kernel
theorem dX11_plan_5 : decode cX11_plan 5 = .ok (.invokestatic 83, 3) := by decide +kernel
theorem dX11_plan_8 : decode cX11_plan 8 = .ok (.iconst 1, 1) := by decide +kernel
theorem dX11_plan_9 : decode cX11_plan 9 = .ok (.iconst 1, 1) := by decide +kernel
theorem dX11_plan_10 : decode cX11_plan 10 = .ok (.invokevirtual 151, 3) := by decide +kernel
theorem dX11_plan_13 : decode cX11_plan 13 = .ok (.ifCond .ne 5, 3) := by decide +kernel
theorem dX11_plan_16 : decode cX11_plan 16 = .ok (.iconst 0, 1) := by decide +kernel
theorem dX11_plan_17 : decode cX11_plan 17 = .ok (.ireturn, 1) := by decide +kernel
theorem dX11_plan_18 : decode cX11_plan 18 = .ok (.aload_n 0, 1) := by decide +kernel
theorem dX11_plan_19 : decode cX11_plan 19 = .ok (.invokevirtual 155, 3) := by decide +kernel
theorem dX11_plan_22 : decode cX11_plan 22 = .ok (.aload_n 0, 1) := by decide +kernel
theorem dX11_plan_23 : decode cX11_plan 23 = .ok (.invokevirtual 109, 3) := by decide +kernel
theorem dX11_plan_26 : decode cX11_plan 26 = .ok (.aload_n 0, 1) := by decide +kernel
theorem dX11_plan_27 : decode cX11_plan 27 = .ok (.invokevirtual 161, 3) := by decide +kernel
theorem dX11_plan_30 : decode cX11_plan 30 = .ok (.aload_n 0, 1) := by decide +kernel
theorem dX11_plan_31 : decode cX11_plan 31 = .ok (.iload_n 1, 1) := by decide +kernel
theorem dX11_plan_32 : decode cX11_plan 32 = .ok (.invokevirtual 164, 3) := by decide +kernel
theorem dX11_plan_35 : decode cX11_plan 35 = .ok (.aload_n 0, 1) := by decide +kernel
theorem dX11_plan_36 : decode cX11_plan 36 = .ok (.invokevirtual 167, 3) := by decide +kernel
theorem dX11_plan_39 : decode cX11_plan 39 = .ok (.ireturn, 1) := by decide +kernel
theorem dX11_tell_0 : decode cX11_tell 0 = .ok (.lload_n 1, 1) := by decide +kernel
theorem dX11_tell_1 : decode cX11_tell 1 = .ok (.lconst 0, 1) := by decide +kernel
theorem dX11_tell_2 : decode cX11_tell 2 = .ok (.lcmp, 1) := by decide +kernel
theorem dX11_tell_3 : decode cX11_tell 3 = .ok (.ifCond .lt 7, 3) := by decide +kernel
theorem dX11_tell_6 : decode cX11_tell 6 = .ok (.iconst 1, 1) := by decide +kernel
theorem dX11_tell_7 : decode cX11_tell 7 = .ok (.goto 4, 3) := by decide +kernel
theorem dX11_tell_10 : decode cX11_tell 10 = .ok (.iconst 0, 1) := by decide +kernel
theorem dX11_tell_11 : decode cX11_tell 11 = .ok (.istore_n 3, 1) := by decide +kernel
theorem dX11_tell_12 : decode cX11_tell 12 = .ok (.iconst 0, 1) := by decide +kernel
theorem dX11_tell_13 : decode cX11_tell 13 = .ok (.istore 4, 2) := by decide +kernel
theorem dX11_tell_15 : decode cX11_tell 15 = .ok (.iload 4, 2) := by decide +kernel
theorem dX11_tell_17 : decode cX11_tell 17 = .ok (.bipush 6, 2) := by decide +kernel
theorem dX11_tell_19 : decode cX11_tell 19 = .ok (.if_icmp .ge 17, 3) := by decide +kernel
theorem dX11_tell_22 : decode cX11_tell 22 = .ok (.aload_n 0, 1) := by decide +kernel
theorem dX11_tell_23 : decode cX11_tell 23 = .ok (.getfield 49, 3) := by decide +kernel
theorem dX11_tell_26 : decode cX11_tell 26 = .ok (.iload 4, 2) := by decide +kernel
theorem dX11_tell_28 : decode cX11_tell 28 = .ok (.iconst 0, 1) := by decide +kernel
theorem dX11_tell_29 : decode cX11_tell 29 = .ok (.iastore, 1) := by decide +kernel
theorem dX11_tell_30 : decode cX11_tell 30 = .ok (.iinc 4 1, 3) := by decide +kernel
theorem dX11_tell_33 : decode cX11_tell 33 = .ok (.goto (-18), 3) := by decide +kernel
theorem dX11_tell_36 : decode cX11_tell 36 = .ok (.lload_n 1, 1) := by decide +kernel
theorem dX11_tell_37 : decode cX11_tell 37 = .ok (.lstore 4, 2) := by decide +kernel
theorem dX11_tell_39 : decode cX11_tell 39 = .ok (.lload 4, 2) := by decide +kernel
theorem dX11_tell_41 : decode cX11_tell 41 = .ok (.lconst 0, 1) := by decide +kernel
theorem dX11_tell_42 : decode cX11_tell 42 = .ok (.lcmp, 1) := by decide +kernel
theorem dX11_tell_43 : decode cX11_tell 43 = .ok (.ifCond .le 51, 3) := by decide +kernel
theorem dX11_tell_46 : decode cX11_tell 46 = .ok (.iload_n 3, 1) := by decide +kernel
theorem dX11_tell_47 : decode cX11_tell 47 = .ok (.ifCond .eq 47, 3) := by decide +kernel
theorem dX11_tell_50 : decode cX11_tell 50 = .ok (.lload 4, 2) := by decide +kernel
theorem dX11_tell_52 : decode cX11_tell 52 = .ok (.ldc2_w 170, 3) := by decide +kernel
theorem dX11_tell_55 : decode cX11_tell 55 = .ok (.lrem, 1) := by decide +kernel
theorem dX11_tell_56 : decode cX11_tell 56 = .ok (.l2i, 1) := by decide +kernel
theorem dX11_tell_57 : decode cX11_tell 57 = .ok (.iconst 1, 1) := by decide +kernel
theorem dX11_tell_58 : decode cX11_tell 58 = .ok (.isub, 1) := by decide +kernel
theorem dX11_tell_59 : decode cX11_tell 59 = .ok (.istore 6, 2) := by decide +kernel
theorem dX11_tell_61 : decode cX11_tell 61 = .ok (.aload_n 0, 1) := by decide +kernel
theorem dX11_tell_62 : decode cX11_tell 62 = .ok (.iload 6, 2) := by decide +kernel
theorem dX11_tell_64 : decode cX11_tell 64 = .ok (.invokevirtual 87, 3) := by decide +kernel
theorem dX11_tell_67 : decode cX11_tell 67 = .ok (.istore_n 3, 1) := by decide +kernel
theorem dX11_tell_68 : decode cX11_tell 68 = .ok (.iload_n 3, 1) := by decide +kernel
theorem dX11_tell_69 : decode cX11_tell 69 = .ok (.ifCond .eq 14, 3) := by decide +kernel
theorem dX11_tell_72 : decode cX11_tell 72 = .ok (.aload_n 0, 1) := by decide +kernel
theorem dX11_tell_73 : decode cX11_tell 73 = .ok (.getfield 49, 3) := by decide +kernel
theorem dX11_tell_76 : decode cX11_tell 76 = .ok (.iload 6, 2) := by decide +kernel
theorem dX11_tell_78 : decode cX11_tell 78 = .ok (.dup2, 1) := by decide +kernel
theorem dX11_tell_79 : decode cX11_tell 79 = .ok (.iaload, 1) := by decide +kernel
theorem dX11_tell_80 : decode cX11_tell 80 = .ok (.iconst 1, 1) := by decide +kernel
theorem dX11_tell_81 : decode cX11_tell 81 = .ok (.iadd, 1) := by decide +kernel
theorem dX11_tell_82 : decode cX11_tell 82 = .ok (.iastore, 1) := by decide +kernel
theorem dX11_tell_83 : decode cX11_tell 83 = .ok (.lload 4, 2) := by decide +kernel
theorem dX11_tell_85 : decode cX11_tell 85 = .ok (.ldc2_w 170, 3) := by decide +kernel
theorem dX11_tell_88 : decode cX11_tell 88 = .ok (.ldiv, 1) := by decide +kernel
theorem dX11_tell_89 : decode cX11_tell 89 = .ok (.lstore 4, 2) := by decide +kernel
theorem dX11_tell_91 : decode cX11_tell 91 = .ok (.goto (-52), 3) := by decide +kernel
theorem dX11_tell_94 : decode cX11_tell 94 = .ok (.iconst 0, 1) := by decide +kernel
theorem dX11_tell_95 : decode cX11_tell 95 = .ok (.istore 4, 2) := by decide +kernel
theorem dX11_tell_97 : decode cX11_tell 97 = .ok (.iload 4, 2) := by decide +kernel
theorem dX11_tell_99 : decode cX11_tell 99 = .ok (.aload_n 0, 1) := by decide +kernel
theorem dX11_tell_100 : decode cX11_tell 100 = .ok (.getfield 9, 3) := by decide +kernel
theorem dX11_tell_103 : decode cX11_tell 103 = .ok (.iconst 0, 1) := by decide +kernel
theorem dX11_tell_104 : decode cX11_tell 104 = .ok (.iaload, 1) := by decide +kernel
theorem dX11_tell_105 : decode cX11_tell 105 = .ok (.if_icmp .ge 36, 3) := by decide +kernel
theorem dX11_tell_108 : decode cX11_tell 108 = .ok (.iload_n 3, 1) := by decide +kernel
theorem dX11_tell_109 : decode cX11_tell 109 = .ok (.ifCond .eq 24, 3) := by decide +kernel
theorem dX11_tell_112 : decode cX11_tell 112 = .ok (.aload_n 0, 1) := by decide +kernel
theorem dX11_tell_113 : decode cX11_tell 113 = .ok (.getfield 49, 3) := by decide +kernel
theorem dX11_tell_116 : decode cX11_tell 116 = .ok (.iload 4, 2) := by decide +kernel
theorem dX11_tell_118 : decode cX11_tell 118 = .ok (.iaload, 1) := by decide +kernel
theorem dX11_tell_119 : decode cX11_tell 119 = .ok (.aload_n 0, 1) := by decide +kernel
theorem dX11_tell_120 : decode cX11_tell 120 = .ok (.iload 4, 2) := by decide +kernel
theorem dX11_tell_122 : decode cX11_tell 122 = .ok (.iconst 4, 1) := by decide +kernel
theorem dX11_tell_123 : decode cX11_tell 123 = .ok (.invokevirtual 73, 3) := by decide +kernel
theorem dX11_tell_126 : decode cX11_tell 126 = .ok (.if_icmp .ne 7, 3) := by decide +kernel
theorem dX11_tell_129 : decode cX11_tell 129 = .ok (.iconst 1, 1) := by decide +kernel
theorem dX11_tell_130 : decode cX11_tell 130 = .ok (.goto 4, 3) := by decide +kernel
theorem dX11_tell_133 : decode cX11_tell 133 = .ok (.iconst 0, 1) := by decide +kernel
theorem dX11_tell_134 : decode cX11_tell 134 = .ok (.istore_n 3, 1) := by decide +kernel
theorem dX11_tell_135 : decode cX11_tell 135 = .ok (.iinc 4 1, 3) := by decide +kernel
theorem dX11_tell_138 : decode cX11_tell 138 = .ok (.goto (-41), 3) := by decide +kernel
theorem dX11_tell_141 : decode cX11_tell 141 = .ok (.aload_n 0, 1) := by decide +kernel
theorem dX11_tell_142 : decode cX11_tell 142 = .ok (.iload_n 3, 1) := by decide +kernel
theorem dX11_tell_143 : decode cX11_tell 143 = .ok (.iconst 1, 1) := by decide +kernel
theorem dX11_tell_144 : decode cX11_tell 144 = .ok (.iconst 1, 1) := by decide +kernel
theorem dX11_tell_145 : decode cX11_tell 145 = .ok (.invokevirtual 151, 3) := by decide +kernel
theorem dX11_tell_148 : decode cX11_tell 148 = .ok (.ifCond .ne 5, 3) := by decide +kernel
theorem dX11_tell_151 : decode cX11_tell 151 = .ok (.iconst 0, 1) := by decide +kernel
theorem dX11_tell_152 : decode cX11_tell 152 = .ok (.ireturn, 1) := by decide +kernel
theorem dX11_tell_153 : decode cX11_tell 153 = .ok (.aload_n 0, 1) := by decide +kernel
theorem dX11_tell_154 : decode cX11_tell 154 = .ok (.invokevirtual 155, 3) := by decide +kernel
theorem dX11_tell_157 : decode cX11_tell 157 = .ok (.aload_n 0, 1) := by decide +kernel
theorem dX11_tell_158 : decode cX11_tell 158 = .ok (.invokevirtual 109, 3) := by decide +kernel
theorem dX11_tell_161 : decode cX11_tell 161 = .ok (.aload_n 0, 1) := by decide +kernel
theorem dX11_tell_162 : decode cX11_tell 162 = .ok (.invokevirtual 161, 3) := by decide +kernel
theorem dX11_tell_165 : decode cX11_tell 165 = .ok (.lconst 1, 1) := by decide +kernel
theorem dX11_tell_166 : decode cX11_tell 166 = .ok (.lstore 4, 2) := by decide +kernel
theorem dX11_tell_168 : decode cX11_tell 168 = .ok (.lload 4, 2) := by decide +kernel
theorem dX11_tell_170 : decode cX11_tell 170 = .ok (.lload_n 1, 1) := by decide +kernel
theorem dX11_tell_171 : decode cX11_tell 171 = .ok (.ldc2_w 170, 3) := by decide +kernel
theorem dX11_tell_174 : decode cX11_tell 174 = .ok (.ldiv, 1) := by decide +kernel
theorem dX11_tell_175 : decode cX11_tell 175 = .ok (.lcmp, 1) := by decide +kernel
theorem dX11_tell_176 : decode cX11_tell 176 = .ok (.ifCond .gt 14, 3) := by decide +kernel
theorem dX11_tell_179 : decode cX11_tell 179 = .ok (.lload 4, 2) := by decide +kernel
theorem dX11_tell_181 : decode cX11_tell 181 = .ok (.ldc2_w 170, 3) := by decide +kernel
theorem dX11_tell_184 : decode cX11_tell 184 = .ok (.lmul, 1) := by decide +kernel
theorem dX11_tell_185 : decode cX11_tell 185 = .ok (.lstore 4, 2) := by decide +kernel
theorem dX11_tell_187 : decode cX11_tell 187 = .ok (.goto (-19), 3) := by decide +kernel
theorem dX11_tell_190 : decode cX11_tell 190 = .ok (.lload 4, 2) := by decide +kernel
theorem dX11_tell_192 : decode cX11_tell 192 = .ok (.lconst 0, 1) := by decide +kernel
theorem dX11_tell_193 : decode cX11_tell 193 = .ok (.lcmp, 1) := by decide +kernel
theorem dX11_tell_194 : decode cX11_tell 194 = .ok (.ifCond .le 50, 3) := by decide +kernel
theorem dX11_tell_197 : decode cX11_tell 197 = .ok (.lload_n 1, 1) := by decide +kernel
theorem dX11_tell_198 : decode cX11_tell 198 = .ok (.lconst 0, 1) := by decide +kernel
theorem dX11_tell_199 : decode cX11_tell 199 = .ok (.lcmp, 1) := by decide +kernel
theorem dX11_tell_200 : decode cX11_tell 200 = .ok (.ifCond .le 44, 3) := by decide +kernel
theorem dX11_tell_203 : decode cX11_tell 203 = .ok (.lload_n 1, 1) := by decide +kernel
theorem dX11_tell_204 : decode cX11_tell 204 = .ok (.lload 4, 2) := by decide +kernel
theorem dX11_tell_206 : decode cX11_tell 206 = .ok (.ldiv, 1) := by decide +kernel
theorem dX11_tell_207 : decode cX11_tell 207 = .ok (.ldc2_w 170, 3) := by decide +kernel
theorem dX11_tell_210 : decode cX11_tell 210 = .ok (.lrem, 1) := by decide +kernel
theorem dX11_tell_211 : decode cX11_tell 211 = .ok (.l2i, 1) := by decide +kernel
theorem dX11_tell_212 : decode cX11_tell 212 = .ok (.iconst 1, 1) := by decide +kernel
theorem dX11_tell_213 : decode cX11_tell 213 = .ok (.isub, 1) := by decide +kernel
theorem dX11_tell_214 : decode cX11_tell 214 = .ok (.istore 6, 2) := by decide +kernel
theorem dX11_tell_216 : decode cX11_tell 216 = .ok (.aload_n 0, 1) := by decide +kernel
theorem dX11_tell_217 : decode cX11_tell 217 = .ok (.iload 6, 2) := by decide +kernel
theorem dX11_tell_219 : decode cX11_tell 219 = .ok (.invokevirtual 131, 3) := by decide +kernel
theorem dX11_tell_222 : decode cX11_tell 222 = .ok (.aload_n 0, 1) := by decide +kernel
theorem dX11_tell_223 : decode cX11_tell 223 = .ok (.getfield 19, 3) := by decide +kernel
theorem dX11_tell_226 : decode cX11_tell 226 = .ok (.iload 6, 2) := by decide +kernel
theorem dX11_tell_228 : decode cX11_tell 228 = .ok (.dup2, 1) := by decide +kernel
theorem dX11_tell_229 : decode cX11_tell 229 = .ok (.iaload, 1) := by decide +kernel
theorem dX11_tell_230 : decode cX11_tell 230 = .ok (.iconst 1, 1) := by decide +kernel
theorem dX11_tell_231 : decode cX11_tell 231 = .ok (.iadd, 1) := by decide +kernel
theorem dX11_tell_232 : decode cX11_tell 232 = .ok (.iastore, 1) := by decide +kernel
theorem dX11_tell_233 : decode cX11_tell 233 = .ok (.lload 4, 2) := by decide +kernel
theorem dX11_tell_235 : decode cX11_tell 235 = .ok (.ldc2_w 170, 3) := by decide +kernel
theorem dX11_tell_238 : decode cX11_tell 238 = .ok (.ldiv, 1) := by decide +kernel
theorem dX11_tell_239 : decode cX11_tell 239 = .ok (.lstore 4, 2) := by decide +kernel
theorem dX11_tell_241 : decode cX11_tell 241 = .ok (.goto (-51), 3) := by decide +kernel
theorem dX11_tell_244 : decode cX11_tell 244 = .ok (.aload_n 0, 1) := by decide +kernel
theorem dX11_tell_245 : decode cX11_tell 245 = .ok (.invokevirtual 167, 3) := by decide +kernel
theorem dX11_tell_248 : decode cX11_tell 248 = .ok (.ireturn, 1) := by decide +kernel
theorem dX11_remembers_0 : decode cX11_remembers 0 = .ok (.aload_n 0, 1) := by decide +kernel
theorem dX11_remembers_1 : decode cX11_remembers 1 = .ok (.iload_n 2, 1) := by decide +kernel
theorem dX11_remembers_2 : decode cX11_remembers 2 = .ok (.aload_n 0, 1) := by decide +kernel
theorem dX11_remembers_3 : decode cX11_remembers 3 = .ok (.getfield 19, 3) := by decide +kernel
theorem dX11_remembers_6 : decode cX11_remembers 6 = .ok (.iload_n 2, 1) := by decide +kernel
theorem dX11_remembers_7 : decode cX11_remembers 7 = .ok (.iaload, 1) := by decide +kernel
theorem dX11_remembers_8 : decode cX11_remembers 8 = .ok (.invokevirtual 95, 3) := by decide +kernel
theorem dX11_remembers_11 : decode cX11_remembers 11 = .ok (.istore_n 3, 1) := by decide +kernel
theorem dX11_remembers_12 : decode cX11_remembers 12 = .ok (.aload_n 0, 1) := by decide +kernel
theorem dX11_remembers_13 : decode cX11_remembers 13 = .ok (.getfield 43, 3) := by decide +kernel
theorem dX11_remembers_16 : decode cX11_remembers 16 = .ok (.iconst 4, 1) := by decide +kernel
theorem dX11_remembers_17 : decode cX11_remembers 17 = .ok (.iload_n 1, 1) := by decide +kernel
theorem dX11_remembers_18 : decode cX11_remembers 18 = .ok (.imul, 1) := by decide +kernel
theorem dX11_remembers_19 : decode cX11_remembers 19 = .ok (.aload_n 0, 1) := by decide +kernel
theorem dX11_remembers_20 : decode cX11_remembers 20 = .ok (.getfield 25, 3) := by decide +kernel
theorem dX11_remembers_23 : decode cX11_remembers 23 = .ok (.iload_n 3, 1) := by decide +kernel
theorem dX11_remembers_24 : decode cX11_remembers 24 = .ok (.iaload, 1) := by decide +kernel
theorem dX11_remembers_25 : decode cX11_remembers 25 = .ok (.iastore, 1) := by decide +kernel
theorem dX11_remembers_26 : decode cX11_remembers 26 = .ok (.aload_n 0, 1) := by decide +kernel
theorem dX11_remembers_27 : decode cX11_remembers 27 = .ok (.getfield 43, 3) := by decide +kernel
theorem dX11_remembers_30 : decode cX11_remembers 30 = .ok (.iconst 4, 1) := by decide +kernel
theorem dX11_remembers_31 : decode cX11_remembers 31 = .ok (.iload_n 1, 1) := by decide +kernel
theorem dX11_remembers_32 : decode cX11_remembers 32 = .ok (.imul, 1) := by decide +kernel
theorem dX11_remembers_33 : decode cX11_remembers 33 = .ok (.iconst 1, 1) := by decide +kernel
theorem dX11_remembers_34 : decode cX11_remembers 34 = .ok (.iadd, 1) := by decide +kernel
theorem dX11_remembers_35 : decode cX11_remembers 35 = .ok (.aload_n 0, 1) := by decide +kernel
theorem dX11_remembers_36 : decode cX11_remembers 36 = .ok (.getfield 28, 3) := by decide +kernel
theorem dX11_remembers_39 : decode cX11_remembers 39 = .ok (.iload_n 3, 1) := by decide +kernel
theorem dX11_remembers_40 : decode cX11_remembers 40 = .ok (.iaload, 1) := by decide +kernel
theorem dX11_remembers_41 : decode cX11_remembers 41 = .ok (.iastore, 1) := by decide +kernel
theorem dX11_remembers_42 : decode cX11_remembers 42 = .ok (.aload_n 0, 1) := by decide +kernel
theorem dX11_remembers_43 : decode cX11_remembers 43 = .ok (.getfield 43, 3) := by decide +kernel
theorem dX11_remembers_46 : decode cX11_remembers 46 = .ok (.iconst 4, 1) := by decide +kernel
theorem dX11_remembers_47 : decode cX11_remembers 47 = .ok (.iload_n 1, 1) := by decide +kernel
theorem dX11_remembers_48 : decode cX11_remembers 48 = .ok (.imul, 1) := by decide +kernel
theorem dX11_remembers_49 : decode cX11_remembers 49 = .ok (.iconst 2, 1) := by decide +kernel
theorem dX11_remembers_50 : decode cX11_remembers 50 = .ok (.iadd, 1) := by decide +kernel
theorem dX11_remembers_51 : decode cX11_remembers 51 = .ok (.aload_n 0, 1) := by decide +kernel
theorem dX11_remembers_52 : decode cX11_remembers 52 = .ok (.getfield 31, 3) := by decide +kernel
theorem dX11_remembers_55 : decode cX11_remembers 55 = .ok (.iload_n 3, 1) := by decide +kernel
theorem dX11_remembers_56 : decode cX11_remembers 56 = .ok (.iaload, 1) := by decide +kernel
theorem dX11_remembers_57 : decode cX11_remembers 57 = .ok (.iastore, 1) := by decide +kernel
theorem dX11_remembers_58 : decode cX11_remembers 58 = .ok (.aload_n 0, 1) := by decide +kernel
theorem dX11_remembers_59 : decode cX11_remembers 59 = .ok (.getfield 43, 3) := by decide +kernel
theorem dX11_remembers_62 : decode cX11_remembers 62 = .ok (.iconst 4, 1) := by decide +kernel
theorem dX11_remembers_63 : decode cX11_remembers 63 = .ok (.iload_n 1, 1) := by decide +kernel
theorem dX11_remembers_64 : decode cX11_remembers 64 = .ok (.imul, 1) := by decide +kernel
theorem dX11_remembers_65 : decode cX11_remembers 65 = .ok (.iconst 3, 1) := by decide +kernel
theorem dX11_remembers_66 : decode cX11_remembers 66 = .ok (.iadd, 1) := by decide +kernel
theorem dX11_remembers_67 : decode cX11_remembers 67 = .ok (.aload_n 0, 1) := by decide +kernel
theorem dX11_remembers_68 : decode cX11_remembers 68 = .ok (.getfield 22, 3) := by decide +kernel
theorem dX11_remembers_71 : decode cX11_remembers 71 = .ok (.iload_n 2, 1) := by decide +kernel
theorem dX11_remembers_72 : decode cX11_remembers 72 = .ok (.iaload, 1) := by decide +kernel
theorem dX11_remembers_73 : decode cX11_remembers 73 = .ok (.iastore, 1) := by decide +kernel
theorem dX11_remembers_74 : decode cX11_remembers 74 = .ok (.return_, 1) := by decide +kernel
theorem dX11_takesBack_0 : decode cX11_takesBack 0 = .ok (.aload_n 0, 1) := by decide +kernel
theorem dX11_takesBack_1 : decode cX11_takesBack 1 = .ok (.getfield 40, 3) := by decide +kernel
theorem dX11_takesBack_4 : decode cX11_takesBack 4 = .ok (.iload_n 1, 1) := by decide +kernel
theorem dX11_takesBack_5 : decode cX11_takesBack 5 = .ok (.iaload, 1) := by decide +kernel
theorem dX11_takesBack_6 : decode cX11_takesBack 6 = .ok (.istore_n 2, 1) := by decide +kernel
theorem dX11_takesBack_7 : decode cX11_takesBack 7 = .ok (.aload_n 0, 1) := by decide +kernel
theorem dX11_takesBack_8 : decode cX11_takesBack 8 = .ok (.getfield 19, 3) := by decide +kernel
theorem dX11_takesBack_11 : decode cX11_takesBack 11 = .ok (.iload_n 2, 1) := by decide +kernel
theorem dX11_takesBack_12 : decode cX11_takesBack 12 = .ok (.dup2, 1) := by decide +kernel
theorem dX11_takesBack_13 : decode cX11_takesBack 13 = .ok (.iaload, 1) := by decide +kernel
theorem dX11_takesBack_14 : decode cX11_takesBack 14 = .ok (.iconst 1, 1) := by decide +kernel
theorem dX11_takesBack_15 : decode cX11_takesBack 15 = .ok (.isub, 1) := by decide +kernel
theorem dX11_takesBack_16 : decode cX11_takesBack 16 = .ok (.iastore, 1) := by decide +kernel
theorem dX11_takesBack_17 : decode cX11_takesBack 17 = .ok (.aload_n 0, 1) := by decide +kernel
theorem dX11_takesBack_18 : decode cX11_takesBack 18 = .ok (.iload_n 2, 1) := by decide +kernel
theorem dX11_takesBack_19 : decode cX11_takesBack 19 = .ok (.aload_n 0, 1) := by decide +kernel
theorem dX11_takesBack_20 : decode cX11_takesBack 20 = .ok (.getfield 19, 3) := by decide +kernel
theorem dX11_takesBack_23 : decode cX11_takesBack 23 = .ok (.iload_n 2, 1) := by decide +kernel
theorem dX11_takesBack_24 : decode cX11_takesBack 24 = .ok (.iaload, 1) := by decide +kernel
theorem dX11_takesBack_25 : decode cX11_takesBack 25 = .ok (.invokevirtual 95, 3) := by decide +kernel
theorem dX11_takesBack_28 : decode cX11_takesBack 28 = .ok (.istore_n 3, 1) := by decide +kernel
theorem dX11_takesBack_29 : decode cX11_takesBack 29 = .ok (.aload_n 0, 1) := by decide +kernel
theorem dX11_takesBack_30 : decode cX11_takesBack 30 = .ok (.getfield 25, 3) := by decide +kernel
theorem dX11_takesBack_33 : decode cX11_takesBack 33 = .ok (.iload_n 3, 1) := by decide +kernel
theorem dX11_takesBack_34 : decode cX11_takesBack 34 = .ok (.aload_n 0, 1) := by decide +kernel
theorem dX11_takesBack_35 : decode cX11_takesBack 35 = .ok (.getfield 43, 3) := by decide +kernel
theorem dX11_takesBack_38 : decode cX11_takesBack 38 = .ok (.iconst 4, 1) := by decide +kernel
theorem dX11_takesBack_39 : decode cX11_takesBack 39 = .ok (.iload_n 1, 1) := by decide +kernel
theorem dX11_takesBack_40 : decode cX11_takesBack 40 = .ok (.imul, 1) := by decide +kernel
theorem dX11_takesBack_41 : decode cX11_takesBack 41 = .ok (.iaload, 1) := by decide +kernel
theorem dX11_takesBack_42 : decode cX11_takesBack 42 = .ok (.iastore, 1) := by decide +kernel
theorem dX11_takesBack_43 : decode cX11_takesBack 43 = .ok (.aload_n 0, 1) := by decide +kernel
theorem dX11_takesBack_44 : decode cX11_takesBack 44 = .ok (.getfield 28, 3) := by decide +kernel
theorem dX11_takesBack_47 : decode cX11_takesBack 47 = .ok (.iload_n 3, 1) := by decide +kernel
theorem dX11_takesBack_48 : decode cX11_takesBack 48 = .ok (.aload_n 0, 1) := by decide +kernel
theorem dX11_takesBack_49 : decode cX11_takesBack 49 = .ok (.getfield 43, 3) := by decide +kernel
theorem dX11_takesBack_52 : decode cX11_takesBack 52 = .ok (.iconst 4, 1) := by decide +kernel
theorem dX11_takesBack_53 : decode cX11_takesBack 53 = .ok (.iload_n 1, 1) := by decide +kernel
theorem dX11_takesBack_54 : decode cX11_takesBack 54 = .ok (.imul, 1) := by decide +kernel
theorem dX11_takesBack_55 : decode cX11_takesBack 55 = .ok (.iconst 1, 1) := by decide +kernel
theorem dX11_takesBack_56 : decode cX11_takesBack 56 = .ok (.iadd, 1) := by decide +kernel
theorem dX11_takesBack_57 : decode cX11_takesBack 57 = .ok (.iaload, 1) := by decide +kernel
theorem dX11_takesBack_58 : decode cX11_takesBack 58 = .ok (.iastore, 1) := by decide +kernel
theorem dX11_takesBack_59 : decode cX11_takesBack 59 = .ok (.aload_n 0, 1) := by decide +kernel
theorem dX11_takesBack_60 : decode cX11_takesBack 60 = .ok (.getfield 31, 3) := by decide +kernel
theorem dX11_takesBack_63 : decode cX11_takesBack 63 = .ok (.iload_n 3, 1) := by decide +kernel
theorem dX11_takesBack_64 : decode cX11_takesBack 64 = .ok (.aload_n 0, 1) := by decide +kernel
theorem dX11_takesBack_65 : decode cX11_takesBack 65 = .ok (.getfield 43, 3) := by decide +kernel
theorem dX11_takesBack_68 : decode cX11_takesBack 68 = .ok (.iconst 4, 1) := by decide +kernel
theorem dX11_takesBack_69 : decode cX11_takesBack 69 = .ok (.iload_n 1, 1) := by decide +kernel
theorem dX11_takesBack_70 : decode cX11_takesBack 70 = .ok (.imul, 1) := by decide +kernel
theorem dX11_takesBack_71 : decode cX11_takesBack 71 = .ok (.iconst 2, 1) := by decide +kernel
theorem dX11_takesBack_72 : decode cX11_takesBack 72 = .ok (.iadd, 1) := by decide +kernel
theorem dX11_takesBack_73 : decode cX11_takesBack 73 = .ok (.iaload, 1) := by decide +kernel
theorem dX11_takesBack_74 : decode cX11_takesBack 74 = .ok (.iastore, 1) := by decide +kernel
theorem dX11_takesBack_75 : decode cX11_takesBack 75 = .ok (.aload_n 0, 1) := by decide +kernel
theorem dX11_takesBack_76 : decode cX11_takesBack 76 = .ok (.getfield 22, 3) := by decide +kernel
theorem dX11_takesBack_79 : decode cX11_takesBack 79 = .ok (.iload_n 2, 1) := by decide +kernel
theorem dX11_takesBack_80 : decode cX11_takesBack 80 = .ok (.aload_n 0, 1) := by decide +kernel
theorem dX11_takesBack_81 : decode cX11_takesBack 81 = .ok (.getfield 43, 3) := by decide +kernel
theorem dX11_takesBack_84 : decode cX11_takesBack 84 = .ok (.iconst 4, 1) := by decide +kernel
theorem dX11_takesBack_85 : decode cX11_takesBack 85 = .ok (.iload_n 1, 1) := by decide +kernel
theorem dX11_takesBack_86 : decode cX11_takesBack 86 = .ok (.imul, 1) := by decide +kernel
theorem dX11_takesBack_87 : decode cX11_takesBack 87 = .ok (.iconst 3, 1) := by decide +kernel
theorem dX11_takesBack_88 : decode cX11_takesBack 88 = .ok (.iadd, 1) := by decide +kernel
theorem dX11_takesBack_89 : decode cX11_takesBack 89 = .ok (.iaload, 1) := by decide +kernel
theorem dX11_takesBack_90 : decode cX11_takesBack 90 = .ok (.iastore, 1) := by decide +kernel
theorem dX11_takesBack_91 : decode cX11_takesBack 91 = .ok (.return_, 1) := by decide +kernel
theorem dX11_nextJob_0 : decode cX11_nextJob 0 = .ok (.iload_n 1, 1) := by decide +kernel
theorem dX11_nextJob_1 : decode cX11_nextJob 1 = .ok (.iconst 1, 1) := by decide +kernel
theorem dX11_nextJob_2 : decode cX11_nextJob 2 = .ok (.iadd, 1) := by decide +kernel
theorem dX11_nextJob_3 : decode cX11_nextJob 3 = .ok (.istore_n 2, 1) := by decide +kernel
theorem dX11_nextJob_4 : decode cX11_nextJob 4 = .ok (.iload_n 2, 1) := by decide +kernel
theorem dX11_nextJob_5 : decode cX11_nextJob 5 = .ok (.aload_n 0, 1) := by decide +kernel
theorem dX11_nextJob_6 : decode cX11_nextJob 6 = .ok (.getfield 9, 3) := by decide +kernel
theorem dX11_nextJob_9 : decode cX11_nextJob 9 = .ok (.iconst 0, 1) := by decide +kernel
theorem dX11_nextJob_10 : decode cX11_nextJob 10 = .ok (.iaload, 1) := by decide +kernel
theorem dX11_nextJob_11 : decode cX11_nextJob 11 = .ok (.if_icmp .ge 24, 3) := by decide +kernel
theorem dX11_nextJob_14 : decode cX11_nextJob 14 = .ok (.aload_n 0, 1) := by decide +kernel
theorem dX11_nextJob_15 : decode cX11_nextJob 15 = .ok (.getfield 19, 3) := by decide +kernel
theorem dX11_nextJob_18 : decode cX11_nextJob 18 = .ok (.iload_n 2, 1) := by decide +kernel
theorem dX11_nextJob_19 : decode cX11_nextJob 19 = .ok (.iaload, 1) := by decide +kernel
theorem dX11_nextJob_20 : decode cX11_nextJob 20 = .ok (.aload_n 0, 1) := by decide +kernel
theorem dX11_nextJob_21 : decode cX11_nextJob 21 = .ok (.iload_n 2, 1) := by decide +kernel
theorem dX11_nextJob_22 : decode cX11_nextJob 22 = .ok (.iconst 4, 1) := by decide +kernel
theorem dX11_nextJob_23 : decode cX11_nextJob 23 = .ok (.invokevirtual 73, 3) := by decide +kernel
theorem dX11_nextJob_26 : decode cX11_nextJob 26 = .ok (.if_icmp .ne 9, 3) := by decide +kernel
theorem dX11_nextJob_29 : decode cX11_nextJob 29 = .ok (.iinc 2 1, 3) := by decide +kernel
theorem dX11_nextJob_32 : decode cX11_nextJob 32 = .ok (.goto (-28), 3) := by decide +kernel
theorem dX11_nextJob_35 : decode cX11_nextJob 35 = .ok (.iload_n 2, 1) := by decide +kernel
theorem dX11_nextJob_36 : decode cX11_nextJob 36 = .ok (.aload_n 0, 1) := by decide +kernel
theorem dX11_nextJob_37 : decode cX11_nextJob 37 = .ok (.getfield 9, 3) := by decide +kernel
theorem dX11_nextJob_40 : decode cX11_nextJob 40 = .ok (.iconst 0, 1) := by decide +kernel
theorem dX11_nextJob_41 : decode cX11_nextJob 41 = .ok (.iaload, 1) := by decide +kernel
theorem dX11_nextJob_42 : decode cX11_nextJob 42 = .ok (.if_icmp .ge 7, 3) := by decide +kernel
theorem dX11_nextJob_45 : decode cX11_nextJob 45 = .ok (.iload_n 2, 1) := by decide +kernel
theorem dX11_nextJob_46 : decode cX11_nextJob 46 = .ok (.goto 4, 3) := by decide +kernel
theorem dX11_nextJob_49 : decode cX11_nextJob 49 = .ok (.iconst (-1), 1) := by decide +kernel
theorem dX11_nextJob_50 : decode cX11_nextJob 50 = .ok (.ireturn, 1) := by decide +kernel
theorem dX11_best_0 : decode cX11_best 0 = .ok (.aload_n 0, 1) := by decide +kernel
theorem dX11_best_1 : decode cX11_best 1 = .ok (.invokevirtual 120, 3) := by decide +kernel
theorem dX11_best_4 : decode cX11_best 4 = .ok (.istore_n 2, 1) := by decide +kernel
theorem dX11_best_5 : decode cX11_best 5 = .ok (.aload_n 0, 1) := by decide +kernel
theorem dX11_best_6 : decode cX11_best 6 = .ok (.iload_n 1, 1) := by decide +kernel
theorem dX11_best_7 : decode cX11_best 7 = .ok (.iconst 0, 1) := by decide +kernel
theorem dX11_best_8 : decode cX11_best 8 = .ok (.iconst 4, 1) := by decide +kernel
theorem dX11_best_9 : decode cX11_best 9 = .ok (.invokestatic 83, 3) := by decide +kernel
theorem dX11_best_12 : decode cX11_best 12 = .ok (.iload_n 2, 1) := by decide +kernel
theorem dX11_best_13 : decode cX11_best 13 = .ok (.bipush 8, 2) := by decide +kernel
theorem dX11_best_15 : decode cX11_best 15 = .ok (.if_icmp .gt 7, 3) := by decide +kernel
theorem dX11_best_18 : decode cX11_best 18 = .ok (.iconst 1, 1) := by decide +kernel
theorem dX11_best_19 : decode cX11_best 19 = .ok (.goto 4, 3) := by decide +kernel
theorem dX11_best_22 : decode cX11_best 22 = .ok (.iconst 0, 1) := by decide +kernel
theorem dX11_best_23 : decode cX11_best 23 = .ok (.iconst 1, 1) := by decide +kernel
theorem dX11_best_24 : decode cX11_best 24 = .ok (.invokevirtual 151, 3) := by decide +kernel
theorem dX11_best_27 : decode cX11_best 27 = .ok (.ifCond .ne 5, 3) := by decide +kernel
theorem dX11_best_30 : decode cX11_best 30 = .ok (.iconst 0, 1) := by decide +kernel
theorem dX11_best_31 : decode cX11_best 31 = .ok (.ireturn, 1) := by decide +kernel
theorem dX11_best_32 : decode cX11_best 32 = .ok (.aload_n 0, 1) := by decide +kernel
theorem dX11_best_33 : decode cX11_best 33 = .ok (.invokevirtual 155, 3) := by decide +kernel
theorem dX11_best_36 : decode cX11_best 36 = .ok (.aload_n 0, 1) := by decide +kernel
theorem dX11_best_37 : decode cX11_best 37 = .ok (.invokevirtual 109, 3) := by decide +kernel
theorem dX11_best_40 : decode cX11_best 40 = .ok (.aload_n 0, 1) := by decide +kernel
theorem dX11_best_41 : decode cX11_best 41 = .ok (.iload_n 1, 1) := by decide +kernel
theorem dX11_best_42 : decode cX11_best 42 = .ok (.invokevirtual 172, 3) := by decide +kernel
theorem dX11_best_45 : decode cX11_best 45 = .ok (.istore_n 3, 1) := by decide +kernel
theorem dX11_best_46 : decode cX11_best 46 = .ok (.iload_n 2, 1) := by decide +kernel
theorem dX11_best_47 : decode cX11_best 47 = .ok (.ifCond .ne 7, 3) := by decide +kernel
theorem dX11_best_50 : decode cX11_best 50 = .ok (.iconst 1, 1) := by decide +kernel
theorem dX11_best_51 : decode cX11_best 51 = .ok (.goto 4, 3) := by decide +kernel
theorem dX11_best_54 : decode cX11_best 54 = .ok (.iconst 0, 1) := by decide +kernel
theorem dX11_best_55 : decode cX11_best 55 = .ok (.istore 4, 2) := by decide +kernel
theorem dX11_best_57 : decode cX11_best 57 = .ok (.iconst 0, 1) := by decide +kernel
theorem dX11_best_58 : decode cX11_best 58 = .ok (.istore 5, 2) := by decide +kernel
theorem dX11_best_60 : decode cX11_best 60 = .ok (.aload_n 0, 1) := by decide +kernel
theorem dX11_best_61 : decode cX11_best 61 = .ok (.getfield 40, 3) := by decide +kernel
theorem dX11_best_64 : decode cX11_best 64 = .ok (.iconst 0, 1) := by decide +kernel
theorem dX11_best_65 : decode cX11_best 65 = .ok (.iconst (-1), 1) := by decide +kernel
theorem dX11_best_66 : decode cX11_best 66 = .ok (.iastore, 1) := by decide +kernel
theorem dX11_best_67 : decode cX11_best 67 = .ok (.iload 5, 2) := by decide +kernel
theorem dX11_best_69 : decode cX11_best 69 = .ok (.ifCond .lt 141, 3) := by decide +kernel
theorem dX11_best_72 : decode cX11_best 72 = .ok (.iload_n 2, 1) := by decide +kernel
theorem dX11_best_73 : decode cX11_best 73 = .ok (.ifCond .le 137, 3) := by decide +kernel
theorem dX11_best_76 : decode cX11_best 76 = .ok (.aload_n 0, 1) := by decide +kernel
theorem dX11_best_77 : decode cX11_best 77 = .ok (.aload_n 0, 1) := by decide +kernel
theorem dX11_best_78 : decode cX11_best 78 = .ok (.getfield 40, 3) := by decide +kernel
theorem dX11_best_81 : decode cX11_best 81 = .ok (.iload 5, 2) := by decide +kernel
theorem dX11_best_83 : decode cX11_best 83 = .ok (.iaload, 1) := by decide +kernel
theorem dX11_best_84 : decode cX11_best 84 = .ok (.invokevirtual 175, 3) := by decide +kernel
theorem dX11_best_87 : decode cX11_best 87 = .ok (.istore 6, 2) := by decide +kernel
theorem dX11_best_89 : decode cX11_best 89 = .ok (.iload 6, 2) := by decide +kernel
theorem dX11_best_91 : decode cX11_best 91 = .ok (.iconst (-1), 1) := by decide +kernel
theorem dX11_best_92 : decode cX11_best 92 = .ok (.if_icmp .ne 20, 3) := by decide +kernel
theorem dX11_best_95 : decode cX11_best 95 = .ok (.iinc 5 (-1), 3) := by decide +kernel
theorem dX11_best_98 : decode cX11_best 98 = .ok (.iload 5, 2) := by decide +kernel
theorem dX11_best_100 : decode cX11_best 100 = .ok (.ifCond .lt (-33), 3) := by decide +kernel
theorem dX11_best_103 : decode cX11_best 103 = .ok (.aload_n 0, 1) := by decide +kernel
theorem dX11_best_104 : decode cX11_best 104 = .ok (.iload 5, 2) := by decide +kernel
theorem dX11_best_106 : decode cX11_best 106 = .ok (.invokevirtual 178, 3) := by decide +kernel
theorem dX11_best_109 : decode cX11_best 109 = .ok (.goto (-42), 3) := by decide +kernel
theorem dX11_best_112 : decode cX11_best 112 = .ok (.aload_n 0, 1) := by decide +kernel
theorem dX11_best_113 : decode cX11_best 113 = .ok (.iload 5, 2) := by decide +kernel
theorem dX11_best_115 : decode cX11_best 115 = .ok (.iload 6, 2) := by decide +kernel
theorem dX11_best_117 : decode cX11_best 117 = .ok (.invokevirtual 181, 3) := by decide +kernel
theorem dX11_best_120 : decode cX11_best 120 = .ok (.aload_n 0, 1) := by decide +kernel
theorem dX11_best_121 : decode cX11_best 121 = .ok (.getfield 40, 3) := by decide +kernel
theorem dX11_best_124 : decode cX11_best 124 = .ok (.iload 5, 2) := by decide +kernel
theorem dX11_best_126 : decode cX11_best 126 = .ok (.iload 6, 2) := by decide +kernel
theorem dX11_best_128 : decode cX11_best 128 = .ok (.iastore, 1) := by decide +kernel
theorem dX11_best_129 : decode cX11_best 129 = .ok (.aload_n 0, 1) := by decide +kernel
theorem dX11_best_130 : decode cX11_best 130 = .ok (.iload 6, 2) := by decide +kernel
theorem dX11_best_132 : decode cX11_best 132 = .ok (.aload_n 0, 1) := by decide +kernel
theorem dX11_best_133 : decode cX11_best 133 = .ok (.iload 6, 2) := by decide +kernel
theorem dX11_best_135 : decode cX11_best 135 = .ok (.invokevirtual 112, 3) := by decide +kernel
theorem dX11_best_138 : decode cX11_best 138 = .ok (.invokevirtual 116, 3) := by decide +kernel
theorem dX11_best_141 : decode cX11_best 141 = .ok (.iload 5, 2) := by decide +kernel
theorem dX11_best_143 : decode cX11_best 143 = .ok (.iconst 1, 1) := by decide +kernel
theorem dX11_best_144 : decode cX11_best 144 = .ok (.iadd, 1) := by decide +kernel
theorem dX11_best_145 : decode cX11_best 145 = .ok (.iload_n 2, 1) := by decide +kernel
theorem dX11_best_146 : decode cX11_best 146 = .ok (.if_icmp .ge 17, 3) := by decide +kernel
theorem dX11_best_149 : decode cX11_best 149 = .ok (.iinc 5 1, 3) := by decide +kernel
theorem dX11_best_152 : decode cX11_best 152 = .ok (.aload_n 0, 1) := by decide +kernel
theorem dX11_best_153 : decode cX11_best 153 = .ok (.getfield 40, 3) := by decide +kernel
theorem dX11_best_156 : decode cX11_best 156 = .ok (.iload 5, 2) := by decide +kernel
theorem dX11_best_158 : decode cX11_best 158 = .ok (.iconst (-1), 1) := by decide +kernel
theorem dX11_best_159 : decode cX11_best 159 = .ok (.iastore, 1) := by decide +kernel
theorem dX11_best_160 : decode cX11_best 160 = .ok (.goto (-93), 3) := by decide +kernel
theorem dX11_best_163 : decode cX11_best 163 = .ok (.aload_n 0, 1) := by decide +kernel
theorem dX11_best_164 : decode cX11_best 164 = .ok (.iload_n 1, 1) := by decide +kernel
theorem dX11_best_165 : decode cX11_best 165 = .ok (.invokevirtual 172, 3) := by decide +kernel
theorem dX11_best_168 : decode cX11_best 168 = .ok (.istore 7, 2) := by decide +kernel
theorem dX11_best_170 : decode cX11_best 170 = .ok (.iload 4, 2) := by decide +kernel
theorem dX11_best_172 : decode cX11_best 172 = .ok (.ifCond .eq 9, 3) := by decide +kernel
theorem dX11_best_175 : decode cX11_best 175 = .ok (.iload 7, 2) := by decide +kernel
theorem dX11_best_177 : decode cX11_best 177 = .ok (.iload_n 3, 1) := by decide +kernel
theorem dX11_best_178 : decode cX11_best 178 = .ok (.if_icmp .ge 23, 3) := by decide +kernel
theorem dX11_best_181 : decode cX11_best 181 = .ok (.iconst 1, 1) := by decide +kernel
theorem dX11_best_182 : decode cX11_best 182 = .ok (.istore 4, 2) := by decide +kernel
theorem dX11_best_184 : decode cX11_best 184 = .ok (.iload 7, 2) := by decide +kernel
theorem dX11_best_186 : decode cX11_best 186 = .ok (.istore_n 3, 1) := by decide +kernel
theorem dX11_best_187 : decode cX11_best 187 = .ok (.aload_n 0, 1) := by decide +kernel
theorem dX11_best_188 : decode cX11_best 188 = .ok (.getfield 40, 3) := by decide +kernel
theorem dX11_best_191 : decode cX11_best 191 = .ok (.iconst 0, 1) := by decide +kernel
theorem dX11_best_192 : decode cX11_best 192 = .ok (.aload_n 0, 1) := by decide +kernel
theorem dX11_best_193 : decode cX11_best 193 = .ok (.getfield 46, 3) := by decide +kernel
theorem dX11_best_196 : decode cX11_best 196 = .ok (.iconst 0, 1) := by decide +kernel
theorem dX11_best_197 : decode cX11_best 197 = .ok (.iload_n 2, 1) := by decide +kernel
theorem dX11_best_198 : decode cX11_best 198 = .ok (.invokestatic 135, 3) := by decide +kernel
theorem dX11_best_201 : decode cX11_best 201 = .ok (.aload_n 0, 1) := by decide +kernel
theorem dX11_best_202 : decode cX11_best 202 = .ok (.iload 5, 2) := by decide +kernel
theorem dX11_best_204 : decode cX11_best 204 = .ok (.invokevirtual 178, 3) := by decide +kernel
theorem dX11_best_207 : decode cX11_best 207 = .ok (.goto (-140), 3) := by decide +kernel
theorem dX11_best_210 : decode cX11_best 210 = .ok (.aload_n 0, 1) := by decide +kernel
theorem dX11_best_211 : decode cX11_best 211 = .ok (.invokevirtual 109, 3) := by decide +kernel
theorem dX11_best_214 : decode cX11_best 214 = .ok (.aload_n 0, 1) := by decide +kernel
theorem dX11_best_215 : decode cX11_best 215 = .ok (.invokevirtual 161, 3) := by decide +kernel
theorem dX11_best_218 : decode cX11_best 218 = .ok (.iconst 0, 1) := by decide +kernel
theorem dX11_best_219 : decode cX11_best 219 = .ok (.istore 6, 2) := by decide +kernel
theorem dX11_best_221 : decode cX11_best 221 = .ok (.iload 6, 2) := by decide +kernel
theorem dX11_best_223 : decode cX11_best 223 = .ok (.iload_n 2, 1) := by decide +kernel
theorem dX11_best_224 : decode cX11_best 224 = .ok (.if_icmp .ge 36, 3) := by decide +kernel
theorem dX11_best_227 : decode cX11_best 227 = .ok (.aload_n 0, 1) := by decide +kernel
theorem dX11_best_228 : decode cX11_best 228 = .ok (.aload_n 0, 1) := by decide +kernel
theorem dX11_best_229 : decode cX11_best 229 = .ok (.getfield 46, 3) := by decide +kernel
theorem dX11_best_232 : decode cX11_best 232 = .ok (.iload 6, 2) := by decide +kernel
theorem dX11_best_234 : decode cX11_best 234 = .ok (.iaload, 1) := by decide +kernel
theorem dX11_best_235 : decode cX11_best 235 = .ok (.invokevirtual 131, 3) := by decide +kernel
theorem dX11_best_238 : decode cX11_best 238 = .ok (.aload_n 0, 1) := by decide +kernel
theorem dX11_best_239 : decode cX11_best 239 = .ok (.getfield 19, 3) := by decide +kernel
theorem dX11_best_242 : decode cX11_best 242 = .ok (.aload_n 0, 1) := by decide +kernel
theorem dX11_best_243 : decode cX11_best 243 = .ok (.getfield 46, 3) := by decide +kernel
theorem dX11_best_246 : decode cX11_best 246 = .ok (.iload 6, 2) := by decide +kernel
theorem dX11_best_248 : decode cX11_best 248 = .ok (.iaload, 1) := by decide +kernel
theorem dX11_best_249 : decode cX11_best 249 = .ok (.dup2, 1) := by decide +kernel
theorem dX11_best_250 : decode cX11_best 250 = .ok (.iaload, 1) := by decide +kernel
theorem dX11_best_251 : decode cX11_best 251 = .ok (.iconst 1, 1) := by decide +kernel
theorem dX11_best_252 : decode cX11_best 252 = .ok (.iadd, 1) := by decide +kernel
theorem dX11_best_253 : decode cX11_best 253 = .ok (.iastore, 1) := by decide +kernel
theorem dX11_best_254 : decode cX11_best 254 = .ok (.iinc 6 1, 3) := by decide +kernel
theorem dX11_best_257 : decode cX11_best 257 = .ok (.goto (-36), 3) := by decide +kernel
theorem dX11_best_260 : decode cX11_best 260 = .ok (.aload_n 0, 1) := by decide +kernel
theorem dX11_best_261 : decode cX11_best 261 = .ok (.invokevirtual 167, 3) := by decide +kernel
theorem dX11_best_264 : decode cX11_best 264 = .ok (.istore 6, 2) := by decide +kernel
theorem dX11_best_266 : decode cX11_best 266 = .ok (.iload_n 3, 1) := by decide +kernel
theorem dX11_best_267 : decode cX11_best 267 = .ok (.ireturn, 1) := by decide +kernel
theorem dX11_exchanges_0 : decode cX11_exchanges 0 = .ok (.aload_n 0, 1) := by decide +kernel
theorem dX11_exchanges_1 : decode cX11_exchanges 1 = .ok (.getfield 9, 3) := by decide +kernel
theorem dX11_exchanges_4 : decode cX11_exchanges 4 = .ok (.iload_n 1, 1) := by decide +kernel
theorem dX11_exchanges_5 : decode cX11_exchanges 5 = .ok (.iaload, 1) := by decide +kernel
theorem dX11_exchanges_6 : decode cX11_exchanges 6 = .ok (.istore_n 2, 1) := by decide +kernel
theorem dX11_exchanges_7 : decode cX11_exchanges 7 = .ok (.aload_n 0, 1) := by decide +kernel
theorem dX11_exchanges_8 : decode cX11_exchanges 8 = .ok (.getfield 9, 3) := by decide +kernel
theorem dX11_exchanges_11 : decode cX11_exchanges 11 = .ok (.iload_n 1, 1) := by decide +kernel
theorem dX11_exchanges_12 : decode cX11_exchanges 12 = .ok (.aload_n 0, 1) := by decide +kernel
theorem dX11_exchanges_13 : decode cX11_exchanges 13 = .ok (.getfield 9, 3) := by decide +kernel
theorem dX11_exchanges_16 : decode cX11_exchanges 16 = .ok (.iload_n 1, 1) := by decide +kernel
theorem dX11_exchanges_17 : decode cX11_exchanges 17 = .ok (.iconst 1, 1) := by decide +kernel
theorem dX11_exchanges_18 : decode cX11_exchanges 18 = .ok (.iadd, 1) := by decide +kernel
theorem dX11_exchanges_19 : decode cX11_exchanges 19 = .ok (.iaload, 1) := by decide +kernel
theorem dX11_exchanges_20 : decode cX11_exchanges 20 = .ok (.iastore, 1) := by decide +kernel
theorem dX11_exchanges_21 : decode cX11_exchanges 21 = .ok (.aload_n 0, 1) := by decide +kernel
theorem dX11_exchanges_22 : decode cX11_exchanges 22 = .ok (.getfield 9, 3) := by decide +kernel
theorem dX11_exchanges_25 : decode cX11_exchanges 25 = .ok (.iload_n 1, 1) := by decide +kernel
theorem dX11_exchanges_26 : decode cX11_exchanges 26 = .ok (.iconst 1, 1) := by decide +kernel
theorem dX11_exchanges_27 : decode cX11_exchanges 27 = .ok (.iadd, 1) := by decide +kernel
theorem dX11_exchanges_28 : decode cX11_exchanges 28 = .ok (.iload_n 2, 1) := by decide +kernel
theorem dX11_exchanges_29 : decode cX11_exchanges 29 = .ok (.iastore, 1) := by decide +kernel
theorem dX11_exchanges_30 : decode cX11_exchanges 30 = .ok (.return_, 1) := by decide +kernel
theorem dX11_swap_0 : decode cX11_swap 0 = .ok (.iload_n 1, 1) := by decide +kernel
theorem dX11_swap_1 : decode cX11_swap 1 = .ok (.iconst 0, 1) := by decide +kernel
theorem dX11_swap_2 : decode cX11_swap 2 = .ok (.iconst 3, 1) := by decide +kernel
theorem dX11_swap_3 : decode cX11_swap 3 = .ok (.invokestatic 83, 3) := by decide +kernel
theorem dX11_swap_6 : decode cX11_swap 6 = .ok (.ifCond .eq 30, 3) := by decide +kernel
theorem dX11_swap_9 : decode cX11_swap 9 = .ok (.iload_n 2, 1) := by decide +kernel
theorem dX11_swap_10 : decode cX11_swap 10 = .ok (.iconst 0, 1) := by decide +kernel
theorem dX11_swap_11 : decode cX11_swap 11 = .ok (.aload_n 0, 1) := by decide +kernel
theorem dX11_swap_12 : decode cX11_swap 12 = .ok (.getfield 9, 3) := by decide +kernel
theorem dX11_swap_15 : decode cX11_swap 15 = .ok (.sipush 152, 3) := by decide +kernel
theorem dX11_swap_18 : decode cX11_swap 18 = .ok (.iload_n 1, 1) := by decide +kernel
theorem dX11_swap_19 : decode cX11_swap 19 = .ok (.bipush 31, 2) := by decide +kernel
theorem dX11_swap_21 : decode cX11_swap 21 = .ok (.imul, 1) := by decide +kernel
theorem dX11_swap_22 : decode cX11_swap 22 = .ok (.iadd, 1) := by decide +kernel
theorem dX11_swap_23 : decode cX11_swap 23 = .ok (.iaload, 1) := by decide +kernel
theorem dX11_swap_24 : decode cX11_swap 24 = .ok (.iconst 2, 1) := by decide +kernel
theorem dX11_swap_25 : decode cX11_swap 25 = .ok (.isub, 1) := by decide +kernel
theorem dX11_swap_26 : decode cX11_swap 26 = .ok (.invokestatic 83, 3) := by decide +kernel
theorem dX11_swap_29 : decode cX11_swap 29 = .ok (.ifCond .eq 7, 3) := by decide +kernel
theorem dX11_swap_32 : decode cX11_swap 32 = .ok (.iconst 1, 1) := by decide +kernel
theorem dX11_swap_33 : decode cX11_swap 33 = .ok (.goto 4, 3) := by decide +kernel
theorem dX11_swap_36 : decode cX11_swap 36 = .ok (.iconst 0, 1) := by decide +kernel
theorem dX11_swap_37 : decode cX11_swap 37 = .ok (.istore_n 3, 1) := by decide +kernel
theorem dX11_swap_38 : decode cX11_swap 38 = .ok (.iload_n 3, 1) := by decide +kernel
theorem dX11_swap_39 : decode cX11_swap 39 = .ok (.istore 4, 2) := by decide +kernel
theorem dX11_swap_41 : decode cX11_swap 41 = .ok (.iload_n 3, 1) := by decide +kernel
theorem dX11_swap_42 : decode cX11_swap 42 = .ok (.ifCond .eq 35, 3) := by decide +kernel
theorem dX11_swap_45 : decode cX11_swap 45 = .ok (.sipush 152, 3) := by decide +kernel
theorem dX11_swap_48 : decode cX11_swap 48 = .ok (.iload_n 1, 1) := by decide +kernel
theorem dX11_swap_49 : decode cX11_swap 49 = .ok (.bipush 31, 2) := by decide +kernel
theorem dX11_swap_51 : decode cX11_swap 51 = .ok (.imul, 1) := by decide +kernel
theorem dX11_swap_52 : decode cX11_swap 52 = .ok (.iadd, 1) := by decide +kernel
theorem dX11_swap_53 : decode cX11_swap 53 = .ok (.iconst 1, 1) := by decide +kernel
theorem dX11_swap_54 : decode cX11_swap 54 = .ok (.iadd, 1) := by decide +kernel
theorem dX11_swap_55 : decode cX11_swap 55 = .ok (.iload_n 2, 1) := by decide +kernel
theorem dX11_swap_56 : decode cX11_swap 56 = .ok (.iadd, 1) := by decide +kernel
theorem dX11_swap_57 : decode cX11_swap 57 = .ok (.istore 5, 2) := by decide +kernel
theorem dX11_swap_59 : decode cX11_swap 59 = .ok (.aload_n 0, 1) := by decide +kernel
theorem dX11_swap_60 : decode cX11_swap 60 = .ok (.iload 5, 2) := by decide +kernel
theorem dX11_swap_62 : decode cX11_swap 62 = .ok (.invokevirtual 184, 3) := by decide +kernel
theorem dX11_swap_65 : decode cX11_swap 65 = .ok (.aload_n 0, 1) := by decide +kernel
theorem dX11_swap_66 : decode cX11_swap 66 = .ok (.invokevirtual 141, 3) := by decide +kernel
theorem dX11_swap_69 : decode cX11_swap 69 = .ok (.istore 4, 2) := by decide +kernel
theorem dX11_swap_71 : decode cX11_swap 71 = .ok (.aload_n 0, 1) := by decide +kernel
theorem dX11_swap_72 : decode cX11_swap 72 = .ok (.iload 5, 2) := by decide +kernel
theorem dX11_swap_74 : decode cX11_swap 74 = .ok (.invokevirtual 184, 3) := by decide +kernel
theorem dX11_swap_77 : decode cX11_swap 77 = .ok (.aload_n 0, 1) := by decide +kernel
theorem dX11_swap_78 : decode cX11_swap 78 = .ok (.iload_n 3, 1) := by decide +kernel
theorem dX11_swap_79 : decode cX11_swap 79 = .ok (.iload 4, 2) := by decide +kernel
theorem dX11_swap_81 : decode cX11_swap 81 = .ok (.iconst 1, 1) := by decide +kernel
theorem dX11_swap_82 : decode cX11_swap 82 = .ok (.invokevirtual 151, 3) := by decide +kernel
theorem dX11_swap_85 : decode cX11_swap 85 = .ok (.ifCond .ne 5, 3) := by decide +kernel
theorem dX11_swap_88 : decode cX11_swap 88 = .ok (.iconst 0, 1) := by decide +kernel
theorem dX11_swap_89 : decode cX11_swap 89 = .ok (.ireturn, 1) := by decide +kernel
theorem dX11_swap_90 : decode cX11_swap 90 = .ok (.aload_n 0, 1) := by decide +kernel
theorem dX11_swap_91 : decode cX11_swap 91 = .ok (.invokevirtual 155, 3) := by decide +kernel
theorem dX11_swap_94 : decode cX11_swap 94 = .ok (.aload_n 0, 1) := by decide +kernel
theorem dX11_swap_95 : decode cX11_swap 95 = .ok (.sipush 152, 3) := by decide +kernel
theorem dX11_swap_98 : decode cX11_swap 98 = .ok (.iload_n 1, 1) := by decide +kernel
theorem dX11_swap_99 : decode cX11_swap 99 = .ok (.bipush 31, 2) := by decide +kernel
theorem dX11_swap_101 : decode cX11_swap 101 = .ok (.imul, 1) := by decide +kernel
theorem dX11_swap_102 : decode cX11_swap 102 = .ok (.iadd, 1) := by decide +kernel
theorem dX11_swap_103 : decode cX11_swap 103 = .ok (.iconst 1, 1) := by decide +kernel
theorem dX11_swap_104 : decode cX11_swap 104 = .ok (.iadd, 1) := by decide +kernel
theorem dX11_swap_105 : decode cX11_swap 105 = .ok (.iload_n 2, 1) := by decide +kernel
theorem dX11_swap_106 : decode cX11_swap 106 = .ok (.iadd, 1) := by decide +kernel
theorem dX11_swap_107 : decode cX11_swap 107 = .ok (.invokevirtual 184, 3) := by decide +kernel
theorem dX11_swap_110 : decode cX11_swap 110 = .ok (.aload_n 0, 1) := by decide +kernel
theorem dX11_swap_111 : decode cX11_swap 111 = .ok (.invokevirtual 141, 3) := by decide +kernel
theorem dX11_swap_114 : decode cX11_swap 114 = .ok (.istore 4, 2) := by decide +kernel
theorem dX11_swap_116 : decode cX11_swap 116 = .ok (.aload_n 0, 1) := by decide +kernel
theorem dX11_swap_117 : decode cX11_swap 117 = .ok (.invokevirtual 145, 3) := by decide +kernel
theorem dX11_swap_120 : decode cX11_swap 120 = .ok (.ireturn, 1) := by decide +kernel
theorem dX11_replan_0 : decode cX11_replan 0 = .ok (.aload_n 0, 1) := by decide +kernel
theorem dX11_replan_1 : decode cX11_replan 1 = .ok (.iload_n 1, 1) := by decide +kernel
theorem dX11_replan_2 : decode cX11_replan 2 = .ok (.iconst 0, 1) := by decide +kernel
theorem dX11_replan_3 : decode cX11_replan 3 = .ok (.bipush 7, 2) := by decide +kernel
theorem dX11_replan_5 : decode cX11_replan 5 = .ok (.invokestatic 83, 3) := by decide +kernel
theorem dX11_replan_8 : decode cX11_replan 8 = .ok (.ifCond .eq 18, 3) := by decide +kernel
theorem dX11_replan_11 : decode cX11_replan 11 = .ok (.iload_n 2, 1) := by decide +kernel
theorem dX11_replan_12 : decode cX11_replan 12 = .ok (.iconst 0, 1) := by decide +kernel
theorem dX11_replan_13 : decode cX11_replan 13 = .ok (.sipush 2000, 3) := by decide +kernel
theorem dX11_replan_16 : decode cX11_replan 16 = .ok (.invokestatic 83, 3) := by decide +kernel
theorem dX11_replan_19 : decode cX11_replan 19 = .ok (.ifCond .eq 7, 3) := by decide +kernel
theorem dX11_replan_22 : decode cX11_replan 22 = .ok (.iconst 1, 1) := by decide +kernel
theorem dX11_replan_23 : decode cX11_replan 23 = .ok (.goto 4, 3) := by decide +kernel
theorem dX11_replan_26 : decode cX11_replan 26 = .ok (.iconst 0, 1) := by decide +kernel
theorem dX11_replan_27 : decode cX11_replan 27 = .ok (.aload_n 0, 1) := by decide +kernel
theorem dX11_replan_28 : decode cX11_replan 28 = .ok (.invokevirtual 187, 3) := by decide +kernel
theorem dX11_replan_31 : decode cX11_replan 31 = .ok (.iconst 1, 1) := by decide +kernel
theorem dX11_replan_32 : decode cX11_replan 32 = .ok (.invokevirtual 151, 3) := by decide +kernel
theorem dX11_replan_35 : decode cX11_replan 35 = .ok (.ifCond .ne 5, 3) := by decide +kernel
theorem dX11_replan_38 : decode cX11_replan 38 = .ok (.iconst 0, 1) := by decide +kernel
theorem dX11_replan_39 : decode cX11_replan 39 = .ok (.ireturn, 1) := by decide +kernel
theorem dX11_replan_40 : decode cX11_replan 40 = .ok (.aload_n 0, 1) := by decide +kernel
theorem dX11_replan_41 : decode cX11_replan 41 = .ok (.invokevirtual 155, 3) := by decide +kernel
theorem dX11_replan_44 : decode cX11_replan 44 = .ok (.aload_n 0, 1) := by decide +kernel
theorem dX11_replan_45 : decode cX11_replan 45 = .ok (.invokevirtual 141, 3) := by decide +kernel
theorem dX11_replan_48 : decode cX11_replan 48 = .ok (.istore_n 3, 1) := by decide +kernel
theorem dX11_replan_49 : decode cX11_replan 49 = .ok (.aload_n 0, 1) := by decide +kernel
theorem dX11_replan_50 : decode cX11_replan 50 = .ok (.getfield 16, 3) := by decide +kernel
theorem dX11_replan_53 : decode cX11_replan 53 = .ok (.iconst 0, 1) := by decide +kernel
theorem dX11_replan_54 : decode cX11_replan 54 = .ok (.aload_n 0, 1) := by decide +kernel
theorem dX11_replan_55 : decode cX11_replan 55 = .ok (.getfield 58, 3) := by decide +kernel
theorem dX11_replan_58 : decode cX11_replan 58 = .ok (.iconst 0, 1) := by decide +kernel
theorem dX11_replan_59 : decode cX11_replan 59 = .ok (.bipush 30, 2) := by decide +kernel
theorem dX11_replan_61 : decode cX11_replan 61 = .ok (.invokestatic 135, 3) := by decide +kernel
theorem dX11_replan_64 : decode cX11_replan 64 = .ok (.aload_n 0, 1) := by decide +kernel
theorem dX11_replan_65 : decode cX11_replan 65 = .ok (.invokevirtual 109, 3) := by decide +kernel
theorem dX11_replan_68 : decode cX11_replan 68 = .ok (.aload_n 0, 1) := by decide +kernel
theorem dX11_replan_69 : decode cX11_replan 69 = .ok (.invokevirtual 161, 3) := by decide +kernel
theorem dX11_replan_72 : decode cX11_replan 72 = .ok (.iload_n 3, 1) := by decide +kernel
theorem dX11_replan_73 : decode cX11_replan 73 = .ok (.ifCond .eq 137, 3) := by decide +kernel
theorem dX11_replan_76 : decode cX11_replan 76 = .ok (.iconst 0, 1) := by decide +kernel
theorem dX11_replan_77 : decode cX11_replan 77 = .ok (.istore_n 3, 1) := by decide +kernel
theorem dX11_replan_78 : decode cX11_replan 78 = .ok (.iconst 0, 1) := by decide +kernel
theorem dX11_replan_79 : decode cX11_replan 79 = .ok (.istore 4, 2) := by decide +kernel
theorem dX11_replan_81 : decode cX11_replan 81 = .ok (.iload 4, 2) := by decide +kernel
theorem dX11_replan_83 : decode cX11_replan 83 = .ok (.iconst 4, 1) := by decide +kernel
theorem dX11_replan_84 : decode cX11_replan 84 = .ok (.if_icmp .ge 123, 3) := by decide +kernel
theorem dX11_replan_87 : decode cX11_replan 87 = .ok (.sipush 152, 3) := by decide +kernel
theorem dX11_replan_90 : decode cX11_replan 90 = .ok (.iload 4, 2) := by decide +kernel
theorem dX11_replan_92 : decode cX11_replan 92 = .ok (.bipush 31, 2) := by decide +kernel
theorem dX11_replan_94 : decode cX11_replan 94 = .ok (.imul, 1) := by decide +kernel
theorem dX11_replan_95 : decode cX11_replan 95 = .ok (.iadd, 1) := by decide +kernel
theorem dX11_replan_96 : decode cX11_replan 96 = .ok (.istore 5, 2) := by decide +kernel
theorem dX11_replan_98 : decode cX11_replan 98 = .ok (.aload_n 0, 1) := by decide +kernel
theorem dX11_replan_99 : decode cX11_replan 99 = .ok (.getfield 34, 3) := by decide +kernel
theorem dX11_replan_102 : decode cX11_replan 102 = .ok (.iload 4, 2) := by decide +kernel
theorem dX11_replan_104 : decode cX11_replan 104 = .ok (.iaload, 1) := by decide +kernel
theorem dX11_replan_105 : decode cX11_replan 105 = .ok (.aload_n 0, 1) := by decide +kernel
theorem dX11_replan_106 : decode cX11_replan 106 = .ok (.getfield 9, 3) := by decide +kernel
theorem dX11_replan_109 : decode cX11_replan 109 = .ok (.iload 5, 2) := by decide +kernel
theorem dX11_replan_111 : decode cX11_replan 111 = .ok (.iaload, 1) := by decide +kernel
theorem dX11_replan_112 : decode cX11_replan 112 = .ok (.if_icmp .ne 6, 3) := by decide +kernel
theorem dX11_replan_115 : decode cX11_replan 115 = .ok (.goto 86, 3) := by decide +kernel
theorem dX11_replan_118 : decode cX11_replan 118 = .ok (.aload_n 0, 1) := by decide +kernel
theorem dX11_replan_119 : decode cX11_replan 119 = .ok (.getfield 9, 3) := by decide +kernel
theorem dX11_replan_122 : decode cX11_replan 122 = .ok (.iload 5, 2) := by decide +kernel
theorem dX11_replan_124 : decode cX11_replan 124 = .ok (.iconst 1, 1) := by decide +kernel
theorem dX11_replan_125 : decode cX11_replan 125 = .ok (.iadd, 1) := by decide +kernel
theorem dX11_replan_126 : decode cX11_replan 126 = .ok (.aload_n 0, 1) := by decide +kernel
theorem dX11_replan_127 : decode cX11_replan 127 = .ok (.getfield 34, 3) := by decide +kernel
theorem dX11_replan_130 : decode cX11_replan 130 = .ok (.iload 4, 2) := by decide +kernel
theorem dX11_replan_132 : decode cX11_replan 132 = .ok (.iaload, 1) := by decide +kernel
theorem dX11_replan_133 : decode cX11_replan 133 = .ok (.iadd, 1) := by decide +kernel
theorem dX11_replan_134 : decode cX11_replan 134 = .ok (.iaload, 1) := by decide +kernel
theorem dX11_replan_135 : decode cX11_replan 135 = .ok (.istore 6, 2) := by decide +kernel
theorem dX11_replan_137 : decode cX11_replan 137 = .ok (.iload 6, 2) := by decide +kernel
theorem dX11_replan_139 : decode cX11_replan 139 = .ok (.bipush 10, 2) := by decide +kernel
theorem dX11_replan_141 : decode cX11_replan 141 = .ok (.idiv, 1) := by decide +kernel
theorem dX11_replan_142 : decode cX11_replan 142 = .ok (.istore 7, 2) := by decide +kernel
theorem dX11_replan_144 : decode cX11_replan 144 = .ok (.aload_n 0, 1) := by decide +kernel
theorem dX11_replan_145 : decode cX11_replan 145 = .ok (.getfield 19, 3) := by decide +kernel
theorem dX11_replan_148 : decode cX11_replan 148 = .ok (.iload 7, 2) := by decide +kernel
theorem dX11_replan_150 : decode cX11_replan 150 = .ok (.iaload, 1) := by decide +kernel
theorem dX11_replan_151 : decode cX11_replan 151 = .ok (.iload 6, 2) := by decide +kernel
theorem dX11_replan_153 : decode cX11_replan 153 = .ok (.bipush 10, 2) := by decide +kernel
theorem dX11_replan_155 : decode cX11_replan 155 = .ok (.irem, 1) := by decide +kernel
theorem dX11_replan_156 : decode cX11_replan 156 = .ok (.if_icmp .ne 45, 3) := by decide +kernel
theorem dX11_replan_159 : decode cX11_replan 159 = .ok (.aload_n 0, 1) := by decide +kernel
theorem dX11_replan_160 : decode cX11_replan 160 = .ok (.getfield 58, 3) := by decide +kernel
theorem dX11_replan_163 : decode cX11_replan 163 = .ok (.iload 7, 2) := by decide +kernel
theorem dX11_replan_165 : decode cX11_replan 165 = .ok (.iconst 5, 1) := by decide +kernel
theorem dX11_replan_166 : decode cX11_replan 166 = .ok (.imul, 1) := by decide +kernel
theorem dX11_replan_167 : decode cX11_replan 167 = .ok (.iload 6, 2) := by decide +kernel
theorem dX11_replan_169 : decode cX11_replan 169 = .ok (.bipush 10, 2) := by decide +kernel
theorem dX11_replan_171 : decode cX11_replan 171 = .ok (.irem, 1) := by decide +kernel
theorem dX11_replan_172 : decode cX11_replan 172 = .ok (.iadd, 1) := by decide +kernel
theorem dX11_replan_173 : decode cX11_replan 173 = .ok (.iaload, 1) := by decide +kernel
theorem dX11_replan_174 : decode cX11_replan 174 = .ok (.iload_n 2, 1) := by decide +kernel
theorem dX11_replan_175 : decode cX11_replan 175 = .ok (.if_icmp .lt 6, 3) := by decide +kernel
theorem dX11_replan_178 : decode cX11_replan 178 = .ok (.goto 23, 3) := by decide +kernel
theorem dX11_replan_181 : decode cX11_replan 181 = .ok (.aload_n 0, 1) := by decide +kernel
theorem dX11_replan_182 : decode cX11_replan 182 = .ok (.iload 7, 2) := by decide +kernel
theorem dX11_replan_184 : decode cX11_replan 184 = .ok (.invokevirtual 131, 3) := by decide +kernel
theorem dX11_replan_187 : decode cX11_replan 187 = .ok (.aload_n 0, 1) := by decide +kernel
theorem dX11_replan_188 : decode cX11_replan 188 = .ok (.iload 7, 2) := by decide +kernel
theorem dX11_replan_190 : decode cX11_replan 190 = .ok (.aload_n 0, 1) := by decide +kernel
theorem dX11_replan_191 : decode cX11_replan 191 = .ok (.iload 7, 2) := by decide +kernel
theorem dX11_replan_193 : decode cX11_replan 193 = .ok (.invokevirtual 112, 3) := by decide +kernel
theorem dX11_replan_196 : decode cX11_replan 196 = .ok (.invokevirtual 116, 3) := by decide +kernel
theorem dX11_replan_199 : decode cX11_replan 199 = .ok (.iconst 1, 1) := by decide +kernel
theorem dX11_replan_200 : decode cX11_replan 200 = .ok (.istore_n 3, 1) := by decide +kernel
theorem dX11_replan_201 : decode cX11_replan 201 = .ok (.iinc 4 1, 3) := by decide +kernel
theorem dX11_replan_204 : decode cX11_replan 204 = .ok (.goto (-123), 3) := by decide +kernel
theorem dX11_replan_207 : decode cX11_replan 207 = .ok (.goto (-135), 3) := by decide +kernel
theorem dX11_replan_210 : decode cX11_replan 210 = .ok (.aload_n 0, 1) := by decide +kernel
theorem dX11_replan_211 : decode cX11_replan 211 = .ok (.iload_n 1, 1) := by decide +kernel
theorem dX11_replan_212 : decode cX11_replan 212 = .ok (.invokevirtual 164, 3) := by decide +kernel
theorem dX11_replan_215 : decode cX11_replan 215 = .ok (.aload_n 0, 1) := by decide +kernel
theorem dX11_replan_216 : decode cX11_replan 216 = .ok (.invokevirtual 167, 3) := by decide +kernel
theorem dX11_replan_219 : decode cX11_replan 219 = .ok (.ireturn, 1) := by decide +kernel
theorem dX11_laysRushed_0 : decode cX11_laysRushed 0 = .ok (.aload_n 0, 1) := by decide +kernel
theorem dX11_laysRushed_1 : decode cX11_laysRushed 1 = .ok (.invokevirtual 161, 3) := by decide +kernel
theorem dX11_laysRushed_4 : decode cX11_laysRushed 4 = .ok (.iconst 0, 1) := by decide +kernel
theorem dX11_laysRushed_5 : decode cX11_laysRushed 5 = .ok (.istore_n 2, 1) := by decide +kernel
theorem dX11_laysRushed_6 : decode cX11_laysRushed 6 = .ok (.iload_n 2, 1) := by decide +kernel
theorem dX11_laysRushed_7 : decode cX11_laysRushed 7 = .ok (.iconst 4, 1) := by decide +kernel
theorem dX11_laysRushed_8 : decode cX11_laysRushed 8 = .ok (.if_icmp .ge 132, 3) := by decide +kernel
theorem dX11_laysRushed_11 : decode cX11_laysRushed 11 = .ok (.sipush 152, 3) := by decide +kernel
theorem dX11_laysRushed_14 : decode cX11_laysRushed 14 = .ok (.iload_n 2, 1) := by decide +kernel
theorem dX11_laysRushed_15 : decode cX11_laysRushed 15 = .ok (.bipush 31, 2) := by decide +kernel
theorem dX11_laysRushed_17 : decode cX11_laysRushed 17 = .ok (.imul, 1) := by decide +kernel
theorem dX11_laysRushed_18 : decode cX11_laysRushed 18 = .ok (.iadd, 1) := by decide +kernel
theorem dX11_laysRushed_19 : decode cX11_laysRushed 19 = .ok (.istore_n 3, 1) := by decide +kernel
theorem dX11_laysRushed_20 : decode cX11_laysRushed 20 = .ok (.iconst 0, 1) := by decide +kernel
theorem dX11_laysRushed_21 : decode cX11_laysRushed 21 = .ok (.istore 4, 2) := by decide +kernel
theorem dX11_laysRushed_23 : decode cX11_laysRushed 23 = .ok (.iload 4, 2) := by decide +kernel
theorem dX11_laysRushed_25 : decode cX11_laysRushed 25 = .ok (.iconst 2, 1) := by decide +kernel
theorem dX11_laysRushed_26 : decode cX11_laysRushed 26 = .ok (.if_icmp .ge 108, 3) := by decide +kernel
theorem dX11_laysRushed_29 : decode cX11_laysRushed 29 = .ok (.iconst 0, 1) := by decide +kernel
theorem dX11_laysRushed_30 : decode cX11_laysRushed 30 = .ok (.istore 5, 2) := by decide +kernel
theorem dX11_laysRushed_32 : decode cX11_laysRushed 32 = .ok (.iload 5, 2) := by decide +kernel
theorem dX11_laysRushed_34 : decode cX11_laysRushed 34 = .ok (.aload_n 0, 1) := by decide +kernel
theorem dX11_laysRushed_35 : decode cX11_laysRushed 35 = .ok (.getfield 9, 3) := by decide +kernel
theorem dX11_laysRushed_38 : decode cX11_laysRushed 38 = .ok (.iload_n 3, 1) := by decide +kernel
theorem dX11_laysRushed_39 : decode cX11_laysRushed 39 = .ok (.iaload, 1) := by decide +kernel
theorem dX11_laysRushed_40 : decode cX11_laysRushed 40 = .ok (.if_icmp .ge 88, 3) := by decide +kernel
theorem dX11_laysRushed_43 : decode cX11_laysRushed 43 = .ok (.aload_n 0, 1) := by decide +kernel
theorem dX11_laysRushed_44 : decode cX11_laysRushed 44 = .ok (.getfield 9, 3) := by decide +kernel
theorem dX11_laysRushed_47 : decode cX11_laysRushed 47 = .ok (.iload_n 3, 1) := by decide +kernel
theorem dX11_laysRushed_48 : decode cX11_laysRushed 48 = .ok (.iconst 1, 1) := by decide +kernel
theorem dX11_laysRushed_49 : decode cX11_laysRushed 49 = .ok (.iadd, 1) := by decide +kernel
theorem dX11_laysRushed_50 : decode cX11_laysRushed 50 = .ok (.iload 5, 2) := by decide +kernel
theorem dX11_laysRushed_52 : decode cX11_laysRushed 52 = .ok (.iadd, 1) := by decide +kernel
theorem dX11_laysRushed_53 : decode cX11_laysRushed 53 = .ok (.iaload, 1) := by decide +kernel
theorem dX11_laysRushed_54 : decode cX11_laysRushed 54 = .ok (.istore 6, 2) := by decide +kernel
theorem dX11_laysRushed_56 : decode cX11_laysRushed 56 = .ok (.iload 6, 2) := by decide +kernel
theorem dX11_laysRushed_58 : decode cX11_laysRushed 58 = .ok (.bipush 10, 2) := by decide +kernel
theorem dX11_laysRushed_60 : decode cX11_laysRushed 60 = .ok (.idiv, 1) := by decide +kernel
theorem dX11_laysRushed_61 : decode cX11_laysRushed 61 = .ok (.iload_n 1, 1) := by decide +kernel
theorem dX11_laysRushed_62 : decode cX11_laysRushed 62 = .ok (.if_icmp .ne 7, 3) := by decide +kernel
theorem dX11_laysRushed_65 : decode cX11_laysRushed 65 = .ok (.iconst 1, 1) := by decide +kernel
theorem dX11_laysRushed_66 : decode cX11_laysRushed 66 = .ok (.goto 4, 3) := by decide +kernel
theorem dX11_laysRushed_69 : decode cX11_laysRushed 69 = .ok (.iconst 0, 1) := by decide +kernel
theorem dX11_laysRushed_70 : decode cX11_laysRushed 70 = .ok (.iload 4, 2) := by decide +kernel
theorem dX11_laysRushed_72 : decode cX11_laysRushed 72 = .ok (.ifCond .ne 7, 3) := by decide +kernel
theorem dX11_laysRushed_75 : decode cX11_laysRushed 75 = .ok (.iconst 1, 1) := by decide +kernel
theorem dX11_laysRushed_76 : decode cX11_laysRushed 76 = .ok (.goto 4, 3) := by decide +kernel
theorem dX11_laysRushed_79 : decode cX11_laysRushed 79 = .ok (.iconst 0, 1) := by decide +kernel
theorem dX11_laysRushed_80 : decode cX11_laysRushed 80 = .ok (.if_icmp .eq 6, 3) := by decide +kernel
theorem dX11_laysRushed_83 : decode cX11_laysRushed 83 = .ok (.goto 39, 3) := by decide +kernel
theorem dX11_laysRushed_86 : decode cX11_laysRushed 86 = .ok (.aload_n 0, 1) := by decide +kernel
theorem dX11_laysRushed_87 : decode cX11_laysRushed 87 = .ok (.getfield 37, 3) := by decide +kernel
theorem dX11_laysRushed_90 : decode cX11_laysRushed 90 = .ok (.iload_n 2, 1) := by decide +kernel
theorem dX11_laysRushed_91 : decode cX11_laysRushed 91 = .ok (.bipush 31, 2) := by decide +kernel
theorem dX11_laysRushed_93 : decode cX11_laysRushed 93 = .ok (.imul, 1) := by decide +kernel
theorem dX11_laysRushed_94 : decode cX11_laysRushed 94 = .ok (.iconst 1, 1) := by decide +kernel
theorem dX11_laysRushed_95 : decode cX11_laysRushed 95 = .ok (.iadd, 1) := by decide +kernel
theorem dX11_laysRushed_96 : decode cX11_laysRushed 96 = .ok (.aload_n 0, 1) := by decide +kernel
theorem dX11_laysRushed_97 : decode cX11_laysRushed 97 = .ok (.getfield 37, 3) := by decide +kernel
theorem dX11_laysRushed_100 : decode cX11_laysRushed 100 = .ok (.iload_n 2, 1) := by decide +kernel
theorem dX11_laysRushed_101 : decode cX11_laysRushed 101 = .ok (.bipush 31, 2) := by decide +kernel
theorem dX11_laysRushed_103 : decode cX11_laysRushed 103 = .ok (.imul, 1) := by decide +kernel
theorem dX11_laysRushed_104 : decode cX11_laysRushed 104 = .ok (.iaload, 1) := by decide +kernel
theorem dX11_laysRushed_105 : decode cX11_laysRushed 105 = .ok (.iadd, 1) := by decide +kernel
theorem dX11_laysRushed_106 : decode cX11_laysRushed 106 = .ok (.iload 6, 2) := by decide +kernel
theorem dX11_laysRushed_108 : decode cX11_laysRushed 108 = .ok (.iastore, 1) := by decide +kernel
theorem dX11_laysRushed_109 : decode cX11_laysRushed 109 = .ok (.aload_n 0, 1) := by decide +kernel
theorem dX11_laysRushed_110 : decode cX11_laysRushed 110 = .ok (.getfield 37, 3) := by decide +kernel
theorem dX11_laysRushed_113 : decode cX11_laysRushed 113 = .ok (.iload_n 2, 1) := by decide +kernel
theorem dX11_laysRushed_114 : decode cX11_laysRushed 114 = .ok (.bipush 31, 2) := by decide +kernel
theorem dX11_laysRushed_116 : decode cX11_laysRushed 116 = .ok (.imul, 1) := by decide +kernel
theorem dX11_laysRushed_117 : decode cX11_laysRushed 117 = .ok (.dup2, 1) := by decide +kernel
theorem dX11_laysRushed_118 : decode cX11_laysRushed 118 = .ok (.iaload, 1) := by decide +kernel
theorem dX11_laysRushed_119 : decode cX11_laysRushed 119 = .ok (.iconst 1, 1) := by decide +kernel
theorem dX11_laysRushed_120 : decode cX11_laysRushed 120 = .ok (.iadd, 1) := by decide +kernel
theorem dX11_laysRushed_121 : decode cX11_laysRushed 121 = .ok (.iastore, 1) := by decide +kernel
theorem dX11_laysRushed_122 : decode cX11_laysRushed 122 = .ok (.iinc 5 1, 3) := by decide +kernel
theorem dX11_laysRushed_125 : decode cX11_laysRushed 125 = .ok (.goto (-93), 3) := by decide +kernel
theorem dX11_laysRushed_128 : decode cX11_laysRushed 128 = .ok (.iinc 4 1, 3) := by decide +kernel
theorem dX11_laysRushed_131 : decode cX11_laysRushed 131 = .ok (.goto (-108), 3) := by decide +kernel
theorem dX11_laysRushed_134 : decode cX11_laysRushed 134 = .ok (.iinc 2 1, 3) := by decide +kernel
theorem dX11_laysRushed_137 : decode cX11_laysRushed 137 = .ok (.goto (-131), 3) := by decide +kernel
theorem dX11_laysRushed_140 : decode cX11_laysRushed 140 = .ok (.return_, 1) := by decide +kernel
theorem dX11_rush_0 : decode cX11_rush 0 = .ok (.aload_n 0, 1) := by decide +kernel
theorem dX11_rush_1 : decode cX11_rush 1 = .ok (.aload_n 0, 1) := by decide +kernel
theorem dX11_rush_2 : decode cX11_rush 2 = .ok (.iload_n 1, 1) := by decide +kernel
theorem dX11_rush_3 : decode cX11_rush 3 = .ok (.invokevirtual 87, 3) := by decide +kernel
theorem dX11_rush_6 : decode cX11_rush 6 = .ok (.aload_n 0, 1) := by decide +kernel
theorem dX11_rush_7 : decode cX11_rush 7 = .ok (.invokevirtual 187, 3) := by decide +kernel
theorem dX11_rush_10 : decode cX11_rush 10 = .ok (.iconst 1, 1) := by decide +kernel
theorem dX11_rush_11 : decode cX11_rush 11 = .ok (.invokevirtual 151, 3) := by decide +kernel
theorem dX11_rush_14 : decode cX11_rush 14 = .ok (.ifCond .ne 5, 3) := by decide +kernel
theorem dX11_rush_17 : decode cX11_rush 17 = .ok (.iconst 0, 1) := by decide +kernel
theorem dX11_rush_18 : decode cX11_rush 18 = .ok (.ireturn, 1) := by decide +kernel
theorem dX11_rush_19 : decode cX11_rush 19 = .ok (.aload_n 0, 1) := by decide +kernel
theorem dX11_rush_20 : decode cX11_rush 20 = .ok (.invokevirtual 155, 3) := by decide +kernel
theorem dX11_rush_23 : decode cX11_rush 23 = .ok (.aload_n 0, 1) := by decide +kernel
theorem dX11_rush_24 : decode cX11_rush 24 = .ok (.iload_n 1, 1) := by decide +kernel
theorem dX11_rush_25 : decode cX11_rush 25 = .ok (.invokevirtual 190, 3) := by decide +kernel
theorem dX11_rush_28 : decode cX11_rush 28 = .ok (.aload_n 0, 1) := by decide +kernel
theorem dX11_rush_29 : decode cX11_rush 29 = .ok (.invokevirtual 167, 3) := by decide +kernel
theorem dX11_rush_32 : decode cX11_rush 32 = .ok (.ireturn, 1) := by decide +kernel
theorem dX11_setWorker_0 : decode cX11_setWorker 0 = .ok (.aload_n 0, 1) := by decide +kernel
theorem dX11_setWorker_1 : decode cX11_setWorker 1 = .ok (.iload_n 1, 1) := by decide +kernel
theorem dX11_setWorker_2 : decode cX11_setWorker 2 = .ok (.iconst 0, 1) := by decide +kernel
theorem dX11_setWorker_3 : decode cX11_setWorker 3 = .ok (.iconst 5, 1) := by decide +kernel
theorem dX11_setWorker_4 : decode cX11_setWorker 4 = .ok (.invokestatic 83, 3) := by decide +kernel
theorem dX11_setWorker_7 : decode cX11_setWorker 7 = .ok (.iload_n 2, 1) := by decide +kernel
theorem dX11_setWorker_8 : decode cX11_setWorker 8 = .ok (.iconst 0, 1) := by decide +kernel
theorem dX11_setWorker_9 : decode cX11_setWorker 9 = .ok (.bipush 15, 2) := by decide +kernel
theorem dX11_setWorker_11 : decode cX11_setWorker 11 = .ok (.invokestatic 83, 3) := by decide +kernel
theorem dX11_setWorker_14 : decode cX11_setWorker 14 = .ok (.iconst 1, 1) := by decide +kernel
theorem dX11_setWorker_15 : decode cX11_setWorker 15 = .ok (.invokevirtual 151, 3) := by decide +kernel
theorem dX11_setWorker_18 : decode cX11_setWorker 18 = .ok (.ifCond .ne 5, 3) := by decide +kernel
theorem dX11_setWorker_21 : decode cX11_setWorker 21 = .ok (.iconst 0, 1) := by decide +kernel
theorem dX11_setWorker_22 : decode cX11_setWorker 22 = .ok (.ireturn, 1) := by decide +kernel
theorem dX11_setWorker_23 : decode cX11_setWorker 23 = .ok (.aload_n 0, 1) := by decide +kernel
theorem dX11_setWorker_24 : decode cX11_setWorker 24 = .ok (.invokevirtual 155, 3) := by decide +kernel
theorem dX11_setWorker_27 : decode cX11_setWorker 27 = .ok (.aload_n 0, 1) := by decide +kernel
theorem dX11_setWorker_28 : decode cX11_setWorker 28 = .ok (.getfield 9, 3) := by decide +kernel
theorem dX11_setWorker_31 : decode cX11_setWorker 31 = .ok (.sipush 276, 3) := by decide +kernel
theorem dX11_setWorker_34 : decode cX11_setWorker 34 = .ok (.iload_n 1, 1) := by decide +kernel
theorem dX11_setWorker_35 : decode cX11_setWorker 35 = .ok (.iadd, 1) := by decide +kernel
theorem dX11_setWorker_36 : decode cX11_setWorker 36 = .ok (.iaload, 1) := by decide +kernel
theorem dX11_setWorker_37 : decode cX11_setWorker 37 = .ok (.istore_n 3, 1) := by decide +kernel
theorem dX11_setWorker_38 : decode cX11_setWorker 38 = .ok (.aload_n 0, 1) := by decide +kernel
theorem dX11_setWorker_39 : decode cX11_setWorker 39 = .ok (.getfield 9, 3) := by decide +kernel
theorem dX11_setWorker_42 : decode cX11_setWorker 42 = .ok (.sipush 276, 3) := by decide +kernel
theorem dX11_setWorker_45 : decode cX11_setWorker 45 = .ok (.iload_n 1, 1) := by decide +kernel
theorem dX11_setWorker_46 : decode cX11_setWorker 46 = .ok (.iadd, 1) := by decide +kernel
theorem dX11_setWorker_47 : decode cX11_setWorker 47 = .ok (.iload_n 2, 1) := by decide +kernel
theorem dX11_setWorker_48 : decode cX11_setWorker 48 = .ok (.iastore, 1) := by decide +kernel
theorem dX11_setWorker_49 : decode cX11_setWorker 49 = .ok (.iload_n 3, 1) := by decide +kernel
theorem dX11_setWorker_50 : decode cX11_setWorker 50 = .ok (.ireturn, 1) := by decide +kernel
theorem dX11_undo_0 : decode cX11_undo 0 = .ok (.aload_n 0, 1) := by decide +kernel
theorem dX11_undo_1 : decode cX11_undo 1 = .ok (.iconst 0, 1) := by decide +kernel
theorem dX11_undo_2 : decode cX11_undo 2 = .ok (.putfield 69, 3) := by decide +kernel
theorem dX11_undo_5 : decode cX11_undo 5 = .ok (.aload_n 0, 1) := by decide +kernel
theorem dX11_undo_6 : decode cX11_undo 6 = .ok (.getfield 148, 3) := by decide +kernel
theorem dX11_undo_9 : decode cX11_undo 9 = .ok (.ifCond .ne 5, 3) := by decide +kernel
theorem dX11_undo_12 : decode cX11_undo 12 = .ok (.iconst (-1), 1) := by decide +kernel
theorem dX11_undo_13 : decode cX11_undo 13 = .ok (.ireturn, 1) := by decide +kernel
theorem dX11_undo_14 : decode cX11_undo 14 = .ok (.aload_n 0, 1) := by decide +kernel
theorem dX11_undo_15 : decode cX11_undo 15 = .ok (.dup, 1) := by decide +kernel
theorem dX11_undo_16 : decode cX11_undo 16 = .ok (.getfield 148, 3) := by decide +kernel
theorem dX11_undo_19 : decode cX11_undo 19 = .ok (.iconst 1, 1) := by decide +kernel
theorem dX11_undo_20 : decode cX11_undo 20 = .ok (.isub, 1) := by decide +kernel
theorem dX11_undo_21 : decode cX11_undo 21 = .ok (.putfield 148, 3) := by decide +kernel
theorem dX11_undo_24 : decode cX11_undo 24 = .ok (.aload_n 0, 1) := by decide +kernel
theorem dX11_undo_25 : decode cX11_undo 25 = .ok (.getfield 13, 3) := by decide +kernel
theorem dX11_undo_28 : decode cX11_undo 28 = .ok (.aload_n 0, 1) := by decide +kernel
theorem dX11_undo_29 : decode cX11_undo 29 = .ok (.getfield 148, 3) := by decide +kernel
theorem dX11_undo_32 : decode cX11_undo 32 = .ok (.sipush 282, 3) := by decide +kernel
theorem dX11_undo_35 : decode cX11_undo 35 = .ok (.imul, 1) := by decide +kernel
theorem dX11_undo_36 : decode cX11_undo 36 = .ok (.aload_n 0, 1) := by decide +kernel
theorem dX11_undo_37 : decode cX11_undo 37 = .ok (.getfield 9, 3) := by decide +kernel
theorem dX11_undo_40 : decode cX11_undo 40 = .ok (.iconst 0, 1) := by decide +kernel
theorem dX11_undo_41 : decode cX11_undo 41 = .ok (.sipush 282, 3) := by decide +kernel
theorem dX11_undo_44 : decode cX11_undo 44 = .ok (.invokestatic 135, 3) := by decide +kernel
theorem dX11_undo_47 : decode cX11_undo 47 = .ok (.aload_n 0, 1) := by decide +kernel
theorem dX11_undo_48 : decode cX11_undo 48 = .ok (.getfield 148, 3) := by decide +kernel
theorem dX11_undo_51 : decode cX11_undo 51 = .ok (.ireturn, 1) := by decide +kernel
theorem dX11_jobs_0 : decode cX11_jobs 0 = .ok (.aload_n 0, 1) := by decide +kernel
theorem dX11_jobs_1 : decode cX11_jobs 1 = .ok (.iconst 0, 1) := by decide +kernel
theorem dX11_jobs_2 : decode cX11_jobs 2 = .ok (.putfield 69, 3) := by decide +kernel
theorem dX11_jobs_5 : decode cX11_jobs 5 = .ok (.aload_n 0, 1) := by decide +kernel
theorem dX11_jobs_6 : decode cX11_jobs 6 = .ok (.getfield 9, 3) := by decide +kernel
theorem dX11_jobs_9 : decode cX11_jobs 9 = .ok (.iconst 0, 1) := by decide +kernel
theorem dX11_jobs_10 : decode cX11_jobs 10 = .ok (.iaload, 1) := by decide +kernel
theorem dX11_jobs_11 : decode cX11_jobs 11 = .ok (.ireturn, 1) := by decide +kernel
theorem dX11_jobAt_0 : decode cX11_jobAt 0 = .ok (.aload_n 0, 1) := by decide +kernel
theorem dX11_jobAt_1 : decode cX11_jobAt 1 = .ok (.aload_n 0, 1) := by decide +kernel
theorem dX11_jobAt_2 : decode cX11_jobAt 2 = .ok (.iload_n 1, 1) := by decide +kernel
theorem dX11_jobAt_3 : decode cX11_jobAt 3 = .ok (.invokevirtual 87, 3) := by decide +kernel
theorem dX11_jobAt_6 : decode cX11_jobAt 6 = .ok (.iload_n 2, 1) := by decide +kernel
theorem dX11_jobAt_7 : decode cX11_jobAt 7 = .ok (.iconst 0, 1) := by decide +kernel
theorem dX11_jobAt_8 : decode cX11_jobAt 8 = .ok (.iconst 5, 1) := by decide +kernel
theorem dX11_jobAt_9 : decode cX11_jobAt 9 = .ok (.invokestatic 83, 3) := by decide +kernel
theorem dX11_jobAt_12 : decode cX11_jobAt 12 = .ok (.iconst 1, 1) := by decide +kernel
theorem dX11_jobAt_13 : decode cX11_jobAt 13 = .ok (.invokevirtual 151, 3) := by decide +kernel
theorem dX11_jobAt_16 : decode cX11_jobAt 16 = .ok (.ifCond .ne 5, 3) := by decide +kernel
theorem dX11_jobAt_19 : decode cX11_jobAt 19 = .ok (.iconst 0, 1) := by decide +kernel
theorem dX11_jobAt_20 : decode cX11_jobAt 20 = .ok (.ireturn, 1) := by decide +kernel
theorem dX11_jobAt_21 : decode cX11_jobAt 21 = .ok (.iload_n 2, 1) := by decide +kernel
theorem dX11_jobAt_22 : decode cX11_jobAt 22 = .ok (.iconst 5, 1) := by decide +kernel
theorem dX11_jobAt_23 : decode cX11_jobAt 23 = .ok (.if_icmp .ne 11, 3) := by decide +kernel
theorem dX11_jobAt_26 : decode cX11_jobAt 26 = .ok (.aload_n 0, 1) := by decide +kernel
theorem dX11_jobAt_27 : decode cX11_jobAt 27 = .ok (.iload_n 1, 1) := by decide +kernel
theorem dX11_jobAt_28 : decode cX11_jobAt 28 = .ok (.invokevirtual 193, 3) := by decide +kernel
theorem dX11_jobAt_31 : decode cX11_jobAt 31 = .ok (.goto 9, 3) := by decide +kernel
theorem dX11_jobAt_34 : decode cX11_jobAt 34 = .ok (.aload_n 0, 1) := by decide +kernel
theorem dX11_jobAt_35 : decode cX11_jobAt 35 = .ok (.iload_n 1, 1) := by decide +kernel
theorem dX11_jobAt_36 : decode cX11_jobAt 36 = .ok (.iload_n 2, 1) := by decide +kernel
theorem dX11_jobAt_37 : decode cX11_jobAt 37 = .ok (.invokevirtual 73, 3) := by decide +kernel
theorem dX11_jobAt_40 : decode cX11_jobAt 40 = .ok (.ireturn, 1) := by decide +kernel
theorem dX11_stepAt_0 : decode cX11_stepAt 0 = .ok (.aload_n 0, 1) := by decide +kernel
theorem dX11_stepAt_1 : decode cX11_stepAt 1 = .ok (.aload_n 0, 1) := by decide +kernel
theorem dX11_stepAt_2 : decode cX11_stepAt 2 = .ok (.iload_n 1, 1) := by decide +kernel
theorem dX11_stepAt_3 : decode cX11_stepAt 3 = .ok (.iload_n 2, 1) := by decide +kernel
theorem dX11_stepAt_4 : decode cX11_stepAt 4 = .ok (.invokevirtual 196, 3) := by decide +kernel
theorem dX11_stepAt_7 : decode cX11_stepAt 7 = .ok (.iload_n 3, 1) := by decide +kernel
theorem dX11_stepAt_8 : decode cX11_stepAt 8 = .ok (.iconst 0, 1) := by decide +kernel
theorem dX11_stepAt_9 : decode cX11_stepAt 9 = .ok (.iconst 1, 1) := by decide +kernel
theorem dX11_stepAt_10 : decode cX11_stepAt 10 = .ok (.invokestatic 83, 3) := by decide +kernel
theorem dX11_stepAt_13 : decode cX11_stepAt 13 = .ok (.iconst 1, 1) := by decide +kernel
theorem dX11_stepAt_14 : decode cX11_stepAt 14 = .ok (.invokevirtual 151, 3) := by decide +kernel
theorem dX11_stepAt_17 : decode cX11_stepAt 17 = .ok (.ifCond .ne 5, 3) := by decide +kernel
theorem dX11_stepAt_20 : decode cX11_stepAt 20 = .ok (.iconst 0, 1) := by decide +kernel
theorem dX11_stepAt_21 : decode cX11_stepAt 21 = .ok (.ireturn, 1) := by decide +kernel
theorem dX11_stepAt_22 : decode cX11_stepAt 22 = .ok (.aload_n 0, 1) := by decide +kernel
theorem dX11_stepAt_23 : decode cX11_stepAt 23 = .ok (.iload_n 1, 1) := by decide +kernel
theorem dX11_stepAt_24 : decode cX11_stepAt 24 = .ok (.iconst 5, 1) := by decide +kernel
theorem dX11_stepAt_25 : decode cX11_stepAt 25 = .ok (.iconst 2, 1) := by decide +kernel
theorem dX11_stepAt_26 : decode cX11_stepAt 26 = .ok (.iload_n 2, 1) := by decide +kernel
theorem dX11_stepAt_27 : decode cX11_stepAt 27 = .ok (.imul, 1) := by decide +kernel
theorem dX11_stepAt_28 : decode cX11_stepAt 28 = .ok (.iadd, 1) := by decide +kernel
theorem dX11_stepAt_29 : decode cX11_stepAt 29 = .ok (.iload_n 3, 1) := by decide +kernel
theorem dX11_stepAt_30 : decode cX11_stepAt 30 = .ok (.iadd, 1) := by decide +kernel
theorem dX11_stepAt_31 : decode cX11_stepAt 31 = .ok (.invokevirtual 73, 3) := by decide +kernel
theorem dX11_stepAt_34 : decode cX11_stepAt 34 = .ok (.ireturn, 1) := by decide +kernel
theorem dX11_isPlanned_0 : decode cX11_isPlanned 0 = .ok (.aload_n 0, 1) := by decide +kernel
theorem dX11_isPlanned_1 : decode cX11_isPlanned 1 = .ok (.invokevirtual 187, 3) := by decide +kernel
theorem dX11_isPlanned_4 : decode cX11_isPlanned 4 = .ok (.ifCond .eq 14, 3) := by decide +kernel
theorem dX11_isPlanned_7 : decode cX11_isPlanned 7 = .ok (.aload_n 0, 1) := by decide +kernel
theorem dX11_isPlanned_8 : decode cX11_isPlanned 8 = .ok (.invokevirtual 141, 3) := by decide +kernel
theorem dX11_isPlanned_11 : decode cX11_isPlanned 11 = .ok (.ifCond .eq 7, 3) := by decide +kernel
theorem dX11_isPlanned_14 : decode cX11_isPlanned 14 = .ok (.iconst 1, 1) := by decide +kernel
theorem dX11_isPlanned_15 : decode cX11_isPlanned 15 = .ok (.goto 4, 3) := by decide +kernel
theorem dX11_isPlanned_18 : decode cX11_isPlanned 18 = .ok (.iconst 0, 1) := by decide +kernel
theorem dX11_isPlanned_19 : decode cX11_isPlanned 19 = .ok (.ireturn, 1) := by decide +kernel
theorem dX11_begin_0 : decode cX11_begin 0 = .ok (.aload_n 0, 1) := by decide +kernel
theorem dX11_begin_1 : decode cX11_begin 1 = .ok (.aload_n 0, 1) := by decide +kernel
theorem dX11_begin_2 : decode cX11_begin 2 = .ok (.iload_n 1, 1) := by decide +kernel
theorem dX11_begin_3 : decode cX11_begin 3 = .ok (.iload_n 2, 1) := by decide +kernel
theorem dX11_begin_4 : decode cX11_begin 4 = .ok (.invokevirtual 196, 3) := by decide +kernel
theorem dX11_begin_7 : decode cX11_begin 7 = .ok (.aload_n 0, 1) := by decide +kernel
theorem dX11_begin_8 : decode cX11_begin 8 = .ok (.invokevirtual 199, 3) := by decide +kernel
theorem dX11_begin_11 : decode cX11_begin 11 = .ok (.iconst 1, 1) := by decide +kernel
theorem dX11_begin_12 : decode cX11_begin 12 = .ok (.invokevirtual 151, 3) := by decide +kernel
theorem dX11_begin_15 : decode cX11_begin 15 = .ok (.ifCond .eq 16, 3) := by decide +kernel
theorem dX11_begin_18 : decode cX11_begin 18 = .ok (.aload_n 0, 1) := by decide +kernel
theorem dX11_begin_19 : decode cX11_begin 19 = .ok (.getfield 16, 3) := by decide +kernel
theorem dX11_begin_22 : decode cX11_begin 22 = .ok (.iload_n 1, 1) := by decide +kernel
theorem dX11_begin_23 : decode cX11_begin 23 = .ok (.iconst 5, 1) := by decide +kernel
theorem dX11_begin_24 : decode cX11_begin 24 = .ok (.imul, 1) := by decide +kernel
theorem dX11_begin_25 : decode cX11_begin 25 = .ok (.iload_n 2, 1) := by decide +kernel
theorem dX11_begin_26 : decode cX11_begin 26 = .ok (.iadd, 1) := by decide +kernel
theorem dX11_begin_27 : decode cX11_begin 27 = .ok (.iaload, 1) := by decide +kernel
theorem dX11_begin_28 : decode cX11_begin 28 = .ok (.goto 4, 3) := by decide +kernel
theorem dX11_begin_31 : decode cX11_begin 31 = .ok (.iconst 0, 1) := by decide +kernel
theorem dX11_begin_32 : decode cX11_begin 32 = .ok (.ireturn, 1) := by decide +kernel
theorem dX11_endOf_0 : decode cX11_endOf 0 = .ok (.aload_n 0, 1) := by decide +kernel
theorem dX11_endOf_1 : decode cX11_endOf 1 = .ok (.aload_n 0, 1) := by decide +kernel
theorem dX11_endOf_2 : decode cX11_endOf 2 = .ok (.iload_n 1, 1) := by decide +kernel
theorem dX11_endOf_3 : decode cX11_endOf 3 = .ok (.invokevirtual 87, 3) := by decide +kernel
theorem dX11_endOf_6 : decode cX11_endOf 6 = .ok (.aload_n 0, 1) := by decide +kernel
theorem dX11_endOf_7 : decode cX11_endOf 7 = .ok (.invokevirtual 199, 3) := by decide +kernel
theorem dX11_endOf_10 : decode cX11_endOf 10 = .ok (.iconst 1, 1) := by decide +kernel
theorem dX11_endOf_11 : decode cX11_endOf 11 = .ok (.invokevirtual 151, 3) := by decide +kernel
theorem dX11_endOf_14 : decode cX11_endOf 14 = .ok (.ifCond .eq 12, 3) := by decide +kernel
theorem dX11_endOf_17 : decode cX11_endOf 17 = .ok (.aload_n 0, 1) := by decide +kernel
theorem dX11_endOf_18 : decode cX11_endOf 18 = .ok (.getfield 22, 3) := by decide +kernel
theorem dX11_endOf_21 : decode cX11_endOf 21 = .ok (.iload_n 1, 1) := by decide +kernel
theorem dX11_endOf_22 : decode cX11_endOf 22 = .ok (.iaload, 1) := by decide +kernel
theorem dX11_endOf_23 : decode cX11_endOf 23 = .ok (.goto 4, 3) := by decide +kernel
theorem dX11_endOf_26 : decode cX11_endOf 26 = .ok (.iconst 0, 1) := by decide +kernel
theorem dX11_endOf_27 : decode cX11_endOf 27 = .ok (.ireturn, 1) := by decide +kernel
theorem dX11_value_0 : decode cX11_value 0 = .ok (.aload_n 0, 1) := by decide +kernel
theorem dX11_value_1 : decode cX11_value 1 = .ok (.iload_n 1, 1) := by decide +kernel
theorem dX11_value_2 : decode cX11_value 2 = .ok (.iconst 0, 1) := by decide +kernel
theorem dX11_value_3 : decode cX11_value 3 = .ok (.iconst 4, 1) := by decide +kernel
theorem dX11_value_4 : decode cX11_value 4 = .ok (.invokestatic 83, 3) := by decide +kernel
theorem dX11_value_7 : decode cX11_value 7 = .ok (.aload_n 0, 1) := by decide +kernel
theorem dX11_value_8 : decode cX11_value 8 = .ok (.invokevirtual 199, 3) := by decide +kernel
theorem dX11_value_11 : decode cX11_value 11 = .ok (.iconst 1, 1) := by decide +kernel
theorem dX11_value_12 : decode cX11_value 12 = .ok (.invokevirtual 151, 3) := by decide +kernel
theorem dX11_value_15 : decode cX11_value 15 = .ok (.ifCond .eq 11, 3) := by decide +kernel
theorem dX11_value_18 : decode cX11_value 18 = .ok (.aload_n 0, 1) := by decide +kernel
theorem dX11_value_19 : decode cX11_value 19 = .ok (.iload_n 1, 1) := by decide +kernel
theorem dX11_value_20 : decode cX11_value 20 = .ok (.invokevirtual 172, 3) := by decide +kernel
theorem dX11_value_23 : decode cX11_value 23 = .ok (.goto 4, 3) := by decide +kernel
theorem dX11_value_26 : decode cX11_value 26 = .ok (.iconst 0, 1) := by decide +kernel
theorem dX11_value_27 : decode cX11_value 27 = .ok (.ireturn, 1) := by decide +kernel
theorem dX11_bound_0 : decode cX11_bound 0 = .ok (.aload_n 0, 1) := by decide +kernel
theorem dX11_bound_1 : decode cX11_bound 1 = .ok (.iconst 0, 1) := by decide +kernel
theorem dX11_bound_2 : decode cX11_bound 2 = .ok (.putfield 69, 3) := by decide +kernel
theorem dX11_bound_5 : decode cX11_bound 5 = .ok (.iconst 0, 1) := by decide +kernel
theorem dX11_bound_6 : decode cX11_bound 6 = .ok (.istore_n 1, 1) := by decide +kernel
theorem dX11_bound_7 : decode cX11_bound 7 = .ok (.iconst 0, 1) := by decide +kernel
theorem dX11_bound_8 : decode cX11_bound 8 = .ok (.istore_n 2, 1) := by decide +kernel
theorem dX11_bound_9 : decode cX11_bound 9 = .ok (.iload_n 2, 1) := by decide +kernel
theorem dX11_bound_10 : decode cX11_bound 10 = .ok (.aload_n 0, 1) := by decide +kernel
theorem dX11_bound_11 : decode cX11_bound 11 = .ok (.getfield 9, 3) := by decide +kernel
theorem dX11_bound_14 : decode cX11_bound 14 = .ok (.iconst 0, 1) := by decide +kernel
theorem dX11_bound_15 : decode cX11_bound 15 = .ok (.iaload, 1) := by decide +kernel
theorem dX11_bound_16 : decode cX11_bound 16 = .ok (.if_icmp .ge 26, 3) := by decide +kernel
theorem dX11_bound_19 : decode cX11_bound 19 = .ok (.iload_n 1, 1) := by decide +kernel
theorem dX11_bound_20 : decode cX11_bound 20 = .ok (.aload_n 0, 1) := by decide +kernel
theorem dX11_bound_21 : decode cX11_bound 21 = .ok (.iload_n 2, 1) := by decide +kernel
theorem dX11_bound_22 : decode cX11_bound 22 = .ok (.iconst 0, 1) := by decide +kernel
theorem dX11_bound_23 : decode cX11_bound 23 = .ok (.invokevirtual 73, 3) := by decide +kernel
theorem dX11_bound_26 : decode cX11_bound 26 = .ok (.aload_n 0, 1) := by decide +kernel
theorem dX11_bound_27 : decode cX11_bound 27 = .ok (.iload_n 2, 1) := by decide +kernel
theorem dX11_bound_28 : decode cX11_bound 28 = .ok (.invokevirtual 193, 3) := by decide +kernel
theorem dX11_bound_31 : decode cX11_bound 31 = .ok (.iadd, 1) := by decide +kernel
theorem dX11_bound_32 : decode cX11_bound 32 = .ok (.invokestatic 101, 3) := by decide +kernel
theorem dX11_bound_35 : decode cX11_bound 35 = .ok (.istore_n 1, 1) := by decide +kernel
theorem dX11_bound_36 : decode cX11_bound 36 = .ok (.iinc 2 1, 3) := by decide +kernel
theorem dX11_bound_39 : decode cX11_bound 39 = .ok (.goto (-30), 3) := by decide +kernel
theorem dX11_bound_42 : decode cX11_bound 42 = .ok (.iconst 0, 1) := by decide +kernel
theorem dX11_bound_43 : decode cX11_bound 43 = .ok (.istore_n 2, 1) := by decide +kernel
theorem dX11_bound_44 : decode cX11_bound 44 = .ok (.iload_n 2, 1) := by decide +kernel
theorem dX11_bound_45 : decode cX11_bound 45 = .ok (.iconst 4, 1) := by decide +kernel
theorem dX11_bound_46 : decode cX11_bound 46 = .ok (.if_icmp .ge 19, 3) := by decide +kernel
theorem dX11_bound_49 : decode cX11_bound 49 = .ok (.iload_n 1, 1) := by decide +kernel
theorem dX11_bound_50 : decode cX11_bound 50 = .ok (.aload_n 0, 1) := by decide +kernel
theorem dX11_bound_51 : decode cX11_bound 51 = .ok (.iload_n 2, 1) := by decide +kernel
theorem dX11_bound_52 : decode cX11_bound 52 = .ok (.invokevirtual 202, 3) := by decide +kernel
theorem dX11_bound_55 : decode cX11_bound 55 = .ok (.invokestatic 101, 3) := by decide +kernel
theorem dX11_bound_58 : decode cX11_bound 58 = .ok (.istore_n 1, 1) := by decide +kernel
theorem dX11_bound_59 : decode cX11_bound 59 = .ok (.iinc 2 1, 3) := by decide +kernel
theorem dX11_bound_62 : decode cX11_bound 62 = .ok (.goto (-18), 3) := by decide +kernel
theorem dX11_bound_65 : decode cX11_bound 65 = .ok (.iload_n 1, 1) := by decide +kernel
theorem dX11_bound_66 : decode cX11_bound 66 = .ok (.ireturn, 1) := by decide +kernel
theorem dX11_hoursOn_0 : decode cX11_hoursOn 0 = .ok (.iconst 0, 1) := by decide +kernel
theorem dX11_hoursOn_1 : decode cX11_hoursOn 1 = .ok (.istore_n 2, 1) := by decide +kernel
theorem dX11_hoursOn_2 : decode cX11_hoursOn 2 = .ok (.iconst 0, 1) := by decide +kernel
theorem dX11_hoursOn_3 : decode cX11_hoursOn 3 = .ok (.istore_n 3, 1) := by decide +kernel
theorem dX11_hoursOn_4 : decode cX11_hoursOn 4 = .ok (.iload_n 3, 1) := by decide +kernel
theorem dX11_hoursOn_5 : decode cX11_hoursOn 5 = .ok (.aload_n 0, 1) := by decide +kernel
theorem dX11_hoursOn_6 : decode cX11_hoursOn 6 = .ok (.getfield 9, 3) := by decide +kernel
theorem dX11_hoursOn_9 : decode cX11_hoursOn 9 = .ok (.iconst 0, 1) := by decide +kernel
theorem dX11_hoursOn_10 : decode cX11_hoursOn 10 = .ok (.iaload, 1) := by decide +kernel
theorem dX11_hoursOn_11 : decode cX11_hoursOn 11 = .ok (.if_icmp .ge 54, 3) := by decide +kernel
theorem dX11_hoursOn_14 : decode cX11_hoursOn 14 = .ok (.iconst 0, 1) := by decide +kernel
theorem dX11_hoursOn_15 : decode cX11_hoursOn 15 = .ok (.istore 4, 2) := by decide +kernel
theorem dX11_hoursOn_17 : decode cX11_hoursOn 17 = .ok (.iload 4, 2) := by decide +kernel
theorem dX11_hoursOn_19 : decode cX11_hoursOn 19 = .ok (.aload_n 0, 1) := by decide +kernel
theorem dX11_hoursOn_20 : decode cX11_hoursOn 20 = .ok (.iload_n 3, 1) := by decide +kernel
theorem dX11_hoursOn_21 : decode cX11_hoursOn 21 = .ok (.iconst 4, 1) := by decide +kernel
theorem dX11_hoursOn_22 : decode cX11_hoursOn 22 = .ok (.invokevirtual 73, 3) := by decide +kernel
theorem dX11_hoursOn_25 : decode cX11_hoursOn 25 = .ok (.if_icmp .ge 34, 3) := by decide +kernel
theorem dX11_hoursOn_28 : decode cX11_hoursOn 28 = .ok (.iload_n 2, 1) := by decide +kernel
theorem dX11_hoursOn_29 : decode cX11_hoursOn 29 = .ok (.aload_n 0, 1) := by decide +kernel
theorem dX11_hoursOn_30 : decode cX11_hoursOn 30 = .ok (.iload_n 3, 1) := by decide +kernel
theorem dX11_hoursOn_31 : decode cX11_hoursOn 31 = .ok (.iload 4, 2) := by decide +kernel
theorem dX11_hoursOn_33 : decode cX11_hoursOn 33 = .ok (.invokevirtual 95, 3) := by decide +kernel
theorem dX11_hoursOn_36 : decode cX11_hoursOn 36 = .ok (.iload_n 1, 1) := by decide +kernel
theorem dX11_hoursOn_37 : decode cX11_hoursOn 37 = .ok (.if_icmp .ne 13, 3) := by decide +kernel
theorem dX11_hoursOn_40 : decode cX11_hoursOn 40 = .ok (.aload_n 0, 1) := by decide +kernel
theorem dX11_hoursOn_41 : decode cX11_hoursOn 41 = .ok (.iload_n 3, 1) := by decide +kernel
theorem dX11_hoursOn_42 : decode cX11_hoursOn 42 = .ok (.iload 4, 2) := by decide +kernel
theorem dX11_hoursOn_44 : decode cX11_hoursOn 44 = .ok (.invokevirtual 77, 3) := by decide +kernel
theorem dX11_hoursOn_47 : decode cX11_hoursOn 47 = .ok (.goto 4, 3) := by decide +kernel
theorem dX11_hoursOn_50 : decode cX11_hoursOn 50 = .ok (.iconst 0, 1) := by decide +kernel
theorem dX11_hoursOn_51 : decode cX11_hoursOn 51 = .ok (.iadd, 1) := by decide +kernel
theorem dX11_hoursOn_52 : decode cX11_hoursOn 52 = .ok (.istore_n 2, 1) := by decide +kernel
theorem dX11_hoursOn_53 : decode cX11_hoursOn 53 = .ok (.iinc 4 1, 3) := by decide +kernel
theorem dX11_hoursOn_56 : decode cX11_hoursOn 56 = .ok (.goto (-39), 3) := by decide +kernel
theorem dX11_hoursOn_59 : decode cX11_hoursOn 59 = .ok (.iinc 3 1, 3) := by decide +kernel
theorem dX11_hoursOn_62 : decode cX11_hoursOn 62 = .ok (.goto (-58), 3) := by decide +kernel
theorem dX11_hoursOn_65 : decode cX11_hoursOn 65 = .ok (.iload_n 2, 1) := by decide +kernel
theorem dX11_hoursOn_66 : decode cX11_hoursOn 66 = .ok (.ireturn, 1) := by decide +kernel
theorem dX11_orderAt_0 : decode cX11_orderAt 0 = .ok (.aload_n 0, 1) := by decide +kernel
theorem dX11_orderAt_1 : decode cX11_orderAt 1 = .ok (.iload_n 1, 1) := by decide +kernel
theorem dX11_orderAt_2 : decode cX11_orderAt 2 = .ok (.iconst 0, 1) := by decide +kernel
theorem dX11_orderAt_3 : decode cX11_orderAt 3 = .ok (.iconst 3, 1) := by decide +kernel
theorem dX11_orderAt_4 : decode cX11_orderAt 4 = .ok (.invokestatic 83, 3) := by decide +kernel
theorem dX11_orderAt_7 : decode cX11_orderAt 7 = .ok (.ifCond .eq 30, 3) := by decide +kernel
theorem dX11_orderAt_10 : decode cX11_orderAt 10 = .ok (.iload_n 2, 1) := by decide +kernel
theorem dX11_orderAt_11 : decode cX11_orderAt 11 = .ok (.iconst 0, 1) := by decide +kernel
theorem dX11_orderAt_12 : decode cX11_orderAt 12 = .ok (.aload_n 0, 1) := by decide +kernel
theorem dX11_orderAt_13 : decode cX11_orderAt 13 = .ok (.getfield 9, 3) := by decide +kernel
theorem dX11_orderAt_16 : decode cX11_orderAt 16 = .ok (.sipush 152, 3) := by decide +kernel
theorem dX11_orderAt_19 : decode cX11_orderAt 19 = .ok (.iload_n 1, 1) := by decide +kernel
theorem dX11_orderAt_20 : decode cX11_orderAt 20 = .ok (.bipush 31, 2) := by decide +kernel
theorem dX11_orderAt_22 : decode cX11_orderAt 22 = .ok (.imul, 1) := by decide +kernel
theorem dX11_orderAt_23 : decode cX11_orderAt 23 = .ok (.iadd, 1) := by decide +kernel
theorem dX11_orderAt_24 : decode cX11_orderAt 24 = .ok (.iaload, 1) := by decide +kernel
theorem dX11_orderAt_25 : decode cX11_orderAt 25 = .ok (.iconst 1, 1) := by decide +kernel
theorem dX11_orderAt_26 : decode cX11_orderAt 26 = .ok (.isub, 1) := by decide +kernel
theorem dX11_orderAt_27 : decode cX11_orderAt 27 = .ok (.invokestatic 83, 3) := by decide +kernel
theorem dX11_orderAt_30 : decode cX11_orderAt 30 = .ok (.ifCond .eq 7, 3) := by decide +kernel
theorem dX11_orderAt_33 : decode cX11_orderAt 33 = .ok (.iconst 1, 1) := by decide +kernel
theorem dX11_orderAt_34 : decode cX11_orderAt 34 = .ok (.goto 4, 3) := by decide +kernel
theorem dX11_orderAt_37 : decode cX11_orderAt 37 = .ok (.iconst 0, 1) := by decide +kernel
theorem dX11_orderAt_38 : decode cX11_orderAt 38 = .ok (.iconst 1, 1) := by decide +kernel
theorem dX11_orderAt_39 : decode cX11_orderAt 39 = .ok (.iconst 1, 1) := by decide +kernel
theorem dX11_orderAt_40 : decode cX11_orderAt 40 = .ok (.invokevirtual 151, 3) := by decide +kernel
theorem dX11_orderAt_43 : decode cX11_orderAt 43 = .ok (.ifCond .eq 23, 3) := by decide +kernel
theorem dX11_orderAt_46 : decode cX11_orderAt 46 = .ok (.aload_n 0, 1) := by decide +kernel
theorem dX11_orderAt_47 : decode cX11_orderAt 47 = .ok (.getfield 9, 3) := by decide +kernel
theorem dX11_orderAt_50 : decode cX11_orderAt 50 = .ok (.sipush 152, 3) := by decide +kernel
theorem dX11_orderAt_53 : decode cX11_orderAt 53 = .ok (.iload_n 1, 1) := by decide +kernel
theorem dX11_orderAt_54 : decode cX11_orderAt 54 = .ok (.bipush 31, 2) := by decide +kernel
theorem dX11_orderAt_56 : decode cX11_orderAt 56 = .ok (.imul, 1) := by decide +kernel
theorem dX11_orderAt_57 : decode cX11_orderAt 57 = .ok (.iadd, 1) := by decide +kernel
theorem dX11_orderAt_58 : decode cX11_orderAt 58 = .ok (.iconst 1, 1) := by decide +kernel
theorem dX11_orderAt_59 : decode cX11_orderAt 59 = .ok (.iadd, 1) := by decide +kernel
theorem dX11_orderAt_60 : decode cX11_orderAt 60 = .ok (.iload_n 2, 1) := by decide +kernel
theorem dX11_orderAt_61 : decode cX11_orderAt 61 = .ok (.iadd, 1) := by decide +kernel
theorem dX11_orderAt_62 : decode cX11_orderAt 62 = .ok (.iaload, 1) := by decide +kernel
theorem dX11_orderAt_63 : decode cX11_orderAt 63 = .ok (.goto 4, 3) := by decide +kernel
theorem dX11_orderAt_66 : decode cX11_orderAt 66 = .ok (.iconst 0, 1) := by decide +kernel
theorem dX11_orderAt_67 : decode cX11_orderAt 67 = .ok (.ireturn, 1) := by decide +kernel
theorem dX11_doneIn_0 : decode cX11_doneIn 0 = .ok (.aload_n 0, 1) := by decide +kernel
theorem dX11_doneIn_1 : decode cX11_doneIn 1 = .ok (.iload_n 1, 1) := by decide +kernel
theorem dX11_doneIn_2 : decode cX11_doneIn 2 = .ok (.iconst 0, 1) := by decide +kernel
theorem dX11_doneIn_3 : decode cX11_doneIn 3 = .ok (.iconst 3, 1) := by decide +kernel
theorem dX11_doneIn_4 : decode cX11_doneIn 4 = .ok (.invokestatic 83, 3) := by decide +kernel
theorem dX11_doneIn_7 : decode cX11_doneIn 7 = .ok (.iload_n 2, 1) := by decide +kernel
theorem dX11_doneIn_8 : decode cX11_doneIn 8 = .ok (.iconst 0, 1) := by decide +kernel
theorem dX11_doneIn_9 : decode cX11_doneIn 9 = .ok (.sipush 5000, 3) := by decide +kernel
theorem dX11_doneIn_12 : decode cX11_doneIn 12 = .ok (.invokestatic 83, 3) := by decide +kernel
theorem dX11_doneIn_15 : decode cX11_doneIn 15 = .ok (.aload_n 0, 1) := by decide +kernel
theorem dX11_doneIn_16 : decode cX11_doneIn 16 = .ok (.invokevirtual 199, 3) := by decide +kernel
theorem dX11_doneIn_19 : decode cX11_doneIn 19 = .ok (.invokevirtual 151, 3) := by decide +kernel
theorem dX11_doneIn_22 : decode cX11_doneIn 22 = .ok (.ifCond .ne 5, 3) := by decide +kernel
theorem dX11_doneIn_25 : decode cX11_doneIn 25 = .ok (.iconst 0, 1) := by decide +kernel
theorem dX11_doneIn_26 : decode cX11_doneIn 26 = .ok (.ireturn, 1) := by decide +kernel
theorem dX11_doneIn_27 : decode cX11_doneIn 27 = .ok (.iconst (-1), 1) := by decide +kernel
theorem dX11_doneIn_28 : decode cX11_doneIn 28 = .ok (.istore_n 3, 1) := by decide +kernel
theorem dX11_doneIn_29 : decode cX11_doneIn 29 = .ok (.iconst 0, 1) := by decide +kernel
theorem dX11_doneIn_30 : decode cX11_doneIn 30 = .ok (.istore 4, 2) := by decide +kernel
theorem dX11_doneIn_32 : decode cX11_doneIn 32 = .ok (.iload 4, 2) := by decide +kernel
theorem dX11_doneIn_34 : decode cX11_doneIn 34 = .ok (.aload_n 0, 1) := by decide +kernel
theorem dX11_doneIn_35 : decode cX11_doneIn 35 = .ok (.getfield 9, 3) := by decide +kernel
theorem dX11_doneIn_38 : decode cX11_doneIn 38 = .ok (.iconst 0, 1) := by decide +kernel
theorem dX11_doneIn_39 : decode cX11_doneIn 39 = .ok (.iaload, 1) := by decide +kernel
theorem dX11_doneIn_40 : decode cX11_doneIn 40 = .ok (.if_icmp .ge 57, 3) := by decide +kernel
theorem dX11_doneIn_43 : decode cX11_doneIn 43 = .ok (.iconst 0, 1) := by decide +kernel
theorem dX11_doneIn_44 : decode cX11_doneIn 44 = .ok (.istore 5, 2) := by decide +kernel
theorem dX11_doneIn_46 : decode cX11_doneIn 46 = .ok (.iload 5, 2) := by decide +kernel
theorem dX11_doneIn_48 : decode cX11_doneIn 48 = .ok (.aload_n 0, 1) := by decide +kernel
theorem dX11_doneIn_49 : decode cX11_doneIn 49 = .ok (.iload 4, 2) := by decide +kernel
theorem dX11_doneIn_51 : decode cX11_doneIn 51 = .ok (.iconst 4, 1) := by decide +kernel
theorem dX11_doneIn_52 : decode cX11_doneIn 52 = .ok (.invokevirtual 73, 3) := by decide +kernel
theorem dX11_doneIn_55 : decode cX11_doneIn 55 = .ok (.if_icmp .ge 36, 3) := by decide +kernel
theorem dX11_doneIn_58 : decode cX11_doneIn 58 = .ok (.aload_n 0, 1) := by decide +kernel
theorem dX11_doneIn_59 : decode cX11_doneIn 59 = .ok (.iload 4, 2) := by decide +kernel
theorem dX11_doneIn_61 : decode cX11_doneIn 61 = .ok (.iload 5, 2) := by decide +kernel
theorem dX11_doneIn_63 : decode cX11_doneIn 63 = .ok (.invokevirtual 95, 3) := by decide +kernel
theorem dX11_doneIn_66 : decode cX11_doneIn 66 = .ok (.iload_n 1, 1) := by decide +kernel
theorem dX11_doneIn_67 : decode cX11_doneIn 67 = .ok (.if_icmp .ne 18, 3) := by decide +kernel
theorem dX11_doneIn_70 : decode cX11_doneIn 70 = .ok (.aload_n 0, 1) := by decide +kernel
theorem dX11_doneIn_71 : decode cX11_doneIn 71 = .ok (.iload 4, 2) := by decide +kernel
theorem dX11_doneIn_73 : decode cX11_doneIn 73 = .ok (.iload 5, 2) := by decide +kernel
theorem dX11_doneIn_75 : decode cX11_doneIn 75 = .ok (.iload_n 2, 1) := by decide +kernel
theorem dX11_doneIn_76 : decode cX11_doneIn 76 = .ok (.invokevirtual 205, 3) := by decide +kernel
theorem dX11_doneIn_79 : decode cX11_doneIn 79 = .ok (.ifCond .eq 6, 3) := by decide +kernel
theorem dX11_doneIn_82 : decode cX11_doneIn 82 = .ok (.iload 4, 2) := by decide +kernel
theorem dX11_doneIn_84 : decode cX11_doneIn 84 = .ok (.istore_n 3, 1) := by decide +kernel
theorem dX11_doneIn_85 : decode cX11_doneIn 85 = .ok (.iinc 5 1, 3) := by decide +kernel
theorem dX11_doneIn_88 : decode cX11_doneIn 88 = .ok (.goto (-42), 3) := by decide +kernel
theorem dX11_doneIn_91 : decode cX11_doneIn 91 = .ok (.iinc 4 1, 3) := by decide +kernel
theorem dX11_doneIn_94 : decode cX11_doneIn 94 = .ok (.goto (-62), 3) := by decide +kernel
theorem dX11_doneIn_97 : decode cX11_doneIn 97 = .ok (.iload_n 3, 1) := by decide +kernel
theorem dX11_doneIn_98 : decode cX11_doneIn 98 = .ok (.ireturn, 1) := by decide +kernel
theorem dX11_isDone_0 : decode cX11_isDone 0 = .ok (.aload_n 0, 1) := by decide +kernel
theorem dX11_isDone_1 : decode cX11_isDone 1 = .ok (.getfield 16, 3) := by decide +kernel
theorem dX11_isDone_4 : decode cX11_isDone 4 = .ok (.iload_n 1, 1) := by decide +kernel
theorem dX11_isDone_5 : decode cX11_isDone 5 = .ok (.iconst 5, 1) := by decide +kernel
theorem dX11_isDone_6 : decode cX11_isDone 6 = .ok (.imul, 1) := by decide +kernel
theorem dX11_isDone_7 : decode cX11_isDone 7 = .ok (.iload_n 2, 1) := by decide +kernel
theorem dX11_isDone_8 : decode cX11_isDone 8 = .ok (.iadd, 1) := by decide +kernel
theorem dX11_isDone_9 : decode cX11_isDone 9 = .ok (.iaload, 1) := by decide +kernel
theorem dX11_isDone_10 : decode cX11_isDone 10 = .ok (.iload_n 3, 1) := by decide +kernel
theorem dX11_isDone_11 : decode cX11_isDone 11 = .ok (.if_icmp .gt 17, 3) := by decide +kernel
theorem dX11_isDone_14 : decode cX11_isDone 14 = .ok (.iload_n 3, 1) := by decide +kernel
theorem dX11_isDone_15 : decode cX11_isDone 15 = .ok (.aload_n 0, 1) := by decide +kernel
theorem dX11_isDone_16 : decode cX11_isDone 16 = .ok (.iload_n 1, 1) := by decide +kernel
theorem dX11_isDone_17 : decode cX11_isDone 17 = .ok (.iload_n 2, 1) := by decide +kernel
theorem dX11_isDone_18 : decode cX11_isDone 18 = .ok (.invokevirtual 208, 3) := by decide +kernel
theorem dX11_isDone_21 : decode cX11_isDone 21 = .ok (.if_icmp .ge 7, 3) := by decide +kernel
theorem dX11_isDone_24 : decode cX11_isDone 24 = .ok (.iconst 1, 1) := by decide +kernel
theorem dX11_isDone_25 : decode cX11_isDone 25 = .ok (.goto 4, 3) := by decide +kernel
theorem dX11_isDone_28 : decode cX11_isDone 28 = .ok (.iconst 0, 1) := by decide +kernel
theorem dX11_isDone_29 : decode cX11_isDone 29 = .ok (.ireturn, 1) := by decide +kernel
theorem dX11_stepEnd_0 : decode cX11_stepEnd 0 = .ok (.aload_n 0, 1) := by decide +kernel
theorem dX11_stepEnd_1 : decode cX11_stepEnd 1 = .ok (.getfield 16, 3) := by decide +kernel
theorem dX11_stepEnd_4 : decode cX11_stepEnd 4 = .ok (.iload_n 1, 1) := by decide +kernel
theorem dX11_stepEnd_5 : decode cX11_stepEnd 5 = .ok (.iconst 5, 1) := by decide +kernel
theorem dX11_stepEnd_6 : decode cX11_stepEnd 6 = .ok (.imul, 1) := by decide +kernel
theorem dX11_stepEnd_7 : decode cX11_stepEnd 7 = .ok (.iload_n 2, 1) := by decide +kernel
theorem dX11_stepEnd_8 : decode cX11_stepEnd 8 = .ok (.iadd, 1) := by decide +kernel
theorem dX11_stepEnd_9 : decode cX11_stepEnd 9 = .ok (.iaload, 1) := by decide +kernel
theorem dX11_stepEnd_10 : decode cX11_stepEnd 10 = .ok (.aload_n 0, 1) := by decide +kernel
theorem dX11_stepEnd_11 : decode cX11_stepEnd 11 = .ok (.iload_n 1, 1) := by decide +kernel
theorem dX11_stepEnd_12 : decode cX11_stepEnd 12 = .ok (.iload_n 2, 1) := by decide +kernel
theorem dX11_stepEnd_13 : decode cX11_stepEnd 13 = .ok (.invokevirtual 77, 3) := by decide +kernel
theorem dX11_stepEnd_16 : decode cX11_stepEnd 16 = .ok (.iadd, 1) := by decide +kernel
theorem dX11_stepEnd_17 : decode cX11_stepEnd 17 = .ok (.ireturn, 1) := by decide +kernel
theorem dX11_aheadOf_0 : decode cX11_aheadOf 0 = .ok (.aload_n 0, 1) := by decide +kernel
theorem dX11_aheadOf_1 : decode cX11_aheadOf 1 = .ok (.iload_n 1, 1) := by decide +kernel
theorem dX11_aheadOf_2 : decode cX11_aheadOf 2 = .ok (.bipush 10, 2) := by decide +kernel
theorem dX11_aheadOf_4 : decode cX11_aheadOf 4 = .ok (.idiv, 1) := by decide +kernel
theorem dX11_aheadOf_5 : decode cX11_aheadOf 5 = .ok (.iload_n 1, 1) := by decide +kernel
theorem dX11_aheadOf_6 : decode cX11_aheadOf 6 = .ok (.bipush 10, 2) := by decide +kernel
theorem dX11_aheadOf_8 : decode cX11_aheadOf 8 = .ok (.irem, 1) := by decide +kernel
theorem dX11_aheadOf_9 : decode cX11_aheadOf 9 = .ok (.invokevirtual 95, 3) := by decide +kernel
theorem dX11_aheadOf_12 : decode cX11_aheadOf 12 = .ok (.istore_n 2, 1) := by decide +kernel
theorem dX11_aheadOf_13 : decode cX11_aheadOf 13 = .ok (.sipush 152, 3) := by decide +kernel
theorem dX11_aheadOf_16 : decode cX11_aheadOf 16 = .ok (.iload_n 2, 1) := by decide +kernel
theorem dX11_aheadOf_17 : decode cX11_aheadOf 17 = .ok (.bipush 31, 2) := by decide +kernel
theorem dX11_aheadOf_19 : decode cX11_aheadOf 19 = .ok (.imul, 1) := by decide +kernel
theorem dX11_aheadOf_20 : decode cX11_aheadOf 20 = .ok (.iadd, 1) := by decide +kernel
theorem dX11_aheadOf_21 : decode cX11_aheadOf 21 = .ok (.istore_n 3, 1) := by decide +kernel
theorem dX11_aheadOf_22 : decode cX11_aheadOf 22 = .ok (.iconst (-1), 1) := by decide +kernel
theorem dX11_aheadOf_23 : decode cX11_aheadOf 23 = .ok (.istore 4, 2) := by decide +kernel
theorem dX11_aheadOf_25 : decode cX11_aheadOf 25 = .ok (.iconst 0, 1) := by decide +kernel
theorem dX11_aheadOf_26 : decode cX11_aheadOf 26 = .ok (.istore 5, 2) := by decide +kernel
theorem dX11_aheadOf_28 : decode cX11_aheadOf 28 = .ok (.iload 5, 2) := by decide +kernel
theorem dX11_aheadOf_30 : decode cX11_aheadOf 30 = .ok (.aload_n 0, 1) := by decide +kernel
theorem dX11_aheadOf_31 : decode cX11_aheadOf 31 = .ok (.getfield 9, 3) := by decide +kernel
theorem dX11_aheadOf_34 : decode cX11_aheadOf 34 = .ok (.iload_n 3, 1) := by decide +kernel
theorem dX11_aheadOf_35 : decode cX11_aheadOf 35 = .ok (.iaload, 1) := by decide +kernel
theorem dX11_aheadOf_36 : decode cX11_aheadOf 36 = .ok (.if_icmp .ge 37, 3) := by decide +kernel
theorem dX11_aheadOf_39 : decode cX11_aheadOf 39 = .ok (.aload_n 0, 1) := by decide +kernel
theorem dX11_aheadOf_40 : decode cX11_aheadOf 40 = .ok (.getfield 9, 3) := by decide +kernel
theorem dX11_aheadOf_43 : decode cX11_aheadOf 43 = .ok (.iload_n 3, 1) := by decide +kernel
theorem dX11_aheadOf_44 : decode cX11_aheadOf 44 = .ok (.iconst 1, 1) := by decide +kernel
theorem dX11_aheadOf_45 : decode cX11_aheadOf 45 = .ok (.iadd, 1) := by decide +kernel
theorem dX11_aheadOf_46 : decode cX11_aheadOf 46 = .ok (.iload 5, 2) := by decide +kernel
theorem dX11_aheadOf_48 : decode cX11_aheadOf 48 = .ok (.iadd, 1) := by decide +kernel
theorem dX11_aheadOf_49 : decode cX11_aheadOf 49 = .ok (.iaload, 1) := by decide +kernel
theorem dX11_aheadOf_50 : decode cX11_aheadOf 50 = .ok (.iload_n 1, 1) := by decide +kernel
theorem dX11_aheadOf_51 : decode cX11_aheadOf 51 = .ok (.if_icmp .eq 22, 3) := by decide +kernel
theorem dX11_aheadOf_54 : decode cX11_aheadOf 54 = .ok (.aload_n 0, 1) := by decide +kernel
theorem dX11_aheadOf_55 : decode cX11_aheadOf 55 = .ok (.getfield 9, 3) := by decide +kernel
theorem dX11_aheadOf_58 : decode cX11_aheadOf 58 = .ok (.iload_n 3, 1) := by decide +kernel
theorem dX11_aheadOf_59 : decode cX11_aheadOf 59 = .ok (.iconst 1, 1) := by decide +kernel
theorem dX11_aheadOf_60 : decode cX11_aheadOf 60 = .ok (.iadd, 1) := by decide +kernel
theorem dX11_aheadOf_61 : decode cX11_aheadOf 61 = .ok (.iload 5, 2) := by decide +kernel
theorem dX11_aheadOf_63 : decode cX11_aheadOf 63 = .ok (.iadd, 1) := by decide +kernel
theorem dX11_aheadOf_64 : decode cX11_aheadOf 64 = .ok (.iaload, 1) := by decide +kernel
theorem dX11_aheadOf_65 : decode cX11_aheadOf 65 = .ok (.istore 4, 2) := by decide +kernel
theorem dX11_aheadOf_67 : decode cX11_aheadOf 67 = .ok (.iinc 5 1, 3) := by decide +kernel
theorem dX11_aheadOf_70 : decode cX11_aheadOf 70 = .ok (.goto (-42), 3) := by decide +kernel
theorem dX11_aheadOf_73 : decode cX11_aheadOf 73 = .ok (.iload 4, 2) := by decide +kernel
theorem dX11_aheadOf_75 : decode cX11_aheadOf 75 = .ok (.ireturn, 1) := by decide +kernel
theorem dX11_readyAt_0 : decode cX11_readyAt 0 = .ok (.iload_n 1, 1) := by decide +kernel
theorem dX11_readyAt_1 : decode cX11_readyAt 1 = .ok (.bipush 10, 2) := by decide +kernel
theorem dX11_readyAt_3 : decode cX11_readyAt 3 = .ok (.idiv, 1) := by decide +kernel
theorem dX11_readyAt_4 : decode cX11_readyAt 4 = .ok (.istore_n 2, 1) := by decide +kernel
theorem dX11_readyAt_5 : decode cX11_readyAt 5 = .ok (.iload_n 1, 1) := by decide +kernel
theorem dX11_readyAt_6 : decode cX11_readyAt 6 = .ok (.bipush 10, 2) := by decide +kernel
theorem dX11_readyAt_8 : decode cX11_readyAt 8 = .ok (.irem, 1) := by decide +kernel
theorem dX11_readyAt_9 : decode cX11_readyAt 9 = .ok (.istore_n 3, 1) := by decide +kernel
theorem dX11_readyAt_10 : decode cX11_readyAt 10 = .ok (.aload_n 0, 1) := by decide +kernel
theorem dX11_readyAt_11 : decode cX11_readyAt 11 = .ok (.iload_n 2, 1) := by decide +kernel
theorem dX11_readyAt_12 : decode cX11_readyAt 12 = .ok (.iload_n 3, 1) := by decide +kernel
theorem dX11_readyAt_13 : decode cX11_readyAt 13 = .ok (.invokevirtual 95, 3) := by decide +kernel
theorem dX11_readyAt_16 : decode cX11_readyAt 16 = .ok (.istore 4, 2) := by decide +kernel
theorem dX11_readyAt_18 : decode cX11_readyAt 18 = .ok (.sipush 152, 3) := by decide +kernel
theorem dX11_readyAt_21 : decode cX11_readyAt 21 = .ok (.iload 4, 2) := by decide +kernel
theorem dX11_readyAt_23 : decode cX11_readyAt 23 = .ok (.bipush 31, 2) := by decide +kernel
theorem dX11_readyAt_25 : decode cX11_readyAt 25 = .ok (.imul, 1) := by decide +kernel
theorem dX11_readyAt_26 : decode cX11_readyAt 26 = .ok (.iadd, 1) := by decide +kernel
theorem dX11_readyAt_27 : decode cX11_readyAt 27 = .ok (.istore 5, 2) := by decide +kernel
theorem dX11_readyAt_29 : decode cX11_readyAt 29 = .ok (.aload_n 0, 1) := by decide +kernel
theorem dX11_readyAt_30 : decode cX11_readyAt 30 = .ok (.getfield 25, 3) := by decide +kernel
theorem dX11_readyAt_33 : decode cX11_readyAt 33 = .ok (.iload 4, 2) := by decide +kernel
theorem dX11_readyAt_35 : decode cX11_readyAt 35 = .ok (.iconst (-1), 1) := by decide +kernel
theorem dX11_readyAt_36 : decode cX11_readyAt 36 = .ok (.iastore, 1) := by decide +kernel
theorem dX11_readyAt_37 : decode cX11_readyAt 37 = .ok (.aload_n 0, 1) := by decide +kernel
theorem dX11_readyAt_38 : decode cX11_readyAt 38 = .ok (.getfield 31, 3) := by decide +kernel
theorem dX11_readyAt_41 : decode cX11_readyAt 41 = .ok (.iload 4, 2) := by decide +kernel
theorem dX11_readyAt_43 : decode cX11_readyAt 43 = .ok (.iconst 0, 1) := by decide +kernel
theorem dX11_readyAt_44 : decode cX11_readyAt 44 = .ok (.iastore, 1) := by decide +kernel
theorem dX11_readyAt_45 : decode cX11_readyAt 45 = .ok (.iconst 0, 1) := by decide +kernel
theorem dX11_readyAt_46 : decode cX11_readyAt 46 = .ok (.istore 6, 2) := by decide +kernel
theorem dX11_readyAt_48 : decode cX11_readyAt 48 = .ok (.aload_n 0, 1) := by decide +kernel
theorem dX11_readyAt_49 : decode cX11_readyAt 49 = .ok (.getfield 9, 3) := by decide +kernel
theorem dX11_readyAt_52 : decode cX11_readyAt 52 = .ok (.iload 5, 2) := by decide +kernel
theorem dX11_readyAt_54 : decode cX11_readyAt 54 = .ok (.iconst 1, 1) := by decide +kernel
theorem dX11_readyAt_55 : decode cX11_readyAt 55 = .ok (.iadd, 1) := by decide +kernel
theorem dX11_readyAt_56 : decode cX11_readyAt 56 = .ok (.iload 6, 2) := by decide +kernel
theorem dX11_readyAt_58 : decode cX11_readyAt 58 = .ok (.iadd, 1) := by decide +kernel
theorem dX11_readyAt_59 : decode cX11_readyAt 59 = .ok (.iaload, 1) := by decide +kernel
theorem dX11_readyAt_60 : decode cX11_readyAt 60 = .ok (.iload_n 1, 1) := by decide +kernel
theorem dX11_readyAt_61 : decode cX11_readyAt 61 = .ok (.if_icmp .eq 81, 3) := by decide +kernel
theorem dX11_readyAt_64 : decode cX11_readyAt 64 = .ok (.aload_n 0, 1) := by decide +kernel
theorem dX11_readyAt_65 : decode cX11_readyAt 65 = .ok (.getfield 9, 3) := by decide +kernel
theorem dX11_readyAt_68 : decode cX11_readyAt 68 = .ok (.iload 5, 2) := by decide +kernel
theorem dX11_readyAt_70 : decode cX11_readyAt 70 = .ok (.iconst 1, 1) := by decide +kernel
theorem dX11_readyAt_71 : decode cX11_readyAt 71 = .ok (.iadd, 1) := by decide +kernel
theorem dX11_readyAt_72 : decode cX11_readyAt 72 = .ok (.iload 6, 2) := by decide +kernel
theorem dX11_readyAt_74 : decode cX11_readyAt 74 = .ok (.iadd, 1) := by decide +kernel
theorem dX11_readyAt_75 : decode cX11_readyAt 75 = .ok (.iaload, 1) := by decide +kernel
theorem dX11_readyAt_76 : decode cX11_readyAt 76 = .ok (.istore 7, 2) := by decide +kernel
theorem dX11_readyAt_78 : decode cX11_readyAt 78 = .ok (.aload_n 0, 1) := by decide +kernel
theorem dX11_readyAt_79 : decode cX11_readyAt 79 = .ok (.iload 7, 2) := by decide +kernel
theorem dX11_readyAt_81 : decode cX11_readyAt 81 = .ok (.bipush 10, 2) := by decide +kernel
theorem dX11_readyAt_83 : decode cX11_readyAt 83 = .ok (.idiv, 1) := by decide +kernel
theorem dX11_readyAt_84 : decode cX11_readyAt 84 = .ok (.iload 7, 2) := by decide +kernel
theorem dX11_readyAt_86 : decode cX11_readyAt 86 = .ok (.bipush 10, 2) := by decide +kernel
theorem dX11_readyAt_88 : decode cX11_readyAt 88 = .ok (.irem, 1) := by decide +kernel
theorem dX11_readyAt_89 : decode cX11_readyAt 89 = .ok (.invokevirtual 77, 3) := by decide +kernel
theorem dX11_readyAt_92 : decode cX11_readyAt 92 = .ok (.istore 8, 2) := by decide +kernel
theorem dX11_readyAt_94 : decode cX11_readyAt 94 = .ok (.aload_n 0, 1) := by decide +kernel
theorem dX11_readyAt_95 : decode cX11_readyAt 95 = .ok (.getfield 31, 3) := by decide +kernel
theorem dX11_readyAt_98 : decode cX11_readyAt 98 = .ok (.iload 4, 2) := by decide +kernel
theorem dX11_readyAt_100 : decode cX11_readyAt 100 = .ok (.aload_n 0, 1) := by decide +kernel
theorem dX11_readyAt_101 : decode cX11_readyAt 101 = .ok (.iload 4, 2) := by decide +kernel
theorem dX11_readyAt_103 : decode cX11_readyAt 103 = .ok (.iload 8, 2) := by decide +kernel
theorem dX11_readyAt_105 : decode cX11_readyAt 105 = .ok (.invokevirtual 91, 3) := by decide +kernel
theorem dX11_readyAt_108 : decode cX11_readyAt 108 = .ok (.ifCond .eq 8, 3) := by decide +kernel
theorem dX11_readyAt_111 : decode cX11_readyAt 111 = .ok (.iload 8, 2) := by decide +kernel
theorem dX11_readyAt_113 : decode cX11_readyAt 113 = .ok (.goto 13, 3) := by decide +kernel
theorem dX11_readyAt_116 : decode cX11_readyAt 116 = .ok (.aload_n 0, 1) := by decide +kernel
theorem dX11_readyAt_117 : decode cX11_readyAt 117 = .ok (.getfield 31, 3) := by decide +kernel
theorem dX11_readyAt_120 : decode cX11_readyAt 120 = .ok (.iload 4, 2) := by decide +kernel
theorem dX11_readyAt_122 : decode cX11_readyAt 122 = .ok (.iaload, 1) := by decide +kernel
theorem dX11_readyAt_123 : decode cX11_readyAt 123 = .ok (.iload 8, 2) := by decide +kernel
theorem dX11_readyAt_125 : decode cX11_readyAt 125 = .ok (.iadd, 1) := by decide +kernel
theorem dX11_readyAt_126 : decode cX11_readyAt 126 = .ok (.iastore, 1) := by decide +kernel
theorem dX11_readyAt_127 : decode cX11_readyAt 127 = .ok (.aload_n 0, 1) := by decide +kernel
theorem dX11_readyAt_128 : decode cX11_readyAt 128 = .ok (.getfield 25, 3) := by decide +kernel
theorem dX11_readyAt_131 : decode cX11_readyAt 131 = .ok (.iload 4, 2) := by decide +kernel
theorem dX11_readyAt_133 : decode cX11_readyAt 133 = .ok (.iload 7, 2) := by decide +kernel
theorem dX11_readyAt_135 : decode cX11_readyAt 135 = .ok (.iastore, 1) := by decide +kernel
theorem dX11_readyAt_136 : decode cX11_readyAt 136 = .ok (.iinc 6 1, 3) := by decide +kernel
theorem dX11_readyAt_139 : decode cX11_readyAt 139 = .ok (.goto (-91), 3) := by decide +kernel
theorem dX11_readyAt_142 : decode cX11_readyAt 142 = .ok (.aload_n 0, 1) := by decide +kernel
theorem dX11_readyAt_143 : decode cX11_readyAt 143 = .ok (.getfield 25, 3) := by decide +kernel
theorem dX11_readyAt_146 : decode cX11_readyAt 146 = .ok (.iload 4, 2) := by decide +kernel
theorem dX11_readyAt_148 : decode cX11_readyAt 148 = .ok (.iaload, 1) := by decide +kernel
theorem dX11_readyAt_149 : decode cX11_readyAt 149 = .ok (.iconst (-1), 1) := by decide +kernel
theorem dX11_readyAt_150 : decode cX11_readyAt 150 = .ok (.if_icmp .ne 7, 3) := by decide +kernel
theorem dX11_readyAt_153 : decode cX11_readyAt 153 = .ok (.iconst (-1), 1) := by decide +kernel
theorem dX11_readyAt_154 : decode cX11_readyAt 154 = .ok (.goto 41, 3) := by decide +kernel
theorem dX11_readyAt_157 : decode cX11_readyAt 157 = .ok (.aload_n 0, 1) := by decide +kernel
theorem dX11_readyAt_158 : decode cX11_readyAt 158 = .ok (.aload_n 0, 1) := by decide +kernel
theorem dX11_readyAt_159 : decode cX11_readyAt 159 = .ok (.getfield 25, 3) := by decide +kernel
theorem dX11_readyAt_162 : decode cX11_readyAt 162 = .ok (.iload 4, 2) := by decide +kernel
theorem dX11_readyAt_164 : decode cX11_readyAt 164 = .ok (.iaload, 1) := by decide +kernel
theorem dX11_readyAt_165 : decode cX11_readyAt 165 = .ok (.bipush 10, 2) := by decide +kernel
theorem dX11_readyAt_167 : decode cX11_readyAt 167 = .ok (.idiv, 1) := by decide +kernel
theorem dX11_readyAt_168 : decode cX11_readyAt 168 = .ok (.aload_n 0, 1) := by decide +kernel
theorem dX11_readyAt_169 : decode cX11_readyAt 169 = .ok (.getfield 25, 3) := by decide +kernel
theorem dX11_readyAt_172 : decode cX11_readyAt 172 = .ok (.iload 4, 2) := by decide +kernel
theorem dX11_readyAt_174 : decode cX11_readyAt 174 = .ok (.iaload, 1) := by decide +kernel
theorem dX11_readyAt_175 : decode cX11_readyAt 175 = .ok (.bipush 10, 2) := by decide +kernel
theorem dX11_readyAt_177 : decode cX11_readyAt 177 = .ok (.irem, 1) := by decide +kernel
theorem dX11_readyAt_178 : decode cX11_readyAt 178 = .ok (.invokevirtual 208, 3) := by decide +kernel
theorem dX11_readyAt_181 : decode cX11_readyAt 181 = .ok (.aload_n 0, 1) := by decide +kernel
theorem dX11_readyAt_182 : decode cX11_readyAt 182 = .ok (.iload 4, 2) := by decide +kernel
theorem dX11_readyAt_184 : decode cX11_readyAt 184 = .ok (.iload_n 2, 1) := by decide +kernel
theorem dX11_readyAt_185 : decode cX11_readyAt 185 = .ok (.aload_n 0, 1) := by decide +kernel
theorem dX11_readyAt_186 : decode cX11_readyAt 186 = .ok (.iload_n 2, 1) := by decide +kernel
theorem dX11_readyAt_187 : decode cX11_readyAt 187 = .ok (.iload_n 3, 1) := by decide +kernel
theorem dX11_readyAt_188 : decode cX11_readyAt 188 = .ok (.invokevirtual 77, 3) := by decide +kernel
theorem dX11_readyAt_191 : decode cX11_readyAt 191 = .ok (.invokevirtual 98, 3) := by decide +kernel
theorem dX11_readyAt_194 : decode cX11_readyAt 194 = .ok (.iadd, 1) := by decide +kernel
theorem dX11_readyAt_195 : decode cX11_readyAt 195 = .ok (.ireturn, 1) := by decide +kernel
theorem dX11_laysWay_0 : decode cX11_laysWay 0 = .ok (.aload_n 0, 1) := by decide +kernel
theorem dX11_laysWay_1 : decode cX11_laysWay 1 = .ok (.iconst 0, 1) := by decide +kernel
theorem dX11_laysWay_2 : decode cX11_laysWay 2 = .ok (.putfield 211, 3) := by decide +kernel
theorem dX11_laysWay_5 : decode cX11_laysWay 5 = .ok (.iconst (-1), 1) := by decide +kernel
theorem dX11_laysWay_6 : decode cX11_laysWay 6 = .ok (.istore_n 1, 1) := by decide +kernel
theorem dX11_laysWay_7 : decode cX11_laysWay 7 = .ok (.iconst 0, 1) := by decide +kernel
theorem dX11_laysWay_8 : decode cX11_laysWay 8 = .ok (.istore_n 2, 1) := by decide +kernel
theorem dX11_laysWay_9 : decode cX11_laysWay 9 = .ok (.iload_n 2, 1) := by decide +kernel
theorem dX11_laysWay_10 : decode cX11_laysWay 10 = .ok (.aload_n 0, 1) := by decide +kernel
theorem dX11_laysWay_11 : decode cX11_laysWay 11 = .ok (.getfield 9, 3) := by decide +kernel
theorem dX11_laysWay_14 : decode cX11_laysWay 14 = .ok (.iconst 0, 1) := by decide +kernel
theorem dX11_laysWay_15 : decode cX11_laysWay 15 = .ok (.iaload, 1) := by decide +kernel
theorem dX11_laysWay_16 : decode cX11_laysWay 16 = .ok (.if_icmp .ge 55, 3) := by decide +kernel
theorem dX11_laysWay_19 : decode cX11_laysWay 19 = .ok (.aload_n 0, 1) := by decide +kernel
theorem dX11_laysWay_20 : decode cX11_laysWay 20 = .ok (.iload_n 2, 1) := by decide +kernel
theorem dX11_laysWay_21 : decode cX11_laysWay 21 = .ok (.iconst 4, 1) := by decide +kernel
theorem dX11_laysWay_22 : decode cX11_laysWay 22 = .ok (.invokevirtual 73, 3) := by decide +kernel
theorem dX11_laysWay_25 : decode cX11_laysWay 25 = .ok (.iconst 1, 1) := by decide +kernel
theorem dX11_laysWay_26 : decode cX11_laysWay 26 = .ok (.isub, 1) := by decide +kernel
theorem dX11_laysWay_27 : decode cX11_laysWay 27 = .ok (.istore_n 3, 1) := by decide +kernel
theorem dX11_laysWay_28 : decode cX11_laysWay 28 = .ok (.iload_n 3, 1) := by decide +kernel
theorem dX11_laysWay_29 : decode cX11_laysWay 29 = .ok (.ifCond .lt 36, 3) := by decide +kernel
theorem dX11_laysWay_32 : decode cX11_laysWay 32 = .ok (.iload_n 1, 1) := by decide +kernel
theorem dX11_laysWay_33 : decode cX11_laysWay 33 = .ok (.iconst (-1), 1) := by decide +kernel
theorem dX11_laysWay_34 : decode cX11_laysWay 34 = .ok (.if_icmp .eq 24, 3) := by decide +kernel
theorem dX11_laysWay_37 : decode cX11_laysWay 37 = .ok (.aload_n 0, 1) := by decide +kernel
theorem dX11_laysWay_38 : decode cX11_laysWay 38 = .ok (.iload_n 2, 1) := by decide +kernel
theorem dX11_laysWay_39 : decode cX11_laysWay 39 = .ok (.iload_n 3, 1) := by decide +kernel
theorem dX11_laysWay_40 : decode cX11_laysWay 40 = .ok (.invokevirtual 208, 3) := by decide +kernel
theorem dX11_laysWay_43 : decode cX11_laysWay 43 = .ok (.aload_n 0, 1) := by decide +kernel
theorem dX11_laysWay_44 : decode cX11_laysWay 44 = .ok (.iload_n 1, 1) := by decide +kernel
theorem dX11_laysWay_45 : decode cX11_laysWay 45 = .ok (.bipush 10, 2) := by decide +kernel
theorem dX11_laysWay_47 : decode cX11_laysWay 47 = .ok (.idiv, 1) := by decide +kernel
theorem dX11_laysWay_48 : decode cX11_laysWay 48 = .ok (.iload_n 1, 1) := by decide +kernel
theorem dX11_laysWay_49 : decode cX11_laysWay 49 = .ok (.bipush 10, 2) := by decide +kernel
theorem dX11_laysWay_51 : decode cX11_laysWay 51 = .ok (.irem, 1) := by decide +kernel
theorem dX11_laysWay_52 : decode cX11_laysWay 52 = .ok (.invokevirtual 208, 3) := by decide +kernel
theorem dX11_laysWay_55 : decode cX11_laysWay 55 = .ok (.if_icmp .le 10, 3) := by decide +kernel
theorem dX11_laysWay_58 : decode cX11_laysWay 58 = .ok (.bipush 10, 2) := by decide +kernel
theorem dX11_laysWay_60 : decode cX11_laysWay 60 = .ok (.iload_n 2, 1) := by decide +kernel
theorem dX11_laysWay_61 : decode cX11_laysWay 61 = .ok (.imul, 1) := by decide +kernel
theorem dX11_laysWay_62 : decode cX11_laysWay 62 = .ok (.iload_n 3, 1) := by decide +kernel
theorem dX11_laysWay_63 : decode cX11_laysWay 63 = .ok (.iadd, 1) := by decide +kernel
theorem dX11_laysWay_64 : decode cX11_laysWay 64 = .ok (.istore_n 1, 1) := by decide +kernel
theorem dX11_laysWay_65 : decode cX11_laysWay 65 = .ok (.iinc 2 1, 3) := by decide +kernel
theorem dX11_laysWay_68 : decode cX11_laysWay 68 = .ok (.goto (-59), 3) := by decide +kernel
theorem dX11_laysWay_71 : decode cX11_laysWay 71 = .ok (.iload_n 1, 1) := by decide +kernel
theorem dX11_laysWay_72 : decode cX11_laysWay 72 = .ok (.iconst (-1), 1) := by decide +kernel
theorem dX11_laysWay_73 : decode cX11_laysWay 73 = .ok (.if_icmp .eq 91, 3) := by decide +kernel
theorem dX11_laysWay_76 : decode cX11_laysWay 76 = .ok (.aload_n 0, 1) := by decide +kernel
theorem dX11_laysWay_77 : decode cX11_laysWay 77 = .ok (.getfield 58, 3) := by decide +kernel
theorem dX11_laysWay_80 : decode cX11_laysWay 80 = .ok (.aload_n 0, 1) := by decide +kernel
theorem dX11_laysWay_81 : decode cX11_laysWay 81 = .ok (.getfield 211, 3) := by decide +kernel
theorem dX11_laysWay_84 : decode cX11_laysWay 84 = .ok (.iload_n 1, 1) := by decide +kernel
theorem dX11_laysWay_85 : decode cX11_laysWay 85 = .ok (.iastore, 1) := by decide +kernel
theorem dX11_laysWay_86 : decode cX11_laysWay 86 = .ok (.aload_n 0, 1) := by decide +kernel
theorem dX11_laysWay_87 : decode cX11_laysWay 87 = .ok (.dup, 1) := by decide +kernel
theorem dX11_laysWay_88 : decode cX11_laysWay 88 = .ok (.getfield 211, 3) := by decide +kernel
theorem dX11_laysWay_91 : decode cX11_laysWay 91 = .ok (.iconst 1, 1) := by decide +kernel
theorem dX11_laysWay_92 : decode cX11_laysWay 92 = .ok (.iadd, 1) := by decide +kernel
theorem dX11_laysWay_93 : decode cX11_laysWay 93 = .ok (.putfield 211, 3) := by decide +kernel
theorem dX11_laysWay_96 : decode cX11_laysWay 96 = .ok (.iload_n 1, 1) := by decide +kernel
theorem dX11_laysWay_97 : decode cX11_laysWay 97 = .ok (.bipush 10, 2) := by decide +kernel
theorem dX11_laysWay_99 : decode cX11_laysWay 99 = .ok (.idiv, 1) := by decide +kernel
theorem dX11_laysWay_100 : decode cX11_laysWay 100 = .ok (.istore_n 2, 1) := by decide +kernel
theorem dX11_laysWay_101 : decode cX11_laysWay 101 = .ok (.iload_n 1, 1) := by decide +kernel
theorem dX11_laysWay_102 : decode cX11_laysWay 102 = .ok (.bipush 10, 2) := by decide +kernel
theorem dX11_laysWay_104 : decode cX11_laysWay 104 = .ok (.irem, 1) := by decide +kernel
theorem dX11_laysWay_105 : decode cX11_laysWay 105 = .ok (.istore_n 3, 1) := by decide +kernel
theorem dX11_laysWay_106 : decode cX11_laysWay 106 = .ok (.aload_n 0, 1) := by decide +kernel
theorem dX11_laysWay_107 : decode cX11_laysWay 107 = .ok (.getfield 16, 3) := by decide +kernel
theorem dX11_laysWay_110 : decode cX11_laysWay 110 = .ok (.iload_n 2, 1) := by decide +kernel
theorem dX11_laysWay_111 : decode cX11_laysWay 111 = .ok (.iconst 5, 1) := by decide +kernel
theorem dX11_laysWay_112 : decode cX11_laysWay 112 = .ok (.imul, 1) := by decide +kernel
theorem dX11_laysWay_113 : decode cX11_laysWay 113 = .ok (.iload_n 3, 1) := by decide +kernel
theorem dX11_laysWay_114 : decode cX11_laysWay 114 = .ok (.iadd, 1) := by decide +kernel
theorem dX11_laysWay_115 : decode cX11_laysWay 115 = .ok (.iaload, 1) := by decide +kernel
theorem dX11_laysWay_116 : decode cX11_laysWay 116 = .ok (.istore 4, 2) := by decide +kernel
theorem dX11_laysWay_118 : decode cX11_laysWay 118 = .ok (.iload_n 3, 1) := by decide +kernel
theorem dX11_laysWay_119 : decode cX11_laysWay 119 = .ok (.ifCond .le 22, 3) := by decide +kernel
theorem dX11_laysWay_122 : decode cX11_laysWay 122 = .ok (.aload_n 0, 1) := by decide +kernel
theorem dX11_laysWay_123 : decode cX11_laysWay 123 = .ok (.iload_n 2, 1) := by decide +kernel
theorem dX11_laysWay_124 : decode cX11_laysWay 124 = .ok (.iload_n 3, 1) := by decide +kernel
theorem dX11_laysWay_125 : decode cX11_laysWay 125 = .ok (.iconst 1, 1) := by decide +kernel
theorem dX11_laysWay_126 : decode cX11_laysWay 126 = .ok (.isub, 1) := by decide +kernel
theorem dX11_laysWay_127 : decode cX11_laysWay 127 = .ok (.invokevirtual 208, 3) := by decide +kernel
theorem dX11_laysWay_130 : decode cX11_laysWay 130 = .ok (.iload 4, 2) := by decide +kernel
theorem dX11_laysWay_132 : decode cX11_laysWay 132 = .ok (.if_icmp .ne 9, 3) := by decide +kernel
theorem dX11_laysWay_135 : decode cX11_laysWay 135 = .ok (.iinc 1 (-1), 3) := by decide +kernel
theorem dX11_laysWay_138 : decode cX11_laysWay 138 = .ok (.goto 23, 3) := by decide +kernel
theorem dX11_laysWay_141 : decode cX11_laysWay 141 = .ok (.aload_n 0, 1) := by decide +kernel
theorem dX11_laysWay_142 : decode cX11_laysWay 142 = .ok (.iload_n 1, 1) := by decide +kernel
theorem dX11_laysWay_143 : decode cX11_laysWay 143 = .ok (.invokevirtual 214, 3) := by decide +kernel
theorem dX11_laysWay_146 : decode cX11_laysWay 146 = .ok (.iload 4, 2) := by decide +kernel
theorem dX11_laysWay_148 : decode cX11_laysWay 148 = .ok (.if_icmp .ne 11, 3) := by decide +kernel
theorem dX11_laysWay_151 : decode cX11_laysWay 151 = .ok (.aload_n 0, 1) := by decide +kernel
theorem dX11_laysWay_152 : decode cX11_laysWay 152 = .ok (.iload_n 1, 1) := by decide +kernel
theorem dX11_laysWay_153 : decode cX11_laysWay 153 = .ok (.invokevirtual 217, 3) := by decide +kernel
theorem dX11_laysWay_156 : decode cX11_laysWay 156 = .ok (.goto 4, 3) := by decide +kernel
theorem dX11_laysWay_159 : decode cX11_laysWay 159 = .ok (.iconst (-1), 1) := by decide +kernel
theorem dX11_laysWay_160 : decode cX11_laysWay 160 = .ok (.istore_n 1, 1) := by decide +kernel
theorem dX11_laysWay_161 : decode cX11_laysWay 161 = .ok (.goto (-90), 3) := by decide +kernel
theorem dX11_laysWay_164 : decode cX11_laysWay 164 = .ok (.return_, 1) := by decide +kernel
theorem dX11_wayLength_0 : decode cX11_wayLength 0 = .ok (.aload_n 0, 1) := by decide +kernel
theorem dX11_wayLength_1 : decode cX11_wayLength 1 = .ok (.aload_n 0, 1) := by decide +kernel
theorem dX11_wayLength_2 : decode cX11_wayLength 2 = .ok (.invokevirtual 199, 3) := by decide +kernel
theorem dX11_wayLength_5 : decode cX11_wayLength 5 = .ok (.iconst 1, 1) := by decide +kernel
theorem dX11_wayLength_6 : decode cX11_wayLength 6 = .ok (.iconst 1, 1) := by decide +kernel
theorem dX11_wayLength_7 : decode cX11_wayLength 7 = .ok (.invokevirtual 151, 3) := by decide +kernel
theorem dX11_wayLength_10 : decode cX11_wayLength 10 = .ok (.ifCond .ne 5, 3) := by decide +kernel
theorem dX11_wayLength_13 : decode cX11_wayLength 13 = .ok (.iconst 0, 1) := by decide +kernel
theorem dX11_wayLength_14 : decode cX11_wayLength 14 = .ok (.ireturn, 1) := by decide +kernel
theorem dX11_wayLength_15 : decode cX11_wayLength 15 = .ok (.aload_n 0, 1) := by decide +kernel
theorem dX11_wayLength_16 : decode cX11_wayLength 16 = .ok (.invokevirtual 220, 3) := by decide +kernel
theorem dX11_wayLength_19 : decode cX11_wayLength 19 = .ok (.aload_n 0, 1) := by decide +kernel
theorem dX11_wayLength_20 : decode cX11_wayLength 20 = .ok (.getfield 211, 3) := by decide +kernel
theorem dX11_wayLength_23 : decode cX11_wayLength 23 = .ok (.ireturn, 1) := by decide +kernel
theorem dX11_wayAt_0 : decode cX11_wayAt 0 = .ok (.aload_n 0, 1) := by decide +kernel
theorem dX11_wayAt_1 : decode cX11_wayAt 1 = .ok (.iconst 0, 1) := by decide +kernel
theorem dX11_wayAt_2 : decode cX11_wayAt 2 = .ok (.putfield 211, 3) := by decide +kernel
theorem dX11_wayAt_5 : decode cX11_wayAt 5 = .ok (.aload_n 0, 1) := by decide +kernel
theorem dX11_wayAt_6 : decode cX11_wayAt 6 = .ok (.invokevirtual 199, 3) := by decide +kernel
theorem dX11_wayAt_9 : decode cX11_wayAt 9 = .ok (.ifCond .eq 7, 3) := by decide +kernel
theorem dX11_wayAt_12 : decode cX11_wayAt 12 = .ok (.aload_n 0, 1) := by decide +kernel
theorem dX11_wayAt_13 : decode cX11_wayAt 13 = .ok (.invokevirtual 220, 3) := by decide +kernel
theorem dX11_wayAt_16 : decode cX11_wayAt 16 = .ok (.aload_n 0, 1) := by decide +kernel
theorem dX11_wayAt_17 : decode cX11_wayAt 17 = .ok (.iload_n 1, 1) := by decide +kernel
theorem dX11_wayAt_18 : decode cX11_wayAt 18 = .ok (.iconst 0, 1) := by decide +kernel
theorem dX11_wayAt_19 : decode cX11_wayAt 19 = .ok (.aload_n 0, 1) := by decide +kernel
theorem dX11_wayAt_20 : decode cX11_wayAt 20 = .ok (.getfield 211, 3) := by decide +kernel
theorem dX11_wayAt_23 : decode cX11_wayAt 23 = .ok (.iconst 1, 1) := by decide +kernel
theorem dX11_wayAt_24 : decode cX11_wayAt 24 = .ok (.isub, 1) := by decide +kernel
theorem dX11_wayAt_25 : decode cX11_wayAt 25 = .ok (.invokestatic 83, 3) := by decide +kernel
theorem dX11_wayAt_28 : decode cX11_wayAt 28 = .ok (.iconst 1, 1) := by decide +kernel
theorem dX11_wayAt_29 : decode cX11_wayAt 29 = .ok (.iconst 1, 1) := by decide +kernel
theorem dX11_wayAt_30 : decode cX11_wayAt 30 = .ok (.invokevirtual 151, 3) := by decide +kernel
theorem dX11_wayAt_33 : decode cX11_wayAt 33 = .ok (.ifCond .eq 19, 3) := by decide +kernel
theorem dX11_wayAt_36 : decode cX11_wayAt 36 = .ok (.aload_n 0, 1) := by decide +kernel
theorem dX11_wayAt_37 : decode cX11_wayAt 37 = .ok (.getfield 58, 3) := by decide +kernel
theorem dX11_wayAt_40 : decode cX11_wayAt 40 = .ok (.aload_n 0, 1) := by decide +kernel
theorem dX11_wayAt_41 : decode cX11_wayAt 41 = .ok (.getfield 211, 3) := by decide +kernel
theorem dX11_wayAt_44 : decode cX11_wayAt 44 = .ok (.iconst 1, 1) := by decide +kernel
theorem dX11_wayAt_45 : decode cX11_wayAt 45 = .ok (.isub, 1) := by decide +kernel
theorem dX11_wayAt_46 : decode cX11_wayAt 46 = .ok (.iload_n 1, 1) := by decide +kernel
theorem dX11_wayAt_47 : decode cX11_wayAt 47 = .ok (.isub, 1) := by decide +kernel
theorem dX11_wayAt_48 : decode cX11_wayAt 48 = .ok (.iaload, 1) := by decide +kernel
theorem dX11_wayAt_49 : decode cX11_wayAt 49 = .ok (.goto 4, 3) := by decide +kernel
theorem dX11_wayAt_52 : decode cX11_wayAt 52 = .ok (.iconst 0, 1) := by decide +kernel
theorem dX11_wayAt_53 : decode cX11_wayAt 53 = .ok (.ireturn, 1) := by decide +kernel
theorem dX11_block_0 : decode cX11_block 0 = .ok (.aload_n 0, 1) := by decide +kernel
theorem dX11_block_1 : decode cX11_block 1 = .ok (.invokevirtual 220, 3) := by decide +kernel
theorem dX11_block_4 : decode cX11_block 4 = .ok (.iconst 0, 1) := by decide +kernel
theorem dX11_block_5 : decode cX11_block 5 = .ok (.istore_n 2, 1) := by decide +kernel
theorem dX11_block_6 : decode cX11_block 6 = .ok (.iconst 0, 1) := by decide +kernel
theorem dX11_block_7 : decode cX11_block 7 = .ok (.istore_n 3, 1) := by decide +kernel
theorem dX11_block_8 : decode cX11_block 8 = .ok (.iconst 0, 1) := by decide +kernel
theorem dX11_block_9 : decode cX11_block 9 = .ok (.istore 4, 2) := by decide +kernel
theorem dX11_block_11 : decode cX11_block 11 = .ok (.iconst 0, 1) := by decide +kernel
theorem dX11_block_12 : decode cX11_block 12 = .ok (.istore 5, 2) := by decide +kernel
theorem dX11_block_14 : decode cX11_block 14 = .ok (.iload 5, 2) := by decide +kernel
theorem dX11_block_16 : decode cX11_block 16 = .ok (.aload_n 0, 1) := by decide +kernel
theorem dX11_block_17 : decode cX11_block 17 = .ok (.getfield 211, 3) := by decide +kernel
theorem dX11_block_20 : decode cX11_block 20 = .ok (.if_icmp .ge 111, 3) := by decide +kernel
theorem dX11_block_23 : decode cX11_block 23 = .ok (.iload 5, 2) := by decide +kernel
theorem dX11_block_25 : decode cX11_block 25 = .ok (.ifCond .le 62, 3) := by decide +kernel
theorem dX11_block_28 : decode cX11_block 28 = .ok (.aload_n 0, 1) := by decide +kernel
theorem dX11_block_29 : decode cX11_block 29 = .ok (.aload_n 0, 1) := by decide +kernel
theorem dX11_block_30 : decode cX11_block 30 = .ok (.getfield 58, 3) := by decide +kernel
theorem dX11_block_33 : decode cX11_block 33 = .ok (.iload 5, 2) := by decide +kernel
theorem dX11_block_35 : decode cX11_block 35 = .ok (.iaload, 1) := by decide +kernel
theorem dX11_block_36 : decode cX11_block 36 = .ok (.bipush 10, 2) := by decide +kernel
theorem dX11_block_38 : decode cX11_block 38 = .ok (.idiv, 1) := by decide +kernel
theorem dX11_block_39 : decode cX11_block 39 = .ok (.aload_n 0, 1) := by decide +kernel
theorem dX11_block_40 : decode cX11_block 40 = .ok (.getfield 58, 3) := by decide +kernel
theorem dX11_block_43 : decode cX11_block 43 = .ok (.iload 5, 2) := by decide +kernel
theorem dX11_block_45 : decode cX11_block 45 = .ok (.iaload, 1) := by decide +kernel
theorem dX11_block_46 : decode cX11_block 46 = .ok (.bipush 10, 2) := by decide +kernel
theorem dX11_block_48 : decode cX11_block 48 = .ok (.irem, 1) := by decide +kernel
theorem dX11_block_49 : decode cX11_block 49 = .ok (.invokevirtual 95, 3) := by decide +kernel
theorem dX11_block_52 : decode cX11_block 52 = .ok (.aload_n 0, 1) := by decide +kernel
theorem dX11_block_53 : decode cX11_block 53 = .ok (.aload_n 0, 1) := by decide +kernel
theorem dX11_block_54 : decode cX11_block 54 = .ok (.getfield 58, 3) := by decide +kernel
theorem dX11_block_57 : decode cX11_block 57 = .ok (.iload 5, 2) := by decide +kernel
theorem dX11_block_59 : decode cX11_block 59 = .ok (.iconst 1, 1) := by decide +kernel
theorem dX11_block_60 : decode cX11_block 60 = .ok (.isub, 1) := by decide +kernel
theorem dX11_block_61 : decode cX11_block 61 = .ok (.iaload, 1) := by decide +kernel
theorem dX11_block_62 : decode cX11_block 62 = .ok (.bipush 10, 2) := by decide +kernel
theorem dX11_block_64 : decode cX11_block 64 = .ok (.idiv, 1) := by decide +kernel
theorem dX11_block_65 : decode cX11_block 65 = .ok (.aload_n 0, 1) := by decide +kernel
theorem dX11_block_66 : decode cX11_block 66 = .ok (.getfield 58, 3) := by decide +kernel
theorem dX11_block_69 : decode cX11_block 69 = .ok (.iload 5, 2) := by decide +kernel
theorem dX11_block_71 : decode cX11_block 71 = .ok (.iconst 1, 1) := by decide +kernel
theorem dX11_block_72 : decode cX11_block 72 = .ok (.isub, 1) := by decide +kernel
theorem dX11_block_73 : decode cX11_block 73 = .ok (.iaload, 1) := by decide +kernel
theorem dX11_block_74 : decode cX11_block 74 = .ok (.bipush 10, 2) := by decide +kernel
theorem dX11_block_76 : decode cX11_block 76 = .ok (.irem, 1) := by decide +kernel
theorem dX11_block_77 : decode cX11_block 77 = .ok (.invokevirtual 95, 3) := by decide +kernel
theorem dX11_block_80 : decode cX11_block 80 = .ok (.if_icmp .ne 7, 3) := by decide +kernel
theorem dX11_block_83 : decode cX11_block 83 = .ok (.iconst 1, 1) := by decide +kernel
theorem dX11_block_84 : decode cX11_block 84 = .ok (.goto 4, 3) := by decide +kernel
theorem dX11_block_87 : decode cX11_block 87 = .ok (.iconst 0, 1) := by decide +kernel
theorem dX11_block_88 : decode cX11_block 88 = .ok (.istore 6, 2) := by decide +kernel
theorem dX11_block_90 : decode cX11_block 90 = .ok (.iload 6, 2) := by decide +kernel
theorem dX11_block_92 : decode cX11_block 92 = .ok (.ifCond .eq 10, 3) := by decide +kernel
theorem dX11_block_95 : decode cX11_block 95 = .ok (.iload 4, 2) := by decide +kernel
theorem dX11_block_97 : decode cX11_block 97 = .ok (.iconst 1, 1) := by decide +kernel
theorem dX11_block_98 : decode cX11_block 98 = .ok (.iadd, 1) := by decide +kernel
theorem dX11_block_99 : decode cX11_block 99 = .ok (.goto 4, 3) := by decide +kernel
theorem dX11_block_102 : decode cX11_block 102 = .ok (.iconst 1, 1) := by decide +kernel
theorem dX11_block_103 : decode cX11_block 103 = .ok (.istore 4, 2) := by decide +kernel
theorem dX11_block_105 : decode cX11_block 105 = .ok (.iload_n 2, 1) := by decide +kernel
theorem dX11_block_106 : decode cX11_block 106 = .ok (.iload 6, 2) := by decide +kernel
theorem dX11_block_108 : decode cX11_block 108 = .ok (.ifCond .eq 7, 3) := by decide +kernel
theorem dX11_block_111 : decode cX11_block 111 = .ok (.iconst 0, 1) := by decide +kernel
theorem dX11_block_112 : decode cX11_block 112 = .ok (.goto 4, 3) := by decide +kernel
theorem dX11_block_115 : decode cX11_block 115 = .ok (.iconst 1, 1) := by decide +kernel
theorem dX11_block_116 : decode cX11_block 116 = .ok (.iadd, 1) := by decide +kernel
theorem dX11_block_117 : decode cX11_block 117 = .ok (.istore_n 2, 1) := by decide +kernel
theorem dX11_block_118 : decode cX11_block 118 = .ok (.iload_n 3, 1) := by decide +kernel
theorem dX11_block_119 : decode cX11_block 119 = .ok (.iload 4, 2) := by decide +kernel
theorem dX11_block_121 : decode cX11_block 121 = .ok (.invokestatic 101, 3) := by decide +kernel
theorem dX11_block_124 : decode cX11_block 124 = .ok (.istore_n 3, 1) := by decide +kernel
theorem dX11_block_125 : decode cX11_block 125 = .ok (.iinc 5 1, 3) := by decide +kernel
theorem dX11_block_128 : decode cX11_block 128 = .ok (.goto (-114), 3) := by decide +kernel
theorem dX11_block_131 : decode cX11_block 131 = .ok (.iload_n 1, 1) := by decide +kernel
theorem dX11_block_132 : decode cX11_block 132 = .ok (.ifCond .eq 7, 3) := by decide +kernel
theorem dX11_block_135 : decode cX11_block 135 = .ok (.iload_n 3, 1) := by decide +kernel
theorem dX11_block_136 : decode cX11_block 136 = .ok (.goto 4, 3) := by decide +kernel
theorem dX11_block_139 : decode cX11_block 139 = .ok (.iload_n 2, 1) := by decide +kernel
theorem dX11_block_140 : decode cX11_block 140 = .ok (.ireturn, 1) := by decide +kernel
theorem dX11_blocks_0 : decode cX11_blocks 0 = .ok (.aload_n 0, 1) := by decide +kernel
theorem dX11_blocks_1 : decode cX11_blocks 1 = .ok (.aload_n 0, 1) := by decide +kernel
theorem dX11_blocks_2 : decode cX11_blocks 2 = .ok (.invokevirtual 199, 3) := by decide +kernel
theorem dX11_blocks_5 : decode cX11_blocks 5 = .ok (.iconst 1, 1) := by decide +kernel
theorem dX11_blocks_6 : decode cX11_blocks 6 = .ok (.iconst 1, 1) := by decide +kernel
theorem dX11_blocks_7 : decode cX11_blocks 7 = .ok (.invokevirtual 151, 3) := by decide +kernel
theorem dX11_blocks_10 : decode cX11_blocks 10 = .ok (.ifCond .eq 11, 3) := by decide +kernel
theorem dX11_blocks_13 : decode cX11_blocks 13 = .ok (.aload_n 0, 1) := by decide +kernel
theorem dX11_blocks_14 : decode cX11_blocks 14 = .ok (.iconst 0, 1) := by decide +kernel
theorem dX11_blocks_15 : decode cX11_blocks 15 = .ok (.invokevirtual 223, 3) := by decide +kernel
theorem dX11_blocks_18 : decode cX11_blocks 18 = .ok (.goto 4, 3) := by decide +kernel
theorem dX11_blocks_21 : decode cX11_blocks 21 = .ok (.iconst 0, 1) := by decide +kernel
theorem dX11_blocks_22 : decode cX11_blocks 22 = .ok (.ireturn, 1) := by decide +kernel
theorem dX11_longestBlock_0 : decode cX11_longestBlock 0 = .ok (.aload_n 0, 1) := by decide +kernel
theorem dX11_longestBlock_1 : decode cX11_longestBlock 1 = .ok (.aload_n 0, 1) := by decide +kernel
theorem dX11_longestBlock_2 : decode cX11_longestBlock 2 = .ok (.invokevirtual 199, 3) := by decide +kernel
theorem dX11_longestBlock_5 : decode cX11_longestBlock 5 = .ok (.iconst 1, 1) := by decide +kernel
theorem dX11_longestBlock_6 : decode cX11_longestBlock 6 = .ok (.iconst 1, 1) := by decide +kernel
theorem dX11_longestBlock_7 : decode cX11_longestBlock 7 = .ok (.invokevirtual 151, 3) := by decide +kernel
theorem dX11_longestBlock_10 : decode cX11_longestBlock 10 = .ok (.ifCond .eq 11, 3) := by decide +kernel
theorem dX11_longestBlock_13 : decode cX11_longestBlock 13 = .ok (.aload_n 0, 1) := by decide +kernel
theorem dX11_longestBlock_14 : decode cX11_longestBlock 14 = .ok (.iconst 1, 1) := by decide +kernel
theorem dX11_longestBlock_15 : decode cX11_longestBlock 15 = .ok (.invokevirtual 223, 3) := by decide +kernel
theorem dX11_longestBlock_18 : decode cX11_longestBlock 18 = .ok (.goto 4, 3) := by decide +kernel
theorem dX11_longestBlock_21 : decode cX11_longestBlock 21 = .ok (.iconst 0, 1) := by decide +kernel
theorem dX11_longestBlock_22 : decode cX11_longestBlock 22 = .ok (.ireturn, 1) := by decide +kernel
theorem dX11_slack_0 : decode cX11_slack 0 = .ok (.aload_n 0, 1) := by decide +kernel
theorem dX11_slack_1 : decode cX11_slack 1 = .ok (.aload_n 0, 1) := by decide +kernel
theorem dX11_slack_2 : decode cX11_slack 2 = .ok (.iload_n 1, 1) := by decide +kernel
theorem dX11_slack_3 : decode cX11_slack 3 = .ok (.iload_n 2, 1) := by decide +kernel
theorem dX11_slack_4 : decode cX11_slack 4 = .ok (.invokevirtual 196, 3) := by decide +kernel
theorem dX11_slack_7 : decode cX11_slack 7 = .ok (.aload_n 0, 1) := by decide +kernel
theorem dX11_slack_8 : decode cX11_slack 8 = .ok (.invokevirtual 199, 3) := by decide +kernel
theorem dX11_slack_11 : decode cX11_slack 11 = .ok (.iconst 1, 1) := by decide +kernel
theorem dX11_slack_12 : decode cX11_slack 12 = .ok (.invokevirtual 151, 3) := by decide +kernel
theorem dX11_slack_15 : decode cX11_slack 15 = .ok (.ifCond .ne 5, 3) := by decide +kernel
theorem dX11_slack_18 : decode cX11_slack 18 = .ok (.iconst 0, 1) := by decide +kernel
theorem dX11_slack_19 : decode cX11_slack 19 = .ok (.ireturn, 1) := by decide +kernel
theorem dX11_slack_20 : decode cX11_slack 20 = .ok (.aload_n 0, 1) := by decide +kernel
theorem dX11_slack_21 : decode cX11_slack 21 = .ok (.invokevirtual 145, 3) := by decide +kernel
theorem dX11_slack_24 : decode cX11_slack 24 = .ok (.istore_n 3, 1) := by decide +kernel
theorem dX11_slack_25 : decode cX11_slack 25 = .ok (.iconst 0, 1) := by decide +kernel
theorem dX11_slack_26 : decode cX11_slack 26 = .ok (.istore 4, 2) := by decide +kernel
theorem dX11_slack_28 : decode cX11_slack 28 = .ok (.iload 4, 2) := by decide +kernel
theorem dX11_slack_30 : decode cX11_slack 30 = .ok (.sipush 1000, 3) := by decide +kernel
theorem dX11_slack_33 : decode cX11_slack 33 = .ok (.if_icmp .ge 41, 3) := by decide +kernel
theorem dX11_slack_36 : decode cX11_slack 36 = .ok (.aload_n 0, 1) := by decide +kernel
theorem dX11_slack_37 : decode cX11_slack 37 = .ok (.aload_n 0, 1) := by decide +kernel
theorem dX11_slack_38 : decode cX11_slack 38 = .ok (.getfield 9, 3) := by decide +kernel
theorem dX11_slack_41 : decode cX11_slack 41 = .ok (.sipush 152, 3) := by decide +kernel
theorem dX11_slack_44 : decode cX11_slack 44 = .ok (.bipush 10, 2) := by decide +kernel
theorem dX11_slack_46 : decode cX11_slack 46 = .ok (.iload_n 1, 1) := by decide +kernel
theorem dX11_slack_47 : decode cX11_slack 47 = .ok (.imul, 1) := by decide +kernel
theorem dX11_slack_48 : decode cX11_slack 48 = .ok (.iload_n 2, 1) := by decide +kernel
theorem dX11_slack_49 : decode cX11_slack 49 = .ok (.iadd, 1) := by decide +kernel
theorem dX11_slack_50 : decode cX11_slack 50 = .ok (.iload 4, 2) := by decide +kernel
theorem dX11_slack_52 : decode cX11_slack 52 = .ok (.iconst 1, 1) := by decide +kernel
theorem dX11_slack_53 : decode cX11_slack 53 = .ok (.iadd, 1) := by decide +kernel
theorem dX11_slack_54 : decode cX11_slack 54 = .ok (.invokevirtual 124, 3) := by decide +kernel
theorem dX11_slack_57 : decode cX11_slack 57 = .ok (.ifCond .eq 17, 3) := by decide +kernel
theorem dX11_slack_60 : decode cX11_slack 60 = .ok (.aload_n 0, 1) := by decide +kernel
theorem dX11_slack_61 : decode cX11_slack 61 = .ok (.invokevirtual 145, 3) := by decide +kernel
theorem dX11_slack_64 : decode cX11_slack 64 = .ok (.iload_n 3, 1) := by decide +kernel
theorem dX11_slack_65 : decode cX11_slack 65 = .ok (.if_icmp .gt 9, 3) := by decide +kernel
theorem dX11_slack_68 : decode cX11_slack 68 = .ok (.iinc 4 1, 3) := by decide +kernel
theorem dX11_slack_71 : decode cX11_slack 71 = .ok (.goto (-43), 3) := by decide +kernel
theorem dX11_slack_74 : decode cX11_slack 74 = .ok (.iload 4, 2) := by decide +kernel
theorem dX11_slack_76 : decode cX11_slack 76 = .ok (.ireturn, 1) := by decide +kernel
theorem dX11_delay_0 : decode cX11_delay 0 = .ok (.aload_n 0, 1) := by decide +kernel
theorem dX11_delay_1 : decode cX11_delay 1 = .ok (.aload_n 0, 1) := by decide +kernel
theorem dX11_delay_2 : decode cX11_delay 2 = .ok (.iload_n 1, 1) := by decide +kernel
theorem dX11_delay_3 : decode cX11_delay 3 = .ok (.invokevirtual 87, 3) := by decide +kernel
theorem dX11_delay_6 : decode cX11_delay 6 = .ok (.ifCond .eq 15, 3) := by decide +kernel
theorem dX11_delay_9 : decode cX11_delay 9 = .ok (.aload_n 0, 1) := by decide +kernel
theorem dX11_delay_10 : decode cX11_delay 10 = .ok (.iload_n 2, 1) := by decide +kernel
theorem dX11_delay_11 : decode cX11_delay 11 = .ok (.invokevirtual 87, 3) := by decide +kernel
theorem dX11_delay_14 : decode cX11_delay 14 = .ok (.ifCond .eq 7, 3) := by decide +kernel
theorem dX11_delay_17 : decode cX11_delay 17 = .ok (.iconst 1, 1) := by decide +kernel
theorem dX11_delay_18 : decode cX11_delay 18 = .ok (.goto 4, 3) := by decide +kernel
theorem dX11_delay_21 : decode cX11_delay 21 = .ok (.iconst 0, 1) := by decide +kernel
theorem dX11_delay_22 : decode cX11_delay 22 = .ok (.aload_n 0, 1) := by decide +kernel
theorem dX11_delay_23 : decode cX11_delay 23 = .ok (.invokevirtual 199, 3) := by decide +kernel
theorem dX11_delay_26 : decode cX11_delay 26 = .ok (.iconst 1, 1) := by decide +kernel
theorem dX11_delay_27 : decode cX11_delay 27 = .ok (.invokevirtual 151, 3) := by decide +kernel
theorem dX11_delay_30 : decode cX11_delay 30 = .ok (.ifCond .ne 5, 3) := by decide +kernel
theorem dX11_delay_33 : decode cX11_delay 33 = .ok (.iconst 0, 1) := by decide +kernel
theorem dX11_delay_34 : decode cX11_delay 34 = .ok (.ireturn, 1) := by decide +kernel
theorem dX11_delay_35 : decode cX11_delay 35 = .ok (.aload_n 0, 1) := by decide +kernel
theorem dX11_delay_36 : decode cX11_delay 36 = .ok (.getfield 22, 3) := by decide +kernel
theorem dX11_delay_39 : decode cX11_delay 39 = .ok (.iload_n 2, 1) := by decide +kernel
theorem dX11_delay_40 : decode cX11_delay 40 = .ok (.iaload, 1) := by decide +kernel
theorem dX11_delay_41 : decode cX11_delay 41 = .ok (.istore_n 3, 1) := by decide +kernel
theorem dX11_delay_42 : decode cX11_delay 42 = .ok (.aload_n 0, 1) := by decide +kernel
theorem dX11_delay_43 : decode cX11_delay 43 = .ok (.iload_n 1, 1) := by decide +kernel
theorem dX11_delay_44 : decode cX11_delay 44 = .ok (.invokevirtual 190, 3) := by decide +kernel
theorem dX11_delay_47 : decode cX11_delay 47 = .ok (.aload_n 0, 1) := by decide +kernel
theorem dX11_delay_48 : decode cX11_delay 48 = .ok (.aload_n 0, 1) := by decide +kernel
theorem dX11_delay_49 : decode cX11_delay 49 = .ok (.getfield 37, 3) := by decide +kernel
theorem dX11_delay_52 : decode cX11_delay 52 = .ok (.iconst 0, 1) := by decide +kernel
theorem dX11_delay_53 : decode cX11_delay 53 = .ok (.iconst (-1), 1) := by decide +kernel
theorem dX11_delay_54 : decode cX11_delay 54 = .ok (.iconst 0, 1) := by decide +kernel
theorem dX11_delay_55 : decode cX11_delay 55 = .ok (.invokevirtual 124, 3) := by decide +kernel
theorem dX11_delay_58 : decode cX11_delay 58 = .ok (.istore 4, 2) := by decide +kernel
theorem dX11_delay_60 : decode cX11_delay 60 = .ok (.aload_n 0, 1) := by decide +kernel
theorem dX11_delay_61 : decode cX11_delay 61 = .ok (.getfield 22, 3) := by decide +kernel
theorem dX11_delay_64 : decode cX11_delay 64 = .ok (.iload_n 2, 1) := by decide +kernel
theorem dX11_delay_65 : decode cX11_delay 65 = .ok (.iaload, 1) := by decide +kernel
theorem dX11_delay_66 : decode cX11_delay 66 = .ok (.iload_n 3, 1) := by decide +kernel
theorem dX11_delay_67 : decode cX11_delay 67 = .ok (.isub, 1) := by decide +kernel
theorem dX11_delay_68 : decode cX11_delay 68 = .ok (.ireturn, 1) := by decide +kernel
theorem dX11_part_0 : decode cX11_part 0 = .ok (.iload_n 2, 1) := by decide +kernel
theorem dX11_part_1 : decode cX11_part 1 = .ok (.aload_n 0, 1) := by decide +kernel
theorem dX11_part_2 : decode cX11_part 2 = .ok (.iload_n 1, 1) := by decide +kernel
theorem dX11_part_3 : decode cX11_part 3 = .ok (.iconst 4, 1) := by decide +kernel
theorem dX11_part_4 : decode cX11_part 4 = .ok (.invokevirtual 73, 3) := by decide +kernel
theorem dX11_part_7 : decode cX11_part 7 = .ok (.if_icmp .ge 12, 3) := by decide +kernel
theorem dX11_part_10 : decode cX11_part 10 = .ok (.aload_n 0, 1) := by decide +kernel
theorem dX11_part_11 : decode cX11_part 11 = .ok (.iload_n 1, 1) := by decide +kernel
theorem dX11_part_12 : decode cX11_part 12 = .ok (.iload_n 2, 1) := by decide +kernel
theorem dX11_part_13 : decode cX11_part 13 = .ok (.invokevirtual 77, 3) := by decide +kernel
theorem dX11_part_16 : decode cX11_part 16 = .ok (.goto 4, 3) := by decide +kernel
theorem dX11_part_19 : decode cX11_part 19 = .ok (.iconst 0, 1) := by decide +kernel
theorem dX11_part_20 : decode cX11_part 20 = .ok (.ireturn, 1) := by decide +kernel
theorem dX11_goesFirst_0 : decode cX11_goesFirst 0 = .ok (.iload_n 1, 1) := by decide +kernel
theorem dX11_goesFirst_1 : decode cX11_goesFirst 1 = .ok (.ifCond .ne 11, 3) := by decide +kernel
theorem dX11_goesFirst_4 : decode cX11_goesFirst 4 = .ok (.aload_n 0, 1) := by decide +kernel
theorem dX11_goesFirst_5 : decode cX11_goesFirst 5 = .ok (.iload_n 2, 1) := by decide +kernel
theorem dX11_goesFirst_6 : decode cX11_goesFirst 6 = .ok (.invokevirtual 193, 3) := by decide +kernel
theorem dX11_goesFirst_9 : decode cX11_goesFirst 9 = .ok (.goto 9, 3) := by decide +kernel
theorem dX11_goesFirst_12 : decode cX11_goesFirst 12 = .ok (.aload_n 0, 1) := by decide +kernel
theorem dX11_goesFirst_13 : decode cX11_goesFirst 13 = .ok (.iload_n 2, 1) := by decide +kernel
theorem dX11_goesFirst_14 : decode cX11_goesFirst 14 = .ok (.iconst 1, 1) := by decide +kernel
theorem dX11_goesFirst_15 : decode cX11_goesFirst 15 = .ok (.invokevirtual 73, 3) := by decide +kernel
theorem dX11_goesFirst_18 : decode cX11_goesFirst 18 = .ok (.istore 4, 2) := by decide +kernel
theorem dX11_goesFirst_20 : decode cX11_goesFirst 20 = .ok (.iload_n 1, 1) := by decide +kernel
theorem dX11_goesFirst_21 : decode cX11_goesFirst 21 = .ok (.ifCond .ne 11, 3) := by decide +kernel
theorem dX11_goesFirst_24 : decode cX11_goesFirst 24 = .ok (.aload_n 0, 1) := by decide +kernel
theorem dX11_goesFirst_25 : decode cX11_goesFirst 25 = .ok (.iload_n 3, 1) := by decide +kernel
theorem dX11_goesFirst_26 : decode cX11_goesFirst 26 = .ok (.invokevirtual 193, 3) := by decide +kernel
theorem dX11_goesFirst_29 : decode cX11_goesFirst 29 = .ok (.goto 9, 3) := by decide +kernel
theorem dX11_goesFirst_32 : decode cX11_goesFirst 32 = .ok (.aload_n 0, 1) := by decide +kernel
theorem dX11_goesFirst_33 : decode cX11_goesFirst 33 = .ok (.iload_n 3, 1) := by decide +kernel
theorem dX11_goesFirst_34 : decode cX11_goesFirst 34 = .ok (.iconst 1, 1) := by decide +kernel
theorem dX11_goesFirst_35 : decode cX11_goesFirst 35 = .ok (.invokevirtual 73, 3) := by decide +kernel
theorem dX11_goesFirst_38 : decode cX11_goesFirst 38 = .ok (.istore 5, 2) := by decide +kernel
theorem dX11_goesFirst_40 : decode cX11_goesFirst 40 = .ok (.iload_n 1, 1) := by decide +kernel
theorem dX11_goesFirst_41 : decode cX11_goesFirst 41 = .ok (.iconst 2, 1) := by decide +kernel
theorem dX11_goesFirst_42 : decode cX11_goesFirst 42 = .ok (.if_icmp .ne 103, 3) := by decide +kernel
theorem dX11_goesFirst_45 : decode cX11_goesFirst 45 = .ok (.aload_n 0, 1) := by decide +kernel
theorem dX11_goesFirst_46 : decode cX11_goesFirst 46 = .ok (.iload_n 2, 1) := by decide +kernel
theorem dX11_goesFirst_47 : decode cX11_goesFirst 47 = .ok (.iconst 0, 1) := by decide +kernel
theorem dX11_goesFirst_48 : decode cX11_goesFirst 48 = .ok (.invokevirtual 227, 3) := by decide +kernel
theorem dX11_goesFirst_51 : decode cX11_goesFirst 51 = .ok (.aload_n 0, 1) := by decide +kernel
theorem dX11_goesFirst_52 : decode cX11_goesFirst 52 = .ok (.iload_n 2, 1) := by decide +kernel
theorem dX11_goesFirst_53 : decode cX11_goesFirst 53 = .ok (.iconst 1, 1) := by decide +kernel
theorem dX11_goesFirst_54 : decode cX11_goesFirst 54 = .ok (.invokevirtual 227, 3) := by decide +kernel
theorem dX11_goesFirst_57 : decode cX11_goesFirst 57 = .ok (.if_icmp .ge 7, 3) := by decide +kernel
theorem dX11_goesFirst_60 : decode cX11_goesFirst 60 = .ok (.iconst 1, 1) := by decide +kernel
theorem dX11_goesFirst_61 : decode cX11_goesFirst 61 = .ok (.goto 4, 3) := by decide +kernel
theorem dX11_goesFirst_64 : decode cX11_goesFirst 64 = .ok (.iconst 0, 1) := by decide +kernel
theorem dX11_goesFirst_65 : decode cX11_goesFirst 65 = .ok (.istore 6, 2) := by decide +kernel
theorem dX11_goesFirst_67 : decode cX11_goesFirst 67 = .ok (.aload_n 0, 1) := by decide +kernel
theorem dX11_goesFirst_68 : decode cX11_goesFirst 68 = .ok (.iload_n 3, 1) := by decide +kernel
theorem dX11_goesFirst_69 : decode cX11_goesFirst 69 = .ok (.iconst 0, 1) := by decide +kernel
theorem dX11_goesFirst_70 : decode cX11_goesFirst 70 = .ok (.invokevirtual 227, 3) := by decide +kernel
theorem dX11_goesFirst_73 : decode cX11_goesFirst 73 = .ok (.aload_n 0, 1) := by decide +kernel
theorem dX11_goesFirst_74 : decode cX11_goesFirst 74 = .ok (.iload_n 3, 1) := by decide +kernel
theorem dX11_goesFirst_75 : decode cX11_goesFirst 75 = .ok (.iconst 1, 1) := by decide +kernel
theorem dX11_goesFirst_76 : decode cX11_goesFirst 76 = .ok (.invokevirtual 227, 3) := by decide +kernel
theorem dX11_goesFirst_79 : decode cX11_goesFirst 79 = .ok (.if_icmp .ge 7, 3) := by decide +kernel
theorem dX11_goesFirst_82 : decode cX11_goesFirst 82 = .ok (.iconst 1, 1) := by decide +kernel
theorem dX11_goesFirst_83 : decode cX11_goesFirst 83 = .ok (.goto 4, 3) := by decide +kernel
theorem dX11_goesFirst_86 : decode cX11_goesFirst 86 = .ok (.iconst 0, 1) := by decide +kernel
theorem dX11_goesFirst_87 : decode cX11_goesFirst 87 = .ok (.istore 7, 2) := by decide +kernel
theorem dX11_goesFirst_89 : decode cX11_goesFirst 89 = .ok (.iload 6, 2) := by decide +kernel
theorem dX11_goesFirst_91 : decode cX11_goesFirst 91 = .ok (.iload 7, 2) := by decide +kernel
theorem dX11_goesFirst_93 : decode cX11_goesFirst 93 = .ok (.if_icmp .eq 6, 3) := by decide +kernel
theorem dX11_goesFirst_96 : decode cX11_goesFirst 96 = .ok (.iload 6, 2) := by decide +kernel
theorem dX11_goesFirst_98 : decode cX11_goesFirst 98 = .ok (.ireturn, 1) := by decide +kernel
theorem dX11_goesFirst_99 : decode cX11_goesFirst 99 = .ok (.iload 6, 2) := by decide +kernel
theorem dX11_goesFirst_101 : decode cX11_goesFirst 101 = .ok (.ifCond .eq 12, 3) := by decide +kernel
theorem dX11_goesFirst_104 : decode cX11_goesFirst 104 = .ok (.aload_n 0, 1) := by decide +kernel
theorem dX11_goesFirst_105 : decode cX11_goesFirst 105 = .ok (.iload_n 2, 1) := by decide +kernel
theorem dX11_goesFirst_106 : decode cX11_goesFirst 106 = .ok (.iconst 0, 1) := by decide +kernel
theorem dX11_goesFirst_107 : decode cX11_goesFirst 107 = .ok (.invokevirtual 227, 3) := by decide +kernel
theorem dX11_goesFirst_110 : decode cX11_goesFirst 110 = .ok (.goto 10, 3) := by decide +kernel
theorem dX11_goesFirst_113 : decode cX11_goesFirst 113 = .ok (.aload_n 0, 1) := by decide +kernel
theorem dX11_goesFirst_114 : decode cX11_goesFirst 114 = .ok (.iload_n 2, 1) := by decide +kernel
theorem dX11_goesFirst_115 : decode cX11_goesFirst 115 = .ok (.iconst 1, 1) := by decide +kernel
theorem dX11_goesFirst_116 : decode cX11_goesFirst 116 = .ok (.invokevirtual 227, 3) := by decide +kernel
theorem dX11_goesFirst_119 : decode cX11_goesFirst 119 = .ok (.ineg, 1) := by decide +kernel
theorem dX11_goesFirst_120 : decode cX11_goesFirst 120 = .ok (.istore 4, 2) := by decide +kernel
theorem dX11_goesFirst_122 : decode cX11_goesFirst 122 = .ok (.iload 6, 2) := by decide +kernel
theorem dX11_goesFirst_124 : decode cX11_goesFirst 124 = .ok (.ifCond .eq 12, 3) := by decide +kernel
theorem dX11_goesFirst_127 : decode cX11_goesFirst 127 = .ok (.aload_n 0, 1) := by decide +kernel
theorem dX11_goesFirst_128 : decode cX11_goesFirst 128 = .ok (.iload_n 3, 1) := by decide +kernel
theorem dX11_goesFirst_129 : decode cX11_goesFirst 129 = .ok (.iconst 0, 1) := by decide +kernel
theorem dX11_goesFirst_130 : decode cX11_goesFirst 130 = .ok (.invokevirtual 227, 3) := by decide +kernel
theorem dX11_goesFirst_133 : decode cX11_goesFirst 133 = .ok (.goto 10, 3) := by decide +kernel
theorem dX11_goesFirst_136 : decode cX11_goesFirst 136 = .ok (.aload_n 0, 1) := by decide +kernel
theorem dX11_goesFirst_137 : decode cX11_goesFirst 137 = .ok (.iload_n 3, 1) := by decide +kernel
theorem dX11_goesFirst_138 : decode cX11_goesFirst 138 = .ok (.iconst 1, 1) := by decide +kernel
theorem dX11_goesFirst_139 : decode cX11_goesFirst 139 = .ok (.invokevirtual 227, 3) := by decide +kernel
theorem dX11_goesFirst_142 : decode cX11_goesFirst 142 = .ok (.ineg, 1) := by decide +kernel
theorem dX11_goesFirst_143 : decode cX11_goesFirst 143 = .ok (.istore 5, 2) := by decide +kernel
theorem dX11_goesFirst_145 : decode cX11_goesFirst 145 = .ok (.iload 4, 2) := by decide +kernel
theorem dX11_goesFirst_147 : decode cX11_goesFirst 147 = .ok (.iload 5, 2) := by decide +kernel
theorem dX11_goesFirst_149 : decode cX11_goesFirst 149 = .ok (.if_icmp .lt 15, 3) := by decide +kernel
theorem dX11_goesFirst_152 : decode cX11_goesFirst 152 = .ok (.iload 4, 2) := by decide +kernel
theorem dX11_goesFirst_154 : decode cX11_goesFirst 154 = .ok (.iload 5, 2) := by decide +kernel
theorem dX11_goesFirst_156 : decode cX11_goesFirst 156 = .ok (.if_icmp .ne 12, 3) := by decide +kernel
theorem dX11_goesFirst_159 : decode cX11_goesFirst 159 = .ok (.iload_n 2, 1) := by decide +kernel
theorem dX11_goesFirst_160 : decode cX11_goesFirst 160 = .ok (.iload_n 3, 1) := by decide +kernel
theorem dX11_goesFirst_161 : decode cX11_goesFirst 161 = .ok (.if_icmp .ge 7, 3) := by decide +kernel
theorem dX11_goesFirst_164 : decode cX11_goesFirst 164 = .ok (.iconst 1, 1) := by decide +kernel
theorem dX11_goesFirst_165 : decode cX11_goesFirst 165 = .ok (.goto 4, 3) := by decide +kernel
theorem dX11_goesFirst_168 : decode cX11_goesFirst 168 = .ok (.iconst 0, 1) := by decide +kernel
theorem dX11_goesFirst_169 : decode cX11_goesFirst 169 = .ok (.ireturn, 1) := by decide +kernel
theorem dX11_laysRow_0 : decode cX11_laysRow 0 = .ok (.iconst 0, 1) := by decide +kernel
theorem dX11_laysRow_1 : decode cX11_laysRow 1 = .ok (.istore_n 2, 1) := by decide +kernel
theorem dX11_laysRow_2 : decode cX11_laysRow 2 = .ok (.iload_n 2, 1) := by decide +kernel
theorem dX11_laysRow_3 : decode cX11_laysRow 3 = .ok (.aload_n 0, 1) := by decide +kernel
theorem dX11_laysRow_4 : decode cX11_laysRow 4 = .ok (.getfield 9, 3) := by decide +kernel
theorem dX11_laysRow_7 : decode cX11_laysRow 7 = .ok (.iconst 0, 1) := by decide +kernel
theorem dX11_laysRow_8 : decode cX11_laysRow 8 = .ok (.iaload, 1) := by decide +kernel
theorem dX11_laysRow_9 : decode cX11_laysRow 9 = .ok (.if_icmp .ge 63, 3) := by decide +kernel
theorem dX11_laysRow_12 : decode cX11_laysRow 12 = .ok (.iconst 0, 1) := by decide +kernel
theorem dX11_laysRow_13 : decode cX11_laysRow 13 = .ok (.istore_n 3, 1) := by decide +kernel
theorem dX11_laysRow_14 : decode cX11_laysRow 14 = .ok (.iconst 0, 1) := by decide +kernel
theorem dX11_laysRow_15 : decode cX11_laysRow 15 = .ok (.istore 4, 2) := by decide +kernel
theorem dX11_laysRow_17 : decode cX11_laysRow 17 = .ok (.iload 4, 2) := by decide +kernel
theorem dX11_laysRow_19 : decode cX11_laysRow 19 = .ok (.aload_n 0, 1) := by decide +kernel
theorem dX11_laysRow_20 : decode cX11_laysRow 20 = .ok (.getfield 9, 3) := by decide +kernel
theorem dX11_laysRow_23 : decode cX11_laysRow 23 = .ok (.iconst 0, 1) := by decide +kernel
theorem dX11_laysRow_24 : decode cX11_laysRow 24 = .ok (.iaload, 1) := by decide +kernel
theorem dX11_laysRow_25 : decode cX11_laysRow 25 = .ok (.if_icmp .ge 34, 3) := by decide +kernel
theorem dX11_laysRow_28 : decode cX11_laysRow 28 = .ok (.iload_n 3, 1) := by decide +kernel
theorem dX11_laysRow_29 : decode cX11_laysRow 29 = .ok (.iload 4, 2) := by decide +kernel
theorem dX11_laysRow_31 : decode cX11_laysRow 31 = .ok (.iload_n 2, 1) := by decide +kernel
theorem dX11_laysRow_32 : decode cX11_laysRow 32 = .ok (.if_icmp .eq 18, 3) := by decide +kernel
theorem dX11_laysRow_35 : decode cX11_laysRow 35 = .ok (.aload_n 0, 1) := by decide +kernel
theorem dX11_laysRow_36 : decode cX11_laysRow 36 = .ok (.iload_n 1, 1) := by decide +kernel
theorem dX11_laysRow_37 : decode cX11_laysRow 37 = .ok (.iload 4, 2) := by decide +kernel
theorem dX11_laysRow_39 : decode cX11_laysRow 39 = .ok (.iload_n 2, 1) := by decide +kernel
theorem dX11_laysRow_40 : decode cX11_laysRow 40 = .ok (.invokevirtual 230, 3) := by decide +kernel
theorem dX11_laysRow_43 : decode cX11_laysRow 43 = .ok (.ifCond .eq 7, 3) := by decide +kernel
theorem dX11_laysRow_46 : decode cX11_laysRow 46 = .ok (.iconst 1, 1) := by decide +kernel
theorem dX11_laysRow_47 : decode cX11_laysRow 47 = .ok (.goto 4, 3) := by decide +kernel
theorem dX11_laysRow_50 : decode cX11_laysRow 50 = .ok (.iconst 0, 1) := by decide +kernel
theorem dX11_laysRow_51 : decode cX11_laysRow 51 = .ok (.iadd, 1) := by decide +kernel
theorem dX11_laysRow_52 : decode cX11_laysRow 52 = .ok (.istore_n 3, 1) := by decide +kernel
theorem dX11_laysRow_53 : decode cX11_laysRow 53 = .ok (.iinc 4 1, 3) := by decide +kernel
theorem dX11_laysRow_56 : decode cX11_laysRow 56 = .ok (.goto (-39), 3) := by decide +kernel
theorem dX11_laysRow_59 : decode cX11_laysRow 59 = .ok (.aload_n 0, 1) := by decide +kernel
theorem dX11_laysRow_60 : decode cX11_laysRow 60 = .ok (.getfield 49, 3) := by decide +kernel
theorem dX11_laysRow_63 : decode cX11_laysRow 63 = .ok (.iload_n 3, 1) := by decide +kernel
theorem dX11_laysRow_64 : decode cX11_laysRow 64 = .ok (.iload_n 2, 1) := by decide +kernel
theorem dX11_laysRow_65 : decode cX11_laysRow 65 = .ok (.iastore, 1) := by decide +kernel
theorem dX11_laysRow_66 : decode cX11_laysRow 66 = .ok (.iinc 2 1, 3) := by decide +kernel
theorem dX11_laysRow_69 : decode cX11_laysRow 69 = .ok (.goto (-67), 3) := by decide +kernel
theorem dX11_laysRow_72 : decode cX11_laysRow 72 = .ok (.return_, 1) := by decide +kernel
theorem dX11_leastSum_0 : decode cX11_leastSum 0 = .ok (.aload_n 0, 1) := by decide +kernel
theorem dX11_leastSum_1 : decode cX11_leastSum 1 = .ok (.iconst 0, 1) := by decide +kernel
theorem dX11_leastSum_2 : decode cX11_leastSum 2 = .ok (.putfield 69, 3) := by decide +kernel
theorem dX11_leastSum_5 : decode cX11_leastSum 5 = .ok (.aload_n 0, 1) := by decide +kernel
theorem dX11_leastSum_6 : decode cX11_leastSum 6 = .ok (.iconst 0, 1) := by decide +kernel
theorem dX11_leastSum_7 : decode cX11_leastSum 7 = .ok (.invokevirtual 233, 3) := by decide +kernel
theorem dX11_leastSum_10 : decode cX11_leastSum 10 = .ok (.iconst 0, 1) := by decide +kernel
theorem dX11_leastSum_11 : decode cX11_leastSum 11 = .ok (.istore_n 1, 1) := by decide +kernel
theorem dX11_leastSum_12 : decode cX11_leastSum 12 = .ok (.iconst 0, 1) := by decide +kernel
theorem dX11_leastSum_13 : decode cX11_leastSum 13 = .ok (.istore_n 2, 1) := by decide +kernel
theorem dX11_leastSum_14 : decode cX11_leastSum 14 = .ok (.iconst 0, 1) := by decide +kernel
theorem dX11_leastSum_15 : decode cX11_leastSum 15 = .ok (.istore_n 3, 1) := by decide +kernel
theorem dX11_leastSum_16 : decode cX11_leastSum 16 = .ok (.iload_n 3, 1) := by decide +kernel
theorem dX11_leastSum_17 : decode cX11_leastSum 17 = .ok (.aload_n 0, 1) := by decide +kernel
theorem dX11_leastSum_18 : decode cX11_leastSum 18 = .ok (.getfield 9, 3) := by decide +kernel
theorem dX11_leastSum_21 : decode cX11_leastSum 21 = .ok (.iconst 0, 1) := by decide +kernel
theorem dX11_leastSum_22 : decode cX11_leastSum 22 = .ok (.iaload, 1) := by decide +kernel
theorem dX11_leastSum_23 : decode cX11_leastSum 23 = .ok (.if_icmp .ge 26, 3) := by decide +kernel
theorem dX11_leastSum_26 : decode cX11_leastSum 26 = .ok (.iload_n 1, 1) := by decide +kernel
theorem dX11_leastSum_27 : decode cX11_leastSum 27 = .ok (.aload_n 0, 1) := by decide +kernel
theorem dX11_leastSum_28 : decode cX11_leastSum 28 = .ok (.aload_n 0, 1) := by decide +kernel
theorem dX11_leastSum_29 : decode cX11_leastSum 29 = .ok (.getfield 49, 3) := by decide +kernel
theorem dX11_leastSum_32 : decode cX11_leastSum 32 = .ok (.iload_n 3, 1) := by decide +kernel
theorem dX11_leastSum_33 : decode cX11_leastSum 33 = .ok (.iaload, 1) := by decide +kernel
theorem dX11_leastSum_34 : decode cX11_leastSum 34 = .ok (.invokevirtual 193, 3) := by decide +kernel
theorem dX11_leastSum_37 : decode cX11_leastSum 37 = .ok (.iadd, 1) := by decide +kernel
theorem dX11_leastSum_38 : decode cX11_leastSum 38 = .ok (.istore_n 1, 1) := by decide +kernel
theorem dX11_leastSum_39 : decode cX11_leastSum 39 = .ok (.iload_n 2, 1) := by decide +kernel
theorem dX11_leastSum_40 : decode cX11_leastSum 40 = .ok (.iload_n 1, 1) := by decide +kernel
theorem dX11_leastSum_41 : decode cX11_leastSum 41 = .ok (.iadd, 1) := by decide +kernel
theorem dX11_leastSum_42 : decode cX11_leastSum 42 = .ok (.istore_n 2, 1) := by decide +kernel
theorem dX11_leastSum_43 : decode cX11_leastSum 43 = .ok (.iinc 3 1, 3) := by decide +kernel
theorem dX11_leastSum_46 : decode cX11_leastSum 46 = .ok (.goto (-30), 3) := by decide +kernel
theorem dX11_leastSum_49 : decode cX11_leastSum 49 = .ok (.iload_n 2, 1) := by decide +kernel
theorem dX11_leastSum_50 : decode cX11_leastSum 50 = .ok (.ireturn, 1) := by decide +kernel
theorem dX11_leastLateness_0 : decode cX11_leastLateness 0 = .ok (.aload_n 0, 1) := by decide +kernel
theorem dX11_leastLateness_1 : decode cX11_leastLateness 1 = .ok (.iconst 0, 1) := by decide +kernel
theorem dX11_leastLateness_2 : decode cX11_leastLateness 2 = .ok (.putfield 69, 3) := by decide +kernel
theorem dX11_leastLateness_5 : decode cX11_leastLateness 5 = .ok (.aload_n 0, 1) := by decide +kernel
theorem dX11_leastLateness_6 : decode cX11_leastLateness 6 = .ok (.iconst 1, 1) := by decide +kernel
theorem dX11_leastLateness_7 : decode cX11_leastLateness 7 = .ok (.invokevirtual 233, 3) := by decide +kernel
theorem dX11_leastLateness_10 : decode cX11_leastLateness 10 = .ok (.iconst 0, 1) := by decide +kernel
theorem dX11_leastLateness_11 : decode cX11_leastLateness 11 = .ok (.istore_n 1, 1) := by decide +kernel
theorem dX11_leastLateness_12 : decode cX11_leastLateness 12 = .ok (.iconst 0, 1) := by decide +kernel
theorem dX11_leastLateness_13 : decode cX11_leastLateness 13 = .ok (.istore_n 2, 1) := by decide +kernel
theorem dX11_leastLateness_14 : decode cX11_leastLateness 14 = .ok (.iconst 0, 1) := by decide +kernel
theorem dX11_leastLateness_15 : decode cX11_leastLateness 15 = .ok (.istore_n 3, 1) := by decide +kernel
theorem dX11_leastLateness_16 : decode cX11_leastLateness 16 = .ok (.iload_n 3, 1) := by decide +kernel
theorem dX11_leastLateness_17 : decode cX11_leastLateness 17 = .ok (.aload_n 0, 1) := by decide +kernel
theorem dX11_leastLateness_18 : decode cX11_leastLateness 18 = .ok (.getfield 9, 3) := by decide +kernel
theorem dX11_leastLateness_21 : decode cX11_leastLateness 21 = .ok (.iconst 0, 1) := by decide +kernel
theorem dX11_leastLateness_22 : decode cX11_leastLateness 22 = .ok (.iaload, 1) := by decide +kernel
theorem dX11_leastLateness_23 : decode cX11_leastLateness 23 = .ok (.if_icmp .ge 60, 3) := by decide +kernel
theorem dX11_leastLateness_26 : decode cX11_leastLateness 26 = .ok (.iload_n 1, 1) := by decide +kernel
theorem dX11_leastLateness_27 : decode cX11_leastLateness 27 = .ok (.aload_n 0, 1) := by decide +kernel
theorem dX11_leastLateness_28 : decode cX11_leastLateness 28 = .ok (.aload_n 0, 1) := by decide +kernel
theorem dX11_leastLateness_29 : decode cX11_leastLateness 29 = .ok (.getfield 49, 3) := by decide +kernel
theorem dX11_leastLateness_32 : decode cX11_leastLateness 32 = .ok (.iload_n 3, 1) := by decide +kernel
theorem dX11_leastLateness_33 : decode cX11_leastLateness 33 = .ok (.iaload, 1) := by decide +kernel
theorem dX11_leastLateness_34 : decode cX11_leastLateness 34 = .ok (.invokevirtual 193, 3) := by decide +kernel
theorem dX11_leastLateness_37 : decode cX11_leastLateness 37 = .ok (.iadd, 1) := by decide +kernel
theorem dX11_leastLateness_38 : decode cX11_leastLateness 38 = .ok (.istore_n 1, 1) := by decide +kernel
theorem dX11_leastLateness_39 : decode cX11_leastLateness 39 = .ok (.iload_n 3, 1) := by decide +kernel
theorem dX11_leastLateness_40 : decode cX11_leastLateness 40 = .ok (.ifCond .ne 19, 3) := by decide +kernel
theorem dX11_leastLateness_43 : decode cX11_leastLateness 43 = .ok (.iload_n 1, 1) := by decide +kernel
theorem dX11_leastLateness_44 : decode cX11_leastLateness 44 = .ok (.aload_n 0, 1) := by decide +kernel
theorem dX11_leastLateness_45 : decode cX11_leastLateness 45 = .ok (.aload_n 0, 1) := by decide +kernel
theorem dX11_leastLateness_46 : decode cX11_leastLateness 46 = .ok (.getfield 49, 3) := by decide +kernel
theorem dX11_leastLateness_49 : decode cX11_leastLateness 49 = .ok (.iload_n 3, 1) := by decide +kernel
theorem dX11_leastLateness_50 : decode cX11_leastLateness 50 = .ok (.iaload, 1) := by decide +kernel
theorem dX11_leastLateness_51 : decode cX11_leastLateness 51 = .ok (.iconst 1, 1) := by decide +kernel
theorem dX11_leastLateness_52 : decode cX11_leastLateness 52 = .ok (.invokevirtual 73, 3) := by decide +kernel
theorem dX11_leastLateness_55 : decode cX11_leastLateness 55 = .ok (.isub, 1) := by decide +kernel
theorem dX11_leastLateness_56 : decode cX11_leastLateness 56 = .ok (.goto 20, 3) := by decide +kernel
theorem dX11_leastLateness_59 : decode cX11_leastLateness 59 = .ok (.iload_n 2, 1) := by decide +kernel
theorem dX11_leastLateness_60 : decode cX11_leastLateness 60 = .ok (.iload_n 1, 1) := by decide +kernel
theorem dX11_leastLateness_61 : decode cX11_leastLateness 61 = .ok (.aload_n 0, 1) := by decide +kernel
theorem dX11_leastLateness_62 : decode cX11_leastLateness 62 = .ok (.aload_n 0, 1) := by decide +kernel
theorem dX11_leastLateness_63 : decode cX11_leastLateness 63 = .ok (.getfield 49, 3) := by decide +kernel
theorem dX11_leastLateness_66 : decode cX11_leastLateness 66 = .ok (.iload_n 3, 1) := by decide +kernel
theorem dX11_leastLateness_67 : decode cX11_leastLateness 67 = .ok (.iaload, 1) := by decide +kernel
theorem dX11_leastLateness_68 : decode cX11_leastLateness 68 = .ok (.iconst 1, 1) := by decide +kernel
theorem dX11_leastLateness_69 : decode cX11_leastLateness 69 = .ok (.invokevirtual 73, 3) := by decide +kernel
theorem dX11_leastLateness_72 : decode cX11_leastLateness 72 = .ok (.isub, 1) := by decide +kernel
theorem dX11_leastLateness_73 : decode cX11_leastLateness 73 = .ok (.invokestatic 101, 3) := by decide +kernel
theorem dX11_leastLateness_76 : decode cX11_leastLateness 76 = .ok (.istore_n 2, 1) := by decide +kernel
theorem dX11_leastLateness_77 : decode cX11_leastLateness 77 = .ok (.iinc 3 1, 3) := by decide +kernel
theorem dX11_leastLateness_80 : decode cX11_leastLateness 80 = .ok (.goto (-64), 3) := by decide +kernel
theorem dX11_leastLateness_83 : decode cX11_leastLateness 83 = .ok (.iload_n 2, 1) := by decide +kernel
theorem dX11_leastLateness_84 : decode cX11_leastLateness 84 = .ok (.ireturn, 1) := by decide +kernel
theorem dX11_dropped_0 : decode cX11_dropped 0 = .ok (.aload_n 0, 1) := by decide +kernel
theorem dX11_dropped_1 : decode cX11_dropped 1 = .ok (.iconst 1, 1) := by decide +kernel
theorem dX11_dropped_2 : decode cX11_dropped 2 = .ok (.invokevirtual 233, 3) := by decide +kernel
theorem dX11_dropped_5 : decode cX11_dropped 5 = .ok (.iconst 0, 1) := by decide +kernel
theorem dX11_dropped_6 : decode cX11_dropped 6 = .ok (.istore_n 1, 1) := by decide +kernel
theorem dX11_dropped_7 : decode cX11_dropped 7 = .ok (.iconst 0, 1) := by decide +kernel
theorem dX11_dropped_8 : decode cX11_dropped 8 = .ok (.istore_n 2, 1) := by decide +kernel
theorem dX11_dropped_9 : decode cX11_dropped 9 = .ok (.iconst 0, 1) := by decide +kernel
theorem dX11_dropped_10 : decode cX11_dropped 10 = .ok (.istore_n 3, 1) := by decide +kernel
theorem dX11_dropped_11 : decode cX11_dropped 11 = .ok (.iload_n 3, 1) := by decide +kernel
theorem dX11_dropped_12 : decode cX11_dropped 12 = .ok (.aload_n 0, 1) := by decide +kernel
theorem dX11_dropped_13 : decode cX11_dropped 13 = .ok (.getfield 9, 3) := by decide +kernel
theorem dX11_dropped_16 : decode cX11_dropped 16 = .ok (.iconst 0, 1) := by decide +kernel
theorem dX11_dropped_17 : decode cX11_dropped 17 = .ok (.iaload, 1) := by decide +kernel
theorem dX11_dropped_18 : decode cX11_dropped 18 = .ok (.if_icmp .ge 129, 3) := by decide +kernel
theorem dX11_dropped_21 : decode cX11_dropped 21 = .ok (.iload_n 1, 1) := by decide +kernel
theorem dX11_dropped_22 : decode cX11_dropped 22 = .ok (.iconst 1, 1) := by decide +kernel
theorem dX11_dropped_23 : decode cX11_dropped 23 = .ok (.aload_n 0, 1) := by decide +kernel
theorem dX11_dropped_24 : decode cX11_dropped 24 = .ok (.getfield 49, 3) := by decide +kernel
theorem dX11_dropped_27 : decode cX11_dropped 27 = .ok (.iload_n 3, 1) := by decide +kernel
theorem dX11_dropped_28 : decode cX11_dropped 28 = .ok (.iaload, 1) := by decide +kernel
theorem dX11_dropped_29 : decode cX11_dropped 29 = .ok (.ishl, 1) := by decide +kernel
theorem dX11_dropped_30 : decode cX11_dropped 30 = .ok (.ior, 1) := by decide +kernel
theorem dX11_dropped_31 : decode cX11_dropped 31 = .ok (.istore_n 1, 1) := by decide +kernel
theorem dX11_dropped_32 : decode cX11_dropped 32 = .ok (.iconst 0, 1) := by decide +kernel
theorem dX11_dropped_33 : decode cX11_dropped 33 = .ok (.istore 4, 2) := by decide +kernel
theorem dX11_dropped_35 : decode cX11_dropped 35 = .ok (.iconst (-1), 1) := by decide +kernel
theorem dX11_dropped_36 : decode cX11_dropped 36 = .ok (.istore 5, 2) := by decide +kernel
theorem dX11_dropped_38 : decode cX11_dropped 38 = .ok (.iconst 0, 1) := by decide +kernel
theorem dX11_dropped_39 : decode cX11_dropped 39 = .ok (.istore 6, 2) := by decide +kernel
theorem dX11_dropped_41 : decode cX11_dropped 41 = .ok (.iload 6, 2) := by decide +kernel
theorem dX11_dropped_43 : decode cX11_dropped 43 = .ok (.aload_n 0, 1) := by decide +kernel
theorem dX11_dropped_44 : decode cX11_dropped 44 = .ok (.getfield 9, 3) := by decide +kernel
theorem dX11_dropped_47 : decode cX11_dropped 47 = .ok (.iconst 0, 1) := by decide +kernel
theorem dX11_dropped_48 : decode cX11_dropped 48 = .ok (.iaload, 1) := by decide +kernel
theorem dX11_dropped_49 : decode cX11_dropped 49 = .ok (.if_icmp .ge 57, 3) := by decide +kernel
theorem dX11_dropped_52 : decode cX11_dropped 52 = .ok (.iload_n 1, 1) := by decide +kernel
theorem dX11_dropped_53 : decode cX11_dropped 53 = .ok (.iload 6, 2) := by decide +kernel
theorem dX11_dropped_55 : decode cX11_dropped 55 = .ok (.ishr, 1) := by decide +kernel
theorem dX11_dropped_56 : decode cX11_dropped 56 = .ok (.iconst 1, 1) := by decide +kernel
theorem dX11_dropped_57 : decode cX11_dropped 57 = .ok (.iand, 1) := by decide +kernel
theorem dX11_dropped_58 : decode cX11_dropped 58 = .ok (.ifCond .ne 6, 3) := by decide +kernel
theorem dX11_dropped_61 : decode cX11_dropped 61 = .ok (.goto 39, 3) := by decide +kernel
theorem dX11_dropped_64 : decode cX11_dropped 64 = .ok (.iload 4, 2) := by decide +kernel
theorem dX11_dropped_66 : decode cX11_dropped 66 = .ok (.aload_n 0, 1) := by decide +kernel
theorem dX11_dropped_67 : decode cX11_dropped 67 = .ok (.iload 6, 2) := by decide +kernel
theorem dX11_dropped_69 : decode cX11_dropped 69 = .ok (.invokevirtual 193, 3) := by decide +kernel
theorem dX11_dropped_72 : decode cX11_dropped 72 = .ok (.iadd, 1) := by decide +kernel
theorem dX11_dropped_73 : decode cX11_dropped 73 = .ok (.istore 4, 2) := by decide +kernel
theorem dX11_dropped_75 : decode cX11_dropped 75 = .ok (.iload 5, 2) := by decide +kernel
theorem dX11_dropped_77 : decode cX11_dropped 77 = .ok (.iconst (-1), 1) := by decide +kernel
theorem dX11_dropped_78 : decode cX11_dropped 78 = .ok (.if_icmp .eq 18, 3) := by decide +kernel
theorem dX11_dropped_81 : decode cX11_dropped 81 = .ok (.aload_n 0, 1) := by decide +kernel
theorem dX11_dropped_82 : decode cX11_dropped 82 = .ok (.iload 6, 2) := by decide +kernel
theorem dX11_dropped_84 : decode cX11_dropped 84 = .ok (.invokevirtual 193, 3) := by decide +kernel
theorem dX11_dropped_87 : decode cX11_dropped 87 = .ok (.aload_n 0, 1) := by decide +kernel
theorem dX11_dropped_88 : decode cX11_dropped 88 = .ok (.iload 5, 2) := by decide +kernel
theorem dX11_dropped_90 : decode cX11_dropped 90 = .ok (.invokevirtual 193, 3) := by decide +kernel
theorem dX11_dropped_93 : decode cX11_dropped 93 = .ok (.if_icmp .lt 7, 3) := by decide +kernel
theorem dX11_dropped_96 : decode cX11_dropped 96 = .ok (.iload 6, 2) := by decide +kernel
theorem dX11_dropped_98 : decode cX11_dropped 98 = .ok (.istore 5, 2) := by decide +kernel
theorem dX11_dropped_100 : decode cX11_dropped 100 = .ok (.iinc 6 1, 3) := by decide +kernel
theorem dX11_dropped_103 : decode cX11_dropped 103 = .ok (.goto (-62), 3) := by decide +kernel
theorem dX11_dropped_106 : decode cX11_dropped 106 = .ok (.iload 4, 2) := by decide +kernel
theorem dX11_dropped_108 : decode cX11_dropped 108 = .ok (.aload_n 0, 1) := by decide +kernel
theorem dX11_dropped_109 : decode cX11_dropped 109 = .ok (.aload_n 0, 1) := by decide +kernel
theorem dX11_dropped_110 : decode cX11_dropped 110 = .ok (.getfield 49, 3) := by decide +kernel
theorem dX11_dropped_113 : decode cX11_dropped 113 = .ok (.iload_n 3, 1) := by decide +kernel
theorem dX11_dropped_114 : decode cX11_dropped 114 = .ok (.iaload, 1) := by decide +kernel
theorem dX11_dropped_115 : decode cX11_dropped 115 = .ok (.iconst 1, 1) := by decide +kernel
theorem dX11_dropped_116 : decode cX11_dropped 116 = .ok (.invokevirtual 73, 3) := by decide +kernel
theorem dX11_dropped_119 : decode cX11_dropped 119 = .ok (.if_icmp .gt 6, 3) := by decide +kernel
theorem dX11_dropped_122 : decode cX11_dropped 122 = .ok (.goto 19, 3) := by decide +kernel
theorem dX11_dropped_125 : decode cX11_dropped 125 = .ok (.iload_n 1, 1) := by decide +kernel
theorem dX11_dropped_126 : decode cX11_dropped 126 = .ok (.iconst 1, 1) := by decide +kernel
theorem dX11_dropped_127 : decode cX11_dropped 127 = .ok (.iload 5, 2) := by decide +kernel
theorem dX11_dropped_129 : decode cX11_dropped 129 = .ok (.ishl, 1) := by decide +kernel
theorem dX11_dropped_130 : decode cX11_dropped 130 = .ok (.iconst (-1), 1) := by decide +kernel
theorem dX11_dropped_131 : decode cX11_dropped 131 = .ok (.ixor, 1) := by decide +kernel
theorem dX11_dropped_132 : decode cX11_dropped 132 = .ok (.iand, 1) := by decide +kernel
theorem dX11_dropped_133 : decode cX11_dropped 133 = .ok (.istore_n 1, 1) := by decide +kernel
theorem dX11_dropped_134 : decode cX11_dropped 134 = .ok (.iload_n 2, 1) := by decide +kernel
theorem dX11_dropped_135 : decode cX11_dropped 135 = .ok (.iconst 1, 1) := by decide +kernel
theorem dX11_dropped_136 : decode cX11_dropped 136 = .ok (.iload 5, 2) := by decide +kernel
theorem dX11_dropped_138 : decode cX11_dropped 138 = .ok (.ishl, 1) := by decide +kernel
theorem dX11_dropped_139 : decode cX11_dropped 139 = .ok (.ior, 1) := by decide +kernel
theorem dX11_dropped_140 : decode cX11_dropped 140 = .ok (.istore_n 2, 1) := by decide +kernel
theorem dX11_dropped_141 : decode cX11_dropped 141 = .ok (.iinc 3 1, 3) := by decide +kernel
theorem dX11_dropped_144 : decode cX11_dropped 144 = .ok (.goto (-133), 3) := by decide +kernel
theorem dX11_dropped_147 : decode cX11_dropped 147 = .ok (.iload_n 2, 1) := by decide +kernel
theorem dX11_dropped_148 : decode cX11_dropped 148 = .ok (.ireturn, 1) := by decide +kernel
theorem dX11_fewestLate_0 : decode cX11_fewestLate 0 = .ok (.aload_n 0, 1) := by decide +kernel
theorem dX11_fewestLate_1 : decode cX11_fewestLate 1 = .ok (.iconst 0, 1) := by decide +kernel
theorem dX11_fewestLate_2 : decode cX11_fewestLate 2 = .ok (.putfield 69, 3) := by decide +kernel
theorem dX11_fewestLate_5 : decode cX11_fewestLate 5 = .ok (.aload_n 0, 1) := by decide +kernel
theorem dX11_fewestLate_6 : decode cX11_fewestLate 6 = .ok (.invokevirtual 236, 3) := by decide +kernel
theorem dX11_fewestLate_9 : decode cX11_fewestLate 9 = .ok (.istore_n 1, 1) := by decide +kernel
theorem dX11_fewestLate_10 : decode cX11_fewestLate 10 = .ok (.iconst 0, 1) := by decide +kernel
theorem dX11_fewestLate_11 : decode cX11_fewestLate 11 = .ok (.istore_n 2, 1) := by decide +kernel
theorem dX11_fewestLate_12 : decode cX11_fewestLate 12 = .ok (.iconst 0, 1) := by decide +kernel
theorem dX11_fewestLate_13 : decode cX11_fewestLate 13 = .ok (.istore_n 3, 1) := by decide +kernel
theorem dX11_fewestLate_14 : decode cX11_fewestLate 14 = .ok (.iload_n 3, 1) := by decide +kernel
theorem dX11_fewestLate_15 : decode cX11_fewestLate 15 = .ok (.bipush 6, 2) := by decide +kernel
theorem dX11_fewestLate_17 : decode cX11_fewestLate 17 = .ok (.if_icmp .ge 17, 3) := by decide +kernel
theorem dX11_fewestLate_20 : decode cX11_fewestLate 20 = .ok (.iload_n 2, 1) := by decide +kernel
theorem dX11_fewestLate_21 : decode cX11_fewestLate 21 = .ok (.iload_n 1, 1) := by decide +kernel
theorem dX11_fewestLate_22 : decode cX11_fewestLate 22 = .ok (.iload_n 3, 1) := by decide +kernel
theorem dX11_fewestLate_23 : decode cX11_fewestLate 23 = .ok (.ishr, 1) := by decide +kernel
theorem dX11_fewestLate_24 : decode cX11_fewestLate 24 = .ok (.iconst 1, 1) := by decide +kernel
theorem dX11_fewestLate_25 : decode cX11_fewestLate 25 = .ok (.iand, 1) := by decide +kernel
theorem dX11_fewestLate_26 : decode cX11_fewestLate 26 = .ok (.iadd, 1) := by decide +kernel
theorem dX11_fewestLate_27 : decode cX11_fewestLate 27 = .ok (.istore_n 2, 1) := by decide +kernel
theorem dX11_fewestLate_28 : decode cX11_fewestLate 28 = .ok (.iinc 3 1, 3) := by decide +kernel
theorem dX11_fewestLate_31 : decode cX11_fewestLate 31 = .ok (.goto (-17), 3) := by decide +kernel
theorem dX11_fewestLate_34 : decode cX11_fewestLate 34 = .ok (.iload_n 2, 1) := by decide +kernel
theorem dX11_fewestLate_35 : decode cX11_fewestLate 35 = .ok (.ireturn, 1) := by decide +kernel
theorem dX11_isDropped_0 : decode cX11_isDropped 0 = .ok (.aload_n 0, 1) := by decide +kernel
theorem dX11_isDropped_1 : decode cX11_isDropped 1 = .ok (.aload_n 0, 1) := by decide +kernel
theorem dX11_isDropped_2 : decode cX11_isDropped 2 = .ok (.iload_n 1, 1) := by decide +kernel
theorem dX11_isDropped_3 : decode cX11_isDropped 3 = .ok (.invokevirtual 87, 3) := by decide +kernel
theorem dX11_isDropped_6 : decode cX11_isDropped 6 = .ok (.iconst 1, 1) := by decide +kernel
theorem dX11_isDropped_7 : decode cX11_isDropped 7 = .ok (.iconst 1, 1) := by decide +kernel
theorem dX11_isDropped_8 : decode cX11_isDropped 8 = .ok (.invokevirtual 151, 3) := by decide +kernel
theorem dX11_isDropped_11 : decode cX11_isDropped 11 = .ok (.ifCond .eq 19, 3) := by decide +kernel
theorem dX11_isDropped_14 : decode cX11_isDropped 14 = .ok (.aload_n 0, 1) := by decide +kernel
theorem dX11_isDropped_15 : decode cX11_isDropped 15 = .ok (.invokevirtual 236, 3) := by decide +kernel
theorem dX11_isDropped_18 : decode cX11_isDropped 18 = .ok (.iload_n 1, 1) := by decide +kernel
theorem dX11_isDropped_19 : decode cX11_isDropped 19 = .ok (.ishr, 1) := by decide +kernel
theorem dX11_isDropped_20 : decode cX11_isDropped 20 = .ok (.iconst 1, 1) := by decide +kernel
theorem dX11_isDropped_21 : decode cX11_isDropped 21 = .ok (.iand, 1) := by decide +kernel
theorem dX11_isDropped_22 : decode cX11_isDropped 22 = .ok (.iconst 1, 1) := by decide +kernel
theorem dX11_isDropped_23 : decode cX11_isDropped 23 = .ok (.if_icmp .ne 7, 3) := by decide +kernel
theorem dX11_isDropped_26 : decode cX11_isDropped 26 = .ok (.iconst 1, 1) := by decide +kernel
theorem dX11_isDropped_27 : decode cX11_isDropped 27 = .ok (.goto 4, 3) := by decide +kernel
theorem dX11_isDropped_30 : decode cX11_isDropped 30 = .ok (.iconst 0, 1) := by decide +kernel
theorem dX11_isDropped_31 : decode cX11_isDropped 31 = .ok (.ireturn, 1) := by decide +kernel
theorem dX11_leastEnd_0 : decode cX11_leastEnd 0 = .ok (.aload_n 0, 1) := by decide +kernel
theorem dX11_leastEnd_1 : decode cX11_leastEnd 1 = .ok (.iconst 0, 1) := by decide +kernel
theorem dX11_leastEnd_2 : decode cX11_leastEnd 2 = .ok (.putfield 69, 3) := by decide +kernel
theorem dX11_leastEnd_5 : decode cX11_leastEnd 5 = .ok (.aload_n 0, 1) := by decide +kernel
theorem dX11_leastEnd_6 : decode cX11_leastEnd 6 = .ok (.iconst 2, 1) := by decide +kernel
theorem dX11_leastEnd_7 : decode cX11_leastEnd 7 = .ok (.invokevirtual 233, 3) := by decide +kernel
theorem dX11_leastEnd_10 : decode cX11_leastEnd 10 = .ok (.iconst 0, 1) := by decide +kernel
theorem dX11_leastEnd_11 : decode cX11_leastEnd 11 = .ok (.istore_n 1, 1) := by decide +kernel
theorem dX11_leastEnd_12 : decode cX11_leastEnd 12 = .ok (.iconst 0, 1) := by decide +kernel
theorem dX11_leastEnd_13 : decode cX11_leastEnd 13 = .ok (.istore_n 2, 1) := by decide +kernel
theorem dX11_leastEnd_14 : decode cX11_leastEnd 14 = .ok (.iconst 0, 1) := by decide +kernel
theorem dX11_leastEnd_15 : decode cX11_leastEnd 15 = .ok (.istore_n 3, 1) := by decide +kernel
theorem dX11_leastEnd_16 : decode cX11_leastEnd 16 = .ok (.iload_n 3, 1) := by decide +kernel
theorem dX11_leastEnd_17 : decode cX11_leastEnd 17 = .ok (.aload_n 0, 1) := by decide +kernel
theorem dX11_leastEnd_18 : decode cX11_leastEnd 18 = .ok (.getfield 9, 3) := by decide +kernel
theorem dX11_leastEnd_21 : decode cX11_leastEnd 21 = .ok (.iconst 0, 1) := by decide +kernel
theorem dX11_leastEnd_22 : decode cX11_leastEnd 22 = .ok (.iaload, 1) := by decide +kernel
theorem dX11_leastEnd_23 : decode cX11_leastEnd 23 = .ok (.if_icmp .ge 41, 3) := by decide +kernel
theorem dX11_leastEnd_26 : decode cX11_leastEnd 26 = .ok (.iload_n 1, 1) := by decide +kernel
theorem dX11_leastEnd_27 : decode cX11_leastEnd 27 = .ok (.aload_n 0, 1) := by decide +kernel
theorem dX11_leastEnd_28 : decode cX11_leastEnd 28 = .ok (.aload_n 0, 1) := by decide +kernel
theorem dX11_leastEnd_29 : decode cX11_leastEnd 29 = .ok (.getfield 49, 3) := by decide +kernel
theorem dX11_leastEnd_32 : decode cX11_leastEnd 32 = .ok (.iload_n 3, 1) := by decide +kernel
theorem dX11_leastEnd_33 : decode cX11_leastEnd 33 = .ok (.iaload, 1) := by decide +kernel
theorem dX11_leastEnd_34 : decode cX11_leastEnd 34 = .ok (.iconst 0, 1) := by decide +kernel
theorem dX11_leastEnd_35 : decode cX11_leastEnd 35 = .ok (.invokevirtual 227, 3) := by decide +kernel
theorem dX11_leastEnd_38 : decode cX11_leastEnd 38 = .ok (.iadd, 1) := by decide +kernel
theorem dX11_leastEnd_39 : decode cX11_leastEnd 39 = .ok (.istore_n 1, 1) := by decide +kernel
theorem dX11_leastEnd_40 : decode cX11_leastEnd 40 = .ok (.iload_n 2, 1) := by decide +kernel
theorem dX11_leastEnd_41 : decode cX11_leastEnd 41 = .ok (.iload_n 1, 1) := by decide +kernel
theorem dX11_leastEnd_42 : decode cX11_leastEnd 42 = .ok (.invokestatic 101, 3) := by decide +kernel
theorem dX11_leastEnd_45 : decode cX11_leastEnd 45 = .ok (.aload_n 0, 1) := by decide +kernel
theorem dX11_leastEnd_46 : decode cX11_leastEnd 46 = .ok (.aload_n 0, 1) := by decide +kernel
theorem dX11_leastEnd_47 : decode cX11_leastEnd 47 = .ok (.getfield 49, 3) := by decide +kernel
theorem dX11_leastEnd_50 : decode cX11_leastEnd 50 = .ok (.iload_n 3, 1) := by decide +kernel
theorem dX11_leastEnd_51 : decode cX11_leastEnd 51 = .ok (.iaload, 1) := by decide +kernel
theorem dX11_leastEnd_52 : decode cX11_leastEnd 52 = .ok (.iconst 1, 1) := by decide +kernel
theorem dX11_leastEnd_53 : decode cX11_leastEnd 53 = .ok (.invokevirtual 227, 3) := by decide +kernel
theorem dX11_leastEnd_56 : decode cX11_leastEnd 56 = .ok (.iadd, 1) := by decide +kernel
theorem dX11_leastEnd_57 : decode cX11_leastEnd 57 = .ok (.istore_n 2, 1) := by decide +kernel
theorem dX11_leastEnd_58 : decode cX11_leastEnd 58 = .ok (.iinc 3 1, 3) := by decide +kernel
theorem dX11_leastEnd_61 : decode cX11_leastEnd 61 = .ok (.goto (-45), 3) := by decide +kernel
theorem dX11_leastEnd_64 : decode cX11_leastEnd 64 = .ok (.iload_n 2, 1) := by decide +kernel
theorem dX11_leastEnd_65 : decode cX11_leastEnd 65 = .ok (.ireturn, 1) := by decide +kernel
theorem dX11_twoAt_0 : decode cX11_twoAt 0 = .ok (.aload_n 0, 1) := by decide +kernel
theorem dX11_twoAt_1 : decode cX11_twoAt 1 = .ok (.iload_n 1, 1) := by decide +kernel
theorem dX11_twoAt_2 : decode cX11_twoAt 2 = .ok (.iconst 0, 1) := by decide +kernel
theorem dX11_twoAt_3 : decode cX11_twoAt 3 = .ok (.aload_n 0, 1) := by decide +kernel
theorem dX11_twoAt_4 : decode cX11_twoAt 4 = .ok (.getfield 9, 3) := by decide +kernel
theorem dX11_twoAt_7 : decode cX11_twoAt 7 = .ok (.iconst 0, 1) := by decide +kernel
theorem dX11_twoAt_8 : decode cX11_twoAt 8 = .ok (.iaload, 1) := by decide +kernel
theorem dX11_twoAt_9 : decode cX11_twoAt 9 = .ok (.iconst 1, 1) := by decide +kernel
theorem dX11_twoAt_10 : decode cX11_twoAt 10 = .ok (.isub, 1) := by decide +kernel
theorem dX11_twoAt_11 : decode cX11_twoAt 11 = .ok (.invokestatic 83, 3) := by decide +kernel
theorem dX11_twoAt_14 : decode cX11_twoAt 14 = .ok (.iconst 1, 1) := by decide +kernel
theorem dX11_twoAt_15 : decode cX11_twoAt 15 = .ok (.iconst 1, 1) := by decide +kernel
theorem dX11_twoAt_16 : decode cX11_twoAt 16 = .ok (.invokevirtual 151, 3) := by decide +kernel
theorem dX11_twoAt_19 : decode cX11_twoAt 19 = .ok (.ifCond .ne 5, 3) := by decide +kernel
theorem dX11_twoAt_22 : decode cX11_twoAt 22 = .ok (.iconst 0, 1) := by decide +kernel
theorem dX11_twoAt_23 : decode cX11_twoAt 23 = .ok (.ireturn, 1) := by decide +kernel
theorem dX11_twoAt_24 : decode cX11_twoAt 24 = .ok (.aload_n 0, 1) := by decide +kernel
theorem dX11_twoAt_25 : decode cX11_twoAt 25 = .ok (.iconst 2, 1) := by decide +kernel
theorem dX11_twoAt_26 : decode cX11_twoAt 26 = .ok (.invokevirtual 233, 3) := by decide +kernel
theorem dX11_twoAt_29 : decode cX11_twoAt 29 = .ok (.aload_n 0, 1) := by decide +kernel
theorem dX11_twoAt_30 : decode cX11_twoAt 30 = .ok (.getfield 49, 3) := by decide +kernel
theorem dX11_twoAt_33 : decode cX11_twoAt 33 = .ok (.iload_n 1, 1) := by decide +kernel
theorem dX11_twoAt_34 : decode cX11_twoAt 34 = .ok (.iaload, 1) := by decide +kernel
theorem dX11_twoAt_35 : decode cX11_twoAt 35 = .ok (.ireturn, 1) := by decide +kernel
theorem dX11_nextRow_0 : decode cX11_nextRow 0 = .ok (.aload_n 0, 1) := by decide +kernel
theorem dX11_nextRow_1 : decode cX11_nextRow 1 = .ok (.getfield 9, 3) := by decide +kernel
theorem dX11_nextRow_4 : decode cX11_nextRow 4 = .ok (.iconst 0, 1) := by decide +kernel
theorem dX11_nextRow_5 : decode cX11_nextRow 5 = .ok (.iaload, 1) := by decide +kernel
theorem dX11_nextRow_6 : decode cX11_nextRow 6 = .ok (.istore_n 1, 1) := by decide +kernel
theorem dX11_nextRow_7 : decode cX11_nextRow 7 = .ok (.iload_n 1, 1) := by decide +kernel
theorem dX11_nextRow_8 : decode cX11_nextRow 8 = .ok (.iconst 2, 1) := by decide +kernel
theorem dX11_nextRow_9 : decode cX11_nextRow 9 = .ok (.isub, 1) := by decide +kernel
theorem dX11_nextRow_10 : decode cX11_nextRow 10 = .ok (.istore_n 2, 1) := by decide +kernel
theorem dX11_nextRow_11 : decode cX11_nextRow 11 = .ok (.iload_n 2, 1) := by decide +kernel
theorem dX11_nextRow_12 : decode cX11_nextRow 12 = .ok (.ifCond .lt 26, 3) := by decide +kernel
theorem dX11_nextRow_15 : decode cX11_nextRow 15 = .ok (.aload_n 0, 1) := by decide +kernel
theorem dX11_nextRow_16 : decode cX11_nextRow 16 = .ok (.getfield 49, 3) := by decide +kernel
theorem dX11_nextRow_19 : decode cX11_nextRow 19 = .ok (.iload_n 2, 1) := by decide +kernel
theorem dX11_nextRow_20 : decode cX11_nextRow 20 = .ok (.iaload, 1) := by decide +kernel
theorem dX11_nextRow_21 : decode cX11_nextRow 21 = .ok (.aload_n 0, 1) := by decide +kernel
theorem dX11_nextRow_22 : decode cX11_nextRow 22 = .ok (.getfield 49, 3) := by decide +kernel
theorem dX11_nextRow_25 : decode cX11_nextRow 25 = .ok (.iload_n 2, 1) := by decide +kernel
theorem dX11_nextRow_26 : decode cX11_nextRow 26 = .ok (.iconst 1, 1) := by decide +kernel
theorem dX11_nextRow_27 : decode cX11_nextRow 27 = .ok (.iadd, 1) := by decide +kernel
theorem dX11_nextRow_28 : decode cX11_nextRow 28 = .ok (.iaload, 1) := by decide +kernel
theorem dX11_nextRow_29 : decode cX11_nextRow 29 = .ok (.if_icmp .le 9, 3) := by decide +kernel
theorem dX11_nextRow_32 : decode cX11_nextRow 32 = .ok (.iinc 2 (-1), 3) := by decide +kernel
theorem dX11_nextRow_35 : decode cX11_nextRow 35 = .ok (.goto (-24), 3) := by decide +kernel
theorem dX11_nextRow_38 : decode cX11_nextRow 38 = .ok (.iload_n 2, 1) := by decide +kernel
theorem dX11_nextRow_39 : decode cX11_nextRow 39 = .ok (.ifCond .ge 5, 3) := by decide +kernel
theorem dX11_nextRow_42 : decode cX11_nextRow 42 = .ok (.iconst 0, 1) := by decide +kernel
theorem dX11_nextRow_43 : decode cX11_nextRow 43 = .ok (.ireturn, 1) := by decide +kernel
theorem dX11_nextRow_44 : decode cX11_nextRow 44 = .ok (.iload_n 1, 1) := by decide +kernel
theorem dX11_nextRow_45 : decode cX11_nextRow 45 = .ok (.iconst 1, 1) := by decide +kernel
theorem dX11_nextRow_46 : decode cX11_nextRow 46 = .ok (.isub, 1) := by decide +kernel
theorem dX11_nextRow_47 : decode cX11_nextRow 47 = .ok (.istore_n 3, 1) := by decide +kernel
theorem dX11_nextRow_48 : decode cX11_nextRow 48 = .ok (.aload_n 0, 1) := by decide +kernel
theorem dX11_nextRow_49 : decode cX11_nextRow 49 = .ok (.getfield 49, 3) := by decide +kernel
theorem dX11_nextRow_52 : decode cX11_nextRow 52 = .ok (.iload_n 3, 1) := by decide +kernel
theorem dX11_nextRow_53 : decode cX11_nextRow 53 = .ok (.iaload, 1) := by decide +kernel
theorem dX11_nextRow_54 : decode cX11_nextRow 54 = .ok (.aload_n 0, 1) := by decide +kernel
theorem dX11_nextRow_55 : decode cX11_nextRow 55 = .ok (.getfield 49, 3) := by decide +kernel
theorem dX11_nextRow_58 : decode cX11_nextRow 58 = .ok (.iload_n 2, 1) := by decide +kernel
theorem dX11_nextRow_59 : decode cX11_nextRow 59 = .ok (.iaload, 1) := by decide +kernel
theorem dX11_nextRow_60 : decode cX11_nextRow 60 = .ok (.if_icmp .ge 9, 3) := by decide +kernel
theorem dX11_nextRow_63 : decode cX11_nextRow 63 = .ok (.iinc 3 (-1), 3) := by decide +kernel
theorem dX11_nextRow_66 : decode cX11_nextRow 66 = .ok (.goto (-18), 3) := by decide +kernel
theorem dX11_nextRow_69 : decode cX11_nextRow 69 = .ok (.aload_n 0, 1) := by decide +kernel
theorem dX11_nextRow_70 : decode cX11_nextRow 70 = .ok (.iload_n 2, 1) := by decide +kernel
theorem dX11_nextRow_71 : decode cX11_nextRow 71 = .ok (.iload_n 3, 1) := by decide +kernel
theorem dX11_nextRow_72 : decode cX11_nextRow 72 = .ok (.invokevirtual 239, 3) := by decide +kernel
theorem dX11_nextRow_75 : decode cX11_nextRow 75 = .ok (.iload_n 2, 1) := by decide +kernel
theorem dX11_nextRow_76 : decode cX11_nextRow 76 = .ok (.iconst 1, 1) := by decide +kernel
theorem dX11_nextRow_77 : decode cX11_nextRow 77 = .ok (.iadd, 1) := by decide +kernel
theorem dX11_nextRow_78 : decode cX11_nextRow 78 = .ok (.istore 4, 2) := by decide +kernel
theorem dX11_nextRow_80 : decode cX11_nextRow 80 = .ok (.iload_n 1, 1) := by decide +kernel
theorem dX11_nextRow_81 : decode cX11_nextRow 81 = .ok (.iconst 1, 1) := by decide +kernel
theorem dX11_nextRow_82 : decode cX11_nextRow 82 = .ok (.isub, 1) := by decide +kernel
theorem dX11_nextRow_83 : decode cX11_nextRow 83 = .ok (.istore 5, 2) := by decide +kernel
theorem dX11_nextRow_85 : decode cX11_nextRow 85 = .ok (.iload 4, 2) := by decide +kernel
theorem dX11_nextRow_87 : decode cX11_nextRow 87 = .ok (.iload 5, 2) := by decide +kernel
theorem dX11_nextRow_89 : decode cX11_nextRow 89 = .ok (.if_icmp .ge 20, 3) := by decide +kernel
theorem dX11_nextRow_92 : decode cX11_nextRow 92 = .ok (.aload_n 0, 1) := by decide +kernel
theorem dX11_nextRow_93 : decode cX11_nextRow 93 = .ok (.iload 4, 2) := by decide +kernel
theorem dX11_nextRow_95 : decode cX11_nextRow 95 = .ok (.iload 5, 2) := by decide +kernel
theorem dX11_nextRow_97 : decode cX11_nextRow 97 = .ok (.invokevirtual 239, 3) := by decide +kernel
theorem dX11_nextRow_100 : decode cX11_nextRow 100 = .ok (.iinc 4 1, 3) := by decide +kernel
theorem dX11_nextRow_103 : decode cX11_nextRow 103 = .ok (.iinc 5 (-1), 3) := by decide +kernel
theorem dX11_nextRow_106 : decode cX11_nextRow 106 = .ok (.goto (-21), 3) := by decide +kernel
theorem dX11_nextRow_109 : decode cX11_nextRow 109 = .ok (.iconst 1, 1) := by decide +kernel
theorem dX11_nextRow_110 : decode cX11_nextRow 110 = .ok (.ireturn, 1) := by decide +kernel
theorem dX11_turns_0 : decode cX11_turns 0 = .ok (.aload_n 0, 1) := by decide +kernel
theorem dX11_turns_1 : decode cX11_turns 1 = .ok (.getfield 49, 3) := by decide +kernel
theorem dX11_turns_4 : decode cX11_turns 4 = .ok (.iload_n 1, 1) := by decide +kernel
theorem dX11_turns_5 : decode cX11_turns 5 = .ok (.iaload, 1) := by decide +kernel
theorem dX11_turns_6 : decode cX11_turns 6 = .ok (.istore_n 3, 1) := by decide +kernel
theorem dX11_turns_7 : decode cX11_turns 7 = .ok (.aload_n 0, 1) := by decide +kernel
theorem dX11_turns_8 : decode cX11_turns 8 = .ok (.getfield 49, 3) := by decide +kernel
theorem dX11_turns_11 : decode cX11_turns 11 = .ok (.iload_n 1, 1) := by decide +kernel
theorem dX11_turns_12 : decode cX11_turns 12 = .ok (.aload_n 0, 1) := by decide +kernel
theorem dX11_turns_13 : decode cX11_turns 13 = .ok (.getfield 49, 3) := by decide +kernel
theorem dX11_turns_16 : decode cX11_turns 16 = .ok (.iload_n 2, 1) := by decide +kernel
theorem dX11_turns_17 : decode cX11_turns 17 = .ok (.iaload, 1) := by decide +kernel
theorem dX11_turns_18 : decode cX11_turns 18 = .ok (.iastore, 1) := by decide +kernel
theorem dX11_turns_19 : decode cX11_turns 19 = .ok (.aload_n 0, 1) := by decide +kernel
theorem dX11_turns_20 : decode cX11_turns 20 = .ok (.getfield 49, 3) := by decide +kernel
theorem dX11_turns_23 : decode cX11_turns 23 = .ok (.iload_n 2, 1) := by decide +kernel
theorem dX11_turns_24 : decode cX11_turns 24 = .ok (.iload_n 3, 1) := by decide +kernel
theorem dX11_turns_25 : decode cX11_turns 25 = .ok (.iastore, 1) := by decide +kernel
theorem dX11_turns_26 : decode cX11_turns 26 = .ok (.return_, 1) := by decide +kernel
theorem dX11_setup_0 : decode cX11_setup 0 = .ok (.iconst (-1), 1) := by decide +kernel
theorem dX11_setup_1 : decode cX11_setup 1 = .ok (.istore_n 1, 1) := by decide +kernel
theorem dX11_setup_2 : decode cX11_setup 2 = .ok (.iconst 0, 1) := by decide +kernel
theorem dX11_setup_3 : decode cX11_setup 3 = .ok (.istore_n 2, 1) := by decide +kernel
theorem dX11_setup_4 : decode cX11_setup 4 = .ok (.iload_n 2, 1) := by decide +kernel
theorem dX11_setup_5 : decode cX11_setup 5 = .ok (.aload_n 0, 1) := by decide +kernel
theorem dX11_setup_6 : decode cX11_setup 6 = .ok (.getfield 9, 3) := by decide +kernel
theorem dX11_setup_9 : decode cX11_setup 9 = .ok (.iconst 0, 1) := by decide +kernel
theorem dX11_setup_10 : decode cX11_setup 10 = .ok (.iaload, 1) := by decide +kernel
theorem dX11_setup_11 : decode cX11_setup 11 = .ok (.if_icmp .ge 16, 3) := by decide +kernel
theorem dX11_setup_14 : decode cX11_setup 14 = .ok (.aload_n 0, 1) := by decide +kernel
theorem dX11_setup_15 : decode cX11_setup 15 = .ok (.getfield 49, 3) := by decide +kernel
theorem dX11_setup_18 : decode cX11_setup 18 = .ok (.iload_n 2, 1) := by decide +kernel
theorem dX11_setup_19 : decode cX11_setup 19 = .ok (.iload_n 2, 1) := by decide +kernel
theorem dX11_setup_20 : decode cX11_setup 20 = .ok (.iastore, 1) := by decide +kernel
theorem dX11_setup_21 : decode cX11_setup 21 = .ok (.iinc 2 1, 3) := by decide +kernel
theorem dX11_setup_24 : decode cX11_setup 24 = .ok (.goto (-20), 3) := by decide +kernel
theorem dX11_setup_27 : decode cX11_setup 27 = .ok (.iconst 1, 1) := by decide +kernel
theorem dX11_setup_28 : decode cX11_setup 28 = .ok (.istore_n 2, 1) := by decide +kernel
theorem dX11_setup_29 : decode cX11_setup 29 = .ok (.iload_n 2, 1) := by decide +kernel
theorem dX11_setup_30 : decode cX11_setup 30 = .ok (.ifCond .eq 100, 3) := by decide +kernel
theorem dX11_setup_33 : decode cX11_setup 33 = .ok (.iconst 0, 1) := by decide +kernel
theorem dX11_setup_34 : decode cX11_setup 34 = .ok (.istore_n 3, 1) := by decide +kernel
theorem dX11_setup_35 : decode cX11_setup 35 = .ok (.iconst 1, 1) := by decide +kernel
theorem dX11_setup_36 : decode cX11_setup 36 = .ok (.istore 4, 2) := by decide +kernel
theorem dX11_setup_38 : decode cX11_setup 38 = .ok (.iload 4, 2) := by decide +kernel
theorem dX11_setup_40 : decode cX11_setup 40 = .ok (.aload_n 0, 1) := by decide +kernel
theorem dX11_setup_41 : decode cX11_setup 41 = .ok (.getfield 9, 3) := by decide +kernel
theorem dX11_setup_44 : decode cX11_setup 44 = .ok (.iconst 0, 1) := by decide +kernel
theorem dX11_setup_45 : decode cX11_setup 45 = .ok (.iaload, 1) := by decide +kernel
theorem dX11_setup_46 : decode cX11_setup 46 = .ok (.if_icmp .ge 49, 3) := by decide +kernel
theorem dX11_setup_49 : decode cX11_setup 49 = .ok (.iload_n 3, 1) := by decide +kernel
theorem dX11_setup_50 : decode cX11_setup 50 = .ok (.aload_n 0, 1) := by decide +kernel
theorem dX11_setup_51 : decode cX11_setup 51 = .ok (.getfield 9, 3) := by decide +kernel
theorem dX11_setup_54 : decode cX11_setup 54 = .ok (.bipush 45, 2) := by decide +kernel
theorem dX11_setup_56 : decode cX11_setup 56 = .ok (.iconst 4, 1) := by decide +kernel
theorem dX11_setup_57 : decode cX11_setup 57 = .ok (.aload_n 0, 1) := by decide +kernel
theorem dX11_setup_58 : decode cX11_setup 58 = .ok (.aload_n 0, 1) := by decide +kernel
theorem dX11_setup_59 : decode cX11_setup 59 = .ok (.getfield 49, 3) := by decide +kernel
theorem dX11_setup_62 : decode cX11_setup 62 = .ok (.iload 4, 2) := by decide +kernel
theorem dX11_setup_64 : decode cX11_setup 64 = .ok (.iconst 1, 1) := by decide +kernel
theorem dX11_setup_65 : decode cX11_setup 65 = .ok (.isub, 1) := by decide +kernel
theorem dX11_setup_66 : decode cX11_setup 66 = .ok (.iaload, 1) := by decide +kernel
theorem dX11_setup_67 : decode cX11_setup 67 = .ok (.iconst 3, 1) := by decide +kernel
theorem dX11_setup_68 : decode cX11_setup 68 = .ok (.invokevirtual 73, 3) := by decide +kernel
theorem dX11_setup_71 : decode cX11_setup 71 = .ok (.imul, 1) := by decide +kernel
theorem dX11_setup_72 : decode cX11_setup 72 = .ok (.iadd, 1) := by decide +kernel
theorem dX11_setup_73 : decode cX11_setup 73 = .ok (.aload_n 0, 1) := by decide +kernel
theorem dX11_setup_74 : decode cX11_setup 74 = .ok (.aload_n 0, 1) := by decide +kernel
theorem dX11_setup_75 : decode cX11_setup 75 = .ok (.getfield 49, 3) := by decide +kernel
theorem dX11_setup_78 : decode cX11_setup 78 = .ok (.iload 4, 2) := by decide +kernel
theorem dX11_setup_80 : decode cX11_setup 80 = .ok (.iaload, 1) := by decide +kernel
theorem dX11_setup_81 : decode cX11_setup 81 = .ok (.iconst 3, 1) := by decide +kernel
theorem dX11_setup_82 : decode cX11_setup 82 = .ok (.invokevirtual 73, 3) := by decide +kernel
theorem dX11_setup_85 : decode cX11_setup 85 = .ok (.iadd, 1) := by decide +kernel
theorem dX11_setup_86 : decode cX11_setup 86 = .ok (.iaload, 1) := by decide +kernel
theorem dX11_setup_87 : decode cX11_setup 87 = .ok (.iadd, 1) := by decide +kernel
theorem dX11_setup_88 : decode cX11_setup 88 = .ok (.istore_n 3, 1) := by decide +kernel
theorem dX11_setup_89 : decode cX11_setup 89 = .ok (.iinc 4 1, 3) := by decide +kernel
theorem dX11_setup_92 : decode cX11_setup 92 = .ok (.goto (-54), 3) := by decide +kernel
theorem dX11_setup_95 : decode cX11_setup 95 = .ok (.iload_n 1, 1) := by decide +kernel
theorem dX11_setup_96 : decode cX11_setup 96 = .ok (.iconst (-1), 1) := by decide +kernel
theorem dX11_setup_97 : decode cX11_setup 97 = .ok (.if_icmp .eq 8, 3) := by decide +kernel
theorem dX11_setup_100 : decode cX11_setup 100 = .ok (.iload_n 3, 1) := by decide +kernel
theorem dX11_setup_101 : decode cX11_setup 101 = .ok (.iload_n 1, 1) := by decide +kernel
theorem dX11_setup_102 : decode cX11_setup 102 = .ok (.if_icmp .ge 20, 3) := by decide +kernel
theorem dX11_setup_105 : decode cX11_setup 105 = .ok (.iload_n 3, 1) := by decide +kernel
theorem dX11_setup_106 : decode cX11_setup 106 = .ok (.istore_n 1, 1) := by decide +kernel
theorem dX11_setup_107 : decode cX11_setup 107 = .ok (.aload_n 0, 1) := by decide +kernel
theorem dX11_setup_108 : decode cX11_setup 108 = .ok (.getfield 49, 3) := by decide +kernel
theorem dX11_setup_111 : decode cX11_setup 111 = .ok (.iconst 0, 1) := by decide +kernel
theorem dX11_setup_112 : decode cX11_setup 112 = .ok (.aload_n 0, 1) := by decide +kernel
theorem dX11_setup_113 : decode cX11_setup 113 = .ok (.getfield 52, 3) := by decide +kernel
theorem dX11_setup_116 : decode cX11_setup 116 = .ok (.iconst 0, 1) := by decide +kernel
theorem dX11_setup_117 : decode cX11_setup 117 = .ok (.bipush 6, 2) := by decide +kernel
theorem dX11_setup_119 : decode cX11_setup 119 = .ok (.invokestatic 135, 3) := by decide +kernel
theorem dX11_setup_122 : decode cX11_setup 122 = .ok (.aload_n 0, 1) := by decide +kernel
theorem dX11_setup_123 : decode cX11_setup 123 = .ok (.invokevirtual 242, 3) := by decide +kernel
theorem dX11_setup_126 : decode cX11_setup 126 = .ok (.istore_n 2, 1) := by decide +kernel
theorem dX11_setup_127 : decode cX11_setup 127 = .ok (.goto (-98), 3) := by decide +kernel
theorem dX11_setup_130 : decode cX11_setup 130 = .ok (.iload_n 1, 1) := by decide +kernel
theorem dX11_setup_131 : decode cX11_setup 131 = .ok (.ireturn, 1) := by decide +kernel
theorem dX11_leastSetup_0 : decode cX11_leastSetup 0 = .ok (.aload_n 0, 1) := by decide +kernel
theorem dX11_leastSetup_1 : decode cX11_leastSetup 1 = .ok (.iconst 0, 1) := by decide +kernel
theorem dX11_leastSetup_2 : decode cX11_leastSetup 2 = .ok (.putfield 69, 3) := by decide +kernel
theorem dX11_leastSetup_5 : decode cX11_leastSetup 5 = .ok (.aload_n 0, 1) := by decide +kernel
theorem dX11_leastSetup_6 : decode cX11_leastSetup 6 = .ok (.invokevirtual 245, 3) := by decide +kernel
theorem dX11_leastSetup_9 : decode cX11_leastSetup 9 = .ok (.ireturn, 1) := by decide +kernel
theorem dX11_setupAt_0 : decode cX11_setupAt 0 = .ok (.aload_n 0, 1) := by decide +kernel
theorem dX11_setupAt_1 : decode cX11_setupAt 1 = .ok (.iload_n 1, 1) := by decide +kernel
theorem dX11_setupAt_2 : decode cX11_setupAt 2 = .ok (.iconst 0, 1) := by decide +kernel
theorem dX11_setupAt_3 : decode cX11_setupAt 3 = .ok (.aload_n 0, 1) := by decide +kernel
theorem dX11_setupAt_4 : decode cX11_setupAt 4 = .ok (.getfield 9, 3) := by decide +kernel
theorem dX11_setupAt_7 : decode cX11_setupAt 7 = .ok (.iconst 0, 1) := by decide +kernel
theorem dX11_setupAt_8 : decode cX11_setupAt 8 = .ok (.iaload, 1) := by decide +kernel
theorem dX11_setupAt_9 : decode cX11_setupAt 9 = .ok (.iconst 1, 1) := by decide +kernel
theorem dX11_setupAt_10 : decode cX11_setupAt 10 = .ok (.isub, 1) := by decide +kernel
theorem dX11_setupAt_11 : decode cX11_setupAt 11 = .ok (.invokestatic 83, 3) := by decide +kernel
theorem dX11_setupAt_14 : decode cX11_setupAt 14 = .ok (.iconst 1, 1) := by decide +kernel
theorem dX11_setupAt_15 : decode cX11_setupAt 15 = .ok (.iconst 1, 1) := by decide +kernel
theorem dX11_setupAt_16 : decode cX11_setupAt 16 = .ok (.invokevirtual 151, 3) := by decide +kernel
theorem dX11_setupAt_19 : decode cX11_setupAt 19 = .ok (.ifCond .ne 5, 3) := by decide +kernel
theorem dX11_setupAt_22 : decode cX11_setupAt 22 = .ok (.iconst 0, 1) := by decide +kernel
theorem dX11_setupAt_23 : decode cX11_setupAt 23 = .ok (.ireturn, 1) := by decide +kernel
theorem dX11_setupAt_24 : decode cX11_setupAt 24 = .ok (.aload_n 0, 1) := by decide +kernel
theorem dX11_setupAt_25 : decode cX11_setupAt 25 = .ok (.invokevirtual 245, 3) := by decide +kernel
theorem dX11_setupAt_28 : decode cX11_setupAt 28 = .ok (.istore_n 2, 1) := by decide +kernel
theorem dX11_setupAt_29 : decode cX11_setupAt 29 = .ok (.aload_n 0, 1) := by decide +kernel
theorem dX11_setupAt_30 : decode cX11_setupAt 30 = .ok (.getfield 52, 3) := by decide +kernel
theorem dX11_setupAt_33 : decode cX11_setupAt 33 = .ok (.iload_n 1, 1) := by decide +kernel
theorem dX11_setupAt_34 : decode cX11_setupAt 34 = .ok (.iaload, 1) := by decide +kernel
theorem dX11_setupAt_35 : decode cX11_setupAt 35 = .ok (.ireturn, 1) := by decide +kernel
theorem dX11_matches_0 : decode cX11_matches 0 = .ok (.iconst (-1), 1) := by decide +kernel
theorem dX11_matches_1 : decode cX11_matches 1 = .ok (.istore_n 2, 1) := by decide +kernel
theorem dX11_matches_2 : decode cX11_matches 2 = .ok (.iconst 0, 1) := by decide +kernel
theorem dX11_matches_3 : decode cX11_matches 3 = .ok (.istore_n 3, 1) := by decide +kernel
theorem dX11_matches_4 : decode cX11_matches 4 = .ok (.iload_n 3, 1) := by decide +kernel
theorem dX11_matches_5 : decode cX11_matches 5 = .ok (.sipush 2401, 3) := by decide +kernel
theorem dX11_matches_8 : decode cX11_matches 8 = .ok (.if_icmp .ge 175, 3) := by decide +kernel
theorem dX11_matches_11 : decode cX11_matches 11 = .ok (.iconst 0, 1) := by decide +kernel
theorem dX11_matches_12 : decode cX11_matches 12 = .ok (.istore 4, 2) := by decide +kernel
theorem dX11_matches_14 : decode cX11_matches 14 = .ok (.iconst 0, 1) := by decide +kernel
theorem dX11_matches_15 : decode cX11_matches 15 = .ok (.istore 5, 2) := by decide +kernel
theorem dX11_matches_17 : decode cX11_matches 17 = .ok (.iconst 1, 1) := by decide +kernel
theorem dX11_matches_18 : decode cX11_matches 18 = .ok (.istore 6, 2) := by decide +kernel
theorem dX11_matches_20 : decode cX11_matches 20 = .ok (.iconst 0, 1) := by decide +kernel
theorem dX11_matches_21 : decode cX11_matches 21 = .ok (.istore 7, 2) := by decide +kernel
theorem dX11_matches_23 : decode cX11_matches 23 = .ok (.iload 7, 2) := by decide +kernel
theorem dX11_matches_25 : decode cX11_matches 25 = .ok (.iconst 4, 1) := by decide +kernel
theorem dX11_matches_26 : decode cX11_matches 26 = .ok (.if_icmp .ge 91, 3) := by decide +kernel
theorem dX11_matches_29 : decode cX11_matches 29 = .ok (.iload 6, 2) := by decide +kernel
theorem dX11_matches_31 : decode cX11_matches 31 = .ok (.ifCond .eq 86, 3) := by decide +kernel
theorem dX11_matches_34 : decode cX11_matches 34 = .ok (.iload_n 3, 1) := by decide +kernel
theorem dX11_matches_35 : decode cX11_matches 35 = .ok (.iload 7, 2) := by decide +kernel
theorem dX11_matches_37 : decode cX11_matches 37 = .ok (.invokestatic 248, 3) := by decide +kernel
theorem dX11_matches_40 : decode cX11_matches 40 = .ok (.istore 8, 2) := by decide +kernel
theorem dX11_matches_42 : decode cX11_matches 42 = .ok (.iload 8, 2) := by decide +kernel
theorem dX11_matches_44 : decode cX11_matches 44 = .ok (.bipush 6, 2) := by decide +kernel
theorem dX11_matches_46 : decode cX11_matches 46 = .ok (.if_icmp .ne 6, 3) := by decide +kernel
theorem dX11_matches_49 : decode cX11_matches 49 = .ok (.goto 62, 3) := by decide +kernel
theorem dX11_matches_52 : decode cX11_matches 52 = .ok (.iload_n 1, 1) := by decide +kernel
theorem dX11_matches_53 : decode cX11_matches 53 = .ok (.iload 7, 2) := by decide +kernel
theorem dX11_matches_55 : decode cX11_matches 55 = .ok (.ishr, 1) := by decide +kernel
theorem dX11_matches_56 : decode cX11_matches 56 = .ok (.iconst 1, 1) := by decide +kernel
theorem dX11_matches_57 : decode cX11_matches 57 = .ok (.iand, 1) := by decide +kernel
theorem dX11_matches_58 : decode cX11_matches 58 = .ok (.iconst 1, 1) := by decide +kernel
theorem dX11_matches_59 : decode cX11_matches 59 = .ok (.if_icmp .ne 37, 3) := by decide +kernel
theorem dX11_matches_62 : decode cX11_matches 62 = .ok (.aload_n 0, 1) := by decide +kernel
theorem dX11_matches_63 : decode cX11_matches 63 = .ok (.getfield 9, 3) := by decide +kernel
theorem dX11_matches_66 : decode cX11_matches 66 = .ok (.sipush 276, 3) := by decide +kernel
theorem dX11_matches_69 : decode cX11_matches 69 = .ok (.iload 8, 2) := by decide +kernel
theorem dX11_matches_71 : decode cX11_matches 71 = .ok (.iadd, 1) := by decide +kernel
theorem dX11_matches_72 : decode cX11_matches 72 = .ok (.iaload, 1) := by decide +kernel
theorem dX11_matches_73 : decode cX11_matches 73 = .ok (.iload 7, 2) := by decide +kernel
theorem dX11_matches_75 : decode cX11_matches 75 = .ok (.ishr, 1) := by decide +kernel
theorem dX11_matches_76 : decode cX11_matches 76 = .ok (.iconst 1, 1) := by decide +kernel
theorem dX11_matches_77 : decode cX11_matches 77 = .ok (.iand, 1) := by decide +kernel
theorem dX11_matches_78 : decode cX11_matches 78 = .ok (.iconst 1, 1) := by decide +kernel
theorem dX11_matches_79 : decode cX11_matches 79 = .ok (.if_icmp .ne 17, 3) := by decide +kernel
theorem dX11_matches_82 : decode cX11_matches 82 = .ok (.iload 5, 2) := by decide +kernel
theorem dX11_matches_84 : decode cX11_matches 84 = .ok (.iload 8, 2) := by decide +kernel
theorem dX11_matches_86 : decode cX11_matches 86 = .ok (.ishr, 1) := by decide +kernel
theorem dX11_matches_87 : decode cX11_matches 87 = .ok (.iconst 1, 1) := by decide +kernel
theorem dX11_matches_88 : decode cX11_matches 88 = .ok (.iand, 1) := by decide +kernel
theorem dX11_matches_89 : decode cX11_matches 89 = .ok (.ifCond .ne 7, 3) := by decide +kernel
theorem dX11_matches_92 : decode cX11_matches 92 = .ok (.iconst 1, 1) := by decide +kernel
theorem dX11_matches_93 : decode cX11_matches 93 = .ok (.goto 4, 3) := by decide +kernel
theorem dX11_matches_96 : decode cX11_matches 96 = .ok (.iconst 0, 1) := by decide +kernel
theorem dX11_matches_97 : decode cX11_matches 97 = .ok (.istore 6, 2) := by decide +kernel
theorem dX11_matches_99 : decode cX11_matches 99 = .ok (.iload 5, 2) := by decide +kernel
theorem dX11_matches_101 : decode cX11_matches 101 = .ok (.iconst 1, 1) := by decide +kernel
theorem dX11_matches_102 : decode cX11_matches 102 = .ok (.iload 8, 2) := by decide +kernel
theorem dX11_matches_104 : decode cX11_matches 104 = .ok (.ishl, 1) := by decide +kernel
theorem dX11_matches_105 : decode cX11_matches 105 = .ok (.ior, 1) := by decide +kernel
theorem dX11_matches_106 : decode cX11_matches 106 = .ok (.istore 5, 2) := by decide +kernel
theorem dX11_matches_108 : decode cX11_matches 108 = .ok (.iinc 4 1, 3) := by decide +kernel
theorem dX11_matches_111 : decode cX11_matches 111 = .ok (.iinc 7 1, 3) := by decide +kernel
theorem dX11_matches_114 : decode cX11_matches 114 = .ok (.goto (-91), 3) := by decide +kernel
theorem dX11_matches_117 : decode cX11_matches 117 = .ok (.iload 6, 2) := by decide +kernel
theorem dX11_matches_119 : decode cX11_matches 119 = .ok (.ifCond .eq 58, 3) := by decide +kernel
theorem dX11_matches_122 : decode cX11_matches 122 = .ok (.iload 4, 2) := by decide +kernel
theorem dX11_matches_124 : decode cX11_matches 124 = .ok (.iload_n 2, 1) := by decide +kernel
theorem dX11_matches_125 : decode cX11_matches 125 = .ok (.if_icmp .gt 6, 3) := by decide +kernel
theorem dX11_matches_128 : decode cX11_matches 128 = .ok (.goto 49, 3) := by decide +kernel
theorem dX11_matches_131 : decode cX11_matches 131 = .ok (.iload 4, 2) := by decide +kernel
theorem dX11_matches_133 : decode cX11_matches 133 = .ok (.istore_n 2, 1) := by decide +kernel
theorem dX11_matches_134 : decode cX11_matches 134 = .ok (.iconst 0, 1) := by decide +kernel
theorem dX11_matches_135 : decode cX11_matches 135 = .ok (.istore 7, 2) := by decide +kernel
theorem dX11_matches_137 : decode cX11_matches 137 = .ok (.iload 7, 2) := by decide +kernel
theorem dX11_matches_139 : decode cX11_matches 139 = .ok (.iconst 4, 1) := by decide +kernel
theorem dX11_matches_140 : decode cX11_matches 140 = .ok (.if_icmp .ge 37, 3) := by decide +kernel
theorem dX11_matches_143 : decode cX11_matches 143 = .ok (.aload_n 0, 1) := by decide +kernel
theorem dX11_matches_144 : decode cX11_matches 144 = .ok (.getfield 55, 3) := by decide +kernel
theorem dX11_matches_147 : decode cX11_matches 147 = .ok (.iload 7, 2) := by decide +kernel
theorem dX11_matches_149 : decode cX11_matches 149 = .ok (.iload_n 3, 1) := by decide +kernel
theorem dX11_matches_150 : decode cX11_matches 150 = .ok (.iload 7, 2) := by decide +kernel
theorem dX11_matches_152 : decode cX11_matches 152 = .ok (.invokestatic 248, 3) := by decide +kernel
theorem dX11_matches_155 : decode cX11_matches 155 = .ok (.bipush 6, 2) := by decide +kernel
theorem dX11_matches_157 : decode cX11_matches 157 = .ok (.if_icmp .ne 7, 3) := by decide +kernel
theorem dX11_matches_160 : decode cX11_matches 160 = .ok (.iconst (-1), 1) := by decide +kernel
theorem dX11_matches_161 : decode cX11_matches 161 = .ok (.goto 9, 3) := by decide +kernel
theorem dX11_matches_164 : decode cX11_matches 164 = .ok (.iload_n 3, 1) := by decide +kernel
theorem dX11_matches_165 : decode cX11_matches 165 = .ok (.iload 7, 2) := by decide +kernel
theorem dX11_matches_167 : decode cX11_matches 167 = .ok (.invokestatic 248, 3) := by decide +kernel
theorem dX11_matches_170 : decode cX11_matches 170 = .ok (.iastore, 1) := by decide +kernel
theorem dX11_matches_171 : decode cX11_matches 171 = .ok (.iinc 7 1, 3) := by decide +kernel
theorem dX11_matches_174 : decode cX11_matches 174 = .ok (.goto (-37), 3) := by decide +kernel
theorem dX11_matches_177 : decode cX11_matches 177 = .ok (.iinc 3 1, 3) := by decide +kernel
theorem dX11_matches_180 : decode cX11_matches 180 = .ok (.goto (-176), 3) := by decide +kernel
theorem dX11_matches_183 : decode cX11_matches 183 = .ok (.iload_n 2, 1) := by decide +kernel
theorem dX11_matches_184 : decode cX11_matches 184 = .ok (.ireturn, 1) := by decide +kernel
theorem dX11_workerIn_0 : decode cX11_workerIn 0 = .ok (.iload_n 0, 1) := by decide +kernel
theorem dX11_workerIn_1 : decode cX11_workerIn 1 = .ok (.istore_n 2, 1) := by decide +kernel
theorem dX11_workerIn_2 : decode cX11_workerIn 2 = .ok (.iload_n 1, 1) := by decide +kernel
theorem dX11_workerIn_3 : decode cX11_workerIn 3 = .ok (.istore_n 3, 1) := by decide +kernel
theorem dX11_workerIn_4 : decode cX11_workerIn 4 = .ok (.iload_n 3, 1) := by decide +kernel
theorem dX11_workerIn_5 : decode cX11_workerIn 5 = .ok (.iconst 3, 1) := by decide +kernel
theorem dX11_workerIn_6 : decode cX11_workerIn 6 = .ok (.if_icmp .ge 14, 3) := by decide +kernel
theorem dX11_workerIn_9 : decode cX11_workerIn 9 = .ok (.iload_n 2, 1) := by decide +kernel
theorem dX11_workerIn_10 : decode cX11_workerIn 10 = .ok (.bipush 7, 2) := by decide +kernel
theorem dX11_workerIn_12 : decode cX11_workerIn 12 = .ok (.idiv, 1) := by decide +kernel
theorem dX11_workerIn_13 : decode cX11_workerIn 13 = .ok (.istore_n 2, 1) := by decide +kernel
theorem dX11_workerIn_14 : decode cX11_workerIn 14 = .ok (.iinc 3 1, 3) := by decide +kernel
theorem dX11_workerIn_17 : decode cX11_workerIn 17 = .ok (.goto (-13), 3) := by decide +kernel
theorem dX11_workerIn_20 : decode cX11_workerIn 20 = .ok (.iload_n 2, 1) := by decide +kernel
theorem dX11_workerIn_21 : decode cX11_workerIn 21 = .ok (.bipush 7, 2) := by decide +kernel
theorem dX11_workerIn_23 : decode cX11_workerIn 23 = .ok (.irem, 1) := by decide +kernel
theorem dX11_workerIn_24 : decode cX11_workerIn 24 = .ok (.ireturn, 1) := by decide +kernel
theorem dX11_match_0 : decode cX11_match 0 = .ok (.aload_n 0, 1) := by decide +kernel
theorem dX11_match_1 : decode cX11_match 1 = .ok (.iload_n 1, 1) := by decide +kernel
theorem dX11_match_2 : decode cX11_match 2 = .ok (.iconst 0, 1) := by decide +kernel
theorem dX11_match_3 : decode cX11_match 3 = .ok (.bipush 15, 2) := by decide +kernel
theorem dX11_match_5 : decode cX11_match 5 = .ok (.invokestatic 83, 3) := by decide +kernel
theorem dX11_match_8 : decode cX11_match 8 = .ok (.iconst 1, 1) := by decide +kernel
theorem dX11_match_9 : decode cX11_match 9 = .ok (.iconst 1, 1) := by decide +kernel
theorem dX11_match_10 : decode cX11_match 10 = .ok (.invokevirtual 151, 3) := by decide +kernel
theorem dX11_match_13 : decode cX11_match 13 = .ok (.ifCond .eq 11, 3) := by decide +kernel
theorem dX11_match_16 : decode cX11_match 16 = .ok (.aload_n 0, 1) := by decide +kernel
theorem dX11_match_17 : decode cX11_match 17 = .ok (.iload_n 1, 1) := by decide +kernel
theorem dX11_match_18 : decode cX11_match 18 = .ok (.invokevirtual 251, 3) := by decide +kernel
theorem dX11_match_21 : decode cX11_match 21 = .ok (.goto 4, 3) := by decide +kernel
theorem dX11_match_24 : decode cX11_match 24 = .ok (.iconst 0, 1) := by decide +kernel
theorem dX11_match_25 : decode cX11_match 25 = .ok (.ireturn, 1) := by decide +kernel
theorem dX11_workerOf_0 : decode cX11_workerOf 0 = .ok (.aload_n 0, 1) := by decide +kernel
theorem dX11_workerOf_1 : decode cX11_workerOf 1 = .ok (.iload_n 2, 1) := by decide +kernel
theorem dX11_workerOf_2 : decode cX11_workerOf 2 = .ok (.iconst 0, 1) := by decide +kernel
theorem dX11_workerOf_3 : decode cX11_workerOf 3 = .ok (.iconst 3, 1) := by decide +kernel
theorem dX11_workerOf_4 : decode cX11_workerOf 4 = .ok (.invokestatic 83, 3) := by decide +kernel
theorem dX11_workerOf_7 : decode cX11_workerOf 7 = .ok (.iload_n 1, 1) := by decide +kernel
theorem dX11_workerOf_8 : decode cX11_workerOf 8 = .ok (.iconst 0, 1) := by decide +kernel
theorem dX11_workerOf_9 : decode cX11_workerOf 9 = .ok (.bipush 15, 2) := by decide +kernel
theorem dX11_workerOf_11 : decode cX11_workerOf 11 = .ok (.invokestatic 83, 3) := by decide +kernel
theorem dX11_workerOf_14 : decode cX11_workerOf 14 = .ok (.iconst 1, 1) := by decide +kernel
theorem dX11_workerOf_15 : decode cX11_workerOf 15 = .ok (.invokevirtual 151, 3) := by decide +kernel
theorem dX11_workerOf_18 : decode cX11_workerOf 18 = .ok (.ifCond .ne 5, 3) := by decide +kernel
theorem dX11_workerOf_21 : decode cX11_workerOf 21 = .ok (.iconst 0, 1) := by decide +kernel
theorem dX11_workerOf_22 : decode cX11_workerOf 22 = .ok (.ireturn, 1) := by decide +kernel
theorem dX11_workerOf_23 : decode cX11_workerOf 23 = .ok (.aload_n 0, 1) := by decide +kernel
theorem dX11_workerOf_24 : decode cX11_workerOf 24 = .ok (.iload_n 1, 1) := by decide +kernel
theorem dX11_workerOf_25 : decode cX11_workerOf 25 = .ok (.invokevirtual 251, 3) := by decide +kernel
theorem dX11_workerOf_28 : decode cX11_workerOf 28 = .ok (.istore_n 3, 1) := by decide +kernel
theorem dX11_workerOf_29 : decode cX11_workerOf 29 = .ok (.aload_n 0, 1) := by decide +kernel
theorem dX11_workerOf_30 : decode cX11_workerOf 30 = .ok (.getfield 55, 3) := by decide +kernel
theorem dX11_workerOf_33 : decode cX11_workerOf 33 = .ok (.iload_n 2, 1) := by decide +kernel
theorem dX11_workerOf_34 : decode cX11_workerOf 34 = .ok (.iaload, 1) := by decide +kernel
theorem dX11_workerOf_35 : decode cX11_workerOf 35 = .ok (.ireturn, 1) := by decide +kernel
theorem dX11_oddsOf_0 : decode cX11_oddsOf 0 = .ok (.lconst 0, 1) := by decide +kernel
theorem dX11_oddsOf_1 : decode cX11_oddsOf 1 = .ok (.lstore 4, 2) := by decide +kernel
theorem dX11_oddsOf_3 : decode cX11_oddsOf 3 = .ok (.iconst 0, 1) := by decide +kernel
theorem dX11_oddsOf_4 : decode cX11_oddsOf 4 = .ok (.istore 6, 2) := by decide +kernel
theorem dX11_oddsOf_6 : decode cX11_oddsOf 6 = .ok (.iload 6, 2) := by decide +kernel
theorem dX11_oddsOf_8 : decode cX11_oddsOf 8 = .ok (.iconst 1, 1) := by decide +kernel
theorem dX11_oddsOf_9 : decode cX11_oddsOf 9 = .ok (.aload_n 0, 1) := by decide +kernel
theorem dX11_oddsOf_10 : decode cX11_oddsOf 10 = .ok (.iload_n 1, 1) := by decide +kernel
theorem dX11_oddsOf_11 : decode cX11_oddsOf 11 = .ok (.iconst 4, 1) := by decide +kernel
theorem dX11_oddsOf_12 : decode cX11_oddsOf 12 = .ok (.invokevirtual 73, 3) := by decide +kernel
theorem dX11_oddsOf_15 : decode cX11_oddsOf 15 = .ok (.ishl, 1) := by decide +kernel
theorem dX11_oddsOf_16 : decode cX11_oddsOf 16 = .ok (.if_icmp .ge 120, 3) := by decide +kernel
theorem dX11_oddsOf_19 : decode cX11_oddsOf 19 = .ok (.lconst 1, 1) := by decide +kernel
theorem dX11_oddsOf_20 : decode cX11_oddsOf 20 = .ok (.lstore 7, 2) := by decide +kernel
theorem dX11_oddsOf_22 : decode cX11_oddsOf 22 = .ok (.iconst 0, 1) := by decide +kernel
theorem dX11_oddsOf_23 : decode cX11_oddsOf 23 = .ok (.istore 9, 2) := by decide +kernel
theorem dX11_oddsOf_25 : decode cX11_oddsOf 25 = .ok (.iconst 0, 1) := by decide +kernel
theorem dX11_oddsOf_26 : decode cX11_oddsOf 26 = .ok (.istore 10, 2) := by decide +kernel
theorem dX11_oddsOf_28 : decode cX11_oddsOf 28 = .ok (.iload 10, 2) := by decide +kernel
theorem dX11_oddsOf_30 : decode cX11_oddsOf 30 = .ok (.aload_n 0, 1) := by decide +kernel
theorem dX11_oddsOf_31 : decode cX11_oddsOf 31 = .ok (.iload_n 1, 1) := by decide +kernel
theorem dX11_oddsOf_32 : decode cX11_oddsOf 32 = .ok (.iconst 4, 1) := by decide +kernel
theorem dX11_oddsOf_33 : decode cX11_oddsOf 33 = .ok (.invokevirtual 73, 3) := by decide +kernel
theorem dX11_oddsOf_36 : decode cX11_oddsOf 36 = .ok (.if_icmp .ge 77, 3) := by decide +kernel
theorem dX11_oddsOf_39 : decode cX11_oddsOf 39 = .ok (.iload 6, 2) := by decide +kernel
theorem dX11_oddsOf_41 : decode cX11_oddsOf 41 = .ok (.iload 10, 2) := by decide +kernel
theorem dX11_oddsOf_43 : decode cX11_oddsOf 43 = .ok (.ishr, 1) := by decide +kernel
theorem dX11_oddsOf_44 : decode cX11_oddsOf 44 = .ok (.iconst 1, 1) := by decide +kernel
theorem dX11_oddsOf_45 : decode cX11_oddsOf 45 = .ok (.iand, 1) := by decide +kernel
theorem dX11_oddsOf_46 : decode cX11_oddsOf 46 = .ok (.iconst 1, 1) := by decide +kernel
theorem dX11_oddsOf_47 : decode cX11_oddsOf 47 = .ok (.if_icmp .ne 7, 3) := by decide +kernel
theorem dX11_oddsOf_50 : decode cX11_oddsOf 50 = .ok (.iconst 1, 1) := by decide +kernel
theorem dX11_oddsOf_51 : decode cX11_oddsOf 51 = .ok (.goto 4, 3) := by decide +kernel
theorem dX11_oddsOf_54 : decode cX11_oddsOf 54 = .ok (.iconst 0, 1) := by decide +kernel
theorem dX11_oddsOf_55 : decode cX11_oddsOf 55 = .ok (.istore 11, 2) := by decide +kernel
theorem dX11_oddsOf_57 : decode cX11_oddsOf 57 = .ok (.lload 7, 2) := by decide +kernel
theorem dX11_oddsOf_59 : decode cX11_oddsOf 59 = .ok (.iload 11, 2) := by decide +kernel
theorem dX11_oddsOf_61 : decode cX11_oddsOf 61 = .ok (.ifCond .eq 8, 3) := by decide +kernel
theorem dX11_oddsOf_64 : decode cX11_oddsOf 64 = .ok (.iload_n 3, 1) := by decide +kernel
theorem dX11_oddsOf_65 : decode cX11_oddsOf 65 = .ok (.i2l, 1) := by decide +kernel
theorem dX11_oddsOf_66 : decode cX11_oddsOf 66 = .ok (.goto 9, 3) := by decide +kernel
theorem dX11_oddsOf_69 : decode cX11_oddsOf 69 = .ok (.sipush 1000, 3) := by decide +kernel
theorem dX11_oddsOf_72 : decode cX11_oddsOf 72 = .ok (.iload_n 3, 1) := by decide +kernel
theorem dX11_oddsOf_73 : decode cX11_oddsOf 73 = .ok (.isub, 1) := by decide +kernel
theorem dX11_oddsOf_74 : decode cX11_oddsOf 74 = .ok (.i2l, 1) := by decide +kernel
theorem dX11_oddsOf_75 : decode cX11_oddsOf 75 = .ok (.lmul, 1) := by decide +kernel
theorem dX11_oddsOf_76 : decode cX11_oddsOf 76 = .ok (.lstore 7, 2) := by decide +kernel
theorem dX11_oddsOf_78 : decode cX11_oddsOf 78 = .ok (.iload 9, 2) := by decide +kernel
theorem dX11_oddsOf_80 : decode cX11_oddsOf 80 = .ok (.iload 11, 2) := by decide +kernel
theorem dX11_oddsOf_82 : decode cX11_oddsOf 82 = .ok (.ifCond .eq 15, 3) := by decide +kernel
theorem dX11_oddsOf_85 : decode cX11_oddsOf 85 = .ok (.iconst 2, 1) := by decide +kernel
theorem dX11_oddsOf_86 : decode cX11_oddsOf 86 = .ok (.aload_n 0, 1) := by decide +kernel
theorem dX11_oddsOf_87 : decode cX11_oddsOf 87 = .ok (.iload_n 1, 1) := by decide +kernel
theorem dX11_oddsOf_88 : decode cX11_oddsOf 88 = .ok (.iload 10, 2) := by decide +kernel
theorem dX11_oddsOf_90 : decode cX11_oddsOf 90 = .ok (.invokevirtual 77, 3) := by decide +kernel
theorem dX11_oddsOf_93 : decode cX11_oddsOf 93 = .ok (.imul, 1) := by decide +kernel
theorem dX11_oddsOf_94 : decode cX11_oddsOf 94 = .ok (.goto 10, 3) := by decide +kernel
theorem dX11_oddsOf_97 : decode cX11_oddsOf 97 = .ok (.aload_n 0, 1) := by decide +kernel
theorem dX11_oddsOf_98 : decode cX11_oddsOf 98 = .ok (.iload_n 1, 1) := by decide +kernel
theorem dX11_oddsOf_99 : decode cX11_oddsOf 99 = .ok (.iload 10, 2) := by decide +kernel
theorem dX11_oddsOf_101 : decode cX11_oddsOf 101 = .ok (.invokevirtual 77, 3) := by decide +kernel
theorem dX11_oddsOf_104 : decode cX11_oddsOf 104 = .ok (.iadd, 1) := by decide +kernel
theorem dX11_oddsOf_105 : decode cX11_oddsOf 105 = .ok (.istore 9, 2) := by decide +kernel
theorem dX11_oddsOf_107 : decode cX11_oddsOf 107 = .ok (.iinc 10 1, 3) := by decide +kernel
theorem dX11_oddsOf_110 : decode cX11_oddsOf 110 = .ok (.goto (-82), 3) := by decide +kernel
theorem dX11_oddsOf_113 : decode cX11_oddsOf 113 = .ok (.lload 4, 2) := by decide +kernel
theorem dX11_oddsOf_115 : decode cX11_oddsOf 115 = .ok (.iload 9, 2) := by decide +kernel
theorem dX11_oddsOf_117 : decode cX11_oddsOf 117 = .ok (.iload_n 2, 1) := by decide +kernel
theorem dX11_oddsOf_118 : decode cX11_oddsOf 118 = .ok (.if_icmp .gt 8, 3) := by decide +kernel
theorem dX11_oddsOf_121 : decode cX11_oddsOf 121 = .ok (.lload 7, 2) := by decide +kernel
theorem dX11_oddsOf_123 : decode cX11_oddsOf 123 = .ok (.goto 4, 3) := by decide +kernel
theorem dX11_oddsOf_126 : decode cX11_oddsOf 126 = .ok (.lconst 0, 1) := by decide +kernel
theorem dX11_oddsOf_127 : decode cX11_oddsOf 127 = .ok (.ladd, 1) := by decide +kernel
theorem dX11_oddsOf_128 : decode cX11_oddsOf 128 = .ok (.lstore 4, 2) := by decide +kernel
theorem dX11_oddsOf_130 : decode cX11_oddsOf 130 = .ok (.iinc 6 1, 3) := by decide +kernel
theorem dX11_oddsOf_133 : decode cX11_oddsOf 133 = .ok (.goto (-127), 3) := by decide +kernel
theorem dX11_oddsOf_136 : decode cX11_oddsOf 136 = .ok (.lload 4, 2) := by decide +kernel
theorem dX11_oddsOf_138 : decode cX11_oddsOf 138 = .ok (.lreturn, 1) := by decide +kernel
theorem dX11_promise_0 : decode cX11_promise 0 = .ok (.aload_n 0, 1) := by decide +kernel
theorem dX11_promise_1 : decode cX11_promise 1 = .ok (.aload_n 0, 1) := by decide +kernel
theorem dX11_promise_2 : decode cX11_promise 2 = .ok (.iload_n 1, 1) := by decide +kernel
theorem dX11_promise_3 : decode cX11_promise 3 = .ok (.invokevirtual 87, 3) := by decide +kernel
theorem dX11_promise_6 : decode cX11_promise 6 = .ok (.iload_n 2, 1) := by decide +kernel
theorem dX11_promise_7 : decode cX11_promise 7 = .ok (.iconst 0, 1) := by decide +kernel
theorem dX11_promise_8 : decode cX11_promise 8 = .ok (.sipush 1000, 3) := by decide +kernel
theorem dX11_promise_11 : decode cX11_promise 11 = .ok (.invokestatic 83, 3) := by decide +kernel
theorem dX11_promise_14 : decode cX11_promise 14 = .ok (.ifCond .eq 18, 3) := by decide +kernel
theorem dX11_promise_17 : decode cX11_promise 17 = .ok (.iload_n 3, 1) := by decide +kernel
theorem dX11_promise_18 : decode cX11_promise 18 = .ok (.iconst 1, 1) := by decide +kernel
theorem dX11_promise_19 : decode cX11_promise 19 = .ok (.sipush 1000, 3) := by decide +kernel
theorem dX11_promise_22 : decode cX11_promise 22 = .ok (.invokestatic 83, 3) := by decide +kernel
theorem dX11_promise_25 : decode cX11_promise 25 = .ok (.ifCond .eq 7, 3) := by decide +kernel
theorem dX11_promise_28 : decode cX11_promise 28 = .ok (.iconst 1, 1) := by decide +kernel
theorem dX11_promise_29 : decode cX11_promise 29 = .ok (.goto 4, 3) := by decide +kernel
theorem dX11_promise_32 : decode cX11_promise 32 = .ok (.iconst 0, 1) := by decide +kernel
theorem dX11_promise_33 : decode cX11_promise 33 = .ok (.iconst 1, 1) := by decide +kernel
theorem dX11_promise_34 : decode cX11_promise 34 = .ok (.invokevirtual 151, 3) := by decide +kernel
theorem dX11_promise_37 : decode cX11_promise 37 = .ok (.ifCond .ne 5, 3) := by decide +kernel
theorem dX11_promise_40 : decode cX11_promise 40 = .ok (.iconst 0, 1) := by decide +kernel
theorem dX11_promise_41 : decode cX11_promise 41 = .ok (.ireturn, 1) := by decide +kernel
theorem dX11_promise_42 : decode cX11_promise 42 = .ok (.iload_n 3, 1) := by decide +kernel
theorem dX11_promise_43 : decode cX11_promise 43 = .ok (.i2l, 1) := by decide +kernel
theorem dX11_promise_44 : decode cX11_promise 44 = .ok (.lstore 4, 2) := by decide +kernel
theorem dX11_promise_46 : decode cX11_promise 46 = .ok (.iconst 0, 1) := by decide +kernel
theorem dX11_promise_47 : decode cX11_promise 47 = .ok (.istore 6, 2) := by decide +kernel
theorem dX11_promise_49 : decode cX11_promise 49 = .ok (.iload 6, 2) := by decide +kernel
theorem dX11_promise_51 : decode cX11_promise 51 = .ok (.aload_n 0, 1) := by decide +kernel
theorem dX11_promise_52 : decode cX11_promise 52 = .ok (.iload_n 1, 1) := by decide +kernel
theorem dX11_promise_53 : decode cX11_promise 53 = .ok (.iconst 4, 1) := by decide +kernel
theorem dX11_promise_54 : decode cX11_promise 54 = .ok (.invokevirtual 73, 3) := by decide +kernel
theorem dX11_promise_57 : decode cX11_promise 57 = .ok (.if_icmp .ge 17, 3) := by decide +kernel
theorem dX11_promise_60 : decode cX11_promise 60 = .ok (.lload 4, 2) := by decide +kernel
theorem dX11_promise_62 : decode cX11_promise 62 = .ok (.ldc2_w 254, 3) := by decide +kernel
theorem dX11_promise_65 : decode cX11_promise 65 = .ok (.lmul, 1) := by decide +kernel
theorem dX11_promise_66 : decode cX11_promise 66 = .ok (.lstore 4, 2) := by decide +kernel
theorem dX11_promise_68 : decode cX11_promise 68 = .ok (.iinc 6 1, 3) := by decide +kernel
theorem dX11_promise_71 : decode cX11_promise 71 = .ok (.goto (-22), 3) := by decide +kernel
theorem dX11_promise_74 : decode cX11_promise 74 = .ok (.iconst 0, 1) := by decide +kernel
theorem dX11_promise_75 : decode cX11_promise 75 = .ok (.istore 6, 2) := by decide +kernel
theorem dX11_promise_77 : decode cX11_promise 77 = .ok (.aload_n 0, 1) := by decide +kernel
theorem dX11_promise_78 : decode cX11_promise 78 = .ok (.iload_n 1, 1) := by decide +kernel
theorem dX11_promise_79 : decode cX11_promise 79 = .ok (.iload 6, 2) := by decide +kernel
theorem dX11_promise_81 : decode cX11_promise 81 = .ok (.iload_n 2, 1) := by decide +kernel
theorem dX11_promise_82 : decode cX11_promise 82 = .ok (.invokevirtual 256, 3) := by decide +kernel
theorem dX11_promise_85 : decode cX11_promise 85 = .ok (.ldc2_w 254, 3) := by decide +kernel
theorem dX11_promise_88 : decode cX11_promise 88 = .ok (.lmul, 1) := by decide +kernel
theorem dX11_promise_89 : decode cX11_promise 89 = .ok (.lload 4, 2) := by decide +kernel
theorem dX11_promise_91 : decode cX11_promise 91 = .ok (.lcmp, 1) := by decide +kernel
theorem dX11_promise_92 : decode cX11_promise 92 = .ok (.ifCond .ge 9, 3) := by decide +kernel
theorem dX11_promise_95 : decode cX11_promise 95 = .ok (.iinc 6 1, 3) := by decide +kernel
theorem dX11_promise_98 : decode cX11_promise 98 = .ok (.goto (-21), 3) := by decide +kernel
theorem dX11_promise_101 : decode cX11_promise 101 = .ok (.aload_n 0, 1) := by decide +kernel
theorem dX11_promise_102 : decode cX11_promise 102 = .ok (.iload_n 1, 1) := by decide +kernel
theorem dX11_promise_103 : decode cX11_promise 103 = .ok (.iconst 0, 1) := by decide +kernel
theorem dX11_promise_104 : decode cX11_promise 104 = .ok (.invokevirtual 73, 3) := by decide +kernel
theorem dX11_promise_107 : decode cX11_promise 107 = .ok (.iload 6, 2) := by decide +kernel
theorem dX11_promise_109 : decode cX11_promise 109 = .ok (.iadd, 1) := by decide +kernel
theorem dX11_promise_110 : decode cX11_promise 110 = .ok (.ireturn, 1) := by decide +kernel
theorem dX11_worked_0 : decode cX11_worked 0 = .ok (.aload_n 0, 1) := by decide +kernel
theorem dX11_worked_1 : decode cX11_worked 1 = .ok (.iload_n 1, 1) := by decide +kernel
theorem dX11_worked_2 : decode cX11_worked 2 = .ok (.iconst 0, 1) := by decide +kernel
theorem dX11_worked_3 : decode cX11_worked 3 = .ok (.sipush 5000, 3) := by decide +kernel
theorem dX11_worked_6 : decode cX11_worked 6 = .ok (.invokestatic 83, 3) := by decide +kernel
theorem dX11_worked_9 : decode cX11_worked 9 = .ok (.ifCond .eq 16, 3) := by decide +kernel
theorem dX11_worked_12 : decode cX11_worked 12 = .ok (.iload_n 2, 1) := by decide +kernel
theorem dX11_worked_13 : decode cX11_worked 13 = .ok (.iconst 0, 1) := by decide +kernel
theorem dX11_worked_14 : decode cX11_worked 14 = .ok (.iconst 2, 1) := by decide +kernel
theorem dX11_worked_15 : decode cX11_worked 15 = .ok (.invokestatic 83, 3) := by decide +kernel
theorem dX11_worked_18 : decode cX11_worked 18 = .ok (.ifCond .eq 7, 3) := by decide +kernel
theorem dX11_worked_21 : decode cX11_worked 21 = .ok (.iconst 1, 1) := by decide +kernel
theorem dX11_worked_22 : decode cX11_worked 22 = .ok (.goto 4, 3) := by decide +kernel
theorem dX11_worked_25 : decode cX11_worked 25 = .ok (.iconst 0, 1) := by decide +kernel
theorem dX11_worked_26 : decode cX11_worked 26 = .ok (.aload_n 0, 1) := by decide +kernel
theorem dX11_worked_27 : decode cX11_worked 27 = .ok (.invokevirtual 199, 3) := by decide +kernel
theorem dX11_worked_30 : decode cX11_worked 30 = .ok (.iconst 1, 1) := by decide +kernel
theorem dX11_worked_31 : decode cX11_worked 31 = .ok (.invokevirtual 151, 3) := by decide +kernel
theorem dX11_worked_34 : decode cX11_worked 34 = .ok (.ifCond .ne 5, 3) := by decide +kernel
theorem dX11_worked_37 : decode cX11_worked 37 = .ok (.iconst 0, 1) := by decide +kernel
theorem dX11_worked_38 : decode cX11_worked 38 = .ok (.ireturn, 1) := by decide +kernel
theorem dX11_worked_39 : decode cX11_worked 39 = .ok (.iconst 0, 1) := by decide +kernel
theorem dX11_worked_40 : decode cX11_worked 40 = .ok (.istore_n 3, 1) := by decide +kernel
theorem dX11_worked_41 : decode cX11_worked 41 = .ok (.iconst 0, 1) := by decide +kernel
theorem dX11_worked_42 : decode cX11_worked 42 = .ok (.istore 4, 2) := by decide +kernel
theorem dX11_worked_44 : decode cX11_worked 44 = .ok (.iload 4, 2) := by decide +kernel
theorem dX11_worked_46 : decode cX11_worked 46 = .ok (.aload_n 0, 1) := by decide +kernel
theorem dX11_worked_47 : decode cX11_worked 47 = .ok (.getfield 9, 3) := by decide +kernel
theorem dX11_worked_50 : decode cX11_worked 50 = .ok (.iconst 0, 1) := by decide +kernel
theorem dX11_worked_51 : decode cX11_worked 51 = .ok (.iaload, 1) := by decide +kernel
theorem dX11_worked_52 : decode cX11_worked 52 = .ok (.if_icmp .ge 103, 3) := by decide +kernel
theorem dX11_worked_55 : decode cX11_worked 55 = .ok (.aload_n 0, 1) := by decide +kernel
theorem dX11_worked_56 : decode cX11_worked 56 = .ok (.getfield 22, 3) := by decide +kernel
theorem dX11_worked_59 : decode cX11_worked 59 = .ok (.iload 4, 2) := by decide +kernel
theorem dX11_worked_61 : decode cX11_worked 61 = .ok (.iaload, 1) := by decide +kernel
theorem dX11_worked_62 : decode cX11_worked 62 = .ok (.iload_n 1, 1) := by decide +kernel
theorem dX11_worked_63 : decode cX11_worked 63 = .ok (.if_icmp .gt 7, 3) := by decide +kernel
theorem dX11_worked_66 : decode cX11_worked 66 = .ok (.iconst 1, 1) := by decide +kernel
theorem dX11_worked_67 : decode cX11_worked 67 = .ok (.goto 4, 3) := by decide +kernel
theorem dX11_worked_70 : decode cX11_worked 70 = .ok (.iconst 0, 1) := by decide +kernel
theorem dX11_worked_71 : decode cX11_worked 71 = .ok (.istore 5, 2) := by decide +kernel
theorem dX11_worked_73 : decode cX11_worked 73 = .ok (.iload_n 2, 1) := by decide +kernel
theorem dX11_worked_74 : decode cX11_worked 74 = .ok (.iconst 1, 1) := by decide +kernel
theorem dX11_worked_75 : decode cX11_worked 75 = .ok (.if_icmp .ne 8, 3) := by decide +kernel
theorem dX11_worked_78 : decode cX11_worked 78 = .ok (.iload 5, 2) := by decide +kernel
theorem dX11_worked_80 : decode cX11_worked 80 = .ok (.ifCond .eq 69, 3) := by decide +kernel
theorem dX11_worked_83 : decode cX11_worked 83 = .ok (.iload_n 2, 1) := by decide +kernel
theorem dX11_worked_84 : decode cX11_worked 84 = .ok (.iconst 2, 1) := by decide +kernel
theorem dX11_worked_85 : decode cX11_worked 85 = .ok (.if_icmp .ne 11, 3) := by decide +kernel
theorem dX11_worked_88 : decode cX11_worked 88 = .ok (.iload 5, 2) := by decide +kernel
theorem dX11_worked_90 : decode cX11_worked 90 = .ok (.ifCond .eq 6, 3) := by decide +kernel
theorem dX11_worked_93 : decode cX11_worked 93 = .ok (.goto 56, 3) := by decide +kernel
theorem dX11_worked_96 : decode cX11_worked 96 = .ok (.iconst 0, 1) := by decide +kernel
theorem dX11_worked_97 : decode cX11_worked 97 = .ok (.istore 6, 2) := by decide +kernel
theorem dX11_worked_99 : decode cX11_worked 99 = .ok (.iload 6, 2) := by decide +kernel
theorem dX11_worked_101 : decode cX11_worked 101 = .ok (.aload_n 0, 1) := by decide +kernel
theorem dX11_worked_102 : decode cX11_worked 102 = .ok (.iload 4, 2) := by decide +kernel
theorem dX11_worked_104 : decode cX11_worked 104 = .ok (.iconst 4, 1) := by decide +kernel
theorem dX11_worked_105 : decode cX11_worked 105 = .ok (.invokevirtual 73, 3) := by decide +kernel
theorem dX11_worked_108 : decode cX11_worked 108 = .ok (.if_icmp .ge 41, 3) := by decide +kernel
theorem dX11_worked_111 : decode cX11_worked 111 = .ok (.iload_n 3, 1) := by decide +kernel
theorem dX11_worked_112 : decode cX11_worked 112 = .ok (.iconst 0, 1) := by decide +kernel
theorem dX11_worked_113 : decode cX11_worked 113 = .ok (.iload_n 1, 1) := by decide +kernel
theorem dX11_worked_114 : decode cX11_worked 114 = .ok (.aload_n 0, 1) := by decide +kernel
theorem dX11_worked_115 : decode cX11_worked 115 = .ok (.iload 4, 2) := by decide +kernel
theorem dX11_worked_117 : decode cX11_worked 117 = .ok (.iload 6, 2) := by decide +kernel
theorem dX11_worked_119 : decode cX11_worked 119 = .ok (.invokevirtual 208, 3) := by decide +kernel
theorem dX11_worked_122 : decode cX11_worked 122 = .ok (.invokestatic 260, 3) := by decide +kernel
theorem dX11_worked_125 : decode cX11_worked 125 = .ok (.aload_n 0, 1) := by decide +kernel
theorem dX11_worked_126 : decode cX11_worked 126 = .ok (.getfield 16, 3) := by decide +kernel
theorem dX11_worked_129 : decode cX11_worked 129 = .ok (.iload 4, 2) := by decide +kernel
theorem dX11_worked_131 : decode cX11_worked 131 = .ok (.iconst 5, 1) := by decide +kernel
theorem dX11_worked_132 : decode cX11_worked 132 = .ok (.imul, 1) := by decide +kernel
theorem dX11_worked_133 : decode cX11_worked 133 = .ok (.iload 6, 2) := by decide +kernel
theorem dX11_worked_135 : decode cX11_worked 135 = .ok (.iadd, 1) := by decide +kernel
theorem dX11_worked_136 : decode cX11_worked 136 = .ok (.iaload, 1) := by decide +kernel
theorem dX11_worked_137 : decode cX11_worked 137 = .ok (.isub, 1) := by decide +kernel
theorem dX11_worked_138 : decode cX11_worked 138 = .ok (.invokestatic 101, 3) := by decide +kernel
theorem dX11_worked_141 : decode cX11_worked 141 = .ok (.iadd, 1) := by decide +kernel
theorem dX11_worked_142 : decode cX11_worked 142 = .ok (.istore_n 3, 1) := by decide +kernel
theorem dX11_worked_143 : decode cX11_worked 143 = .ok (.iinc 6 1, 3) := by decide +kernel
theorem dX11_worked_146 : decode cX11_worked 146 = .ok (.goto (-47), 3) := by decide +kernel
theorem dX11_worked_149 : decode cX11_worked 149 = .ok (.iinc 4 1, 3) := by decide +kernel
theorem dX11_worked_152 : decode cX11_worked 152 = .ok (.goto (-108), 3) := by decide +kernel
theorem dX11_worked_155 : decode cX11_worked 155 = .ok (.iload_n 3, 1) := by decide +kernel
theorem dX11_worked_156 : decode cX11_worked 156 = .ok (.ireturn, 1) := by decide +kernel
theorem dX11_meanEnd_0 : decode cX11_meanEnd 0 = .ok (.aload_n 0, 1) := by decide +kernel
theorem dX11_meanEnd_1 : decode cX11_meanEnd 1 = .ok (.aload_n 0, 1) := by decide +kernel
theorem dX11_meanEnd_2 : decode cX11_meanEnd 2 = .ok (.invokevirtual 199, 3) := by decide +kernel
theorem dX11_meanEnd_5 : decode cX11_meanEnd 5 = .ok (.iconst 1, 1) := by decide +kernel
theorem dX11_meanEnd_6 : decode cX11_meanEnd 6 = .ok (.iconst 1, 1) := by decide +kernel
theorem dX11_meanEnd_7 : decode cX11_meanEnd 7 = .ok (.invokevirtual 151, 3) := by decide +kernel
theorem dX11_meanEnd_10 : decode cX11_meanEnd 10 = .ok (.ifCond .ne 5, 3) := by decide +kernel
theorem dX11_meanEnd_13 : decode cX11_meanEnd 13 = .ok (.dconst 0, 1) := by decide +kernel
theorem dX11_meanEnd_14 : decode cX11_meanEnd 14 = .ok (.dreturn, 1) := by decide +kernel
theorem dX11_meanEnd_15 : decode cX11_meanEnd 15 = .ok (.iconst 0, 1) := by decide +kernel
theorem dX11_meanEnd_16 : decode cX11_meanEnd 16 = .ok (.istore_n 1, 1) := by decide +kernel
theorem dX11_meanEnd_17 : decode cX11_meanEnd 17 = .ok (.iconst 0, 1) := by decide +kernel
theorem dX11_meanEnd_18 : decode cX11_meanEnd 18 = .ok (.istore_n 2, 1) := by decide +kernel
theorem dX11_meanEnd_19 : decode cX11_meanEnd 19 = .ok (.iload_n 2, 1) := by decide +kernel
theorem dX11_meanEnd_20 : decode cX11_meanEnd 20 = .ok (.aload_n 0, 1) := by decide +kernel
theorem dX11_meanEnd_21 : decode cX11_meanEnd 21 = .ok (.getfield 9, 3) := by decide +kernel
theorem dX11_meanEnd_24 : decode cX11_meanEnd 24 = .ok (.iconst 0, 1) := by decide +kernel
theorem dX11_meanEnd_25 : decode cX11_meanEnd 25 = .ok (.iaload, 1) := by decide +kernel
theorem dX11_meanEnd_26 : decode cX11_meanEnd 26 = .ok (.if_icmp .ge 18, 3) := by decide +kernel
theorem dX11_meanEnd_29 : decode cX11_meanEnd 29 = .ok (.iload_n 1, 1) := by decide +kernel
theorem dX11_meanEnd_30 : decode cX11_meanEnd 30 = .ok (.aload_n 0, 1) := by decide +kernel
theorem dX11_meanEnd_31 : decode cX11_meanEnd 31 = .ok (.getfield 22, 3) := by decide +kernel
theorem dX11_meanEnd_34 : decode cX11_meanEnd 34 = .ok (.iload_n 2, 1) := by decide +kernel
theorem dX11_meanEnd_35 : decode cX11_meanEnd 35 = .ok (.iaload, 1) := by decide +kernel
theorem dX11_meanEnd_36 : decode cX11_meanEnd 36 = .ok (.iadd, 1) := by decide +kernel
theorem dX11_meanEnd_37 : decode cX11_meanEnd 37 = .ok (.istore_n 1, 1) := by decide +kernel
theorem dX11_meanEnd_38 : decode cX11_meanEnd 38 = .ok (.iinc 2 1, 3) := by decide +kernel
theorem dX11_meanEnd_41 : decode cX11_meanEnd 41 = .ok (.goto (-22), 3) := by decide +kernel
theorem dX11_meanEnd_44 : decode cX11_meanEnd 44 = .ok (.aload_n 0, 1) := by decide +kernel
theorem dX11_meanEnd_45 : decode cX11_meanEnd 45 = .ok (.getfield 9, 3) := by decide +kernel
theorem dX11_meanEnd_48 : decode cX11_meanEnd 48 = .ok (.iconst 0, 1) := by decide +kernel
theorem dX11_meanEnd_49 : decode cX11_meanEnd 49 = .ok (.iaload, 1) := by decide +kernel
theorem dX11_meanEnd_50 : decode cX11_meanEnd 50 = .ok (.ifCond .ne 7, 3) := by decide +kernel
theorem dX11_meanEnd_53 : decode cX11_meanEnd 53 = .ok (.dconst 0, 1) := by decide +kernel
theorem dX11_meanEnd_54 : decode cX11_meanEnd 54 = .ok (.goto 13, 3) := by decide +kernel
theorem dX11_meanEnd_57 : decode cX11_meanEnd 57 = .ok (.iload_n 1, 1) := by decide +kernel
theorem dX11_meanEnd_58 : decode cX11_meanEnd 58 = .ok (.i2d, 1) := by decide +kernel
theorem dX11_meanEnd_59 : decode cX11_meanEnd 59 = .ok (.aload_n 0, 1) := by decide +kernel
theorem dX11_meanEnd_60 : decode cX11_meanEnd 60 = .ok (.getfield 9, 3) := by decide +kernel
theorem dX11_meanEnd_63 : decode cX11_meanEnd 63 = .ok (.iconst 0, 1) := by decide +kernel
theorem dX11_meanEnd_64 : decode cX11_meanEnd 64 = .ok (.iaload, 1) := by decide +kernel
theorem dX11_meanEnd_65 : decode cX11_meanEnd 65 = .ok (.i2d, 1) := by decide +kernel
theorem dX11_meanEnd_66 : decode cX11_meanEnd 66 = .ok (.ddiv, 1) := by decide +kernel
theorem dX11_meanEnd_67 : decode cX11_meanEnd 67 = .ok (.dreturn, 1) := by decide +kernel
theorem dX11_use_0 : decode cX11_use 0 = .ok (.aload_n 0, 1) := by decide +kernel
theorem dX11_use_1 : decode cX11_use 1 = .ok (.iload_n 1, 1) := by decide +kernel
theorem dX11_use_2 : decode cX11_use 2 = .ok (.iconst 0, 1) := by decide +kernel
theorem dX11_use_3 : decode cX11_use 3 = .ok (.iconst 3, 1) := by decide +kernel
theorem dX11_use_4 : decode cX11_use 4 = .ok (.invokestatic 83, 3) := by decide +kernel
theorem dX11_use_7 : decode cX11_use 7 = .ok (.aload_n 0, 1) := by decide +kernel
theorem dX11_use_8 : decode cX11_use 8 = .ok (.invokevirtual 199, 3) := by decide +kernel
theorem dX11_use_11 : decode cX11_use 11 = .ok (.iconst 1, 1) := by decide +kernel
theorem dX11_use_12 : decode cX11_use 12 = .ok (.invokevirtual 151, 3) := by decide +kernel
theorem dX11_use_15 : decode cX11_use 15 = .ok (.ifCond .ne 5, 3) := by decide +kernel
theorem dX11_use_18 : decode cX11_use 18 = .ok (.fconst 0, 1) := by decide +kernel
theorem dX11_use_19 : decode cX11_use 19 = .ok (.freturn, 1) := by decide +kernel
theorem dX11_use_20 : decode cX11_use 20 = .ok (.aload_n 0, 1) := by decide +kernel
theorem dX11_use_21 : decode cX11_use 21 = .ok (.invokevirtual 145, 3) := by decide +kernel
theorem dX11_use_24 : decode cX11_use 24 = .ok (.ifCond .ne 7, 3) := by decide +kernel
theorem dX11_use_27 : decode cX11_use 27 = .ok (.fconst 0, 1) := by decide +kernel
theorem dX11_use_28 : decode cX11_use 28 = .ok (.goto 15, 3) := by decide +kernel
theorem dX11_use_31 : decode cX11_use 31 = .ok (.aload_n 0, 1) := by decide +kernel
theorem dX11_use_32 : decode cX11_use 32 = .ok (.iload_n 1, 1) := by decide +kernel
theorem dX11_use_33 : decode cX11_use 33 = .ok (.invokevirtual 202, 3) := by decide +kernel
theorem dX11_use_36 : decode cX11_use 36 = .ok (.i2f, 1) := by decide +kernel
theorem dX11_use_37 : decode cX11_use 37 = .ok (.aload_n 0, 1) := by decide +kernel
theorem dX11_use_38 : decode cX11_use 38 = .ok (.invokevirtual 145, 3) := by decide +kernel
theorem dX11_use_41 : decode cX11_use 41 = .ok (.i2f, 1) := by decide +kernel
theorem dX11_use_42 : decode cX11_use 42 = .ok (.fdiv, 1) := by decide +kernel
theorem dX11_use_43 : decode cX11_use 43 = .ok (.freturn, 1) := by decide +kernel
theorem dX11_isClosed_0 : decode cX11_isClosed 0 = .ok (.iconst 0, 1) := by decide +kernel
theorem dX11_isClosed_1 : decode cX11_isClosed 1 = .ok (.istore_n 3, 1) := by decide +kernel
theorem dX11_isClosed_2 : decode cX11_isClosed 2 = .ok (.iconst 0, 1) := by decide +kernel
theorem dX11_isClosed_3 : decode cX11_isClosed 3 = .ok (.istore 4, 2) := by decide +kernel
theorem dX11_isClosed_5 : decode cX11_isClosed 5 = .ok (.iload 4, 2) := by decide +kernel
theorem dX11_isClosed_7 : decode cX11_isClosed 7 = .ok (.aload_n 0, 1) := by decide +kernel
theorem dX11_isClosed_8 : decode cX11_isClosed 8 = .ok (.getfield 9, 3) := by decide +kernel
theorem dX11_isClosed_11 : decode cX11_isClosed 11 = .ok (.iconst 1, 1) := by decide +kernel
theorem dX11_isClosed_12 : decode cX11_isClosed 12 = .ok (.iload_n 1, 1) := by decide +kernel
theorem dX11_isClosed_13 : decode cX11_isClosed 13 = .ok (.bipush 11, 2) := by decide +kernel
theorem dX11_isClosed_15 : decode cX11_isClosed 15 = .ok (.imul, 1) := by decide +kernel
theorem dX11_isClosed_16 : decode cX11_isClosed 16 = .ok (.iadd, 1) := by decide +kernel
theorem dX11_isClosed_17 : decode cX11_isClosed 17 = .ok (.iaload, 1) := by decide +kernel
theorem dX11_isClosed_18 : decode cX11_isClosed 18 = .ok (.if_icmp .ge 58, 3) := by decide +kernel
theorem dX11_isClosed_21 : decode cX11_isClosed 21 = .ok (.iconst 1, 1) := by decide +kernel
theorem dX11_isClosed_22 : decode cX11_isClosed 22 = .ok (.iload_n 1, 1) := by decide +kernel
theorem dX11_isClosed_23 : decode cX11_isClosed 23 = .ok (.bipush 11, 2) := by decide +kernel
theorem dX11_isClosed_25 : decode cX11_isClosed 25 = .ok (.imul, 1) := by decide +kernel
theorem dX11_isClosed_26 : decode cX11_isClosed 26 = .ok (.iadd, 1) := by decide +kernel
theorem dX11_isClosed_27 : decode cX11_isClosed 27 = .ok (.iconst 1, 1) := by decide +kernel
theorem dX11_isClosed_28 : decode cX11_isClosed 28 = .ok (.iadd, 1) := by decide +kernel
theorem dX11_isClosed_29 : decode cX11_isClosed 29 = .ok (.iconst 2, 1) := by decide +kernel
theorem dX11_isClosed_30 : decode cX11_isClosed 30 = .ok (.iload 4, 2) := by decide +kernel
theorem dX11_isClosed_32 : decode cX11_isClosed 32 = .ok (.imul, 1) := by decide +kernel
theorem dX11_isClosed_33 : decode cX11_isClosed 33 = .ok (.iadd, 1) := by decide +kernel
theorem dX11_isClosed_34 : decode cX11_isClosed 34 = .ok (.istore 5, 2) := by decide +kernel
theorem dX11_isClosed_36 : decode cX11_isClosed 36 = .ok (.iload_n 3, 1) := by decide +kernel
theorem dX11_isClosed_37 : decode cX11_isClosed 37 = .ok (.ifCond .ne 27, 3) := by decide +kernel
theorem dX11_isClosed_40 : decode cX11_isClosed 40 = .ok (.aload_n 0, 1) := by decide +kernel
theorem dX11_isClosed_41 : decode cX11_isClosed 41 = .ok (.getfield 9, 3) := by decide +kernel
theorem dX11_isClosed_44 : decode cX11_isClosed 44 = .ok (.iload 5, 2) := by decide +kernel
theorem dX11_isClosed_46 : decode cX11_isClosed 46 = .ok (.iaload, 1) := by decide +kernel
theorem dX11_isClosed_47 : decode cX11_isClosed 47 = .ok (.iload_n 2, 1) := by decide +kernel
theorem dX11_isClosed_48 : decode cX11_isClosed 48 = .ok (.if_icmp .gt 20, 3) := by decide +kernel
theorem dX11_isClosed_51 : decode cX11_isClosed 51 = .ok (.iload_n 2, 1) := by decide +kernel
theorem dX11_isClosed_52 : decode cX11_isClosed 52 = .ok (.aload_n 0, 1) := by decide +kernel
theorem dX11_isClosed_53 : decode cX11_isClosed 53 = .ok (.getfield 9, 3) := by decide +kernel
theorem dX11_isClosed_56 : decode cX11_isClosed 56 = .ok (.iload 5, 2) := by decide +kernel
theorem dX11_isClosed_58 : decode cX11_isClosed 58 = .ok (.iconst 1, 1) := by decide +kernel
theorem dX11_isClosed_59 : decode cX11_isClosed 59 = .ok (.iadd, 1) := by decide +kernel
theorem dX11_isClosed_60 : decode cX11_isClosed 60 = .ok (.iaload, 1) := by decide +kernel
theorem dX11_isClosed_61 : decode cX11_isClosed 61 = .ok (.if_icmp .ge 7, 3) := by decide +kernel
theorem dX11_isClosed_64 : decode cX11_isClosed 64 = .ok (.iconst 1, 1) := by decide +kernel
theorem dX11_isClosed_65 : decode cX11_isClosed 65 = .ok (.goto 4, 3) := by decide +kernel
theorem dX11_isClosed_68 : decode cX11_isClosed 68 = .ok (.iconst 0, 1) := by decide +kernel
theorem dX11_isClosed_69 : decode cX11_isClosed 69 = .ok (.istore_n 3, 1) := by decide +kernel
theorem dX11_isClosed_70 : decode cX11_isClosed 70 = .ok (.iinc 4 1, 3) := by decide +kernel
theorem dX11_isClosed_73 : decode cX11_isClosed 73 = .ok (.goto (-68), 3) := by decide +kernel
theorem dX11_isClosed_76 : decode cX11_isClosed 76 = .ok (.iload_n 3, 1) := by decide +kernel
theorem dX11_isClosed_77 : decode cX11_isClosed 77 = .ok (.ireturn, 1) := by decide +kernel
theorem dX11_isWrong_0 : decode cX11_isWrong 0 = .ok (.iconst 0, 1) := by decide +kernel
theorem dX11_isWrong_1 : decode cX11_isWrong 1 = .ok (.istore_n 2, 1) := by decide +kernel
theorem dX11_isWrong_2 : decode cX11_isWrong 2 = .ok (.iconst 0, 1) := by decide +kernel
theorem dX11_isWrong_3 : decode cX11_isWrong 3 = .ok (.istore_n 3, 1) := by decide +kernel
theorem dX11_isWrong_4 : decode cX11_isWrong 4 = .ok (.iconst 0, 1) := by decide +kernel
theorem dX11_isWrong_5 : decode cX11_isWrong 5 = .ok (.istore 4, 2) := by decide +kernel
theorem dX11_isWrong_7 : decode cX11_isWrong 7 = .ok (.iload 4, 2) := by decide +kernel
theorem dX11_isWrong_9 : decode cX11_isWrong 9 = .ok (.aload_n 0, 1) := by decide +kernel
theorem dX11_isWrong_10 : decode cX11_isWrong 10 = .ok (.getfield 9, 3) := by decide +kernel
theorem dX11_isWrong_13 : decode cX11_isWrong 13 = .ok (.iconst 0, 1) := by decide +kernel
theorem dX11_isWrong_14 : decode cX11_isWrong 14 = .ok (.iaload, 1) := by decide +kernel
theorem dX11_isWrong_15 : decode cX11_isWrong 15 = .ok (.if_icmp .ge 103, 3) := by decide +kernel
theorem dX11_isWrong_18 : decode cX11_isWrong 18 = .ok (.iconst 0, 1) := by decide +kernel
theorem dX11_isWrong_19 : decode cX11_isWrong 19 = .ok (.istore 5, 2) := by decide +kernel
theorem dX11_isWrong_21 : decode cX11_isWrong 21 = .ok (.iconst 0, 1) := by decide +kernel
theorem dX11_isWrong_22 : decode cX11_isWrong 22 = .ok (.istore 6, 2) := by decide +kernel
theorem dX11_isWrong_24 : decode cX11_isWrong 24 = .ok (.iload 6, 2) := by decide +kernel
theorem dX11_isWrong_26 : decode cX11_isWrong 26 = .ok (.aload_n 0, 1) := by decide +kernel
theorem dX11_isWrong_27 : decode cX11_isWrong 27 = .ok (.iload 4, 2) := by decide +kernel
theorem dX11_isWrong_29 : decode cX11_isWrong 29 = .ok (.iconst 4, 1) := by decide +kernel
theorem dX11_isWrong_30 : decode cX11_isWrong 30 = .ok (.invokevirtual 73, 3) := by decide +kernel
theorem dX11_isWrong_33 : decode cX11_isWrong 33 = .ok (.if_icmp .ge 79, 3) := by decide +kernel
theorem dX11_isWrong_36 : decode cX11_isWrong 36 = .ok (.aload_n 0, 1) := by decide +kernel
theorem dX11_isWrong_37 : decode cX11_isWrong 37 = .ok (.iload 4, 2) := by decide +kernel
theorem dX11_isWrong_39 : decode cX11_isWrong 39 = .ok (.iload 6, 2) := by decide +kernel
theorem dX11_isWrong_41 : decode cX11_isWrong 41 = .ok (.iload_n 1, 1) := by decide +kernel
theorem dX11_isWrong_42 : decode cX11_isWrong 42 = .ok (.invokevirtual 205, 3) := by decide +kernel
theorem dX11_isWrong_45 : decode cX11_isWrong 45 = .ok (.ifCond .ne 6, 3) := by decide +kernel
theorem dX11_isWrong_48 : decode cX11_isWrong 48 = .ok (.goto 58, 3) := by decide +kernel
theorem dX11_isWrong_51 : decode cX11_isWrong 51 = .ok (.aload_n 0, 1) := by decide +kernel
theorem dX11_isWrong_52 : decode cX11_isWrong 52 = .ok (.iload 4, 2) := by decide +kernel
theorem dX11_isWrong_54 : decode cX11_isWrong 54 = .ok (.iload 6, 2) := by decide +kernel
theorem dX11_isWrong_56 : decode cX11_isWrong 56 = .ok (.invokevirtual 95, 3) := by decide +kernel
theorem dX11_isWrong_59 : decode cX11_isWrong 59 = .ok (.istore 7, 2) := by decide +kernel
theorem dX11_isWrong_61 : decode cX11_isWrong 61 = .ok (.iload_n 3, 1) := by decide +kernel
theorem dX11_isWrong_62 : decode cX11_isWrong 62 = .ok (.ifCond .ne 28, 3) := by decide +kernel
theorem dX11_isWrong_65 : decode cX11_isWrong 65 = .ok (.iload_n 2, 1) := by decide +kernel
theorem dX11_isWrong_66 : decode cX11_isWrong 66 = .ok (.iload 7, 2) := by decide +kernel
theorem dX11_isWrong_68 : decode cX11_isWrong 68 = .ok (.ishr, 1) := by decide +kernel
theorem dX11_isWrong_69 : decode cX11_isWrong 69 = .ok (.iconst 1, 1) := by decide +kernel
theorem dX11_isWrong_70 : decode cX11_isWrong 70 = .ok (.iand, 1) := by decide +kernel
theorem dX11_isWrong_71 : decode cX11_isWrong 71 = .ok (.iconst 1, 1) := by decide +kernel
theorem dX11_isWrong_72 : decode cX11_isWrong 72 = .ok (.if_icmp .eq 18, 3) := by decide +kernel
theorem dX11_isWrong_75 : decode cX11_isWrong 75 = .ok (.iload 5, 2) := by decide +kernel
theorem dX11_isWrong_77 : decode cX11_isWrong 77 = .ok (.ifCond .gt 13, 3) := by decide +kernel
theorem dX11_isWrong_80 : decode cX11_isWrong 80 = .ok (.aload_n 0, 1) := by decide +kernel
theorem dX11_isWrong_81 : decode cX11_isWrong 81 = .ok (.iload 7, 2) := by decide +kernel
theorem dX11_isWrong_83 : decode cX11_isWrong 83 = .ok (.iload_n 1, 1) := by decide +kernel
theorem dX11_isWrong_84 : decode cX11_isWrong 84 = .ok (.invokevirtual 263, 3) := by decide +kernel
theorem dX11_isWrong_87 : decode cX11_isWrong 87 = .ok (.ifCond .eq 7, 3) := by decide +kernel
theorem dX11_isWrong_90 : decode cX11_isWrong 90 = .ok (.iconst 1, 1) := by decide +kernel
theorem dX11_isWrong_91 : decode cX11_isWrong 91 = .ok (.goto 4, 3) := by decide +kernel
theorem dX11_isWrong_94 : decode cX11_isWrong 94 = .ok (.iconst 0, 1) := by decide +kernel
theorem dX11_isWrong_95 : decode cX11_isWrong 95 = .ok (.istore_n 3, 1) := by decide +kernel
theorem dX11_isWrong_96 : decode cX11_isWrong 96 = .ok (.iload_n 2, 1) := by decide +kernel
theorem dX11_isWrong_97 : decode cX11_isWrong 97 = .ok (.iconst 1, 1) := by decide +kernel
theorem dX11_isWrong_98 : decode cX11_isWrong 98 = .ok (.iload 7, 2) := by decide +kernel
theorem dX11_isWrong_100 : decode cX11_isWrong 100 = .ok (.ishl, 1) := by decide +kernel
theorem dX11_isWrong_101 : decode cX11_isWrong 101 = .ok (.ior, 1) := by decide +kernel
theorem dX11_isWrong_102 : decode cX11_isWrong 102 = .ok (.istore_n 2, 1) := by decide +kernel
theorem dX11_isWrong_103 : decode cX11_isWrong 103 = .ok (.iinc 5 1, 3) := by decide +kernel
theorem dX11_isWrong_106 : decode cX11_isWrong 106 = .ok (.iinc 6 1, 3) := by decide +kernel
theorem dX11_isWrong_109 : decode cX11_isWrong 109 = .ok (.goto (-85), 3) := by decide +kernel
theorem dX11_isWrong_112 : decode cX11_isWrong 112 = .ok (.iinc 4 1, 3) := by decide +kernel
theorem dX11_isWrong_115 : decode cX11_isWrong 115 = .ok (.goto (-108), 3) := by decide +kernel
theorem dX11_isWrong_118 : decode cX11_isWrong 118 = .ok (.iload_n 3, 1) := by decide +kernel
theorem dX11_isWrong_119 : decode cX11_isWrong 119 = .ok (.ireturn, 1) := by decide +kernel
theorem dX11_errors_0 : decode cX11_errors 0 = .ok (.aload_n 0, 1) := by decide +kernel
theorem dX11_errors_1 : decode cX11_errors 1 = .ok (.iconst 0, 1) := by decide +kernel
theorem dX11_errors_2 : decode cX11_errors 2 = .ok (.putfield 69, 3) := by decide +kernel
theorem dX11_errors_5 : decode cX11_errors 5 = .ok (.aload_n 0, 1) := by decide +kernel
theorem dX11_errors_6 : decode cX11_errors 6 = .ok (.invokevirtual 199, 3) := by decide +kernel
theorem dX11_errors_9 : decode cX11_errors 9 = .ok (.ifCond .ne 5, 3) := by decide +kernel
theorem dX11_errors_12 : decode cX11_errors 12 = .ok (.iconst 0, 1) := by decide +kernel
theorem dX11_errors_13 : decode cX11_errors 13 = .ok (.ireturn, 1) := by decide +kernel
theorem dX11_errors_14 : decode cX11_errors 14 = .ok (.aload_n 0, 1) := by decide +kernel
theorem dX11_errors_15 : decode cX11_errors 15 = .ok (.invokevirtual 145, 3) := by decide +kernel
theorem dX11_errors_18 : decode cX11_errors 18 = .ok (.istore_n 1, 1) := by decide +kernel
theorem dX11_errors_19 : decode cX11_errors 19 = .ok (.iload_n 1, 1) := by decide +kernel
theorem dX11_errors_20 : decode cX11_errors 20 = .ok (.aload_n 0, 1) := by decide +kernel
theorem dX11_errors_21 : decode cX11_errors 21 = .ok (.invokevirtual 266, 3) := by decide +kernel
theorem dX11_errors_24 : decode cX11_errors 24 = .ok (.if_icmp .ge 7, 3) := by decide +kernel
theorem dX11_errors_27 : decode cX11_errors 27 = .ok (.iconst 1, 1) := by decide +kernel
theorem dX11_errors_28 : decode cX11_errors 28 = .ok (.goto 4, 3) := by decide +kernel
theorem dX11_errors_31 : decode cX11_errors 31 = .ok (.iconst 0, 1) := by decide +kernel
theorem dX11_errors_32 : decode cX11_errors 32 = .ok (.istore_n 2, 1) := by decide +kernel
theorem dX11_errors_33 : decode cX11_errors 33 = .ok (.iconst 0, 1) := by decide +kernel
theorem dX11_errors_34 : decode cX11_errors 34 = .ok (.istore_n 3, 1) := by decide +kernel
theorem dX11_errors_35 : decode cX11_errors 35 = .ok (.iload_n 3, 1) := by decide +kernel
theorem dX11_errors_36 : decode cX11_errors 36 = .ok (.iload_n 1, 1) := by decide +kernel
theorem dX11_errors_37 : decode cX11_errors 37 = .ok (.if_icmp .ge 25, 3) := by decide +kernel
theorem dX11_errors_40 : decode cX11_errors 40 = .ok (.iload_n 2, 1) := by decide +kernel
theorem dX11_errors_41 : decode cX11_errors 41 = .ok (.aload_n 0, 1) := by decide +kernel
theorem dX11_errors_42 : decode cX11_errors 42 = .ok (.iload_n 3, 1) := by decide +kernel
theorem dX11_errors_43 : decode cX11_errors 43 = .ok (.invokevirtual 269, 3) := by decide +kernel
theorem dX11_errors_46 : decode cX11_errors 46 = .ok (.ifCond .eq 7, 3) := by decide +kernel
theorem dX11_errors_49 : decode cX11_errors 49 = .ok (.iconst 1, 1) := by decide +kernel
theorem dX11_errors_50 : decode cX11_errors 50 = .ok (.goto 4, 3) := by decide +kernel
theorem dX11_errors_53 : decode cX11_errors 53 = .ok (.iconst 0, 1) := by decide +kernel
theorem dX11_errors_54 : decode cX11_errors 54 = .ok (.iadd, 1) := by decide +kernel
theorem dX11_errors_55 : decode cX11_errors 55 = .ok (.istore_n 2, 1) := by decide +kernel
theorem dX11_errors_56 : decode cX11_errors 56 = .ok (.iinc 3 1, 3) := by decide +kernel
theorem dX11_errors_59 : decode cX11_errors 59 = .ok (.goto (-24), 3) := by decide +kernel
theorem dX11_errors_62 : decode cX11_errors 62 = .ok (.iload_n 2, 1) := by decide +kernel
theorem dX11_errors_63 : decode cX11_errors 63 = .ok (.ireturn, 1) := by decide +kernel
