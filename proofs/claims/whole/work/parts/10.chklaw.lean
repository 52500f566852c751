/-! ===== the check of the law's body, and of all: printed by wip/whole/gen/gen_chk.py ===== -/
set_option maxRecDepth 100000 in
theorem mckL_0 : (mc_L_law.getD 0 []).all (fun e => mEnt code 12 false 9 e) = true := by decide +kernel
set_option maxRecDepth 100000 in
theorem mckL_1 : (mc_L_law.getD 1 []).all (fun e => mEnt code 12 false 9 e) = true := by decide +kernel
set_option maxRecDepth 100000 in
theorem mckL_2 : (mc_L_law.getD 2 []).all (fun e => mEnt code 12 false 9 e) = true := by decide +kernel
set_option maxRecDepth 100000 in
theorem mckL_3 : (mc_L_law.getD 3 []).all (fun e => mEnt code 12 false 9 e) = true := by decide +kernel
set_option maxRecDepth 100000 in
theorem mckL_4 : (mc_L_law.getD 4 []).all (fun e => mEnt code 12 false 9 e) = true := by decide +kernel
set_option maxRecDepth 100000 in
theorem mckL_5 : (mc_L_law.getD 5 []).all (fun e => mEnt code 12 false 9 e) = true := by decide +kernel
set_option maxRecDepth 100000 in
theorem mckL_6 : (mc_L_law.getD 6 []).all (fun e => mEnt code 12 false 9 e) = true := by decide +kernel
set_option maxRecDepth 100000 in
theorem mckL_7 : (mc_L_law.getD 7 []).all (fun e => mEnt code 12 false 9 e) = true := by decide +kernel
set_option maxRecDepth 100000 in
theorem mckL_8 : (mc_L_law.getD 8 []).all (fun e => mEnt code 12 false 9 e) = true := by decide +kernel
set_option maxRecDepth 100000 in
theorem mckL_9 : (mc_L_law.getD 9 []).all (fun e => mEnt code 12 false 9 e) = true := by decide +kernel
set_option maxRecDepth 100000 in
theorem mckL_10 : (mc_L_law.getD 10 []).all (fun e => mEnt code 12 false 9 e) = true := by decide +kernel
set_option maxRecDepth 100000 in
theorem mckL_11 : (mc_L_law.getD 11 []).all (fun e => mEnt code 12 false 9 e) = true := by decide +kernel
set_option maxRecDepth 100000 in
theorem mckL_12 : (mc_L_law.getD 12 []).all (fun e => mEnt code 12 false 9 e) = true := by decide +kernel
set_option maxRecDepth 100000 in
theorem mckL_13 : (mc_L_law.getD 13 []).all (fun e => mEnt code 12 false 9 e) = true := by decide +kernel
set_option maxRecDepth 100000 in
theorem mckL_14 : (mc_L_law.getD 14 []).all (fun e => mEnt code 12 false 9 e) = true := by decide +kernel
set_option maxRecDepth 100000 in
theorem mckL_15 : (mc_L_law.getD 15 []).all (fun e => mEnt code 12 false 9 e) = true := by decide +kernel
set_option maxRecDepth 100000 in
theorem mckL_16 : (mc_L_law.getD 16 []).all (fun e => mEnt code 12 false 9 e) = true := by decide +kernel
set_option maxRecDepth 100000 in
theorem mckL_17 : (mc_L_law.getD 17 []).all (fun e => mEnt code 12 false 9 e) = true := by decide +kernel
set_option maxRecDepth 100000 in
theorem mckL_18 : (mc_L_law.getD 18 []).all (fun e => mEnt code 12 false 9 e) = true := by decide +kernel
set_option maxRecDepth 100000 in
theorem mckL_19 : (mc_L_law.getD 19 []).all (fun e => mEnt code 12 false 9 e) = true := by decide +kernel
set_option maxRecDepth 100000 in
theorem mckL_20 : (mc_L_law.getD 20 []).all (fun e => mEnt code 12 false 9 e) = true := by decide +kernel
set_option maxRecDepth 100000 in
theorem mckL_21 : (mc_L_law.getD 21 []).all (fun e => mEnt code 12 false 9 e) = true := by decide +kernel
set_option maxRecDepth 100000 in
theorem mckL_22 : (mc_L_law.getD 22 []).all (fun e => mEnt code 12 false 9 e) = true := by decide +kernel
set_option maxRecDepth 100000 in
theorem mckL_23 : (mc_L_law.getD 23 []).all (fun e => mEnt code 12 false 9 e) = true := by decide +kernel
set_option maxRecDepth 100000 in
theorem mckL_24 : (mc_L_law.getD 24 []).all (fun e => mEnt code 12 false 9 e) = true := by decide +kernel
set_option maxRecDepth 100000 in
theorem mckL_25 : (mc_L_law.getD 25 []).all (fun e => mEnt code 12 false 9 e) = true := by decide +kernel
set_option maxRecDepth 100000 in
theorem mckL_26 : (mc_L_law.getD 26 []).all (fun e => mEnt code 12 false 9 e) = true := by decide +kernel
set_option maxRecDepth 100000 in
theorem mckL_27 : (mc_L_law.getD 27 []).all (fun e => mEnt code 12 false 9 e) = true := by decide +kernel
set_option maxRecDepth 100000 in
theorem mckL_28 : (mc_L_law.getD 28 []).all (fun e => mEnt code 12 false 9 e) = true := by decide +kernel
set_option maxRecDepth 100000 in
theorem mckL_29 : (mc_L_law.getD 29 []).all (fun e => mEnt code 12 false 9 e) = true := by decide +kernel
set_option maxRecDepth 100000 in
theorem mckL_30 : (mc_L_law.getD 30 []).all (fun e => mEnt code 12 false 9 e) = true := by decide +kernel
set_option maxRecDepth 100000 in
theorem mckL_31 : (mc_L_law.getD 31 []).all (fun e => mEnt code 12 false 9 e) = true := by decide +kernel
set_option maxRecDepth 100000 in
theorem mckL_32 : (mc_L_law.getD 32 []).all (fun e => mEnt code 12 false 9 e) = true := by decide +kernel
set_option maxRecDepth 100000 in
theorem mckL_33 : (mc_L_law.getD 33 []).all (fun e => mEnt code 12 false 9 e) = true := by decide +kernel
set_option maxRecDepth 100000 in
theorem mckL_34 : (mc_L_law.getD 34 []).all (fun e => mEnt code 12 false 9 e) = true := by decide +kernel
set_option maxRecDepth 100000 in
theorem mckL_35 : (mc_L_law.getD 35 []).all (fun e => mEnt code 12 false 9 e) = true := by decide +kernel
set_option maxRecDepth 100000 in
theorem mckL_36 : (mc_L_law.getD 36 []).all (fun e => mEnt code 12 false 9 e) = true := by decide +kernel
set_option maxRecDepth 100000 in
theorem mckL_37 : (mc_L_law.getD 37 []).all (fun e => mEnt code 12 false 9 e) = true := by decide +kernel
set_option maxRecDepth 100000 in
theorem mckL_38 : (mc_L_law.getD 38 []).all (fun e => mEnt code 12 false 9 e) = true := by decide +kernel
set_option maxRecDepth 100000 in
theorem mckL_39 : (mc_L_law.getD 39 []).all (fun e => mEnt code 12 false 9 e) = true := by decide +kernel
set_option maxRecDepth 100000 in
theorem mckL_40 : (mc_L_law.getD 40 []).all (fun e => mEnt code 12 false 9 e) = true := by decide +kernel
set_option maxRecDepth 100000 in
theorem mckL_41 : (mc_L_law.getD 41 []).all (fun e => mEnt code 12 false 9 e) = true := by decide +kernel
theorem mckL_all : mAll code 12 false 9 mc_L_law = true := by
  refine List.all_eq_true.mpr (fun ch h => ?_)
  obtain ⟨i, h1⟩ := List.getElem?_of_mem h
  have hlen : mc_L_law.length = 42 := rfl
  have hi : i < 42 := by rw [← hlen]; exact (List.getElem?_eq_some_iff.mp h1).1
  have e : ch = mc_L_law.getD i [] := by simp [List.getD, h1]
  rw [e]
  clear h h1 e
  match i, hi with
  | 0, _ => exact mckL_0
  | 1, _ => exact mckL_1
  | 2, _ => exact mckL_2
  | 3, _ => exact mckL_3
  | 4, _ => exact mckL_4
  | 5, _ => exact mckL_5
  | 6, _ => exact mckL_6
  | 7, _ => exact mckL_7
  | 8, _ => exact mckL_8
  | 9, _ => exact mckL_9
  | 10, _ => exact mckL_10
  | 11, _ => exact mckL_11
  | 12, _ => exact mckL_12
  | 13, _ => exact mckL_13
  | 14, _ => exact mckL_14
  | 15, _ => exact mckL_15
  | 16, _ => exact mckL_16
  | 17, _ => exact mckL_17
  | 18, _ => exact mckL_18
  | 19, _ => exact mckL_19
  | 20, _ => exact mckL_20
  | 21, _ => exact mckL_21
  | 22, _ => exact mckL_22
  | 23, _ => exact mckL_23
  | 24, _ => exact mckL_24
  | 25, _ => exact mckL_25
  | 26, _ => exact mckL_26
  | 27, _ => exact mckL_27
  | 28, _ => exact mckL_28
  | 29, _ => exact mckL_29
  | 30, _ => exact mckL_30
  | 31, _ => exact mckL_31
  | 32, _ => exact mckL_32
  | 33, _ => exact mckL_33
  | 34, _ => exact mckL_34
  | 35, _ => exact mckL_35
  | 36, _ => exact mckL_36
  | 37, _ => exact mckL_37
  | 38, _ => exact mckL_38
  | 39, _ => exact mckL_39
  | 40, _ => exact mckL_40
  | 41, _ => exact mckL_41
  | k + 42, h => exact absurd h (by omega)
theorem mckL_head : mHead 277 = true := by decide +kernel
set_option maxRecDepth 100000 in
theorem mck_277 : mOne 277 = true := by
  show (mHead 277 && mAll code 12 false 9 mc_L_law) = true
  rw [mckL_head, mckL_all]
  rfl
theorem mck_ok : ∀ y, y < 278 → y ≠ 238 → y ≠ 239 → mOne y = true := by
  intro y hy h1 h2
  match y, hy, h1, h2 with
  | 0, _, h1, h2 => exact mck_0
  | 1, _, h1, h2 => exact mck_1
  | 2, _, h1, h2 => exact mck_2
  | 3, _, h1, h2 => exact mck_3
  | 4, _, h1, h2 => exact mck_4
  | 5, _, h1, h2 => exact mck_5
  | 6, _, h1, h2 => exact mck_6
  | 7, _, h1, h2 => exact mck_7
  | 8, _, h1, h2 => exact mck_8
  | 9, _, h1, h2 => exact mck_9
  | 10, _, h1, h2 => exact mck_10
  | 11, _, h1, h2 => exact mck_11
  | 12, _, h1, h2 => exact mck_12
  | 13, _, h1, h2 => exact mck_13
  | 14, _, h1, h2 => exact mck_14
  | 15, _, h1, h2 => exact mck_15
  | 16, _, h1, h2 => exact mck_16
  | 17, _, h1, h2 => exact mck_17
  | 18, _, h1, h2 => exact mck_18
  | 19, _, h1, h2 => exact mck_19
  | 20, _, h1, h2 => exact mck_20
  | 21, _, h1, h2 => exact mck_21
  | 22, _, h1, h2 => exact mck_22
  | 23, _, h1, h2 => exact mck_23
  | 24, _, h1, h2 => exact mck_24
  | 25, _, h1, h2 => exact mck_25
  | 26, _, h1, h2 => exact mck_26
  | 27, _, h1, h2 => exact mck_27
  | 28, _, h1, h2 => exact mck_28
  | 29, _, h1, h2 => exact mck_29
  | 30, _, h1, h2 => exact mck_30
  | 31, _, h1, h2 => exact mck_31
  | 32, _, h1, h2 => exact mck_32
  | 33, _, h1, h2 => exact mck_33
  | 34, _, h1, h2 => exact mck_34
  | 35, _, h1, h2 => exact mck_35
  | 36, _, h1, h2 => exact mck_36
  | 37, _, h1, h2 => exact mck_37
  | 38, _, h1, h2 => exact mck_38
  | 39, _, h1, h2 => exact mck_39
  | 40, _, h1, h2 => exact mck_40
  | 41, _, h1, h2 => exact mck_41
  | 42, _, h1, h2 => exact mck_42
  | 43, _, h1, h2 => exact mck_43
  | 44, _, h1, h2 => exact mck_44
  | 45, _, h1, h2 => exact mck_45
  | 46, _, h1, h2 => exact mck_46
  | 47, _, h1, h2 => exact mck_47
  | 48, _, h1, h2 => exact mck_48
  | 49, _, h1, h2 => exact mck_49
  | 50, _, h1, h2 => exact mck_50
  | 51, _, h1, h2 => exact mck_51
  | 52, _, h1, h2 => exact mck_52
  | 53, _, h1, h2 => exact mck_53
  | 54, _, h1, h2 => exact mck_54
  | 55, _, h1, h2 => exact mck_55
  | 56, _, h1, h2 => exact mck_56
  | 57, _, h1, h2 => exact mck_57
  | 58, _, h1, h2 => exact mck_58
  | 59, _, h1, h2 => exact mck_59
  | 60, _, h1, h2 => exact mck_60
  | 61, _, h1, h2 => exact mck_61
  | 62, _, h1, h2 => exact mck_62
  | 63, _, h1, h2 => exact mck_63
  | 64, _, h1, h2 => exact mck_64
  | 65, _, h1, h2 => exact mck_65
  | 66, _, h1, h2 => exact mck_66
  | 67, _, h1, h2 => exact mck_67
  | 68, _, h1, h2 => exact mck_68
  | 69, _, h1, h2 => exact mck_69
  | 70, _, h1, h2 => exact mck_70
  | 71, _, h1, h2 => exact mck_71
  | 72, _, h1, h2 => exact mck_72
  | 73, _, h1, h2 => exact mck_73
  | 74, _, h1, h2 => exact mck_74
  | 75, _, h1, h2 => exact mck_75
  | 76, _, h1, h2 => exact mck_76
  | 77, _, h1, h2 => exact mck_77
  | 78, _, h1, h2 => exact mck_78
  | 79, _, h1, h2 => exact mck_79
  | 80, _, h1, h2 => exact mck_80
  | 81, _, h1, h2 => exact mck_81
  | 82, _, h1, h2 => exact mck_82
  | 83, _, h1, h2 => exact mck_83
  | 84, _, h1, h2 => exact mck_84
  | 85, _, h1, h2 => exact mck_85
  | 86, _, h1, h2 => exact mck_86
  | 87, _, h1, h2 => exact mck_87
  | 88, _, h1, h2 => exact mck_88
  | 89, _, h1, h2 => exact mck_89
  | 90, _, h1, h2 => exact mck_90
  | 91, _, h1, h2 => exact mck_91
  | 92, _, h1, h2 => exact mck_92
  | 93, _, h1, h2 => exact mck_93
  | 94, _, h1, h2 => exact mck_94
  | 95, _, h1, h2 => exact mck_95
  | 96, _, h1, h2 => exact mck_96
  | 97, _, h1, h2 => exact mck_97
  | 98, _, h1, h2 => exact mck_98
  | 99, _, h1, h2 => exact mck_99
  | 100, _, h1, h2 => exact mck_100
  | 101, _, h1, h2 => exact mck_101
  | 102, _, h1, h2 => exact mck_102
  | 103, _, h1, h2 => exact mck_103
  | 104, _, h1, h2 => exact mck_104
  | 105, _, h1, h2 => exact mck_105
  | 106, _, h1, h2 => exact mck_106
  | 107, _, h1, h2 => exact mck_107
  | 108, _, h1, h2 => exact mck_108
  | 109, _, h1, h2 => exact mck_109
  | 110, _, h1, h2 => exact mck_110
  | 111, _, h1, h2 => exact mck_111
  | 112, _, h1, h2 => exact mck_112
  | 113, _, h1, h2 => exact mck_113
  | 114, _, h1, h2 => exact mck_114
  | 115, _, h1, h2 => exact mck_115
  | 116, _, h1, h2 => exact mck_116
  | 117, _, h1, h2 => exact mck_117
  | 118, _, h1, h2 => exact mck_118
  | 119, _, h1, h2 => exact mck_119
  | 120, _, h1, h2 => exact mck_120
  | 121, _, h1, h2 => exact mck_121
  | 122, _, h1, h2 => exact mck_122
  | 123, _, h1, h2 => exact mck_123
  | 124, _, h1, h2 => exact mck_124
  | 125, _, h1, h2 => exact mck_125
  | 126, _, h1, h2 => exact mck_126
  | 127, _, h1, h2 => exact mck_127
  | 128, _, h1, h2 => exact mck_128
  | 129, _, h1, h2 => exact mck_129
  | 130, _, h1, h2 => exact mck_130
  | 131, _, h1, h2 => exact mck_131
  | 132, _, h1, h2 => exact mck_132
  | 133, _, h1, h2 => exact mck_133
  | 134, _, h1, h2 => exact mck_134
  | 135, _, h1, h2 => exact mck_135
  | 136, _, h1, h2 => exact mck_136
  | 137, _, h1, h2 => exact mck_137
  | 138, _, h1, h2 => exact mck_138
  | 139, _, h1, h2 => exact mck_139
  | 140, _, h1, h2 => exact mck_140
  | 141, _, h1, h2 => exact mck_141
  | 142, _, h1, h2 => exact mck_142
  | 143, _, h1, h2 => exact mck_143
  | 144, _, h1, h2 => exact mck_144
  | 145, _, h1, h2 => exact mck_145
  | 146, _, h1, h2 => exact mck_146
  | 147, _, h1, h2 => exact mck_147
  | 148, _, h1, h2 => exact mck_148
  | 149, _, h1, h2 => exact mck_149
  | 150, _, h1, h2 => exact mck_150
  | 151, _, h1, h2 => exact mck_151
  | 152, _, h1, h2 => exact mck_152
  | 153, _, h1, h2 => exact mck_153
  | 154, _, h1, h2 => exact mck_154
  | 155, _, h1, h2 => exact mck_155
  | 156, _, h1, h2 => exact mck_156
  | 157, _, h1, h2 => exact mck_157
  | 158, _, h1, h2 => exact mck_158
  | 159, _, h1, h2 => exact mck_159
  | 160, _, h1, h2 => exact mck_160
  | 161, _, h1, h2 => exact mck_161
  | 162, _, h1, h2 => exact mck_162
  | 163, _, h1, h2 => exact mck_163
  | 164, _, h1, h2 => exact mck_164
  | 165, _, h1, h2 => exact mck_165
  | 166, _, h1, h2 => exact mck_166
  | 167, _, h1, h2 => exact mck_167
  | 168, _, h1, h2 => exact mck_168
  | 169, _, h1, h2 => exact mck_169
  | 170, _, h1, h2 => exact mck_170
  | 171, _, h1, h2 => exact mck_171
  | 172, _, h1, h2 => exact mck_172
  | 173, _, h1, h2 => exact mck_173
  | 174, _, h1, h2 => exact mck_174
  | 175, _, h1, h2 => exact mck_175
  | 176, _, h1, h2 => exact mck_176
  | 177, _, h1, h2 => exact mck_177
  | 178, _, h1, h2 => exact mck_178
  | 179, _, h1, h2 => exact mck_179
  | 180, _, h1, h2 => exact mck_180
  | 181, _, h1, h2 => exact mck_181
  | 182, _, h1, h2 => exact mck_182
  | 183, _, h1, h2 => exact mck_183
  | 184, _, h1, h2 => exact mck_184
  | 185, _, h1, h2 => exact mck_185
  | 186, _, h1, h2 => exact mck_186
  | 187, _, h1, h2 => exact mck_187
  | 188, _, h1, h2 => exact mck_188
  | 189, _, h1, h2 => exact mck_189
  | 190, _, h1, h2 => exact mck_190
  | 191, _, h1, h2 => exact mck_191
  | 192, _, h1, h2 => exact mck_192
  | 193, _, h1, h2 => exact mck_193
  | 194, _, h1, h2 => exact mck_194
  | 195, _, h1, h2 => exact mck_195
  | 196, _, h1, h2 => exact mck_196
  | 197, _, h1, h2 => exact mck_197
  | 198, _, h1, h2 => exact mck_198
  | 199, _, h1, h2 => exact mck_199
  | 200, _, h1, h2 => exact mck_200
  | 201, _, h1, h2 => exact mck_201
  | 202, _, h1, h2 => exact mck_202
  | 203, _, h1, h2 => exact mck_203
  | 204, _, h1, h2 => exact mck_204
  | 205, _, h1, h2 => exact mck_205
  | 206, _, h1, h2 => exact mck_206
  | 207, _, h1, h2 => exact mck_207
  | 208, _, h1, h2 => exact mck_208
  | 209, _, h1, h2 => exact mck_209
  | 210, _, h1, h2 => exact mck_210
  | 211, _, h1, h2 => exact mck_211
  | 212, _, h1, h2 => exact mck_212
  | 213, _, h1, h2 => exact mck_213
  | 214, _, h1, h2 => exact mck_214
  | 215, _, h1, h2 => exact mck_215
  | 216, _, h1, h2 => exact mck_216
  | 217, _, h1, h2 => exact mck_217
  | 218, _, h1, h2 => exact mck_218
  | 219, _, h1, h2 => exact mck_219
  | 220, _, h1, h2 => exact mck_220
  | 221, _, h1, h2 => exact mck_221
  | 222, _, h1, h2 => exact mck_222
  | 223, _, h1, h2 => exact mck_223
  | 224, _, h1, h2 => exact mck_224
  | 225, _, h1, h2 => exact mck_225
  | 226, _, h1, h2 => exact mck_226
  | 227, _, h1, h2 => exact mck_227
  | 228, _, h1, h2 => exact mck_228
  | 229, _, h1, h2 => exact mck_229
  | 230, _, h1, h2 => exact mck_230
  | 231, _, h1, h2 => exact mck_231
  | 232, _, h1, h2 => exact mck_232
  | 233, _, h1, h2 => exact mck_233
  | 234, _, h1, h2 => exact mck_234
  | 235, _, h1, h2 => exact mck_235
  | 236, _, h1, h2 => exact mck_236
  | 237, _, h1, h2 => exact mck_237
  | 238, _, h1, h2 => exact absurd rfl h1
  | 239, _, h1, h2 => exact absurd rfl h2
  | 240, _, h1, h2 => exact mck_240
  | 241, _, h1, h2 => exact mck_241
  | 242, _, h1, h2 => exact mck_242
  | 243, _, h1, h2 => exact mck_243
  | 244, _, h1, h2 => exact mck_244
  | 245, _, h1, h2 => exact mck_245
  | 246, _, h1, h2 => exact mck_246
  | 247, _, h1, h2 => exact mck_247
  | 248, _, h1, h2 => exact mck_248
  | 249, _, h1, h2 => exact mck_249
  | 250, _, h1, h2 => exact mck_250
  | 251, _, h1, h2 => exact mck_251
  | 252, _, h1, h2 => exact mck_252
  | 253, _, h1, h2 => exact mck_253
  | 254, _, h1, h2 => exact mck_254
  | 255, _, h1, h2 => exact mck_255
  | 256, _, h1, h2 => exact mck_256
  | 257, _, h1, h2 => exact mck_257
  | 258, _, h1, h2 => exact mck_258
  | 259, _, h1, h2 => exact mck_259
  | 260, _, h1, h2 => exact mck_260
  | 261, _, h1, h2 => exact mck_261
  | 262, _, h1, h2 => exact mck_262
  | 263, _, h1, h2 => exact mck_263
  | 264, _, h1, h2 => exact mck_264
  | 265, _, h1, h2 => exact mck_265
  | 266, _, h1, h2 => exact mck_266
  | 267, _, h1, h2 => exact mck_267
  | 268, _, h1, h2 => exact mck_268
  | 269, _, h1, h2 => exact mck_269
  | 270, _, h1, h2 => exact mck_270
  | 271, _, h1, h2 => exact mck_271
  | 272, _, h1, h2 => exact mck_272
  | 273, _, h1, h2 => exact mck_273
  | 274, _, h1, h2 => exact mck_274
  | 275, _, h1, h2 => exact mck_275
  | 276, _, h1, h2 => exact mck_276
  | 277, _, h1, h2 => exact mck_277
  | n + 278, h, _, _ => exact absurd h (by omega)
