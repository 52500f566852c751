/-! ===== the check of each method, by the kernel: printed by wip/whole/gen/gen_chk.py ===== -/
noncomputable def mEnt (bytes : ByteArray) (o : Nat) (ini : Bool) (nL : Nat) (e : mI) : Bool := mDec bytes e && (mSide o ini nL e && (mCalls e && mThr bytes e))
noncomputable def mAll (bytes : ByteArray) (o : Nat) (ini : Bool) (nL : Nat) (cs : List (List mI)) : Bool := cs.all (fun ch => ch.all (fun e => mEnt bytes o ini nL e))
noncomputable def mOne (y : Nat) : Bool := mHead y && (match mProg[y]? with
  | none => false
  | some q => mAll (mMt y).2.1 (q.2.2.2.1 % 100) ((mMt y).1.name == "<init>") q.2.1 q.1)
set_option maxRecDepth 100000 in
theorem mck_0 : mOne 0 = true := by decide +kernel
set_option maxRecDepth 100000 in
theorem mck_1 : mOne 1 = true := by decide +kernel
set_option maxRecDepth 100000 in
theorem mck_2 : mOne 2 = true := by decide +kernel
set_option maxRecDepth 100000 in
theorem mck_3 : mOne 3 = true := by decide +kernel
set_option maxRecDepth 100000 in
theorem mck_4 : mOne 4 = true := by decide +kernel
set_option maxRecDepth 100000 in
theorem mck_5 : mOne 5 = true := by decide +kernel
set_option maxRecDepth 100000 in
theorem mck_6 : mOne 6 = true := by decide +kernel
set_option maxRecDepth 100000 in
theorem mck_7 : mOne 7 = true := by decide +kernel
set_option maxRecDepth 100000 in
theorem mck_8 : mOne 8 = true := by decide +kernel
set_option maxRecDepth 100000 in
theorem mck_9 : mOne 9 = true := by decide +kernel
set_option maxRecDepth 100000 in
theorem mck_10 : mOne 10 = true := by decide +kernel
set_option maxRecDepth 100000 in
theorem mck_11 : mOne 11 = true := by decide +kernel
set_option maxRecDepth 100000 in
theorem mck_12 : mOne 12 = true := by decide +kernel
set_option maxRecDepth 100000 in
theorem mck_13 : mOne 13 = true := by decide +kernel
set_option maxRecDepth 100000 in
theorem mck_14 : mOne 14 = true := by decide +kernel
set_option maxRecDepth 100000 in
theorem mck_15 : mOne 15 = true := by decide +kernel
set_option maxRecDepth 100000 in
theorem mck_16 : mOne 16 = true := by decide +kernel
set_option maxRecDepth 100000 in
theorem mck_17 : mOne 17 = true := by decide +kernel
set_option maxRecDepth 100000 in
theorem mck_18 : mOne 18 = true := by decide +kernel
set_option maxRecDepth 100000 in
theorem mck_19 : mOne 19 = true := by decide +kernel
set_option maxRecDepth 100000 in
theorem mck_20 : mOne 20 = true := by decide +kernel
set_option maxRecDepth 100000 in
theorem mck_21 : mOne 21 = true := by decide +kernel
set_option maxRecDepth 100000 in
theorem mck_22 : mOne 22 = true := by decide +kernel
set_option maxRecDepth 100000 in
theorem mck_23 : mOne 23 = true := by decide +kernel
set_option maxRecDepth 100000 in
theorem mck_24 : mOne 24 = true := by decide +kernel
set_option maxRecDepth 100000 in
theorem mck_25 : mOne 25 = true := by decide +kernel
set_option maxRecDepth 100000 in
theorem mck_26 : mOne 26 = true := by decide +kernel
set_option maxRecDepth 100000 in
theorem mck_27 : mOne 27 = true := by decide +kernel
set_option maxRecDepth 100000 in
theorem mck_28 : mOne 28 = true := by decide +kernel
set_option maxRecDepth 100000 in
theorem mck_29 : mOne 29 = true := by decide +kernel
set_option maxRecDepth 100000 in
theorem mck_30 : mOne 30 = true := by decide +kernel
set_option maxRecDepth 100000 in
theorem mck_31 : mOne 31 = true := by decide +kernel
set_option maxRecDepth 100000 in
theorem mck_32 : mOne 32 = true := by decide +kernel
set_option maxRecDepth 100000 in
theorem mck_33 : mOne 33 = true := by decide +kernel
set_option maxRecDepth 100000 in
theorem mck_34 : mOne 34 = true := by decide +kernel
set_option maxRecDepth 100000 in
theorem mck_35 : mOne 35 = true := by decide +kernel
set_option maxRecDepth 100000 in
theorem mck_36 : mOne 36 = true := by decide +kernel
set_option maxRecDepth 100000 in
theorem mck_37 : mOne 37 = true := by decide +kernel
set_option maxRecDepth 100000 in
theorem mck_38 : mOne 38 = true := by decide +kernel
set_option maxRecDepth 100000 in
theorem mck_39 : mOne 39 = true := by decide +kernel
set_option maxRecDepth 100000 in
theorem mck_40 : mOne 40 = true := by decide +kernel
set_option maxRecDepth 100000 in
theorem mck_41 : mOne 41 = true := by decide +kernel
set_option maxRecDepth 100000 in
theorem mck_42 : mOne 42 = true := by decide +kernel
set_option maxRecDepth 100000 in
theorem mck_43 : mOne 43 = true := by decide +kernel
set_option maxRecDepth 100000 in
theorem mck_44 : mOne 44 = true := by decide +kernel
set_option maxRecDepth 100000 in
theorem mck_45 : mOne 45 = true := by decide +kernel
set_option maxRecDepth 100000 in
theorem mck_46 : mOne 46 = true := by decide +kernel
set_option maxRecDepth 100000 in
theorem mck_47 : mOne 47 = true := by decide +kernel
set_option maxRecDepth 100000 in
theorem mck_48 : mOne 48 = true := by decide +kernel
set_option maxRecDepth 100000 in
theorem mck_49 : mOne 49 = true := by decide +kernel
set_option maxRecDepth 100000 in
theorem mck_50 : mOne 50 = true := by decide +kernel
set_option maxRecDepth 100000 in
theorem mck_51 : mOne 51 = true := by decide +kernel
set_option maxRecDepth 100000 in
theorem mck_52 : mOne 52 = true := by decide +kernel
set_option maxRecDepth 100000 in
theorem mck_53 : mOne 53 = true := by decide +kernel
set_option maxRecDepth 100000 in
theorem mck_54 : mOne 54 = true := by decide +kernel
set_option maxRecDepth 100000 in
theorem mck_55 : mOne 55 = true := by decide +kernel
set_option maxRecDepth 100000 in
theorem mck_56 : mOne 56 = true := by decide +kernel
set_option maxRecDepth 100000 in
theorem mck_57 : mOne 57 = true := by decide +kernel
set_option maxRecDepth 100000 in
theorem mck_58 : mOne 58 = true := by decide +kernel
set_option maxRecDepth 100000 in
theorem mck_59 : mOne 59 = true := by decide +kernel
set_option maxRecDepth 100000 in
theorem mck_60 : mOne 60 = true := by decide +kernel
set_option maxRecDepth 100000 in
theorem mck_61 : mOne 61 = true := by decide +kernel
set_option maxRecDepth 100000 in
theorem mck_62 : mOne 62 = true := by decide +kernel
set_option maxRecDepth 100000 in
theorem mck_63 : mOne 63 = true := by decide +kernel
set_option maxRecDepth 100000 in
theorem mck_64 : mOne 64 = true := by decide +kernel
set_option maxRecDepth 100000 in
theorem mck_65 : mOne 65 = true := by decide +kernel
set_option maxRecDepth 100000 in
theorem mck_66 : mOne 66 = true := by decide +kernel
set_option maxRecDepth 100000 in
theorem mck_67 : mOne 67 = true := by decide +kernel
set_option maxRecDepth 100000 in
theorem mck_68 : mOne 68 = true := by decide +kernel
set_option maxRecDepth 100000 in
theorem mck_69 : mOne 69 = true := by decide +kernel
set_option maxRecDepth 100000 in
theorem mck_70 : mOne 70 = true := by decide +kernel
set_option maxRecDepth 100000 in
theorem mck_71 : mOne 71 = true := by decide +kernel
set_option maxRecDepth 100000 in
theorem mck_72 : mOne 72 = true := by decide +kernel
set_option maxRecDepth 100000 in
theorem mck_73 : mOne 73 = true := by decide +kernel
set_option maxRecDepth 100000 in
theorem mck_74 : mOne 74 = true := by decide +kernel
set_option maxRecDepth 100000 in
theorem mck_75 : mOne 75 = true := by decide +kernel
set_option maxRecDepth 100000 in
theorem mck_76 : mOne 76 = true := by decide +kernel
set_option maxRecDepth 100000 in
theorem mck_77 : mOne 77 = true := by decide +kernel
set_option maxRecDepth 100000 in
theorem mck_78 : mOne 78 = true := by decide +kernel
set_option maxRecDepth 100000 in
theorem mck_79 : mOne 79 = true := by decide +kernel
set_option maxRecDepth 100000 in
theorem mck_80 : mOne 80 = true := by decide +kernel
set_option maxRecDepth 100000 in
theorem mck_81 : mOne 81 = true := by decide +kernel
set_option maxRecDepth 100000 in
theorem mck_82 : mOne 82 = true := by decide +kernel
set_option maxRecDepth 100000 in
theorem mck_83 : mOne 83 = true := by decide +kernel
set_option maxRecDepth 100000 in
theorem mck_84 : mOne 84 = true := by decide +kernel
set_option maxRecDepth 100000 in
theorem mck_85 : mOne 85 = true := by decide +kernel
set_option maxRecDepth 100000 in
theorem mck_86 : mOne 86 = true := by decide +kernel
set_option maxRecDepth 100000 in
theorem mck_87 : mOne 87 = true := by decide +kernel
set_option maxRecDepth 100000 in
theorem mck_88 : mOne 88 = true := by decide +kernel
set_option maxRecDepth 100000 in
theorem mck_89 : mOne 89 = true := by decide +kernel
set_option maxRecDepth 100000 in
theorem mck_90 : mOne 90 = true := by decide +kernel
set_option maxRecDepth 100000 in
theorem mck_91 : mOne 91 = true := by decide +kernel
set_option maxRecDepth 100000 in
theorem mck_92 : mOne 92 = true := by decide +kernel
set_option maxRecDepth 100000 in
theorem mck_93 : mOne 93 = true := by decide +kernel
set_option maxRecDepth 100000 in
theorem mck_94 : mOne 94 = true := by decide +kernel
set_option maxRecDepth 100000 in
theorem mck_95 : mOne 95 = true := by decide +kernel
set_option maxRecDepth 100000 in
theorem mck_96 : mOne 96 = true := by decide +kernel
set_option maxRecDepth 100000 in
theorem mck_97 : mOne 97 = true := by decide +kernel
set_option maxRecDepth 100000 in
theorem mck_98 : mOne 98 = true := by decide +kernel
set_option maxRecDepth 100000 in
theorem mck_99 : mOne 99 = true := by decide +kernel
set_option maxRecDepth 100000 in
theorem mck_100 : mOne 100 = true := by decide +kernel
set_option maxRecDepth 100000 in
theorem mck_101 : mOne 101 = true := by decide +kernel
set_option maxRecDepth 100000 in
theorem mck_102 : mOne 102 = true := by decide +kernel
set_option maxRecDepth 100000 in
theorem mck_103 : mOne 103 = true := by decide +kernel
set_option maxRecDepth 100000 in
theorem mck_104 : mOne 104 = true := by decide +kernel
set_option maxRecDepth 100000 in
theorem mck_105 : mOne 105 = true := by decide +kernel
set_option maxRecDepth 100000 in
theorem mck_106 : mOne 106 = true := by decide +kernel
set_option maxRecDepth 100000 in
theorem mck_107 : mOne 107 = true := by decide +kernel
set_option maxRecDepth 100000 in
theorem mck_108 : mOne 108 = true := by decide +kernel
set_option maxRecDepth 100000 in
theorem mck_109 : mOne 109 = true := by decide +kernel
set_option maxRecDepth 100000 in
theorem mck_110 : mOne 110 = true := by decide +kernel
set_option maxRecDepth 100000 in
theorem mck_111 : mOne 111 = true := by decide +kernel
set_option maxRecDepth 100000 in
theorem mck_112 : mOne 112 = true := by decide +kernel
set_option maxRecDepth 100000 in
theorem mck_113 : mOne 113 = true := by decide +kernel
set_option maxRecDepth 100000 in
theorem mck_114 : mOne 114 = true := by decide +kernel
set_option maxRecDepth 100000 in
theorem mck_115 : mOne 115 = true := by decide +kernel
set_option maxRecDepth 100000 in
theorem mck_116 : mOne 116 = true := by decide +kernel
set_option maxRecDepth 100000 in
theorem mck_117 : mOne 117 = true := by decide +kernel
set_option maxRecDepth 100000 in
theorem mck_118 : mOne 118 = true := by decide +kernel
set_option maxRecDepth 100000 in
theorem mck_119 : mOne 119 = true := by decide +kernel
set_option maxRecDepth 100000 in
theorem mck_120 : mOne 120 = true := by decide +kernel
set_option maxRecDepth 100000 in
theorem mck_121 : mOne 121 = true := by decide +kernel
set_option maxRecDepth 100000 in
theorem mck_122 : mOne 122 = true := by decide +kernel
set_option maxRecDepth 100000 in
theorem mck_123 : mOne 123 = true := by decide +kernel
set_option maxRecDepth 100000 in
theorem mck_124 : mOne 124 = true := by decide +kernel
set_option maxRecDepth 100000 in
theorem mck_125 : mOne 125 = true := by decide +kernel
set_option maxRecDepth 100000 in
theorem mck_126 : mOne 126 = true := by decide +kernel
set_option maxRecDepth 100000 in
theorem mck_127 : mOne 127 = true := by decide +kernel
set_option maxRecDepth 100000 in
theorem mck_128 : mOne 128 = true := by decide +kernel
set_option maxRecDepth 100000 in
theorem mck_129 : mOne 129 = true := by decide +kernel
set_option maxRecDepth 100000 in
theorem mck_130 : mOne 130 = true := by decide +kernel
set_option maxRecDepth 100000 in
theorem mck_131 : mOne 131 = true := by decide +kernel
set_option maxRecDepth 100000 in
theorem mck_132 : mOne 132 = true := by decide +kernel
set_option maxRecDepth 100000 in
theorem mck_133 : mOne 133 = true := by decide +kernel
set_option maxRecDepth 100000 in
theorem mck_134 : mOne 134 = true := by decide +kernel
set_option maxRecDepth 100000 in
theorem mck_135 : mOne 135 = true := by decide +kernel
set_option maxRecDepth 100000 in
theorem mck_136 : mOne 136 = true := by decide +kernel
set_option maxRecDepth 100000 in
theorem mck_137 : mOne 137 = true := by decide +kernel
set_option maxRecDepth 100000 in
theorem mck_138 : mOne 138 = true := by decide +kernel
set_option maxRecDepth 100000 in
theorem mck_139 : mOne 139 = true := by decide +kernel
set_option maxRecDepth 100000 in
theorem mck_140 : mOne 140 = true := by decide +kernel
set_option maxRecDepth 100000 in
theorem mck_141 : mOne 141 = true := by decide +kernel
set_option maxRecDepth 100000 in
theorem mck_142 : mOne 142 = true := by decide +kernel
set_option maxRecDepth 100000 in
theorem mck_143 : mOne 143 = true := by decide +kernel
set_option maxRecDepth 100000 in
theorem mck_144 : mOne 144 = true := by decide +kernel
set_option maxRecDepth 100000 in
theorem mck_145 : mOne 145 = true := by decide +kernel
set_option maxRecDepth 100000 in
theorem mck_146 : mOne 146 = true := by decide +kernel
set_option maxRecDepth 100000 in
theorem mck_147 : mOne 147 = true := by decide +kernel
set_option maxRecDepth 100000 in
theorem mck_148 : mOne 148 = true := by decide +kernel
set_option maxRecDepth 100000 in
theorem mck_149 : mOne 149 = true := by decide +kernel
set_option maxRecDepth 100000 in
theorem mck_150 : mOne 150 = true := by decide +kernel
set_option maxRecDepth 100000 in
theorem mck_151 : mOne 151 = true := by decide +kernel
set_option maxRecDepth 100000 in
theorem mck_152 : mOne 152 = true := by decide +kernel
set_option maxRecDepth 100000 in
theorem mck_153 : mOne 153 = true := by decide +kernel
set_option maxRecDepth 100000 in
theorem mck_154 : mOne 154 = true := by decide +kernel
set_option maxRecDepth 100000 in
theorem mck_155 : mOne 155 = true := by decide +kernel
set_option maxRecDepth 100000 in
theorem mck_156 : mOne 156 = true := by decide +kernel
set_option maxRecDepth 100000 in
theorem mck_157 : mOne 157 = true := by decide +kernel
set_option maxRecDepth 100000 in
theorem mck_158 : mOne 158 = true := by decide +kernel
set_option maxRecDepth 100000 in
theorem mck_159 : mOne 159 = true := by decide +kernel
set_option maxRecDepth 100000 in
theorem mck_160 : mOne 160 = true := by decide +kernel
set_option maxRecDepth 100000 in
theorem mck_161 : mOne 161 = true := by decide +kernel
set_option maxRecDepth 100000 in
theorem mck_162 : mOne 162 = true := by decide +kernel
set_option maxRecDepth 100000 in
theorem mck_163 : mOne 163 = true := by decide +kernel
set_option maxRecDepth 100000 in
theorem mck_164 : mOne 164 = true := by decide +kernel
set_option maxRecDepth 100000 in
theorem mck_165 : mOne 165 = true := by decide +kernel
set_option maxRecDepth 100000 in
theorem mck_166 : mOne 166 = true := by decide +kernel
set_option maxRecDepth 100000 in
theorem mck_167 : mOne 167 = true := by decide +kernel
set_option maxRecDepth 100000 in
theorem mck_168 : mOne 168 = true := by decide +kernel
set_option maxRecDepth 100000 in
theorem mck_169 : mOne 169 = true := by decide +kernel
set_option maxRecDepth 100000 in
theorem mck_170 : mOne 170 = true := by decide +kernel
set_option maxRecDepth 100000 in
theorem mck_171 : mOne 171 = true := by decide +kernel
set_option maxRecDepth 100000 in
theorem mck_172 : mOne 172 = true := by decide +kernel
set_option maxRecDepth 100000 in
theorem mck_173 : mOne 173 = true := by decide +kernel
set_option maxRecDepth 100000 in
theorem mck_174 : mOne 174 = true := by decide +kernel
set_option maxRecDepth 100000 in
theorem mck_175 : mOne 175 = true := by decide +kernel
set_option maxRecDepth 100000 in
theorem mck_176 : mOne 176 = true := by decide +kernel
set_option maxRecDepth 100000 in
theorem mck_177 : mOne 177 = true := by decide +kernel
set_option maxRecDepth 100000 in
theorem mck_178 : mOne 178 = true := by decide +kernel
set_option maxRecDepth 100000 in
theorem mck_179 : mOne 179 = true := by decide +kernel
set_option maxRecDepth 100000 in
theorem mck_180 : mOne 180 = true := by decide +kernel
set_option maxRecDepth 100000 in
theorem mck_181 : mOne 181 = true := by decide +kernel
set_option maxRecDepth 100000 in
theorem mck_182 : mOne 182 = true := by decide +kernel
set_option maxRecDepth 100000 in
theorem mck_183 : mOne 183 = true := by decide +kernel
set_option maxRecDepth 100000 in
theorem mck_184 : mOne 184 = true := by decide +kernel
set_option maxRecDepth 100000 in
theorem mck_185 : mOne 185 = true := by decide +kernel
set_option maxRecDepth 100000 in
theorem mck_186 : mOne 186 = true := by decide +kernel
set_option maxRecDepth 100000 in
theorem mck_187 : mOne 187 = true := by decide +kernel
set_option maxRecDepth 100000 in
theorem mck_188 : mOne 188 = true := by decide +kernel
set_option maxRecDepth 100000 in
theorem mck_189 : mOne 189 = true := by decide +kernel
set_option maxRecDepth 100000 in
theorem mck_190 : mOne 190 = true := by decide +kernel
set_option maxRecDepth 100000 in
theorem mck_191 : mOne 191 = true := by decide +kernel
set_option maxRecDepth 100000 in
theorem mck_192 : mOne 192 = true := by decide +kernel
set_option maxRecDepth 100000 in
theorem mck_193 : mOne 193 = true := by decide +kernel
set_option maxRecDepth 100000 in
theorem mck_194 : mOne 194 = true := by decide +kernel
set_option maxRecDepth 100000 in
theorem mck_195 : mOne 195 = true := by decide +kernel
set_option maxRecDepth 100000 in
theorem mck_196 : mOne 196 = true := by decide +kernel
set_option maxRecDepth 100000 in
theorem mck_197 : mOne 197 = true := by decide +kernel
set_option maxRecDepth 100000 in
theorem mck_198 : mOne 198 = true := by decide +kernel
set_option maxRecDepth 100000 in
theorem mck_199 : mOne 199 = true := by decide +kernel
set_option maxRecDepth 100000 in
theorem mck_200 : mOne 200 = true := by decide +kernel
set_option maxRecDepth 100000 in
theorem mck_201 : mOne 201 = true := by decide +kernel
set_option maxRecDepth 100000 in
theorem mck_202 : mOne 202 = true := by decide +kernel
set_option maxRecDepth 100000 in
theorem mck_203 : mOne 203 = true := by decide +kernel
set_option maxRecDepth 100000 in
theorem mck_204 : mOne 204 = true := by decide +kernel
set_option maxRecDepth 100000 in
theorem mck_205 : mOne 205 = true := by decide +kernel
set_option maxRecDepth 100000 in
theorem mck_206 : mOne 206 = true := by decide +kernel
set_option maxRecDepth 100000 in
theorem mck_207 : mOne 207 = true := by decide +kernel
set_option maxRecDepth 100000 in
theorem mck_208 : mOne 208 = true := by decide +kernel
set_option maxRecDepth 100000 in
theorem mck_209 : mOne 209 = true := by decide +kernel
set_option maxRecDepth 100000 in
theorem mck_210 : mOne 210 = true := by decide +kernel
set_option maxRecDepth 100000 in
theorem mck_211 : mOne 211 = true := by decide +kernel
set_option maxRecDepth 100000 in
theorem mck_212 : mOne 212 = true := by decide +kernel
set_option maxRecDepth 100000 in
theorem mck_213 : mOne 213 = true := by decide +kernel
set_option maxRecDepth 100000 in
theorem mck_214 : mOne 214 = true := by decide +kernel
set_option maxRecDepth 100000 in
theorem mck_215 : mOne 215 = true := by decide +kernel
set_option maxRecDepth 100000 in
theorem mck_216 : mOne 216 = true := by decide +kernel
set_option maxRecDepth 100000 in
theorem mck_217 : mOne 217 = true := by decide +kernel
set_option maxRecDepth 100000 in
theorem mck_218 : mOne 218 = true := by decide +kernel
set_option maxRecDepth 100000 in
theorem mck_219 : mOne 219 = true := by decide +kernel
set_option maxRecDepth 100000 in
theorem mck_220 : mOne 220 = true := by decide +kernel
set_option maxRecDepth 100000 in
theorem mck_221 : mOne 221 = true := by decide +kernel
set_option maxRecDepth 100000 in
theorem mck_222 : mOne 222 = true := by decide +kernel
set_option maxRecDepth 100000 in
theorem mck_223 : mOne 223 = true := by decide +kernel
set_option maxRecDepth 100000 in
theorem mck_224 : mOne 224 = true := by decide +kernel
set_option maxRecDepth 100000 in
theorem mck_225 : mOne 225 = true := by decide +kernel
set_option maxRecDepth 100000 in
theorem mck_226 : mOne 226 = true := by decide +kernel
set_option maxRecDepth 100000 in
theorem mck_227 : mOne 227 = true := by decide +kernel
set_option maxRecDepth 100000 in
theorem mck_228 : mOne 228 = true := by decide +kernel
set_option maxRecDepth 100000 in
theorem mck_229 : mOne 229 = true := by decide +kernel
set_option maxRecDepth 100000 in
theorem mck_230 : mOne 230 = true := by decide +kernel
set_option maxRecDepth 100000 in
theorem mck_231 : mOne 231 = true := by decide +kernel
set_option maxRecDepth 100000 in
theorem mck_232 : mOne 232 = true := by decide +kernel
set_option maxRecDepth 100000 in
theorem mck_233 : mOne 233 = true := by decide +kernel
set_option maxRecDepth 100000 in
theorem mck_234 : mOne 234 = true := by decide +kernel
set_option maxRecDepth 100000 in
theorem mck_235 : mOne 235 = true := by decide +kernel
set_option maxRecDepth 100000 in
theorem mck_236 : mOne 236 = true := by decide +kernel
set_option maxRecDepth 100000 in
theorem mck_237 : mOne 237 = true := by decide +kernel
set_option maxRecDepth 100000 in
theorem mck_240 : mOne 240 = true := by decide +kernel
set_option maxRecDepth 100000 in
theorem mck_241 : mOne 241 = true := by decide +kernel
set_option maxRecDepth 100000 in
theorem mck_242 : mOne 242 = true := by decide +kernel
set_option maxRecDepth 100000 in
theorem mck_243 : mOne 243 = true := by decide +kernel
set_option maxRecDepth 100000 in
theorem mck_244 : mOne 244 = true := by decide +kernel
set_option maxRecDepth 100000 in
theorem mck_245 : mOne 245 = true := by decide +kernel
set_option maxRecDepth 100000 in
theorem mck_246 : mOne 246 = true := by decide +kernel
set_option maxRecDepth 100000 in
theorem mck_247 : mOne 247 = true := by decide +kernel
set_option maxRecDepth 100000 in
theorem mck_248 : mOne 248 = true := by decide +kernel
set_option maxRecDepth 100000 in
theorem mck_249 : mOne 249 = true := by decide +kernel
set_option maxRecDepth 100000 in
theorem mck_250 : mOne 250 = true := by decide +kernel
set_option maxRecDepth 100000 in
theorem mck_251 : mOne 251 = true := by decide +kernel
set_option maxRecDepth 100000 in
theorem mck_252 : mOne 252 = true := by decide +kernel
set_option maxRecDepth 100000 in
theorem mck_253 : mOne 253 = true := by decide +kernel
set_option maxRecDepth 100000 in
theorem mck_254 : mOne 254 = true := by decide +kernel
set_option maxRecDepth 100000 in
theorem mck_255 : mOne 255 = true := by decide +kernel
set_option maxRecDepth 100000 in
theorem mck_256 : mOne 256 = true := by decide +kernel
set_option maxRecDepth 100000 in
theorem mck_257 : mOne 257 = true := by decide +kernel
set_option maxRecDepth 100000 in
theorem mck_258 : mOne 258 = true := by decide +kernel
set_option maxRecDepth 100000 in
theorem mck_259 : mOne 259 = true := by decide +kernel
set_option maxRecDepth 100000 in
theorem mck_260 : mOne 260 = true := by decide +kernel
set_option maxRecDepth 100000 in
theorem mck_261 : mOne 261 = true := by decide +kernel
set_option maxRecDepth 100000 in
theorem mck_262 : mOne 262 = true := by decide +kernel
set_option maxRecDepth 100000 in
theorem mck_263 : mOne 263 = true := by decide +kernel
set_option maxRecDepth 100000 in
theorem mck_264 : mOne 264 = true := by decide +kernel
set_option maxRecDepth 100000 in
theorem mck_265 : mOne 265 = true := by decide +kernel
set_option maxRecDepth 100000 in
theorem mck_266 : mOne 266 = true := by decide +kernel
set_option maxRecDepth 100000 in
theorem mck_267 : mOne 267 = true := by decide +kernel
set_option maxRecDepth 100000 in
theorem mck_268 : mOne 268 = true := by decide +kernel
set_option maxRecDepth 100000 in
theorem mck_269 : mOne 269 = true := by decide +kernel
set_option maxRecDepth 100000 in
theorem mck_270 : mOne 270 = true := by decide +kernel
set_option maxRecDepth 100000 in
theorem mck_271 : mOne 271 = true := by decide +kernel
set_option maxRecDepth 100000 in
theorem mck_272 : mOne 272 = true := by decide +kernel
set_option maxRecDepth 100000 in
theorem mck_273 : mOne 273 = true := by decide +kernel
set_option maxRecDepth 100000 in
theorem mck_274 : mOne 274 = true := by decide +kernel
set_option maxRecDepth 100000 in
theorem mck_275 : mOne 275 = true := by decide +kernel
set_option maxRecDepth 100000 in
theorem mck_276 : mOne 276 = true := by decide +kernel
