/-! ===== further checks by the kernel, and words of the JDK's own members: printed by wip/whole/gen (see 15) ===== -/
noncomputable def mEx2 (ret : Option FieldType) (o : Nat) (e : mI) : Bool := match e.2.1 with
  | .ireturn => decide (ret = some .int) || decide (ret = some .boolean)
  | .lreturn => decide (ret = some .long)
  | .dreturn => decide (ret = some .double)
  | .freturn => decide (ret = some .float)
  | .return_ => decide (ret = none)
  | .new _ => !(Nat.ble 1000 e.2.2.2.1) || Nat.beq o 10
  | _ => true
noncomputable def mOne2 (y : Nat) : Bool := match mProg[y]? with
  | none => false
  | some q => q.1.all (fun ch => ch.all (fun e => mEx2 (mMt y).2.2.1 (q.2.2.2.1 % 100) e))
set_option maxRecDepth 100000 in
theorem mck2_0 : mOne2 0 = true := by decide +kernel
set_option maxRecDepth 100000 in
theorem mck2_1 : mOne2 1 = true := by decide +kernel
set_option maxRecDepth 100000 in
theorem mck2_2 : mOne2 2 = true := by decide +kernel
set_option maxRecDepth 100000 in
theorem mck2_3 : mOne2 3 = true := by decide +kernel
set_option maxRecDepth 100000 in
theorem mck2_4 : mOne2 4 = true := by decide +kernel
set_option maxRecDepth 100000 in
theorem mck2_5 : mOne2 5 = true := by decide +kernel
set_option maxRecDepth 100000 in
theorem mck2_6 : mOne2 6 = true := by decide +kernel
set_option maxRecDepth 100000 in
theorem mck2_7 : mOne2 7 = true := by decide +kernel
set_option maxRecDepth 100000 in
theorem mck2_8 : mOne2 8 = true := by decide +kernel
set_option maxRecDepth 100000 in
theorem mck2_9 : mOne2 9 = true := by decide +kernel
set_option maxRecDepth 100000 in
theorem mck2_10 : mOne2 10 = true := by decide +kernel
set_option maxRecDepth 100000 in
theorem mck2_11 : mOne2 11 = true := by decide +kernel
set_option maxRecDepth 100000 in
theorem mck2_12 : mOne2 12 = true := by decide +kernel
set_option maxRecDepth 100000 in
theorem mck2_13 : mOne2 13 = true := by decide +kernel
set_option maxRecDepth 100000 in
theorem mck2_14 : mOne2 14 = true := by decide +kernel
set_option maxRecDepth 100000 in
theorem mck2_15 : mOne2 15 = true := by decide +kernel
set_option maxRecDepth 100000 in
theorem mck2_16 : mOne2 16 = true := by decide +kernel
set_option maxRecDepth 100000 in
theorem mck2_17 : mOne2 17 = true := by decide +kernel
set_option maxRecDepth 100000 in
theorem mck2_18 : mOne2 18 = true := by decide +kernel
set_option maxRecDepth 100000 in
theorem mck2_19 : mOne2 19 = true := by decide +kernel
set_option maxRecDepth 100000 in
theorem mck2_20 : mOne2 20 = true := by decide +kernel
set_option maxRecDepth 100000 in
theorem mck2_21 : mOne2 21 = true := by decide +kernel
set_option maxRecDepth 100000 in
theorem mck2_22 : mOne2 22 = true := by decide +kernel
set_option maxRecDepth 100000 in
theorem mck2_23 : mOne2 23 = true := by decide +kernel
set_option maxRecDepth 100000 in
theorem mck2_24 : mOne2 24 = true := by decide +kernel
set_option maxRecDepth 100000 in
theorem mck2_25 : mOne2 25 = true := by decide +kernel
set_option maxRecDepth 100000 in
theorem mck2_26 : mOne2 26 = true := by decide +kernel
set_option maxRecDepth 100000 in
theorem mck2_27 : mOne2 27 = true := by decide +kernel
set_option maxRecDepth 100000 in
theorem mck2_28 : mOne2 28 = true := by decide +kernel
set_option maxRecDepth 100000 in
theorem mck2_29 : mOne2 29 = true := by decide +kernel
set_option maxRecDepth 100000 in
theorem mck2_30 : mOne2 30 = true := by decide +kernel
set_option maxRecDepth 100000 in
theorem mck2_31 : mOne2 31 = true := by decide +kernel
set_option maxRecDepth 100000 in
theorem mck2_32 : mOne2 32 = true := by decide +kernel
set_option maxRecDepth 100000 in
theorem mck2_33 : mOne2 33 = true := by decide +kernel
set_option maxRecDepth 100000 in
theorem mck2_34 : mOne2 34 = true := by decide +kernel
set_option maxRecDepth 100000 in
theorem mck2_35 : mOne2 35 = true := by decide +kernel
set_option maxRecDepth 100000 in
theorem mck2_36 : mOne2 36 = true := by decide +kernel
set_option maxRecDepth 100000 in
theorem mck2_37 : mOne2 37 = true := by decide +kernel
set_option maxRecDepth 100000 in
theorem mck2_38 : mOne2 38 = true := by decide +kernel
set_option maxRecDepth 100000 in
theorem mck2_39 : mOne2 39 = true := by decide +kernel
set_option maxRecDepth 100000 in
theorem mck2_40 : mOne2 40 = true := by decide +kernel
set_option maxRecDepth 100000 in
theorem mck2_41 : mOne2 41 = true := by decide +kernel
set_option maxRecDepth 100000 in
theorem mck2_42 : mOne2 42 = true := by decide +kernel
set_option maxRecDepth 100000 in
theorem mck2_43 : mOne2 43 = true := by decide +kernel
set_option maxRecDepth 100000 in
theorem mck2_44 : mOne2 44 = true := by decide +kernel
set_option maxRecDepth 100000 in
theorem mck2_45 : mOne2 45 = true := by decide +kernel
set_option maxRecDepth 100000 in
theorem mck2_46 : mOne2 46 = true := by decide +kernel
set_option maxRecDepth 100000 in
theorem mck2_47 : mOne2 47 = true := by decide +kernel
set_option maxRecDepth 100000 in
theorem mck2_48 : mOne2 48 = true := by decide +kernel
set_option maxRecDepth 100000 in
theorem mck2_49 : mOne2 49 = true := by decide +kernel
set_option maxRecDepth 100000 in
theorem mck2_50 : mOne2 50 = true := by decide +kernel
set_option maxRecDepth 100000 in
theorem mck2_51 : mOne2 51 = true := by decide +kernel
set_option maxRecDepth 100000 in
theorem mck2_52 : mOne2 52 = true := by decide +kernel
set_option maxRecDepth 100000 in
theorem mck2_53 : mOne2 53 = true := by decide +kernel
set_option maxRecDepth 100000 in
theorem mck2_54 : mOne2 54 = true := by decide +kernel
set_option maxRecDepth 100000 in
theorem mck2_55 : mOne2 55 = true := by decide +kernel
set_option maxRecDepth 100000 in
theorem mck2_56 : mOne2 56 = true := by decide +kernel
set_option maxRecDepth 100000 in
theorem mck2_57 : mOne2 57 = true := by decide +kernel
set_option maxRecDepth 100000 in
theorem mck2_58 : mOne2 58 = true := by decide +kernel
set_option maxRecDepth 100000 in
theorem mck2_59 : mOne2 59 = true := by decide +kernel
set_option maxRecDepth 100000 in
theorem mck2_60 : mOne2 60 = true := by decide +kernel
set_option maxRecDepth 100000 in
theorem mck2_61 : mOne2 61 = true := by decide +kernel
set_option maxRecDepth 100000 in
theorem mck2_62 : mOne2 62 = true := by decide +kernel
set_option maxRecDepth 100000 in
theorem mck2_63 : mOne2 63 = true := by decide +kernel
set_option maxRecDepth 100000 in
theorem mck2_64 : mOne2 64 = true := by decide +kernel
set_option maxRecDepth 100000 in
theorem mck2_65 : mOne2 65 = true := by decide +kernel
set_option maxRecDepth 100000 in
theorem mck2_66 : mOne2 66 = true := by decide +kernel
set_option maxRecDepth 100000 in
theorem mck2_67 : mOne2 67 = true := by decide +kernel
set_option maxRecDepth 100000 in
theorem mck2_68 : mOne2 68 = true := by decide +kernel
set_option maxRecDepth 100000 in
theorem mck2_69 : mOne2 69 = true := by decide +kernel
set_option maxRecDepth 100000 in
theorem mck2_70 : mOne2 70 = true := by decide +kernel
set_option maxRecDepth 100000 in
theorem mck2_71 : mOne2 71 = true := by decide +kernel
set_option maxRecDepth 100000 in
theorem mck2_72 : mOne2 72 = true := by decide +kernel
set_option maxRecDepth 100000 in
theorem mck2_73 : mOne2 73 = true := by decide +kernel
set_option maxRecDepth 100000 in
theorem mck2_74 : mOne2 74 = true := by decide +kernel
set_option maxRecDepth 100000 in
theorem mck2_75 : mOne2 75 = true := by decide +kernel
set_option maxRecDepth 100000 in
theorem mck2_76 : mOne2 76 = true := by decide +kernel
set_option maxRecDepth 100000 in
theorem mck2_77 : mOne2 77 = true := by decide +kernel
set_option maxRecDepth 100000 in
theorem mck2_78 : mOne2 78 = true := by decide +kernel
set_option maxRecDepth 100000 in
theorem mck2_79 : mOne2 79 = true := by decide +kernel
set_option maxRecDepth 100000 in
theorem mck2_80 : mOne2 80 = true := by decide +kernel
set_option maxRecDepth 100000 in
theorem mck2_81 : mOne2 81 = true := by decide +kernel
set_option maxRecDepth 100000 in
theorem mck2_82 : mOne2 82 = true := by decide +kernel
set_option maxRecDepth 100000 in
theorem mck2_83 : mOne2 83 = true := by decide +kernel
set_option maxRecDepth 100000 in
theorem mck2_84 : mOne2 84 = true := by decide +kernel
set_option maxRecDepth 100000 in
theorem mck2_85 : mOne2 85 = true := by decide +kernel
set_option maxRecDepth 100000 in
theorem mck2_86 : mOne2 86 = true := by decide +kernel
set_option maxRecDepth 100000 in
theorem mck2_87 : mOne2 87 = true := by decide +kernel
set_option maxRecDepth 100000 in
theorem mck2_88 : mOne2 88 = true := by decide +kernel
set_option maxRecDepth 100000 in
theorem mck2_89 : mOne2 89 = true := by decide +kernel
set_option maxRecDepth 100000 in
theorem mck2_90 : mOne2 90 = true := by decide +kernel
set_option maxRecDepth 100000 in
theorem mck2_91 : mOne2 91 = true := by decide +kernel
set_option maxRecDepth 100000 in
theorem mck2_92 : mOne2 92 = true := by decide +kernel
set_option maxRecDepth 100000 in
theorem mck2_93 : mOne2 93 = true := by decide +kernel
set_option maxRecDepth 100000 in
theorem mck2_94 : mOne2 94 = true := by decide +kernel
set_option maxRecDepth 100000 in
theorem mck2_95 : mOne2 95 = true := by decide +kernel
set_option maxRecDepth 100000 in
theorem mck2_96 : mOne2 96 = true := by decide +kernel
set_option maxRecDepth 100000 in
theorem mck2_97 : mOne2 97 = true := by decide +kernel
set_option maxRecDepth 100000 in
theorem mck2_98 : mOne2 98 = true := by decide +kernel
set_option maxRecDepth 100000 in
theorem mck2_99 : mOne2 99 = true := by decide +kernel
set_option maxRecDepth 100000 in
theorem mck2_100 : mOne2 100 = true := by decide +kernel
set_option maxRecDepth 100000 in
theorem mck2_101 : mOne2 101 = true := by decide +kernel
set_option maxRecDepth 100000 in
theorem mck2_102 : mOne2 102 = true := by decide +kernel
set_option maxRecDepth 100000 in
theorem mck2_103 : mOne2 103 = true := by decide +kernel
set_option maxRecDepth 100000 in
theorem mck2_104 : mOne2 104 = true := by decide +kernel
set_option maxRecDepth 100000 in
theorem mck2_105 : mOne2 105 = true := by decide +kernel
set_option maxRecDepth 100000 in
theorem mck2_106 : mOne2 106 = true := by decide +kernel
set_option maxRecDepth 100000 in
theorem mck2_107 : mOne2 107 = true := by decide +kernel
set_option maxRecDepth 100000 in
theorem mck2_108 : mOne2 108 = true := by decide +kernel
set_option maxRecDepth 100000 in
theorem mck2_109 : mOne2 109 = true := by decide +kernel
set_option maxRecDepth 100000 in
theorem mck2_110 : mOne2 110 = true := by decide +kernel
set_option maxRecDepth 100000 in
theorem mck2_111 : mOne2 111 = true := by decide +kernel
set_option maxRecDepth 100000 in
theorem mck2_112 : mOne2 112 = true := by decide +kernel
set_option maxRecDepth 100000 in
theorem mck2_113 : mOne2 113 = true := by decide +kernel
set_option maxRecDepth 100000 in
theorem mck2_114 : mOne2 114 = true := by decide +kernel
set_option maxRecDepth 100000 in
theorem mck2_115 : mOne2 115 = true := by decide +kernel
set_option maxRecDepth 100000 in
theorem mck2_116 : mOne2 116 = true := by decide +kernel
set_option maxRecDepth 100000 in
theorem mck2_117 : mOne2 117 = true := by decide +kernel
set_option maxRecDepth 100000 in
theorem mck2_118 : mOne2 118 = true := by decide +kernel
set_option maxRecDepth 100000 in
theorem mck2_119 : mOne2 119 = true := by decide +kernel
set_option maxRecDepth 100000 in
theorem mck2_120 : mOne2 120 = true := by decide +kernel
set_option maxRecDepth 100000 in
theorem mck2_121 : mOne2 121 = true := by decide +kernel
set_option maxRecDepth 100000 in
theorem mck2_122 : mOne2 122 = true := by decide +kernel
set_option maxRecDepth 100000 in
theorem mck2_123 : mOne2 123 = true := by decide +kernel
set_option maxRecDepth 100000 in
theorem mck2_124 : mOne2 124 = true := by decide +kernel
set_option maxRecDepth 100000 in
theorem mck2_125 : mOne2 125 = true := by decide +kernel
set_option maxRecDepth 100000 in
theorem mck2_126 : mOne2 126 = true := by decide +kernel
set_option maxRecDepth 100000 in
theorem mck2_127 : mOne2 127 = true := by decide +kernel
set_option maxRecDepth 100000 in
theorem mck2_128 : mOne2 128 = true := by decide +kernel
set_option maxRecDepth 100000 in
theorem mck2_129 : mOne2 129 = true := by decide +kernel
set_option maxRecDepth 100000 in
theorem mck2_130 : mOne2 130 = true := by decide +kernel
set_option maxRecDepth 100000 in
theorem mck2_131 : mOne2 131 = true := by decide +kernel
set_option maxRecDepth 100000 in
theorem mck2_132 : mOne2 132 = true := by decide +kernel
set_option maxRecDepth 100000 in
theorem mck2_133 : mOne2 133 = true := by decide +kernel
set_option maxRecDepth 100000 in
theorem mck2_134 : mOne2 134 = true := by decide +kernel
set_option maxRecDepth 100000 in
theorem mck2_135 : mOne2 135 = true := by decide +kernel
set_option maxRecDepth 100000 in
theorem mck2_136 : mOne2 136 = true := by decide +kernel
set_option maxRecDepth 100000 in
theorem mck2_137 : mOne2 137 = true := by decide +kernel
set_option maxRecDepth 100000 in
theorem mck2_138 : mOne2 138 = true := by decide +kernel
set_option maxRecDepth 100000 in
theorem mck2_139 : mOne2 139 = true := by decide +kernel
set_option maxRecDepth 100000 in
theorem mck2_140 : mOne2 140 = true := by decide +kernel
set_option maxRecDepth 100000 in
theorem mck2_141 : mOne2 141 = true := by decide +kernel
set_option maxRecDepth 100000 in
theorem mck2_142 : mOne2 142 = true := by decide +kernel
set_option maxRecDepth 100000 in
theorem mck2_143 : mOne2 143 = true := by decide +kernel
set_option maxRecDepth 100000 in
theorem mck2_144 : mOne2 144 = true := by decide +kernel
set_option maxRecDepth 100000 in
theorem mck2_145 : mOne2 145 = true := by decide +kernel
set_option maxRecDepth 100000 in
theorem mck2_146 : mOne2 146 = true := by decide +kernel
set_option maxRecDepth 100000 in
theorem mck2_147 : mOne2 147 = true := by decide +kernel
set_option maxRecDepth 100000 in
theorem mck2_148 : mOne2 148 = true := by decide +kernel
set_option maxRecDepth 100000 in
theorem mck2_149 : mOne2 149 = true := by decide +kernel
set_option maxRecDepth 100000 in
theorem mck2_150 : mOne2 150 = true := by decide +kernel
set_option maxRecDepth 100000 in
theorem mck2_151 : mOne2 151 = true := by decide +kernel
set_option maxRecDepth 100000 in
theorem mck2_152 : mOne2 152 = true := by decide +kernel
set_option maxRecDepth 100000 in
theorem mck2_153 : mOne2 153 = true := by decide +kernel
set_option maxRecDepth 100000 in
theorem mck2_154 : mOne2 154 = true := by decide +kernel
set_option maxRecDepth 100000 in
theorem mck2_155 : mOne2 155 = true := by decide +kernel
set_option maxRecDepth 100000 in
theorem mck2_156 : mOne2 156 = true := by decide +kernel
set_option maxRecDepth 100000 in
theorem mck2_157 : mOne2 157 = true := by decide +kernel
set_option maxRecDepth 100000 in
theorem mck2_158 : mOne2 158 = true := by decide +kernel
set_option maxRecDepth 100000 in
theorem mck2_159 : mOne2 159 = true := by decide +kernel
set_option maxRecDepth 100000 in
theorem mck2_160 : mOne2 160 = true := by decide +kernel
set_option maxRecDepth 100000 in
theorem mck2_161 : mOne2 161 = true := by decide +kernel
set_option maxRecDepth 100000 in
theorem mck2_162 : mOne2 162 = true := by decide +kernel
set_option maxRecDepth 100000 in
theorem mck2_163 : mOne2 163 = true := by decide +kernel
set_option maxRecDepth 100000 in
theorem mck2_164 : mOne2 164 = true := by decide +kernel
set_option maxRecDepth 100000 in
theorem mck2_165 : mOne2 165 = true := by decide +kernel
set_option maxRecDepth 100000 in
theorem mck2_166 : mOne2 166 = true := by decide +kernel
set_option maxRecDepth 100000 in
theorem mck2_167 : mOne2 167 = true := by decide +kernel
set_option maxRecDepth 100000 in
theorem mck2_168 : mOne2 168 = true := by decide +kernel
set_option maxRecDepth 100000 in
theorem mck2_169 : mOne2 169 = true := by decide +kernel
set_option maxRecDepth 100000 in
theorem mck2_170 : mOne2 170 = true := by decide +kernel
set_option maxRecDepth 100000 in
theorem mck2_171 : mOne2 171 = true := by decide +kernel
set_option maxRecDepth 100000 in
theorem mck2_172 : mOne2 172 = true := by decide +kernel
set_option maxRecDepth 100000 in
theorem mck2_173 : mOne2 173 = true := by decide +kernel
set_option maxRecDepth 100000 in
theorem mck2_174 : mOne2 174 = true := by decide +kernel
set_option maxRecDepth 100000 in
theorem mck2_175 : mOne2 175 = true := by decide +kernel
set_option maxRecDepth 100000 in
theorem mck2_176 : mOne2 176 = true := by decide +kernel
set_option maxRecDepth 100000 in
theorem mck2_177 : mOne2 177 = true := by decide +kernel
set_option maxRecDepth 100000 in
theorem mck2_178 : mOne2 178 = true := by decide +kernel
set_option maxRecDepth 100000 in
theorem mck2_179 : mOne2 179 = true := by decide +kernel
set_option maxRecDepth 100000 in
theorem mck2_180 : mOne2 180 = true := by decide +kernel
set_option maxRecDepth 100000 in
theorem mck2_181 : mOne2 181 = true := by decide +kernel
set_option maxRecDepth 100000 in
theorem mck2_182 : mOne2 182 = true := by decide +kernel
set_option maxRecDepth 100000 in
theorem mck2_183 : mOne2 183 = true := by decide +kernel
set_option maxRecDepth 100000 in
theorem mck2_184 : mOne2 184 = true := by decide +kernel
set_option maxRecDepth 100000 in
theorem mck2_185 : mOne2 185 = true := by decide +kernel
set_option maxRecDepth 100000 in
theorem mck2_186 : mOne2 186 = true := by decide +kernel
set_option maxRecDepth 100000 in
theorem mck2_187 : mOne2 187 = true := by decide +kernel
set_option maxRecDepth 100000 in
theorem mck2_188 : mOne2 188 = true := by decide +kernel
set_option maxRecDepth 100000 in
theorem mck2_189 : mOne2 189 = true := by decide +kernel
set_option maxRecDepth 100000 in
theorem mck2_190 : mOne2 190 = true := by decide +kernel
set_option maxRecDepth 100000 in
theorem mck2_191 : mOne2 191 = true := by decide +kernel
set_option maxRecDepth 100000 in
theorem mck2_192 : mOne2 192 = true := by decide +kernel
set_option maxRecDepth 100000 in
theorem mck2_193 : mOne2 193 = true := by decide +kernel
set_option maxRecDepth 100000 in
theorem mck2_194 : mOne2 194 = true := by decide +kernel
set_option maxRecDepth 100000 in
theorem mck2_195 : mOne2 195 = true := by decide +kernel
set_option maxRecDepth 100000 in
theorem mck2_196 : mOne2 196 = true := by decide +kernel
set_option maxRecDepth 100000 in
theorem mck2_197 : mOne2 197 = true := by decide +kernel
set_option maxRecDepth 100000 in
theorem mck2_198 : mOne2 198 = true := by decide +kernel
set_option maxRecDepth 100000 in
theorem mck2_199 : mOne2 199 = true := by decide +kernel
set_option maxRecDepth 100000 in
theorem mck2_200 : mOne2 200 = true := by decide +kernel
set_option maxRecDepth 100000 in
theorem mck2_201 : mOne2 201 = true := by decide +kernel
set_option maxRecDepth 100000 in
theorem mck2_202 : mOne2 202 = true := by decide +kernel
set_option maxRecDepth 100000 in
theorem mck2_203 : mOne2 203 = true := by decide +kernel
set_option maxRecDepth 100000 in
theorem mck2_204 : mOne2 204 = true := by decide +kernel
set_option maxRecDepth 100000 in
theorem mck2_205 : mOne2 205 = true := by decide +kernel
set_option maxRecDepth 100000 in
theorem mck2_206 : mOne2 206 = true := by decide +kernel
set_option maxRecDepth 100000 in
theorem mck2_207 : mOne2 207 = true := by decide +kernel
set_option maxRecDepth 100000 in
theorem mck2_208 : mOne2 208 = true := by decide +kernel
set_option maxRecDepth 100000 in
theorem mck2_209 : mOne2 209 = true := by decide +kernel
set_option maxRecDepth 100000 in
theorem mck2_210 : mOne2 210 = true := by decide +kernel
set_option maxRecDepth 100000 in
theorem mck2_211 : mOne2 211 = true := by decide +kernel
set_option maxRecDepth 100000 in
theorem mck2_212 : mOne2 212 = true := by decide +kernel
set_option maxRecDepth 100000 in
theorem mck2_213 : mOne2 213 = true := by decide +kernel
set_option maxRecDepth 100000 in
theorem mck2_214 : mOne2 214 = true := by decide +kernel
set_option maxRecDepth 100000 in
theorem mck2_215 : mOne2 215 = true := by decide +kernel
set_option maxRecDepth 100000 in
theorem mck2_216 : mOne2 216 = true := by decide +kernel
set_option maxRecDepth 100000 in
theorem mck2_217 : mOne2 217 = true := by decide +kernel
set_option maxRecDepth 100000 in
theorem mck2_218 : mOne2 218 = true := by decide +kernel
set_option maxRecDepth 100000 in
theorem mck2_219 : mOne2 219 = true := by decide +kernel
set_option maxRecDepth 100000 in
theorem mck2_220 : mOne2 220 = true := by decide +kernel
set_option maxRecDepth 100000 in
theorem mck2_221 : mOne2 221 = true := by decide +kernel
set_option maxRecDepth 100000 in
theorem mck2_222 : mOne2 222 = true := by decide +kernel
set_option maxRecDepth 100000 in
theorem mck2_223 : mOne2 223 = true := by decide +kernel
set_option maxRecDepth 100000 in
theorem mck2_224 : mOne2 224 = true := by decide +kernel
set_option maxRecDepth 100000 in
theorem mck2_225 : mOne2 225 = true := by decide +kernel
set_option maxRecDepth 100000 in
theorem mck2_226 : mOne2 226 = true := by decide +kernel
set_option maxRecDepth 100000 in
theorem mck2_227 : mOne2 227 = true := by decide +kernel
set_option maxRecDepth 100000 in
theorem mck2_228 : mOne2 228 = true := by decide +kernel
set_option maxRecDepth 100000 in
theorem mck2_229 : mOne2 229 = true := by decide +kernel
set_option maxRecDepth 100000 in
theorem mck2_230 : mOne2 230 = true := by decide +kernel
set_option maxRecDepth 100000 in
theorem mck2_231 : mOne2 231 = true := by decide +kernel
set_option maxRecDepth 100000 in
theorem mck2_232 : mOne2 232 = true := by decide +kernel
set_option maxRecDepth 100000 in
theorem mck2_233 : mOne2 233 = true := by decide +kernel
set_option maxRecDepth 100000 in
theorem mck2_234 : mOne2 234 = true := by decide +kernel
set_option maxRecDepth 100000 in
theorem mck2_235 : mOne2 235 = true := by decide +kernel
set_option maxRecDepth 100000 in
theorem mck2_236 : mOne2 236 = true := by decide +kernel
set_option maxRecDepth 100000 in
theorem mck2_237 : mOne2 237 = true := by decide +kernel
set_option maxRecDepth 100000 in
theorem mck2_238 : mOne2 238 = true := by decide +kernel
set_option maxRecDepth 100000 in
theorem mck2_239 : mOne2 239 = true := by decide +kernel
set_option maxRecDepth 100000 in
theorem mck2_240 : mOne2 240 = true := by decide +kernel
set_option maxRecDepth 100000 in
theorem mck2_241 : mOne2 241 = true := by decide +kernel
set_option maxRecDepth 100000 in
theorem mck2_242 : mOne2 242 = true := by decide +kernel
set_option maxRecDepth 100000 in
theorem mck2_243 : mOne2 243 = true := by decide +kernel
set_option maxRecDepth 100000 in
theorem mck2_244 : mOne2 244 = true := by decide +kernel
set_option maxRecDepth 100000 in
theorem mck2_245 : mOne2 245 = true := by decide +kernel
set_option maxRecDepth 100000 in
theorem mck2_246 : mOne2 246 = true := by decide +kernel
set_option maxRecDepth 100000 in
theorem mck2_247 : mOne2 247 = true := by decide +kernel
set_option maxRecDepth 100000 in
theorem mck2_248 : mOne2 248 = true := by decide +kernel
set_option maxRecDepth 100000 in
theorem mck2_249 : mOne2 249 = true := by decide +kernel
set_option maxRecDepth 100000 in
theorem mck2_250 : mOne2 250 = true := by decide +kernel
set_option maxRecDepth 100000 in
theorem mck2_251 : mOne2 251 = true := by decide +kernel
set_option maxRecDepth 100000 in
theorem mck2_252 : mOne2 252 = true := by decide +kernel
set_option maxRecDepth 100000 in
theorem mck2_253 : mOne2 253 = true := by decide +kernel
set_option maxRecDepth 100000 in
theorem mck2_254 : mOne2 254 = true := by decide +kernel
set_option maxRecDepth 100000 in
theorem mck2_255 : mOne2 255 = true := by decide +kernel
set_option maxRecDepth 100000 in
theorem mck2_256 : mOne2 256 = true := by decide +kernel
set_option maxRecDepth 100000 in
theorem mck2_257 : mOne2 257 = true := by decide +kernel
set_option maxRecDepth 100000 in
theorem mck2_258 : mOne2 258 = true := by decide +kernel
set_option maxRecDepth 100000 in
theorem mck2_259 : mOne2 259 = true := by decide +kernel
set_option maxRecDepth 100000 in
theorem mck2_260 : mOne2 260 = true := by decide +kernel
set_option maxRecDepth 100000 in
theorem mck2_261 : mOne2 261 = true := by decide +kernel
set_option maxRecDepth 100000 in
theorem mck2_262 : mOne2 262 = true := by decide +kernel
set_option maxRecDepth 100000 in
theorem mck2_263 : mOne2 263 = true := by decide +kernel
set_option maxRecDepth 100000 in
theorem mck2_264 : mOne2 264 = true := by decide +kernel
set_option maxRecDepth 100000 in
theorem mck2_265 : mOne2 265 = true := by decide +kernel
set_option maxRecDepth 100000 in
theorem mck2_266 : mOne2 266 = true := by decide +kernel
set_option maxRecDepth 100000 in
theorem mck2_267 : mOne2 267 = true := by decide +kernel
set_option maxRecDepth 100000 in
theorem mck2_268 : mOne2 268 = true := by decide +kernel
set_option maxRecDepth 100000 in
theorem mck2_269 : mOne2 269 = true := by decide +kernel
set_option maxRecDepth 100000 in
theorem mck2_270 : mOne2 270 = true := by decide +kernel
set_option maxRecDepth 100000 in
theorem mck2_271 : mOne2 271 = true := by decide +kernel
set_option maxRecDepth 100000 in
theorem mck2_272 : mOne2 272 = true := by decide +kernel
set_option maxRecDepth 100000 in
theorem mck2_273 : mOne2 273 = true := by decide +kernel
set_option maxRecDepth 100000 in
theorem mck2_274 : mOne2 274 = true := by decide +kernel
set_option maxRecDepth 100000 in
theorem mck2_275 : mOne2 275 = true := by decide +kernel
set_option maxRecDepth 100000 in
theorem mck2_276 : mOne2 276 = true := by decide +kernel
set_option maxRecDepth 100000 in
theorem mck2_277 : mOne2 277 = true := by decide +kernel
theorem mck2_ok : ∀ y, y < 278 → mOne2 y = true := by
  intro y hy
  match y, hy with
  | 0, _ => exact mck2_0
  | 1, _ => exact mck2_1
  | 2, _ => exact mck2_2
  | 3, _ => exact mck2_3
  | 4, _ => exact mck2_4
  | 5, _ => exact mck2_5
  | 6, _ => exact mck2_6
  | 7, _ => exact mck2_7
  | 8, _ => exact mck2_8
  | 9, _ => exact mck2_9
  | 10, _ => exact mck2_10
  | 11, _ => exact mck2_11
  | 12, _ => exact mck2_12
  | 13, _ => exact mck2_13
  | 14, _ => exact mck2_14
  | 15, _ => exact mck2_15
  | 16, _ => exact mck2_16
  | 17, _ => exact mck2_17
  | 18, _ => exact mck2_18
  | 19, _ => exact mck2_19
  | 20, _ => exact mck2_20
  | 21, _ => exact mck2_21
  | 22, _ => exact mck2_22
  | 23, _ => exact mck2_23
  | 24, _ => exact mck2_24
  | 25, _ => exact mck2_25
  | 26, _ => exact mck2_26
  | 27, _ => exact mck2_27
  | 28, _ => exact mck2_28
  | 29, _ => exact mck2_29
  | 30, _ => exact mck2_30
  | 31, _ => exact mck2_31
  | 32, _ => exact mck2_32
  | 33, _ => exact mck2_33
  | 34, _ => exact mck2_34
  | 35, _ => exact mck2_35
  | 36, _ => exact mck2_36
  | 37, _ => exact mck2_37
  | 38, _ => exact mck2_38
  | 39, _ => exact mck2_39
  | 40, _ => exact mck2_40
  | 41, _ => exact mck2_41
  | 42, _ => exact mck2_42
  | 43, _ => exact mck2_43
  | 44, _ => exact mck2_44
  | 45, _ => exact mck2_45
  | 46, _ => exact mck2_46
  | 47, _ => exact mck2_47
  | 48, _ => exact mck2_48
  | 49, _ => exact mck2_49
  | 50, _ => exact mck2_50
  | 51, _ => exact mck2_51
  | 52, _ => exact mck2_52
  | 53, _ => exact mck2_53
  | 54, _ => exact mck2_54
  | 55, _ => exact mck2_55
  | 56, _ => exact mck2_56
  | 57, _ => exact mck2_57
  | 58, _ => exact mck2_58
  | 59, _ => exact mck2_59
  | 60, _ => exact mck2_60
  | 61, _ => exact mck2_61
  | 62, _ => exact mck2_62
  | 63, _ => exact mck2_63
  | 64, _ => exact mck2_64
  | 65, _ => exact mck2_65
  | 66, _ => exact mck2_66
  | 67, _ => exact mck2_67
  | 68, _ => exact mck2_68
  | 69, _ => exact mck2_69
  | 70, _ => exact mck2_70
  | 71, _ => exact mck2_71
  | 72, _ => exact mck2_72
  | 73, _ => exact mck2_73
  | 74, _ => exact mck2_74
  | 75, _ => exact mck2_75
  | 76, _ => exact mck2_76
  | 77, _ => exact mck2_77
  | 78, _ => exact mck2_78
  | 79, _ => exact mck2_79
  | 80, _ => exact mck2_80
  | 81, _ => exact mck2_81
  | 82, _ => exact mck2_82
  | 83, _ => exact mck2_83
  | 84, _ => exact mck2_84
  | 85, _ => exact mck2_85
  | 86, _ => exact mck2_86
  | 87, _ => exact mck2_87
  | 88, _ => exact mck2_88
  | 89, _ => exact mck2_89
  | 90, _ => exact mck2_90
  | 91, _ => exact mck2_91
  | 92, _ => exact mck2_92
  | 93, _ => exact mck2_93
  | 94, _ => exact mck2_94
  | 95, _ => exact mck2_95
  | 96, _ => exact mck2_96
  | 97, _ => exact mck2_97
  | 98, _ => exact mck2_98
  | 99, _ => exact mck2_99
  | 100, _ => exact mck2_100
  | 101, _ => exact mck2_101
  | 102, _ => exact mck2_102
  | 103, _ => exact mck2_103
  | 104, _ => exact mck2_104
  | 105, _ => exact mck2_105
  | 106, _ => exact mck2_106
  | 107, _ => exact mck2_107
  | 108, _ => exact mck2_108
  | 109, _ => exact mck2_109
  | 110, _ => exact mck2_110
  | 111, _ => exact mck2_111
  | 112, _ => exact mck2_112
  | 113, _ => exact mck2_113
  | 114, _ => exact mck2_114
  | 115, _ => exact mck2_115
  | 116, _ => exact mck2_116
  | 117, _ => exact mck2_117
  | 118, _ => exact mck2_118
  | 119, _ => exact mck2_119
  | 120, _ => exact mck2_120
  | 121, _ => exact mck2_121
  | 122, _ => exact mck2_122
  | 123, _ => exact mck2_123
  | 124, _ => exact mck2_124
  | 125, _ => exact mck2_125
  | 126, _ => exact mck2_126
  | 127, _ => exact mck2_127
  | 128, _ => exact mck2_128
  | 129, _ => exact mck2_129
  | 130, _ => exact mck2_130
  | 131, _ => exact mck2_131
  | 132, _ => exact mck2_132
  | 133, _ => exact mck2_133
  | 134, _ => exact mck2_134
  | 135, _ => exact mck2_135
  | 136, _ => exact mck2_136
  | 137, _ => exact mck2_137
  | 138, _ => exact mck2_138
  | 139, _ => exact mck2_139
  | 140, _ => exact mck2_140
  | 141, _ => exact mck2_141
  | 142, _ => exact mck2_142
  | 143, _ => exact mck2_143
  | 144, _ => exact mck2_144
  | 145, _ => exact mck2_145
  | 146, _ => exact mck2_146
  | 147, _ => exact mck2_147
  | 148, _ => exact mck2_148
  | 149, _ => exact mck2_149
  | 150, _ => exact mck2_150
  | 151, _ => exact mck2_151
  | 152, _ => exact mck2_152
  | 153, _ => exact mck2_153
  | 154, _ => exact mck2_154
  | 155, _ => exact mck2_155
  | 156, _ => exact mck2_156
  | 157, _ => exact mck2_157
  | 158, _ => exact mck2_158
  | 159, _ => exact mck2_159
  | 160, _ => exact mck2_160
  | 161, _ => exact mck2_161
  | 162, _ => exact mck2_162
  | 163, _ => exact mck2_163
  | 164, _ => exact mck2_164
  | 165, _ => exact mck2_165
  | 166, _ => exact mck2_166
  | 167, _ => exact mck2_167
  | 168, _ => exact mck2_168
  | 169, _ => exact mck2_169
  | 170, _ => exact mck2_170
  | 171, _ => exact mck2_171
  | 172, _ => exact mck2_172
  | 173, _ => exact mck2_173
  | 174, _ => exact mck2_174
  | 175, _ => exact mck2_175
  | 176, _ => exact mck2_176
  | 177, _ => exact mck2_177
  | 178, _ => exact mck2_178
  | 179, _ => exact mck2_179
  | 180, _ => exact mck2_180
  | 181, _ => exact mck2_181
  | 182, _ => exact mck2_182
  | 183, _ => exact mck2_183
  | 184, _ => exact mck2_184
  | 185, _ => exact mck2_185
  | 186, _ => exact mck2_186
  | 187, _ => exact mck2_187
  | 188, _ => exact mck2_188
  | 189, _ => exact mck2_189
  | 190, _ => exact mck2_190
  | 191, _ => exact mck2_191
  | 192, _ => exact mck2_192
  | 193, _ => exact mck2_193
  | 194, _ => exact mck2_194
  | 195, _ => exact mck2_195
  | 196, _ => exact mck2_196
  | 197, _ => exact mck2_197
  | 198, _ => exact mck2_198
  | 199, _ => exact mck2_199
  | 200, _ => exact mck2_200
  | 201, _ => exact mck2_201
  | 202, _ => exact mck2_202
  | 203, _ => exact mck2_203
  | 204, _ => exact mck2_204
  | 205, _ => exact mck2_205
  | 206, _ => exact mck2_206
  | 207, _ => exact mck2_207
  | 208, _ => exact mck2_208
  | 209, _ => exact mck2_209
  | 210, _ => exact mck2_210
  | 211, _ => exact mck2_211
  | 212, _ => exact mck2_212
  | 213, _ => exact mck2_213
  | 214, _ => exact mck2_214
  | 215, _ => exact mck2_215
  | 216, _ => exact mck2_216
  | 217, _ => exact mck2_217
  | 218, _ => exact mck2_218
  | 219, _ => exact mck2_219
  | 220, _ => exact mck2_220
  | 221, _ => exact mck2_221
  | 222, _ => exact mck2_222
  | 223, _ => exact mck2_223
  | 224, _ => exact mck2_224
  | 225, _ => exact mck2_225
  | 226, _ => exact mck2_226
  | 227, _ => exact mck2_227
  | 228, _ => exact mck2_228
  | 229, _ => exact mck2_229
  | 230, _ => exact mck2_230
  | 231, _ => exact mck2_231
  | 232, _ => exact mck2_232
  | 233, _ => exact mck2_233
  | 234, _ => exact mck2_234
  | 235, _ => exact mck2_235
  | 236, _ => exact mck2_236
  | 237, _ => exact mck2_237
  | 238, _ => exact mck2_238
  | 239, _ => exact mck2_239
  | 240, _ => exact mck2_240
  | 241, _ => exact mck2_241
  | 242, _ => exact mck2_242
  | 243, _ => exact mck2_243
  | 244, _ => exact mck2_244
  | 245, _ => exact mck2_245
  | 246, _ => exact mck2_246
  | 247, _ => exact mck2_247
  | 248, _ => exact mck2_248
  | 249, _ => exact mck2_249
  | 250, _ => exact mck2_250
  | 251, _ => exact mck2_251
  | 252, _ => exact mck2_252
  | 253, _ => exact mck2_253
  | 254, _ => exact mck2_254
  | 255, _ => exact mck2_255
  | 256, _ => exact mck2_256
  | 257, _ => exact mck2_257
  | 258, _ => exact mck2_258
  | 259, _ => exact mck2_259
  | 260, _ => exact mck2_260
  | 261, _ => exact mck2_261
  | 262, _ => exact mck2_262
  | 263, _ => exact mck2_263
  | 264, _ => exact mck2_264
  | 265, _ => exact mck2_265
  | 266, _ => exact mck2_266
  | 267, _ => exact mck2_267
  | 268, _ => exact mck2_268
  | 269, _ => exact mck2_269
  | 270, _ => exact mck2_270
  | 271, _ => exact mck2_271
  | 272, _ => exact mck2_272
  | 273, _ => exact mck2_273
  | 274, _ => exact mck2_274
  | 275, _ => exact mck2_275
  | 276, _ => exact mck2_276
  | 277, _ => exact mck2_277
  | n + 278, h => exact absurd h (by omega)
def mFLq (c : Nat) (fl : List (Option (Option Nat))) (q : vw_C) : Bool := Nat.beq fl.length q.2.2 && (List.range q.2.2).all (fun k => match parseFieldDescriptor (q.2.1 k).2.2.1 with
  | some ty => match fl[k]? with
    | some none => decide (defaultValue ty = .int 0)
    | some (some none) => decide (defaultValue ty = .null)
    | _ => false
  | none => false)
def mFLc (c : Nat) : Bool := match mFL[c]?, vwCl[c]? with
  | some fl, some q => mFLq c fl q
  | _, _ => false
theorem mFLc_ok : ∀ c, c < 12 → mFLc c = true := by decide +kernel
theorem mFL_ok {c : Nat} {fl : List (Option (Option Nat))} {q : vw_C} (h1 : mFL[c]? = some fl) (h2 : vwCl[c]? = some q) : fl.length = q.2.2 ∧ ∀ k, k < q.2.2 → ∃ ty, parseFieldDescriptor (q.2.1 k).2.2.1 = some ty ∧ ((fl[k]? = some none ∧ defaultValue ty = .int 0) ∨ (fl[k]? = some (some none) ∧ defaultValue ty = .null)) := by
  have hc : c < 12 := (List.getElem?_eq_some_iff.mp h2).1
  have h3 := mFLc_ok c hc
  unfold mFLc at h3
  rw [h1, h2] at h3
  simp only [mFLq, Bool.and_eq_true] at h3
  refine ⟨Nat.eq_of_beq_eq_true h3.1, fun k hk => ?_⟩
  have h4 := List.all_eq_true.mp h3.2 k (List.mem_range.mpr hk)
  split at h4
  · next ty hty =>
    refine ⟨ty, hty, ?_⟩
    split at h4
    · next hf => exact Or.inl ⟨hf, of_decide_eq_true h4⟩
    · next hf => exact Or.inr ⟨hf, of_decide_eq_true h4⟩
    · exact nomatch h4
  · exact nomatch h4
theorem mW_obj : Cond.instanceMethod Lib.objectInit ∈ TG ∧ Cond.code Lib.objectInit ⟨#[0xb1]⟩ 1 none ∈ TG := ⟨TG_1 (i := 29) rfl rfl, TG_1 (i := 30) rfl rfl⟩
theorem mW_max : Cond.static Lib.Math.max.name ∈ TG ∧ Cond.initialized "java/lang/Math" ∈ TG ∧ Cond.code Lib.Math.max.name Lib.Math.max.code 2 (some .int) ∈ TG := ⟨TG_2 (i := 221) rfl rfl, TG_1 (i := 19) rfl rfl, TG_2 (i := 222) rfl rfl⟩
theorem mW_min : Cond.static Lib.Math.min.name ∈ TG ∧ Cond.initialized "java/lang/Math" ∈ TG ∧ Cond.code Lib.Math.min.name Lib.Math.min.code 2 (some .int) ∈ TG := ⟨TG_2 (i := 168) rfl rfl, TG_1 (i := 19) rfl rfl, TG_2 (i := 169) rfl rfl⟩
theorem mW_cpy : Cond.native arraycopyName ∈ TG ∧ Cond.static arraycopyName ∈ TG ∧ Cond.initialized "java/lang/System" ∈ TG := ⟨TG_2 (i := 172) rfl rfl, TG_2 (i := 171) rfl rfl, TG_1 (i := 20) rfl rfl⟩
theorem mW_ct0 : Cond.classLink "JobWorkshopLaw" 13 (mExn 0) ∈ TG := TG_3 (i := 137) rfl rfl
theorem mW_ct1 : Cond.classLink "JobWorkshopLaw" 15 (mExn 1) ∈ TG := TG_3 (i := 138) rfl rfl
theorem mW_ct2 : Cond.classLink "JobWorkshopLaw" 17 (mExn 2) ∈ TG := TG_3 (i := 139) rfl rfl
theorem mW_ct {E : Nat} (h : E < 3) : Cond.classLink "JobWorkshopLaw" (mCt E) (mExn E) ∈ TG := by
  match E, h with
  | 0, _ => exact mW_ct0
  | 1, _ => exact mW_ct1
  | 2, _ => exact mW_ct2
  | n + 3, h => exact absurd h (by omega)
theorem mCt_ne (E : Nat) : mCt E ≠ 0 := by
  unfold mCt
  split <;> decide
theorem mW_cast0 : Cond.castable (mExn 0) (mExn 0) ∈ mBad := List.mem_of_getElem? (i := 2) rfl
theorem mW_cast1 : Cond.castable (mExn 1) (mExn 1) ∈ mBad := List.mem_of_getElem? (i := 9) rfl
theorem mW_cast2 : Cond.castable (mExn 2) (mExn 2) ∈ mBad := List.mem_of_getElem? (i := 10) rfl
theorem mW_cast {E : Nat} (h : E < 3) : Cond.castable (mExn E) (mExn E) ∈ mBad := by
  match E, h with
  | 0, _ => exact mW_cast0
  | 1, _ => exact mW_cast1
  | 2, _ => exact mW_cast2
  | n + 3, h => exact absurd h (by omega)
noncomputable def mInst (y : Nat) : Bool := match mProg[y]? with
  | none => false
  | some q => (mMt y).2.2.2.2.1 || Nat.blt q.2.2.2.1 12
set_option maxRecDepth 100000 in
theorem mInst_all : (List.range 278).all mInst = true := by decide +kernel
theorem mInst_ok {y : Nat} (hy : y < 278) (h : (mMt y).2.2.2.2.1 = false) : ∃ q, mProg[y]? = some q ∧ q.2.2.2.1 < 12 := by
  have h1 := List.all_eq_true.mp mInst_all y (List.mem_range.mpr hy)
  unfold mInst at h1
  split at h1
  · exact nomatch h1
  · next q hq =>
    rw [h, Bool.false_or] at h1
    exact ⟨q, hq, by simpa [Nat.blt_eq] using h1⟩
theorem mHead_ok {y : Nat} (h1 : y < 278) (h2 : y ≠ 238) (h3 : y ≠ 239) : ∃ q, mProg[y]? = some q ∧ (mMt y).1.cls = mOwn (q.2.2.2.1 % 100) ∧ ((q.2.2.1 = 0) = ((mMt y).2.2.1 ≠ some .boolean)) ∧ q.2.1 ≤ 12 ∧ ((mMt y).2.2.2.2.1 = Nat.ble 100 q.2.2.2.1) ∧ q.2.2.2.2.map (fun h => (h.1, h.2.1, h.2.2.1, mCt h.2.2.2)) = (mMt y).2.2.2.2.2 ∧ (∀ h ∈ q.2.2.2.2, h.2.2.2 < 3) ∧ (q.2.2.2.2 = [] ∨ q.2.2.2.1 = 112) ∧ mAll (mMt y).2.1 (q.2.2.2.1 % 100) ((mMt y).1.name == "<init>") q.2.1 q.1 = true := by
  have h4 := mck_ok y h1 h2 h3
  unfold mOne mHead at h4
  cases hq : mProg[y]? with
  | none => rw [hq] at h4; exact nomatch h4
  | some q =>
    rw [hq] at h4
    simp only [Bool.and_eq_true, beq_iff_eq] at h4
    obtain ⟨⟨⟨⟨⟨⟨⟨a1, a2⟩, a3⟩, a4⟩, a5⟩, a6⟩, a7⟩, a8⟩ := h4
    refine ⟨q, rfl, a1, ?_, Nat.le_of_ble_eq_true a3, a4, a5, fun h hh => ?_, ?_, a8⟩
    · apply propext
      constructor
      · intro h5
        rw [h5] at a2
        have a2 : true = !(decide ((mMt y).2.2.1 = some .boolean)) := a2
        intro h6
        rw [decide_eq_true h6] at a2
        exact nomatch a2
      · intro h5
        rw [decide_eq_false h5] at a2
        exact Nat.eq_of_beq_eq_true a2
    · have := List.all_eq_true.mp a6 h hh
      simpa [Nat.blt_eq] using this
    · rw [Bool.or_eq_true] at a7
      rcases a7 with h5 | h5
      · exact Or.inl (List.isEmpty_iff.mp h5)
      · exact Or.inr (Nat.eq_of_beq_eq_true h5)
theorem mMaxL_ok {y : Nat} (h1 : y < 277) (h2 : y ≠ 238) (h3 : y ≠ 239) : (mProg.getD y ([], (0, (0, (0, []))))).2.1 ≤ 12 := by
  obtain ⟨q, hq, -, -, h4, -⟩ := mHead_ok (Nat.lt_succ_of_lt h1) h2 h3
  rw [List.getD_eq_getElem?_getD, hq]
  exact h4
