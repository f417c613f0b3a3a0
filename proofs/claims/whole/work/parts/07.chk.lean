/-! every block of every method is what its bytes say -/
set_option maxRecDepth 100000 in
theorem zk_0 : zall 0 = true := by decide +kernel
set_option maxRecDepth 100000 in
theorem zk_1 : zall 1 = true := by decide +kernel
set_option maxRecDepth 100000 in
theorem zk_2 : zall 2 = true := by decide +kernel
set_option maxRecDepth 100000 in
theorem zk_3 : zall 3 = true := by decide +kernel
set_option maxRecDepth 100000 in
theorem zk_4 : zall 4 = true := by decide +kernel
set_option maxRecDepth 100000 in
theorem zk_5 : zall 5 = true := by decide +kernel
set_option maxRecDepth 100000 in
theorem zk_6 : zall 6 = true := by decide +kernel
set_option maxRecDepth 100000 in
theorem zk_7 : zall 7 = true := by decide +kernel
set_option maxRecDepth 100000 in
theorem zk_8 : zall 8 = true := by decide +kernel
set_option maxRecDepth 100000 in
theorem zk_9 : zall 9 = true := by decide +kernel
set_option maxRecDepth 100000 in
theorem zk_10 : zall 10 = true := by decide +kernel
set_option maxRecDepth 100000 in
theorem zk_11 : zall 11 = true := by decide +kernel
set_option maxRecDepth 100000 in
theorem zk_12 : zall 12 = true := by decide +kernel
set_option maxRecDepth 100000 in
theorem zk_13 : zall 13 = true := by decide +kernel
set_option maxRecDepth 100000 in
theorem zk_14 : zall 14 = true := by decide +kernel
set_option maxRecDepth 100000 in
theorem zk_15 : zall 15 = true := by decide +kernel
set_option maxRecDepth 100000 in
theorem zk_16 : zall 16 = true := by decide +kernel
set_option maxRecDepth 100000 in
theorem zk_17 : zall 17 = true := by decide +kernel
set_option maxRecDepth 100000 in
theorem zk_18 : zall 18 = true := by decide +kernel
set_option maxRecDepth 100000 in
theorem zk_19 : zall 19 = true := by decide +kernel
set_option maxRecDepth 100000 in
theorem zk_20 : zall 20 = true := by decide +kernel
set_option maxRecDepth 100000 in
theorem zk_21 : zall 21 = true := by decide +kernel
set_option maxRecDepth 100000 in
theorem zk_22 : zall 22 = true := by decide +kernel
set_option maxRecDepth 100000 in
theorem zk_23 : zall 23 = true := by decide +kernel
set_option maxRecDepth 100000 in
theorem zk_24 : zall 24 = true := by decide +kernel
set_option maxRecDepth 100000 in
theorem zk_25 : zall 25 = true := by decide +kernel
set_option maxRecDepth 100000 in
theorem zk_26 : zall 26 = true := by decide +kernel
set_option maxRecDepth 100000 in
theorem zk_27 : zall 27 = true := by decide +kernel
set_option maxRecDepth 100000 in
theorem zk_28 : zall 28 = true := by decide +kernel
set_option maxRecDepth 100000 in
theorem zk_29 : zall 29 = true := by decide +kernel
set_option maxRecDepth 100000 in
theorem zk_30 : zall 30 = true := by decide +kernel
set_option maxRecDepth 100000 in
theorem zk_31 : zall 31 = true := by decide +kernel
set_option maxRecDepth 100000 in
theorem zk_32 : zall 32 = true := by decide +kernel
set_option maxRecDepth 100000 in
theorem zk_33 : zall 33 = true := by decide +kernel
set_option maxRecDepth 100000 in
theorem zk_34 : zall 34 = true := by decide +kernel
set_option maxRecDepth 100000 in
theorem zk_35 : zall 35 = true := by decide +kernel
set_option maxRecDepth 100000 in
theorem zk_36 : zall 36 = true := by decide +kernel
set_option maxRecDepth 100000 in
theorem zk_37 : zall 37 = true := by decide +kernel
set_option maxRecDepth 100000 in
theorem zk_38 : zall 38 = true := by decide +kernel
set_option maxRecDepth 100000 in
theorem zk_39 : zall 39 = true := by decide +kernel
set_option maxRecDepth 100000 in
theorem zk_40 : zall 40 = true := by decide +kernel
set_option maxRecDepth 100000 in
theorem zk_41 : zall 41 = true := by decide +kernel
set_option maxRecDepth 100000 in
theorem zk_42 : zall 42 = true := by decide +kernel
set_option maxRecDepth 100000 in
theorem zk_43 : zall 43 = true := by decide +kernel
set_option maxRecDepth 100000 in
theorem zk_44 : zall 44 = true := by decide +kernel
set_option maxRecDepth 100000 in
theorem zk_45 : zall 45 = true := by decide +kernel
set_option maxRecDepth 100000 in
theorem zk_46 : zall 46 = true := by decide +kernel
set_option maxRecDepth 100000 in
theorem zk_47 : zall 47 = true := by decide +kernel
set_option maxRecDepth 100000 in
theorem zk_48 : zall 48 = true := by decide +kernel
set_option maxRecDepth 100000 in
theorem zk_49 : zall 49 = true := by decide +kernel
set_option maxRecDepth 100000 in
theorem zk_50 : zall 50 = true := by decide +kernel
set_option maxRecDepth 100000 in
theorem zk_51 : zall 51 = true := by decide +kernel
set_option maxRecDepth 100000 in
theorem zk_52 : zall 52 = true := by decide +kernel
set_option maxRecDepth 100000 in
theorem zk_53 : zall 53 = true := by decide +kernel
set_option maxRecDepth 100000 in
theorem zk_54 : zall 54 = true := by decide +kernel
set_option maxRecDepth 100000 in
theorem zk_55 : zall 55 = true := by decide +kernel
set_option maxRecDepth 100000 in
theorem zk_56 : zall 56 = true := by decide +kernel
set_option maxRecDepth 100000 in
theorem zk_57 : zall 57 = true := by decide +kernel
set_option maxRecDepth 100000 in
theorem zk_58 : zall 58 = true := by decide +kernel
set_option maxRecDepth 100000 in
theorem zk_59 : zall 59 = true := by decide +kernel
set_option maxRecDepth 100000 in
theorem zk_60 : zall 60 = true := by decide +kernel
set_option maxRecDepth 100000 in
theorem zk_61 : zall 61 = true := by decide +kernel
set_option maxRecDepth 100000 in
theorem zk_62 : zall 62 = true := by decide +kernel
set_option maxRecDepth 100000 in
theorem zk_63 : zall 63 = true := by decide +kernel
set_option maxRecDepth 100000 in
theorem zk_64 : zall 64 = true := by decide +kernel
set_option maxRecDepth 100000 in
theorem zk_65 : zall 65 = true := by decide +kernel
set_option maxRecDepth 100000 in
theorem zk_66 : zall 66 = true := by decide +kernel
set_option maxRecDepth 100000 in
theorem zk_67 : zall 67 = true := by decide +kernel
set_option maxRecDepth 100000 in
theorem zk_68 : zall 68 = true := by decide +kernel
set_option maxRecDepth 100000 in
theorem zk_69 : zall 69 = true := by decide +kernel
set_option maxRecDepth 100000 in
theorem zk_70 : zall 70 = true := by decide +kernel
set_option maxRecDepth 100000 in
theorem zk_71 : zall 71 = true := by decide +kernel
set_option maxRecDepth 100000 in
theorem zk_72 : zall 72 = true := by decide +kernel
set_option maxRecDepth 100000 in
theorem zk_73 : zall 73 = true := by decide +kernel
set_option maxRecDepth 100000 in
theorem zk_74 : zall 74 = true := by decide +kernel
set_option maxRecDepth 100000 in
theorem zk_75 : zall 75 = true := by decide +kernel
set_option maxRecDepth 100000 in
theorem zk_76 : zall 76 = true := by decide +kernel
set_option maxRecDepth 100000 in
theorem zk_77 : zall 77 = true := by decide +kernel
set_option maxRecDepth 100000 in
theorem zk_78 : zall 78 = true := by decide +kernel
set_option maxRecDepth 100000 in
theorem zk_79 : zall 79 = true := by decide +kernel
set_option maxRecDepth 100000 in
theorem zk_80 : zall 80 = true := by decide +kernel
set_option maxRecDepth 100000 in
theorem zk_81 : zall 81 = true := by decide +kernel
set_option maxRecDepth 100000 in
theorem zk_82 : zall 82 = true := by decide +kernel
set_option maxRecDepth 100000 in
theorem zk_83 : zall 83 = true := by decide +kernel
set_option maxRecDepth 100000 in
theorem zk_84 : zall 84 = true := by decide +kernel
set_option maxRecDepth 100000 in
theorem zk_85 : zall 85 = true := by decide +kernel
set_option maxRecDepth 100000 in
theorem zk_86 : zall 86 = true := by decide +kernel
set_option maxRecDepth 100000 in
theorem zk_87 : zall 87 = true := by decide +kernel
set_option maxRecDepth 100000 in
theorem zk_88 : zall 88 = true := by decide +kernel
set_option maxRecDepth 100000 in
theorem zk_89 : zall 89 = true := by decide +kernel
set_option maxRecDepth 100000 in
theorem zk_90 : zall 90 = true := by decide +kernel
set_option maxRecDepth 100000 in
theorem zk_91 : zall 91 = true := by decide +kernel
set_option maxRecDepth 100000 in
theorem zk_92 : zall 92 = true := by decide +kernel
set_option maxRecDepth 100000 in
theorem zk_93 : zall 93 = true := by decide +kernel
set_option maxRecDepth 100000 in
theorem zk_94 : zall 94 = true := by decide +kernel
set_option maxRecDepth 100000 in
theorem zk_95 : zall 95 = true := by decide +kernel
set_option maxRecDepth 100000 in
theorem zk_96 : zall 96 = true := by decide +kernel
set_option maxRecDepth 100000 in
theorem zk_97 : zall 97 = true := by decide +kernel
set_option maxRecDepth 100000 in
theorem zk_98 : zall 98 = true := by decide +kernel
set_option maxRecDepth 100000 in
theorem zk_99 : zall 99 = true := by decide +kernel
set_option maxRecDepth 100000 in
theorem zk_100 : zall 100 = true := by decide +kernel
set_option maxRecDepth 100000 in
theorem zk_101 : zall 101 = true := by decide +kernel
set_option maxRecDepth 100000 in
theorem zk_102 : zall 102 = true := by decide +kernel
set_option maxRecDepth 100000 in
theorem zk_103 : zall 103 = true := by decide +kernel
set_option maxRecDepth 100000 in
theorem zk_104 : zall 104 = true := by decide +kernel
set_option maxRecDepth 100000 in
theorem zk_105 : zall 105 = true := by decide +kernel
set_option maxRecDepth 100000 in
theorem zk_106 : zall 106 = true := by decide +kernel
set_option maxRecDepth 100000 in
theorem zk_107 : zall 107 = true := by decide +kernel
set_option maxRecDepth 100000 in
theorem zk_108 : zall 108 = true := by decide +kernel
set_option maxRecDepth 100000 in
theorem zk_109 : zall 109 = true := by decide +kernel
set_option maxRecDepth 100000 in
theorem zk_110 : zall 110 = true := by decide +kernel
set_option maxRecDepth 100000 in
theorem zk_111 : zall 111 = true := by decide +kernel
set_option maxRecDepth 100000 in
theorem zk_112 : zall 112 = true := by decide +kernel
set_option maxRecDepth 100000 in
theorem zk_113 : zall 113 = true := by decide +kernel
set_option maxRecDepth 100000 in
theorem zk_114 : zall 114 = true := by decide +kernel
set_option maxRecDepth 100000 in
theorem zk_115 : zall 115 = true := by decide +kernel
set_option maxRecDepth 100000 in
theorem zk_116 : zall 116 = true := by decide +kernel
set_option maxRecDepth 100000 in
theorem zk_117 : zall 117 = true := by decide +kernel
set_option maxRecDepth 100000 in
theorem zk_118 : zall 118 = true := by decide +kernel
set_option maxRecDepth 100000 in
theorem zk_119 : zall 119 = true := by decide +kernel
set_option maxRecDepth 100000 in
theorem zk_120 : zall 120 = true := by decide +kernel
set_option maxRecDepth 100000 in
theorem zk_121 : zall 121 = true := by decide +kernel
set_option maxRecDepth 100000 in
theorem zk_122 : zall 122 = true := by decide +kernel
set_option maxRecDepth 100000 in
theorem zk_123 : zall 123 = true := by decide +kernel
set_option maxRecDepth 100000 in
theorem zk_124 : zall 124 = true := by decide +kernel
set_option maxRecDepth 100000 in
theorem zk_125 : zall 125 = true := by decide +kernel
set_option maxRecDepth 100000 in
theorem zk_126 : zall 126 = true := by decide +kernel
set_option maxRecDepth 100000 in
theorem zk_127 : zall 127 = true := by decide +kernel
set_option maxRecDepth 100000 in
theorem zk_128 : zall 128 = true := by decide +kernel
set_option maxRecDepth 100000 in
theorem zk_129 : zall 129 = true := by decide +kernel
set_option maxRecDepth 100000 in
theorem zk_130 : zall 130 = true := by decide +kernel
set_option maxRecDepth 100000 in
theorem zk_131 : zall 131 = true := by decide +kernel
set_option maxRecDepth 100000 in
theorem zk_132 : zall 132 = true := by decide +kernel
set_option maxRecDepth 100000 in
theorem zk_133 : zall 133 = true := by decide +kernel
set_option maxRecDepth 100000 in
theorem zk_134 : zall 134 = true := by decide +kernel
set_option maxRecDepth 100000 in
theorem zk_135 : zall 135 = true := by decide +kernel
set_option maxRecDepth 100000 in
theorem zk_136 : zall 136 = true := by decide +kernel
set_option maxRecDepth 100000 in
theorem zk_137 : zall 137 = true := by decide +kernel
set_option maxRecDepth 100000 in
theorem zk_138 : zall 138 = true := by decide +kernel
set_option maxRecDepth 100000 in
theorem zk_139 : zall 139 = true := by decide +kernel
set_option maxRecDepth 100000 in
theorem zk_140 : zall 140 = true := by decide +kernel
set_option maxRecDepth 100000 in
theorem zk_141 : zall 141 = true := by decide +kernel
set_option maxRecDepth 100000 in
theorem zk_142 : zall 142 = true := by decide +kernel
set_option maxRecDepth 100000 in
theorem zk_143 : zall 143 = true := by decide +kernel
set_option maxRecDepth 100000 in
theorem zk_144 : zall 144 = true := by decide +kernel
set_option maxRecDepth 100000 in
theorem zk_145 : zall 145 = true := by decide +kernel
set_option maxRecDepth 100000 in
theorem zk_146 : zall 146 = true := by decide +kernel
set_option maxRecDepth 100000 in
theorem zk_147 : zall 147 = true := by decide +kernel
set_option maxRecDepth 100000 in
theorem zk_148 : zall 148 = true := by decide +kernel
set_option maxRecDepth 100000 in
theorem zk_149 : zall 149 = true := by decide +kernel
set_option maxRecDepth 100000 in
theorem zk_150 : zall 150 = true := by decide +kernel
set_option maxRecDepth 100000 in
theorem zk_151 : zall 151 = true := by decide +kernel
set_option maxRecDepth 100000 in
theorem zk_152 : zall 152 = true := by decide +kernel
set_option maxRecDepth 100000 in
theorem zk_153 : zall 153 = true := by decide +kernel
set_option maxRecDepth 100000 in
theorem zk_154 : zall 154 = true := by decide +kernel
set_option maxRecDepth 100000 in
theorem zk_155 : zall 155 = true := by decide +kernel
set_option maxRecDepth 100000 in
theorem zk_156 : zall 156 = true := by decide +kernel
set_option maxRecDepth 100000 in
theorem zk_157 : zall 157 = true := by decide +kernel
set_option maxRecDepth 100000 in
theorem zk_158 : zall 158 = true := by decide +kernel
set_option maxRecDepth 100000 in
theorem zk_159 : zall 159 = true := by decide +kernel
set_option maxRecDepth 100000 in
theorem zk_160 : zall 160 = true := by decide +kernel
set_option maxRecDepth 100000 in
theorem zk_161 : zall 161 = true := by decide +kernel
set_option maxRecDepth 100000 in
theorem zk_162 : zall 162 = true := by decide +kernel
set_option maxRecDepth 100000 in
theorem zk_163 : zall 163 = true := by decide +kernel
set_option maxRecDepth 100000 in
theorem zk_164 : zall 164 = true := by decide +kernel
set_option maxRecDepth 100000 in
theorem zk_165 : zall 165 = true := by decide +kernel
set_option maxRecDepth 100000 in
theorem zk_166 : zall 166 = true := by decide +kernel
set_option maxRecDepth 100000 in
theorem zk_167 : zall 167 = true := by decide +kernel
set_option maxRecDepth 100000 in
theorem zk_168 : zall 168 = true := by decide +kernel
set_option maxRecDepth 100000 in
theorem zk_169 : zall 169 = true := by decide +kernel
set_option maxRecDepth 100000 in
theorem zk_170 : zall 170 = true := by decide +kernel
set_option maxRecDepth 100000 in
theorem zk_171 : zall 171 = true := by decide +kernel
set_option maxRecDepth 100000 in
theorem zk_172 : zall 172 = true := by decide +kernel
set_option maxRecDepth 100000 in
theorem zk_173 : zall 173 = true := by decide +kernel
set_option maxRecDepth 100000 in
theorem zk_174 : zall 174 = true := by decide +kernel
set_option maxRecDepth 100000 in
theorem zk_175 : zall 175 = true := by decide +kernel
set_option maxRecDepth 100000 in
theorem zk_176 : zall 176 = true := by decide +kernel
set_option maxRecDepth 100000 in
theorem zk_177 : zall 177 = true := by decide +kernel
set_option maxRecDepth 100000 in
theorem zk_178 : zall 178 = true := by decide +kernel
set_option maxRecDepth 100000 in
theorem zk_179 : zall 179 = true := by decide +kernel
set_option maxRecDepth 100000 in
theorem zk_180 : zall 180 = true := by decide +kernel
set_option maxRecDepth 100000 in
theorem zk_181 : zall 181 = true := by decide +kernel
set_option maxRecDepth 100000 in
theorem zk_182 : zall 182 = true := by decide +kernel
set_option maxRecDepth 100000 in
theorem zk_183 : zall 183 = true := by decide +kernel
set_option maxRecDepth 100000 in
theorem zk_184 : zall 184 = true := by decide +kernel
set_option maxRecDepth 100000 in
theorem zk_185 : zall 185 = true := by decide +kernel
set_option maxRecDepth 100000 in
theorem zk_186 : zall 186 = true := by decide +kernel
set_option maxRecDepth 100000 in
theorem zk_187 : zall 187 = true := by decide +kernel
set_option maxRecDepth 100000 in
theorem zk_188 : zall 188 = true := by decide +kernel
set_option maxRecDepth 100000 in
theorem zk_189 : zall 189 = true := by decide +kernel
set_option maxRecDepth 100000 in
theorem zk_190 : zall 190 = true := by decide +kernel
set_option maxRecDepth 100000 in
theorem zk_191 : zall 191 = true := by decide +kernel
set_option maxRecDepth 100000 in
theorem zk_192 : zall 192 = true := by decide +kernel
set_option maxRecDepth 100000 in
theorem zk_193 : zall 193 = true := by decide +kernel
set_option maxRecDepth 100000 in
theorem zk_194 : zall 194 = true := by decide +kernel
set_option maxRecDepth 100000 in
theorem zk_195 : zall 195 = true := by decide +kernel
set_option maxRecDepth 100000 in
theorem zk_196 : zall 196 = true := by decide +kernel
set_option maxRecDepth 100000 in
theorem zk_197 : zall 197 = true := by decide +kernel
set_option maxRecDepth 100000 in
theorem zk_198 : zall 198 = true := by decide +kernel
set_option maxRecDepth 100000 in
theorem zk_199 : zall 199 = true := by decide +kernel
set_option maxRecDepth 100000 in
theorem zk_200 : zall 200 = true := by decide +kernel
set_option maxRecDepth 100000 in
theorem zk_201 : zall 201 = true := by decide +kernel
set_option maxRecDepth 100000 in
theorem zk_202 : zall 202 = true := by decide +kernel
set_option maxRecDepth 100000 in
theorem zk_203 : zall 203 = true := by decide +kernel
set_option maxRecDepth 100000 in
theorem zk_204 : zall 204 = true := by decide +kernel
set_option maxRecDepth 100000 in
theorem zk_205 : zall 205 = true := by decide +kernel
set_option maxRecDepth 100000 in
theorem zk_206 : zall 206 = true := by decide +kernel
set_option maxRecDepth 100000 in
theorem zk_207 : zall 207 = true := by decide +kernel
set_option maxRecDepth 100000 in
theorem zk_208 : zall 208 = true := by decide +kernel
set_option maxRecDepth 100000 in
theorem zk_209 : zall 209 = true := by decide +kernel
set_option maxRecDepth 100000 in
theorem zk_210 : zall 210 = true := by decide +kernel
set_option maxRecDepth 100000 in
theorem zk_211 : zall 211 = true := by decide +kernel
set_option maxRecDepth 100000 in
theorem zk_212 : zall 212 = true := by decide +kernel
set_option maxRecDepth 100000 in
theorem zk_213 : zall 213 = true := by decide +kernel
set_option maxRecDepth 100000 in
theorem zk_214 : zall 214 = true := by decide +kernel
set_option maxRecDepth 100000 in
theorem zk_215 : zall 215 = true := by decide +kernel
set_option maxRecDepth 100000 in
theorem zk_216 : zall 216 = true := by decide +kernel
set_option maxRecDepth 100000 in
theorem zk_217 : zall 217 = true := by decide +kernel
set_option maxRecDepth 100000 in
theorem zk_218 : zall 218 = true := by decide +kernel
set_option maxRecDepth 100000 in
theorem zk_219 : zall 219 = true := by decide +kernel
set_option maxRecDepth 100000 in
theorem zk_220 : zall 220 = true := by decide +kernel
set_option maxRecDepth 100000 in
theorem zk_221 : zall 221 = true := by decide +kernel
set_option maxRecDepth 100000 in
theorem zk_222 : zall 222 = true := by decide +kernel
set_option maxRecDepth 100000 in
theorem zk_223 : zall 223 = true := by decide +kernel
set_option maxRecDepth 100000 in
theorem zk_224 : zall 224 = true := by decide +kernel
set_option maxRecDepth 100000 in
theorem zk_225 : zall 225 = true := by decide +kernel
set_option maxRecDepth 100000 in
theorem zk_226 : zall 226 = true := by decide +kernel
set_option maxRecDepth 100000 in
theorem zk_227 : zall 227 = true := by decide +kernel
set_option maxRecDepth 100000 in
theorem zk_228 : zall 228 = true := by decide +kernel
set_option maxRecDepth 100000 in
theorem zk_229 : zall 229 = true := by decide +kernel
set_option maxRecDepth 100000 in
theorem zk_230 : zall 230 = true := by decide +kernel
set_option maxRecDepth 100000 in
theorem zk_231 : zall 231 = true := by decide +kernel
set_option maxRecDepth 100000 in
theorem zk_232 : zall 232 = true := by decide +kernel
set_option maxRecDepth 100000 in
theorem zk_233 : zall 233 = true := by decide +kernel
set_option maxRecDepth 100000 in
theorem zk_234 : zall 234 = true := by decide +kernel
set_option maxRecDepth 100000 in
theorem zk_235 : zall 235 = true := by decide +kernel
set_option maxRecDepth 100000 in
theorem zk_236 : zall 236 = true := by decide +kernel
set_option maxRecDepth 100000 in
theorem zk_237 : zall 237 = true := by decide +kernel
set_option maxRecDepth 100000 in
theorem zk_238 : zall 238 = true := by decide +kernel
set_option maxRecDepth 100000 in
theorem zk_239 : zall 239 = true := by decide +kernel
set_option maxRecDepth 100000 in
theorem zk_240 : zall 240 = true := by decide +kernel
set_option maxRecDepth 100000 in
theorem zk_241 : zall 241 = true := by decide +kernel
set_option maxRecDepth 100000 in
theorem zk_242 : zall 242 = true := by decide +kernel
set_option maxRecDepth 100000 in
theorem zk_243 : zall 243 = true := by decide +kernel
set_option maxRecDepth 100000 in
theorem zk_244 : zall 244 = true := by decide +kernel
set_option maxRecDepth 100000 in
theorem zk_245 : zall 245 = true := by decide +kernel
set_option maxRecDepth 100000 in
theorem zk_246 : zall 246 = true := by decide +kernel
set_option maxRecDepth 100000 in
theorem zk_247 : zall 247 = true := by decide +kernel
set_option maxRecDepth 100000 in
theorem zk_248 : zall 248 = true := by decide +kernel
set_option maxRecDepth 100000 in
theorem zk_249 : zall 249 = true := by decide +kernel
set_option maxRecDepth 100000 in
theorem zk_250 : zall 250 = true := by decide +kernel
set_option maxRecDepth 100000 in
theorem zk_251 : zall 251 = true := by decide +kernel
set_option maxRecDepth 100000 in
theorem zk_252 : zall 252 = true := by decide +kernel
set_option maxRecDepth 100000 in
theorem zk_253 : zall 253 = true := by decide +kernel
set_option maxRecDepth 100000 in
theorem zk_254 : zall 254 = true := by decide +kernel
set_option maxRecDepth 100000 in
theorem zk_255 : zall 255 = true := by decide +kernel
set_option maxRecDepth 100000 in
theorem zk_256 : zall 256 = true := by decide +kernel
set_option maxRecDepth 100000 in
theorem zk_257 : zall 257 = true := by decide +kernel
set_option maxRecDepth 100000 in
theorem zk_258 : zall 258 = true := by decide +kernel
set_option maxRecDepth 100000 in
theorem zk_259 : zall 259 = true := by decide +kernel
set_option maxRecDepth 100000 in
theorem zk_260 : zall 260 = true := by decide +kernel
set_option maxRecDepth 100000 in
theorem zk_261 : zall 261 = true := by decide +kernel
set_option maxRecDepth 100000 in
theorem zk_262 : zall 262 = true := by decide +kernel
set_option maxRecDepth 100000 in
theorem zk_263 : zall 263 = true := by decide +kernel
set_option maxRecDepth 100000 in
theorem zk_264 : zall 264 = true := by decide +kernel
set_option maxRecDepth 100000 in
theorem zk_265 : zall 265 = true := by decide +kernel
set_option maxRecDepth 100000 in
theorem zk_266 : zall 266 = true := by decide +kernel
