/-! every block of every method is what its bytes say -/
set_option maxRecDepth 100000 in
theorem zk_133 : zall 133 = true := by decide +kernel
set_option maxRecDepth 100000 in
theorem zk_134 : zall 134 = true := by decide +kernel
set_option maxRecDepth 100000 in
theorem zk_135 : zall 135 = true := by decide +kernel
set_option maxRecDepth 100000 in
theorem zk_136 : zall 136 = true := by decide +kernel
set_option maxRecDepth 100000 in
theorem zk_137 : zall 137 = true := by decide +kernel
set_option maxRecDepth 100000 in
theorem zk_138 : zall 138 = true := by decide +kernel
set_option maxRecDepth 100000 in
theorem zk_139 : zall 139 = true := by decide +kernel
set_option maxRecDepth 100000 in
theorem zk_140 : zall 140 = true := by decide +kernel
set_option maxRecDepth 100000 in
theorem zk_141 : zall 141 = true := by decide +kernel
set_option maxRecDepth 100000 in
theorem zk_142 : zall 142 = true := by decide +kernel
set_option maxRecDepth 100000 in
theorem zk_143 : zall 143 = true := by decide +kernel
set_option maxRecDepth 100000 in
theorem zk_144 : zall 144 = true := by decide +kernel
set_option maxRecDepth 100000 in
theorem zk_145 : zall 145 = true := by decide +kernel
set_option maxRecDepth 100000 in
theorem zk_146 : zall 146 = true := by decide +kernel
set_option maxRecDepth 100000 in
theorem zk_147 : zall 147 = true := by decide +kernel
set_option maxRecDepth 100000 in
theorem zk_148 : zall 148 = true := by decide +kernel
set_option maxRecDepth 100000 in
theorem zk_149 : zall 149 = true := by decide +kernel
set_option maxRecDepth 100000 in
theorem zk_150 : zall 150 = true := by decide +kernel
set_option maxRecDepth 100000 in
theorem zk_151 : zall 151 = true := by decide +kernel
set_option maxRecDepth 100000 in
theorem zk_152 : zall 152 = true := by decide +kernel
set_option maxRecDepth 100000 in
theorem zk_153 : zall 153 = true := by decide +kernel
set_option maxRecDepth 100000 in
theorem zk_154 : zall 154 = true := by decide +kernel
set_option maxRecDepth 100000 in
theorem zk_155 : zall 155 = true := by decide +kernel
set_option maxRecDepth 100000 in
theorem zk_156 : zall 156 = true := by decide +kernel
set_option maxRecDepth 100000 in
theorem zk_157 : zall 157 = true := by decide +kernel
set_option maxRecDepth 100000 in
theorem zk_158 : zall 158 = true := by decide +kernel
set_option maxRecDepth 100000 in
theorem zk_159 : zall 159 = true := by decide +kernel
set_option maxRecDepth 100000 in
theorem zk_160 : zall 160 = true := by decide +kernel
set_option maxRecDepth 100000 in
theorem zk_161 : zall 161 = true := by decide +kernel
set_option maxRecDepth 100000 in
theorem zk_162 : zall 162 = true := by decide +kernel
set_option maxRecDepth 100000 in
theorem zk_163 : zall 163 = true := by decide +kernel
set_option maxRecDepth 100000 in
theorem zk_164 : zall 164 = true := by decide +kernel
set_option maxRecDepth 100000 in
theorem zk_165 : zall 165 = true := by decide +kernel
set_option maxRecDepth 100000 in
theorem zk_166 : zall 166 = true := by decide +kernel
set_option maxRecDepth 100000 in
theorem zk_167 : zall 167 = true := by decide +kernel
set_option maxRecDepth 100000 in
theorem zk_168 : zall 168 = true := by decide +kernel
set_option maxRecDepth 100000 in
theorem zk_169 : zall 169 = true := by decide +kernel
set_option maxRecDepth 100000 in
theorem zk_170 : zall 170 = true := by decide +kernel
set_option maxRecDepth 100000 in
theorem zk_171 : zall 171 = true := by decide +kernel
set_option maxRecDepth 100000 in
theorem zk_172 : zall 172 = true := by decide +kernel
set_option maxRecDepth 100000 in
theorem zk_173 : zall 173 = true := by decide +kernel
set_option maxRecDepth 100000 in
theorem zk_174 : zall 174 = true := by decide +kernel
set_option maxRecDepth 100000 in
theorem zk_175 : zall 175 = true := by decide +kernel
set_option maxRecDepth 100000 in
theorem zk_176 : zall 176 = true := by decide +kernel
set_option maxRecDepth 100000 in
theorem zk_177 : zall 177 = true := by decide +kernel
set_option maxRecDepth 100000 in
theorem zk_178 : zall 178 = true := by decide +kernel
set_option maxRecDepth 100000 in
theorem zk_179 : zall 179 = true := by decide +kernel
set_option maxRecDepth 100000 in
theorem zk_180 : zall 180 = true := by decide +kernel
set_option maxRecDepth 100000 in
theorem zk_181 : zall 181 = true := by decide +kernel
set_option maxRecDepth 100000 in
theorem zk_182 : zall 182 = true := by decide +kernel
set_option maxRecDepth 100000 in
theorem zk_183 : zall 183 = true := by decide +kernel
set_option maxRecDepth 100000 in
theorem zk_184 : zall 184 = true := by decide +kernel
set_option maxRecDepth 100000 in
theorem zk_185 : zall 185 = true := by decide +kernel
set_option maxRecDepth 100000 in
theorem zk_186 : zall 186 = true := by decide +kernel
set_option maxRecDepth 100000 in
theorem zk_187 : zall 187 = true := by decide +kernel
set_option maxRecDepth 100000 in
theorem zk_188 : zall 188 = true := by decide +kernel
set_option maxRecDepth 100000 in
theorem zk_189 : zall 189 = true := by decide +kernel
set_option maxRecDepth 100000 in
theorem zk_190 : zall 190 = true := by decide +kernel
set_option maxRecDepth 100000 in
theorem zk_191 : zall 191 = true := by decide +kernel
set_option maxRecDepth 100000 in
theorem zk_192 : zall 192 = true := by decide +kernel
set_option maxRecDepth 100000 in
theorem zk_193 : zall 193 = true := by decide +kernel
set_option maxRecDepth 100000 in
theorem zk_194 : zall 194 = true := by decide +kernel
set_option maxRecDepth 100000 in
theorem zk_195 : zall 195 = true := by decide +kernel
set_option maxRecDepth 100000 in
theorem zk_196 : zall 196 = true := by decide +kernel
set_option maxRecDepth 100000 in
theorem zk_197 : zall 197 = true := by decide +kernel
set_option maxRecDepth 100000 in
theorem zk_198 : zall 198 = true := by decide +kernel
set_option maxRecDepth 100000 in
theorem zk_199 : zall 199 = true := by decide +kernel
set_option maxRecDepth 100000 in
theorem zk_200 : zall 200 = true := by decide +kernel
set_option maxRecDepth 100000 in
theorem zk_201 : zall 201 = true := by decide +kernel
set_option maxRecDepth 100000 in
theorem zk_202 : zall 202 = true := by decide +kernel
set_option maxRecDepth 100000 in
theorem zk_203 : zall 203 = true := by decide +kernel
set_option maxRecDepth 100000 in
theorem zk_204 : zall 204 = true := by decide +kernel
set_option maxRecDepth 100000 in
theorem zk_205 : zall 205 = true := by decide +kernel
set_option maxRecDepth 100000 in
theorem zk_206 : zall 206 = true := by decide +kernel
set_option maxRecDepth 100000 in
theorem zk_207 : zall 207 = true := by decide +kernel
set_option maxRecDepth 100000 in
theorem zk_208 : zall 208 = true := by decide +kernel
set_option maxRecDepth 100000 in
theorem zk_209 : zall 209 = true := by decide +kernel
set_option maxRecDepth 100000 in
theorem zk_210 : zall 210 = true := by decide +kernel
set_option maxRecDepth 100000 in
theorem zk_211 : zall 211 = true := by decide +kernel
set_option maxRecDepth 100000 in
theorem zk_212 : zall 212 = true := by decide +kernel
set_option maxRecDepth 100000 in
theorem zk_213 : zall 213 = true := by decide +kernel
set_option maxRecDepth 100000 in
theorem zk_214 : zall 214 = true := by decide +kernel
set_option maxRecDepth 100000 in
theorem zk_215 : zall 215 = true := by decide +kernel
set_option maxRecDepth 100000 in
theorem zk_216 : zall 216 = true := by decide +kernel
set_option maxRecDepth 100000 in
theorem zk_217 : zall 217 = true := by decide +kernel
set_option maxRecDepth 100000 in
theorem zk_218 : zall 218 = true := by decide +kernel
set_option maxRecDepth 100000 in
theorem zk_219 : zall 219 = true := by decide +kernel
set_option maxRecDepth 100000 in
theorem zk_220 : zall 220 = true := by decide +kernel
set_option maxRecDepth 100000 in
theorem zk_221 : zall 221 = true := by decide +kernel
set_option maxRecDepth 100000 in
theorem zk_222 : zall 222 = true := by decide +kernel
set_option maxRecDepth 100000 in
theorem zk_223 : zall 223 = true := by decide +kernel
set_option maxRecDepth 100000 in
theorem zk_224 : zall 224 = true := by decide +kernel
set_option maxRecDepth 100000 in
theorem zk_225 : zall 225 = true := by decide +kernel
set_option maxRecDepth 100000 in
theorem zk_226 : zall 226 = true := by decide +kernel
set_option maxRecDepth 100000 in
theorem zk_227 : zall 227 = true := by decide +kernel
set_option maxRecDepth 100000 in
theorem zk_228 : zall 228 = true := by decide +kernel
set_option maxRecDepth 100000 in
theorem zk_229 : zall 229 = true := by decide +kernel
set_option maxRecDepth 100000 in
theorem zk_230 : zall 230 = true := by decide +kernel
set_option maxRecDepth 100000 in
theorem zk_231 : zall 231 = true := by decide +kernel
set_option maxRecDepth 100000 in
theorem zk_232 : zall 232 = true := by decide +kernel
set_option maxRecDepth 100000 in
theorem zk_233 : zall 233 = true := by decide +kernel
set_option maxRecDepth 100000 in
theorem zk_234 : zall 234 = true := by decide +kernel
set_option maxRecDepth 100000 in
theorem zk_235 : zall 235 = true := by decide +kernel
set_option maxRecDepth 100000 in
theorem zk_236 : zall 236 = true := by decide +kernel
set_option maxRecDepth 100000 in
theorem zk_237 : zall 237 = true := by decide +kernel
set_option maxRecDepth 100000 in
theorem zk_238 : zall 238 = true := by decide +kernel
set_option maxRecDepth 100000 in
theorem zk_239 : zall 239 = true := by decide +kernel
set_option maxRecDepth 100000 in
theorem zk_240 : zall 240 = true := by decide +kernel
set_option maxRecDepth 100000 in
theorem zk_241 : zall 241 = true := by decide +kernel
set_option maxRecDepth 100000 in
theorem zk_242 : zall 242 = true := by decide +kernel
set_option maxRecDepth 100000 in
theorem zk_243 : zall 243 = true := by decide +kernel
set_option maxRecDepth 100000 in
theorem zk_244 : zall 244 = true := by decide +kernel
set_option maxRecDepth 100000 in
theorem zk_245 : zall 245 = true := by decide +kernel
set_option maxRecDepth 100000 in
theorem zk_246 : zall 246 = true := by decide +kernel
set_option maxRecDepth 100000 in
theorem zk_247 : zall 247 = true := by decide +kernel
set_option maxRecDepth 100000 in
theorem zk_248 : zall 248 = true := by decide +kernel
set_option maxRecDepth 100000 in
theorem zk_249 : zall 249 = true := by decide +kernel
set_option maxRecDepth 100000 in
theorem zk_250 : zall 250 = true := by decide +kernel
set_option maxRecDepth 100000 in
theorem zk_251 : zall 251 = true := by decide +kernel
set_option maxRecDepth 100000 in
theorem zk_252 : zall 252 = true := by decide +kernel
set_option maxRecDepth 100000 in
theorem zk_253 : zall 253 = true := by decide +kernel
set_option maxRecDepth 100000 in
theorem zk_254 : zall 254 = true := by decide +kernel
set_option maxRecDepth 100000 in
theorem zk_255 : zall 255 = true := by decide +kernel
set_option maxRecDepth 100000 in
theorem zk_256 : zall 256 = true := by decide +kernel
set_option maxRecDepth 100000 in
theorem zk_257 : zall 257 = true := by decide +kernel
set_option maxRecDepth 100000 in
theorem zk_258 : zall 258 = true := by decide +kernel
set_option maxRecDepth 100000 in
theorem zk_259 : zall 259 = true := by decide +kernel
set_option maxRecDepth 100000 in
theorem zk_260 : zall 260 = true := by decide +kernel
set_option maxRecDepth 100000 in
theorem zk_261 : zall 261 = true := by decide +kernel
set_option maxRecDepth 100000 in
theorem zk_262 : zall 262 = true := by decide +kernel
set_option maxRecDepth 100000 in
theorem zk_263 : zall 263 = true := by decide +kernel
