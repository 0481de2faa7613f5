theorem dX7_in_0 : decode cX7_in 0 = .ok (.lload_n 0, 1) := by decide +kernel
theorem dX7_in_1 : decode cX7_in 1 = .ok (.lload_n 2, 1) := by decide +kernel
theorem dX7_in_2 : decode cX7_in 2 = .ok (.lcmp, 1) := by decide +kernel
theorem dX7_in_3 : decode cX7_in 3 = .ok (.ifCond .lt 14, 3) := by decide +kernel
theorem dX7_in_6 : decode cX7_in 6 = .ok (.lload_n 0, 1) := by decide +kernel
theorem dX7_in_7 : decode cX7_in 7 = .ok (.lload 4, 2) := by decide +kernel
theorem dX7_in_9 : decode cX7_in 9 = .ok (.lcmp, 1) := by decide +kernel
theorem dX7_in_10 : decode cX7_in 10 = .ok (.ifCond .gt 7, 3) := by decide +kernel
theorem dX7_in_13 : decode cX7_in 13 = .ok (.iconst 1, 1) := by decide +kernel
theorem dX7_in_14 : decode cX7_in 14 = .ok (.goto 4, 3) := by decide +kernel
theorem dX7_in_17 : decode cX7_in 17 = .ok (.iconst 0, 1) := by decide +kernel
theorem dX7_in_18 : decode cX7_in 18 = .ok (.ireturn, 1) := by decide +kernel
theorem dX7_held_0 : decode cX7_held 0 = .ok (.iload_n 0, 1) := by decide +kernel
theorem dX7_held_1 : decode cX7_held 1 = .ok (.ifCond .ge 7, 3) := by decide +kernel
theorem dX7_held_4 : decode cX7_held 4 = .ok (.iconst 0, 1) := by decide +kernel
theorem dX7_held_5 : decode cX7_held 5 = .ok (.goto 13, 3) := by decide +kernel
theorem dX7_held_8 : decode cX7_held 8 = .ok (.iload_n 0, 1) := by decide +kernel
theorem dX7_held_9 : decode cX7_held 9 = .ok (.iload_n 1, 1) := by decide +kernel
theorem dX7_held_10 : decode cX7_held 10 = .ok (.if_icmp .le 7, 3) := by decide +kernel
theorem dX7_held_13 : decode cX7_held 13 = .ok (.iload_n 1, 1) := by decide +kernel
theorem dX7_held_14 : decode cX7_held 14 = .ok (.goto 4, 3) := by decide +kernel
theorem dX7_held_17 : decode cX7_held 17 = .ok (.iload_n 0, 1) := by decide +kernel
theorem dX7_held_18 : decode cX7_held 18 = .ok (.ireturn, 1) := by decide +kernel
theorem dX7_init_0 : decode cX7_init 0 = .ok (.aload_n 0, 1) := by decide +kernel
theorem dX7_init_1 : decode cX7_init 1 = .ok (.invokespecial 1, 3) := by decide +kernel
theorem dX7_init_4 : decode cX7_init 4 = .ok (.aload_n 0, 1) := by decide +kernel
theorem dX7_init_5 : decode cX7_init 5 = .ok (.bipush 20, 2) := by decide +kernel
theorem dX7_init_7 : decode cX7_init 7 = .ok (.newarray .int, 2) := by decide +kernel
theorem dX7_init_9 : decode cX7_init 9 = .ok (.putfield 9, 3) := by decide +kernel
theorem dX7_init_12 : decode cX7_init 12 = .ok (.aload_n 0, 1) := by decide +kernel
theorem dX7_init_13 : decode cX7_init 13 = .ok (.iconst 3, 1) := by decide +kernel
theorem dX7_init_14 : decode cX7_init 14 = .ok (.newarray .int, 2) := by decide +kernel
theorem dX7_init_16 : decode cX7_init 16 = .ok (.putfield 13, 3) := by decide +kernel
theorem dX7_init_19 : decode cX7_init 19 = .ok (.aload_n 0, 1) := by decide +kernel
theorem dX7_init_20 : decode cX7_init 20 = .ok (.sipush 160, 3) := by decide +kernel
theorem dX7_init_23 : decode cX7_init 23 = .ok (.newarray .int, 2) := by decide +kernel
theorem dX7_init_25 : decode cX7_init 25 = .ok (.putfield 16, 3) := by decide +kernel
theorem dX7_init_28 : decode cX7_init 28 = .ok (.aload_n 0, 1) := by decide +kernel
theorem dX7_init_29 : decode cX7_init 29 = .ok (.sipush 3570, 3) := by decide +kernel
theorem dX7_init_32 : decode cX7_init 32 = .ok (.newarray .int, 2) := by decide +kernel
theorem dX7_init_34 : decode cX7_init 34 = .ok (.putfield 19, 3) := by decide +kernel
theorem dX7_init_37 : decode cX7_init 37 = .ok (.aload_n 0, 1) := by decide +kernel
theorem dX7_init_38 : decode cX7_init 38 = .ok (.bipush 21, 2) := by decide +kernel
theorem dX7_init_40 : decode cX7_init 40 = .ok (.newarray .int, 2) := by decide +kernel
theorem dX7_init_42 : decode cX7_init 42 = .ok (.putfield 22, 3) := by decide +kernel
theorem dX7_init_45 : decode cX7_init 45 = .ok (.aload_n 0, 1) := by decide +kernel
theorem dX7_init_46 : decode cX7_init 46 = .ok (.bipush 21, 2) := by decide +kernel
theorem dX7_init_48 : decode cX7_init 48 = .ok (.newarray .int, 2) := by decide +kernel
theorem dX7_init_50 : decode cX7_init 50 = .ok (.putfield 25, 3) := by decide +kernel
theorem dX7_init_53 : decode cX7_init 53 = .ok (.aload_n 0, 1) := by decide +kernel
theorem dX7_init_54 : decode cX7_init 54 = .ok (.bipush 60, 2) := by decide +kernel
theorem dX7_init_56 : decode cX7_init 56 = .ok (.newarray .char, 2) := by decide +kernel
theorem dX7_init_58 : decode cX7_init 58 = .ok (.dup, 1) := by decide +kernel
theorem dX7_init_59 : decode cX7_init 59 = .ok (.iconst 0, 1) := by decide +kernel
theorem dX7_init_60 : decode cX7_init 60 = .ok (.bipush 104, 2) := by decide +kernel
theorem dX7_init_62 : decode cX7_init 62 = .ok (.castore, 1) := by decide +kernel
theorem dX7_init_63 : decode cX7_init 63 = .ok (.dup, 1) := by decide +kernel
theorem dX7_init_64 : decode cX7_init 64 = .ok (.iconst 1, 1) := by decide +kernel
theorem dX7_init_65 : decode cX7_init 65 = .ok (.bipush 101, 2) := by decide +kernel
theorem dX7_init_67 : decode cX7_init 67 = .ok (.castore, 1) := by decide +kernel
theorem dX7_init_68 : decode cX7_init 68 = .ok (.dup, 1) := by decide +kernel
theorem dX7_init_69 : decode cX7_init 69 = .ok (.iconst 2, 1) := by decide +kernel
theorem dX7_init_70 : decode cX7_init 70 = .ok (.bipush 97, 2) := by decide +kernel
theorem dX7_init_72 : decode cX7_init 72 = .ok (.castore, 1) := by decide +kernel
theorem dX7_init_73 : decode cX7_init 73 = .ok (.dup, 1) := by decide +kernel
theorem dX7_init_74 : decode cX7_init 74 = .ok (.iconst 3, 1) := by decide +kernel
theorem dX7_init_75 : decode cX7_init 75 = .ok (.bipush 116, 2) := by decide +kernel
theorem dX7_init_77 : decode cX7_init 77 = .ok (.castore, 1) := by decide +kernel
theorem dX7_init_78 : decode cX7_init 78 = .ok (.dup, 1) := by decide +kernel
theorem dX7_init_79 : decode cX7_init 79 = .ok (.iconst 4, 1) := by decide +kernel
theorem dX7_init_80 : decode cX7_init 80 = .ok (.bipush 32, 2) := by decide +kernel
theorem dX7_init_82 : decode cX7_init 82 = .ok (.castore, 1) := by decide +kernel
theorem dX7_init_83 : decode cX7_init 83 = .ok (.dup, 1) := by decide +kernel
theorem dX7_init_84 : decode cX7_init 84 = .ok (.iconst 5, 1) := by decide +kernel
theorem dX7_init_85 : decode cX7_init 85 = .ok (.bipush 115, 2) := by decide +kernel
theorem dX7_init_87 : decode cX7_init 87 = .ok (.castore, 1) := by decide +kernel
theorem dX7_init_88 : decode cX7_init 88 = .ok (.dup, 1) := by decide +kernel
theorem dX7_init_89 : decode cX7_init 89 = .ok (.bipush 6, 2) := by decide +kernel
theorem dX7_init_91 : decode cX7_init 91 = .ok (.bipush 111, 2) := by decide +kernel
theorem dX7_init_93 : decode cX7_init 93 = .ok (.castore, 1) := by decide +kernel
theorem dX7_init_94 : decode cX7_init 94 = .ok (.dup, 1) := by decide +kernel
theorem dX7_init_95 : decode cX7_init 95 = .ok (.bipush 7, 2) := by decide +kernel
theorem dX7_init_97 : decode cX7_init 97 = .ok (.bipush 117, 2) := by decide +kernel
theorem dX7_init_99 : decode cX7_init 99 = .ok (.castore, 1) := by decide +kernel
theorem dX7_init_100 : decode cX7_init 100 = .ok (.dup, 1) := by decide +kernel
theorem dX7_init_101 : decode cX7_init 101 = .ok (.bipush 8, 2) := by decide +kernel
theorem dX7_init_103 : decode cX7_init 103 = .ok (.bipush 114, 2) := by decide +kernel
theorem dX7_init_105 : decode cX7_init 105 = .ok (.castore, 1) := by decide +kernel
theorem dX7_init_106 : decode cX7_init 106 = .ok (.dup, 1) := by decide +kernel
theorem dX7_init_107 : decode cX7_init 107 = .ok (.bipush 9, 2) := by decide +kernel
theorem dX7_init_109 : decode cX7_init 109 = .ok (.bipush 32, 2) := by decide +kernel
theorem dX7_init_111 : decode cX7_init 111 = .ok (.castore, 1) := by decide +kernel
theorem dX7_init_112 : decode cX7_init 112 = .ok (.dup, 1) := by decide +kernel
theorem dX7_init_113 : decode cX7_init 113 = .ok (.bipush 10, 2) := by decide +kernel
theorem dX7_init_115 : decode cX7_init 115 = .ok (.bipush 115, 2) := by decide +kernel
theorem dX7_init_117 : decode cX7_init 117 = .ok (.castore, 1) := by decide +kernel
theorem dX7_init_118 : decode cX7_init 118 = .ok (.dup, 1) := by decide +kernel
theorem dX7_init_119 : decode cX7_init 119 = .ok (.bipush 11, 2) := by decide +kernel
theorem dX7_init_121 : decode cX7_init 121 = .ok (.bipush 116, 2) := by decide +kernel
theorem dX7_init_123 : decode cX7_init 123 = .ok (.castore, 1) := by decide +kernel
theorem dX7_init_124 : decode cX7_init 124 = .ok (.dup, 1) := by decide +kernel
theorem dX7_init_125 : decode cX7_init 125 = .ok (.bipush 12, 2) := by decide +kernel
theorem dX7_init_127 : decode cX7_init 127 = .ok (.bipush 97, 2) := by decide +kernel
theorem dX7_init_129 : decode cX7_init 129 = .ok (.castore, 1) := by decide +kernel
theorem dX7_init_130 : decode cX7_init 130 = .ok (.dup, 1) := by decide +kernel
theorem dX7_init_131 : decode cX7_init 131 = .ok (.bipush 13, 2) := by decide +kernel
theorem dX7_init_133 : decode cX7_init 133 = .ok (.bipush 114, 2) := by decide +kernel
theorem dX7_init_135 : decode cX7_init 135 = .ok (.castore, 1) := by decide +kernel
theorem dX7_init_136 : decode cX7_init 136 = .ok (.dup, 1) := by decide +kernel
theorem dX7_init_137 : decode cX7_init 137 = .ok (.bipush 14, 2) := by decide +kernel
theorem dX7_init_139 : decode cX7_init 139 = .ok (.bipush 99, 2) := by decide +kernel
theorem dX7_init_141 : decode cX7_init 141 = .ok (.castore, 1) := by decide +kernel
theorem dX7_init_142 : decode cX7_init 142 = .ok (.dup, 1) := by decide +kernel
theorem dX7_init_143 : decode cX7_init 143 = .ok (.bipush 15, 2) := by decide +kernel
theorem dX7_init_145 : decode cX7_init 145 = .ok (.bipush 104, 2) := by decide +kernel
theorem dX7_init_147 : decode cX7_init 147 = .ok (.castore, 1) := by decide +kernel
theorem dX7_init_148 : decode cX7_init 148 = .ok (.dup, 1) := by decide +kernel
theorem dX7_init_149 : decode cX7_init 149 = .ok (.bipush 16, 2) := by decide +kernel
theorem dX7_init_151 : decode cX7_init 151 = .ok (.bipush 32, 2) := by decide +kernel
theorem dX7_init_153 : decode cX7_init 153 = .ok (.castore, 1) := by decide +kernel
theorem dX7_init_154 : decode cX7_init 154 = .ok (.dup, 1) := by decide +kernel
theorem dX7_init_155 : decode cX7_init 155 = .ok (.bipush 17, 2) := by decide +kernel
theorem dX7_init_157 : decode cX7_init 157 = .ok (.bipush 119, 2) := by decide +kernel
theorem dX7_init_159 : decode cX7_init 159 = .ok (.castore, 1) := by decide +kernel
theorem dX7_init_160 : decode cX7_init 160 = .ok (.dup, 1) := by decide +kernel
theorem dX7_init_161 : decode cX7_init 161 = .ok (.bipush 18, 2) := by decide +kernel
theorem dX7_init_163 : decode cX7_init 163 = .ok (.bipush 97, 2) := by decide +kernel
theorem dX7_init_165 : decode cX7_init 165 = .ok (.castore, 1) := by decide +kernel
theorem dX7_init_166 : decode cX7_init 166 = .ok (.dup, 1) := by decide +kernel
theorem dX7_init_167 : decode cX7_init 167 = .ok (.bipush 19, 2) := by decide +kernel
theorem dX7_init_169 : decode cX7_init 169 = .ok (.bipush 116, 2) := by decide +kernel
theorem dX7_init_171 : decode cX7_init 171 = .ok (.castore, 1) := by decide +kernel
theorem dX7_init_172 : decode cX7_init 172 = .ok (.dup, 1) := by decide +kernel
theorem dX7_init_173 : decode cX7_init 173 = .ok (.bipush 20, 2) := by decide +kernel
theorem dX7_init_175 : decode cX7_init 175 = .ok (.bipush 101, 2) := by decide +kernel
theorem dX7_init_177 : decode cX7_init 177 = .ok (.castore, 1) := by decide +kernel
theorem dX7_init_178 : decode cX7_init 178 = .ok (.dup, 1) := by decide +kernel
theorem dX7_init_179 : decode cX7_init 179 = .ok (.bipush 21, 2) := by decide +kernel
theorem dX7_init_181 : decode cX7_init 181 = .ok (.bipush 114, 2) := by decide +kernel
theorem dX7_init_183 : decode cX7_init 183 = .ok (.castore, 1) := by decide +kernel
theorem dX7_init_184 : decode cX7_init 184 = .ok (.dup, 1) := by decide +kernel
theorem dX7_init_185 : decode cX7_init 185 = .ok (.bipush 22, 2) := by decide +kernel
theorem dX7_init_187 : decode cX7_init 187 = .ok (.bipush 32, 2) := by decide +kernel
theorem dX7_init_189 : decode cX7_init 189 = .ok (.castore, 1) := by decide +kernel
theorem dX7_init_190 : decode cX7_init 190 = .ok (.dup, 1) := by decide +kernel
theorem dX7_init_191 : decode cX7_init 191 = .ok (.bipush 23, 2) := by decide +kernel
theorem dX7_init_193 : decode cX7_init 193 = .ok (.bipush 102, 2) := by decide +kernel
theorem dX7_init_195 : decode cX7_init 195 = .ok (.castore, 1) := by decide +kernel
theorem dX7_init_196 : decode cX7_init 196 = .ok (.dup, 1) := by decide +kernel
theorem dX7_init_197 : decode cX7_init 197 = .ok (.bipush 24, 2) := by decide +kernel
theorem dX7_init_199 : decode cX7_init 199 = .ok (.bipush 97, 2) := by decide +kernel
theorem dX7_init_201 : decode cX7_init 201 = .ok (.castore, 1) := by decide +kernel
theorem dX7_init_202 : decode cX7_init 202 = .ok (.dup, 1) := by decide +kernel
theorem dX7_init_203 : decode cX7_init 203 = .ok (.bipush 25, 2) := by decide +kernel
theorem dX7_init_205 : decode cX7_init 205 = .ok (.bipush 116, 2) := by decide +kernel
theorem dX7_init_207 : decode cX7_init 207 = .ok (.castore, 1) := by decide +kernel
theorem dX7_init_208 : decode cX7_init 208 = .ok (.dup, 1) := by decide +kernel
theorem dX7_init_209 : decode cX7_init 209 = .ok (.bipush 26, 2) := by decide +kernel
theorem dX7_init_211 : decode cX7_init 211 = .ok (.bipush 32, 2) := by decide +kernel
theorem dX7_init_213 : decode cX7_init 213 = .ok (.castore, 1) := by decide +kernel
theorem dX7_init_214 : decode cX7_init 214 = .ok (.dup, 1) := by decide +kernel
theorem dX7_init_215 : decode cX7_init 215 = .ok (.bipush 27, 2) := by decide +kernel
theorem dX7_init_217 : decode cX7_init 217 = .ok (.bipush 97, 2) := by decide +kernel
theorem dX7_init_219 : decode cX7_init 219 = .ok (.castore, 1) := by decide +kernel
theorem dX7_init_220 : decode cX7_init 220 = .ok (.dup, 1) := by decide +kernel
theorem dX7_init_221 : decode cX7_init 221 = .ok (.bipush 28, 2) := by decide +kernel
theorem dX7_init_223 : decode cX7_init 223 = .ok (.bipush 103, 2) := by decide +kernel
theorem dX7_init_225 : decode cX7_init 225 = .ok (.castore, 1) := by decide +kernel
theorem dX7_init_226 : decode cX7_init 226 = .ok (.dup, 1) := by decide +kernel
theorem dX7_init_227 : decode cX7_init 227 = .ok (.bipush 29, 2) := by decide +kernel
theorem dX7_init_229 : decode cX7_init 229 = .ok (.bipush 101, 2) := by decide +kernel
theorem dX7_init_231 : decode cX7_init 231 = .ok (.castore, 1) := by decide +kernel
theorem dX7_init_232 : decode cX7_init 232 = .ok (.dup, 1) := by decide +kernel
theorem dX7_init_233 : decode cX7_init 233 = .ok (.bipush 30, 2) := by decide +kernel
theorem dX7_init_235 : decode cX7_init 235 = .ok (.bipush 32, 2) := by decide +kernel
theorem dX7_init_237 : decode cX7_init 237 = .ok (.castore, 1) := by decide +kernel
theorem dX7_init_238 : decode cX7_init 238 = .ok (.dup, 1) := by decide +kernel
theorem dX7_init_239 : decode cX7_init 239 = .ok (.bipush 31, 2) := by decide +kernel
theorem dX7_init_241 : decode cX7_init 241 = .ok (.bipush 109, 2) := by decide +kernel
theorem dX7_init_243 : decode cX7_init 243 = .ok (.castore, 1) := by decide +kernel
theorem dX7_init_244 : decode cX7_init 244 = .ok (.dup, 1) := by decide +kernel
theorem dX7_init_245 : decode cX7_init 245 = .ok (.bipush 32, 2) := by decide +kernel
theorem dX7_init_247 : decode cX7_init 247 = .ok (.bipush 101, 2) := by decide +kernel
theorem dX7_init_249 : decode cX7_init 249 = .ok (.castore, 1) := by decide +kernel
theorem dX7_init_250 : decode cX7_init 250 = .ok (.dup, 1) := by decide +kernel
theorem dX7_init_251 : decode cX7_init 251 = .ok (.bipush 33, 2) := by decide +kernel
theorem dX7_init_253 : decode cX7_init 253 = .ok (.bipush 108, 2) := by decide +kernel
theorem dX7_init_255 : decode cX7_init 255 = .ok (.castore, 1) := by decide +kernel
theorem dX7_init_256 : decode cX7_init 256 = .ok (.dup, 1) := by decide +kernel
theorem dX7_init_257 : decode cX7_init 257 = .ok (.bipush 34, 2) := by decide +kernel
theorem dX7_init_259 : decode cX7_init 259 = .ok (.bipush 116, 2) := by decide +kernel
theorem dX7_init_261 : decode cX7_init 261 = .ok (.castore, 1) := by decide +kernel
theorem dX7_init_262 : decode cX7_init 262 = .ok (.dup, 1) := by decide +kernel
theorem dX7_init_263 : decode cX7_init 263 = .ok (.bipush 35, 2) := by decide +kernel
theorem dX7_init_265 : decode cX7_init 265 = .ok (.bipush 32, 2) := by decide +kernel
theorem dX7_init_267 : decode cX7_init 267 = .ok (.castore, 1) := by decide +kernel
theorem dX7_init_268 : decode cX7_init 268 = .ok (.dup, 1) := by decide +kernel
theorem dX7_init_269 : decode cX7_init 269 = .ok (.bipush 36, 2) := by decide +kernel
theorem dX7_init_271 : decode cX7_init 271 = .ok (.bipush 115, 2) := by decide +kernel
theorem dX7_init_273 : decode cX7_init 273 = .ok (.castore, 1) := by decide +kernel
theorem dX7_init_274 : decode cX7_init 274 = .ok (.dup, 1) := by decide +kernel
theorem dX7_init_275 : decode cX7_init 275 = .ok (.bipush 37, 2) := by decide +kernel
theorem dX7_init_277 : decode cX7_init 277 = .ok (.bipush 112, 2) := by decide +kernel
theorem dX7_init_279 : decode cX7_init 279 = .ok (.castore, 1) := by decide +kernel
theorem dX7_init_280 : decode cX7_init 280 = .ok (.dup, 1) := by decide +kernel
theorem dX7_init_281 : decode cX7_init 281 = .ok (.bipush 38, 2) := by decide +kernel
theorem dX7_init_283 : decode cX7_init 283 = .ok (.bipush 108, 2) := by decide +kernel
theorem dX7_init_285 : decode cX7_init 285 = .ok (.castore, 1) := by decide +kernel
theorem dX7_init_286 : decode cX7_init 286 = .ok (.dup, 1) := by decide +kernel
theorem dX7_init_287 : decode cX7_init 287 = .ok (.bipush 39, 2) := by decide +kernel
theorem dX7_init_289 : decode cX7_init 289 = .ok (.bipush 105, 2) := by decide +kernel
theorem dX7_init_291 : decode cX7_init 291 = .ok (.castore, 1) := by decide +kernel
theorem dX7_init_292 : decode cX7_init 292 = .ok (.dup, 1) := by decide +kernel
theorem dX7_init_293 : decode cX7_init 293 = .ok (.bipush 40, 2) := by decide +kernel
theorem dX7_init_295 : decode cX7_init 295 = .ok (.bipush 116, 2) := by decide +kernel
theorem dX7_init_297 : decode cX7_init 297 = .ok (.castore, 1) := by decide +kernel
theorem dX7_init_298 : decode cX7_init 298 = .ok (.dup, 1) := by decide +kernel
theorem dX7_init_299 : decode cX7_init 299 = .ok (.bipush 41, 2) := by decide +kernel
theorem dX7_init_301 : decode cX7_init 301 = .ok (.bipush 32, 2) := by decide +kernel
theorem dX7_init_303 : decode cX7_init 303 = .ok (.castore, 1) := by decide +kernel
theorem dX7_init_304 : decode cX7_init 304 = .ok (.dup, 1) := by decide +kernel
theorem dX7_init_305 : decode cX7_init 305 = .ok (.bipush 42, 2) := by decide +kernel
theorem dX7_init_307 : decode cX7_init 307 = .ok (.bipush 116, 2) := by decide +kernel
theorem dX7_init_309 : decode cX7_init 309 = .ok (.castore, 1) := by decide +kernel
theorem dX7_init_310 : decode cX7_init 310 = .ok (.dup, 1) := by decide +kernel
theorem dX7_init_311 : decode cX7_init 311 = .ok (.bipush 43, 2) := by decide +kernel
theorem dX7_init_313 : decode cX7_init 313 = .ok (.bipush 104, 2) := by decide +kernel
theorem dX7_init_315 : decode cX7_init 315 = .ok (.castore, 1) := by decide +kernel
theorem dX7_init_316 : decode cX7_init 316 = .ok (.dup, 1) := by decide +kernel
theorem dX7_init_317 : decode cX7_init 317 = .ok (.bipush 44, 2) := by decide +kernel
theorem dX7_init_319 : decode cX7_init 319 = .ok (.bipush 114, 2) := by decide +kernel
theorem dX7_init_321 : decode cX7_init 321 = .ok (.castore, 1) := by decide +kernel
theorem dX7_init_322 : decode cX7_init 322 = .ok (.dup, 1) := by decide +kernel
theorem dX7_init_323 : decode cX7_init 323 = .ok (.bipush 45, 2) := by decide +kernel
theorem dX7_init_325 : decode cX7_init 325 = .ok (.bipush 101, 2) := by decide +kernel
theorem dX7_init_327 : decode cX7_init 327 = .ok (.castore, 1) := by decide +kernel
theorem dX7_init_328 : decode cX7_init 328 = .ok (.dup, 1) := by decide +kernel
theorem dX7_init_329 : decode cX7_init 329 = .ok (.bipush 46, 2) := by decide +kernel
theorem dX7_init_331 : decode cX7_init 331 = .ok (.bipush 97, 2) := by decide +kernel
theorem dX7_init_333 : decode cX7_init 333 = .ok (.castore, 1) := by decide +kernel
theorem dX7_init_334 : decode cX7_init 334 = .ok (.dup, 1) := by decide +kernel
theorem dX7_init_335 : decode cX7_init 335 = .ok (.bipush 47, 2) := by decide +kernel
theorem dX7_init_337 : decode cX7_init 337 = .ok (.bipush 100, 2) := by decide +kernel
theorem dX7_init_339 : decode cX7_init 339 = .ok (.castore, 1) := by decide +kernel
theorem dX7_init_340 : decode cX7_init 340 = .ok (.dup, 1) := by decide +kernel
theorem dX7_init_341 : decode cX7_init 341 = .ok (.bipush 48, 2) := by decide +kernel
theorem dX7_init_343 : decode cX7_init 343 = .ok (.bipush 32, 2) := by decide +kernel
theorem dX7_init_345 : decode cX7_init 345 = .ok (.castore, 1) := by decide +kernel
theorem dX7_init_346 : decode cX7_init 346 = .ok (.dup, 1) := by decide +kernel
theorem dX7_init_347 : decode cX7_init 347 = .ok (.bipush 49, 2) := by decide +kernel
theorem dX7_init_349 : decode cX7_init 349 = .ok (.bipush 111, 2) := by decide +kernel
theorem dX7_init_351 : decode cX7_init 351 = .ok (.castore, 1) := by decide +kernel
theorem dX7_init_352 : decode cX7_init 352 = .ok (.dup, 1) := by decide +kernel
theorem dX7_init_353 : decode cX7_init 353 = .ok (.bipush 50, 2) := by decide +kernel
theorem dX7_init_355 : decode cX7_init 355 = .ok (.bipush 114, 2) := by decide +kernel
theorem dX7_init_357 : decode cX7_init 357 = .ok (.castore, 1) := by decide +kernel
theorem dX7_init_358 : decode cX7_init 358 = .ok (.dup, 1) := by decide +kernel
theorem dX7_init_359 : decode cX7_init 359 = .ok (.bipush 51, 2) := by decide +kernel
theorem dX7_init_361 : decode cX7_init 361 = .ok (.bipush 32, 2) := by decide +kernel
theorem dX7_init_363 : decode cX7_init 363 = .ok (.castore, 1) := by decide +kernel
theorem dX7_init_364 : decode cX7_init 364 = .ok (.dup, 1) := by decide +kernel
theorem dX7_init_365 : decode cX7_init 365 = .ok (.bipush 52, 2) := by decide +kernel
theorem dX7_init_367 : decode cX7_init 367 = .ok (.bipush 97, 2) := by decide +kernel
theorem dX7_init_369 : decode cX7_init 369 = .ok (.castore, 1) := by decide +kernel
theorem dX7_init_370 : decode cX7_init 370 = .ok (.dup, 1) := by decide +kernel
theorem dX7_init_371 : decode cX7_init 371 = .ok (.bipush 53, 2) := by decide +kernel
theorem dX7_init_373 : decode cX7_init 373 = .ok (.bipush 110, 2) := by decide +kernel
theorem dX7_init_375 : decode cX7_init 375 = .ok (.castore, 1) := by decide +kernel
theorem dX7_init_376 : decode cX7_init 376 = .ok (.dup, 1) := by decide +kernel
theorem dX7_init_377 : decode cX7_init 377 = .ok (.bipush 54, 2) := by decide +kernel
theorem dX7_init_379 : decode cX7_init 379 = .ok (.bipush 100, 2) := by decide +kernel
theorem dX7_init_381 : decode cX7_init 381 = .ok (.castore, 1) := by decide +kernel
theorem dX7_init_382 : decode cX7_init 382 = .ok (.dup, 1) := by decide +kernel
theorem dX7_init_383 : decode cX7_init 383 = .ok (.bipush 55, 2) := by decide +kernel
theorem dX7_init_385 : decode cX7_init 385 = .ok (.bipush 32, 2) := by decide +kernel
theorem dX7_init_387 : decode cX7_init 387 = .ok (.castore, 1) := by decide +kernel
theorem dX7_init_388 : decode cX7_init 388 = .ok (.dup, 1) := by decide +kernel
theorem dX7_init_389 : decode cX7_init 389 = .ok (.bipush 56, 2) := by decide +kernel
theorem dX7_init_391 : decode cX7_init 391 = .ok (.bipush 110, 2) := by decide +kernel
theorem dX7_init_393 : decode cX7_init 393 = .ok (.castore, 1) := by decide +kernel
theorem dX7_init_394 : decode cX7_init 394 = .ok (.dup, 1) := by decide +kernel
theorem dX7_init_395 : decode cX7_init 395 = .ok (.bipush 57, 2) := by decide +kernel
theorem dX7_init_397 : decode cX7_init 397 = .ok (.bipush 111, 2) := by decide +kernel
theorem dX7_init_399 : decode cX7_init 399 = .ok (.castore, 1) := by decide +kernel
theorem dX7_init_400 : decode cX7_init 400 = .ok (.dup, 1) := by decide +kernel
theorem dX7_init_401 : decode cX7_init 401 = .ok (.bipush 58, 2) := by decide +kernel
theorem dX7_init_403 : decode cX7_init 403 = .ok (.bipush 116, 2) := by decide +kernel
theorem dX7_init_405 : decode cX7_init 405 = .ok (.castore, 1) := by decide +kernel
theorem dX7_init_406 : decode cX7_init 406 = .ok (.dup, 1) := by decide +kernel
theorem dX7_init_407 : decode cX7_init 407 = .ok (.bipush 59, 2) := by decide +kernel
theorem dX7_init_409 : decode cX7_init 409 = .ok (.bipush 32, 2) := by decide +kernel
theorem dX7_init_411 : decode cX7_init 411 = .ok (.castore, 1) := by decide +kernel
theorem dX7_init_412 : decode cX7_init 412 = .ok (.putfield 28, 3) := by decide +kernel
theorem dX7_init_415 : decode cX7_init 415 = .ok (.aload_n 0, 1) := by decide +kernel
theorem dX7_init_416 : decode cX7_init 416 = .ok (.sipush 170, 3) := by decide +kernel
theorem dX7_init_419 : decode cX7_init 419 = .ok (.newarray .int, 2) := by decide +kernel
theorem dX7_init_421 : decode cX7_init 421 = .ok (.putfield 32, 3) := by decide +kernel
theorem dX7_init_424 : decode cX7_init 424 = .ok (.aload_n 0, 1) := by decide +kernel
theorem dX7_init_425 : decode cX7_init 425 = .ok (.bipush 6, 2) := by decide +kernel
theorem dX7_init_427 : decode cX7_init 427 = .ok (.newarray .int, 2) := by decide +kernel
theorem dX7_init_429 : decode cX7_init 429 = .ok (.putfield 35, 3) := by decide +kernel
theorem dX7_init_432 : decode cX7_init 432 = .ok (.aload_n 0, 1) := by decide +kernel
theorem dX7_init_433 : decode cX7_init 433 = .ok (.bipush 12, 2) := by decide +kernel
theorem dX7_init_435 : decode cX7_init 435 = .ok (.newarray .int, 2) := by decide +kernel
theorem dX7_init_437 : decode cX7_init 437 = .ok (.putfield 38, 3) := by decide +kernel
theorem dX7_init_440 : decode cX7_init 440 = .ok (.aload_n 0, 1) := by decide +kernel
theorem dX7_init_441 : decode cX7_init 441 = .ok (.bipush 12, 2) := by decide +kernel
theorem dX7_init_443 : decode cX7_init 443 = .ok (.newarray .int, 2) := by decide +kernel
theorem dX7_init_445 : decode cX7_init 445 = .ok (.putfield 41, 3) := by decide +kernel
theorem dX7_init_448 : decode cX7_init 448 = .ok (.aload_n 0, 1) := by decide +kernel
theorem dX7_init_449 : decode cX7_init 449 = .ok (.bipush 12, 2) := by decide +kernel
theorem dX7_init_451 : decode cX7_init 451 = .ok (.newarray .int, 2) := by decide +kernel
theorem dX7_init_453 : decode cX7_init 453 = .ok (.putfield 44, 3) := by decide +kernel
theorem dX7_init_456 : decode cX7_init 456 = .ok (.aload_n 0, 1) := by decide +kernel
theorem dX7_init_457 : decode cX7_init 457 = .ok (.bipush 14, 2) := by decide +kernel
theorem dX7_init_459 : decode cX7_init 459 = .ok (.newarray .int, 2) := by decide +kernel
theorem dX7_init_461 : decode cX7_init 461 = .ok (.putfield 47, 3) := by decide +kernel
theorem dX7_init_464 : decode cX7_init 464 = .ok (.aload_n 0, 1) := by decide +kernel
theorem dX7_init_465 : decode cX7_init 465 = .ok (.bipush 20, 2) := by decide +kernel
theorem dX7_init_467 : decode cX7_init 467 = .ok (.newarray .int, 2) := by decide +kernel
theorem dX7_init_469 : decode cX7_init 469 = .ok (.putfield 50, 3) := by decide +kernel
theorem dX7_init_472 : decode cX7_init 472 = .ok (.aload_n 0, 1) := by decide +kernel
theorem dX7_init_473 : decode cX7_init 473 = .ok (.iconst 3, 1) := by decide +kernel
theorem dX7_init_474 : decode cX7_init 474 = .ok (.newarray .int, 2) := by decide +kernel
theorem dX7_init_476 : decode cX7_init 476 = .ok (.putfield 53, 3) := by decide +kernel
theorem dX7_init_479 : decode cX7_init 479 = .ok (.aload_n 0, 1) := by decide +kernel
theorem dX7_init_480 : decode cX7_init 480 = .ok (.iconst 4, 1) := by decide +kernel
theorem dX7_init_481 : decode cX7_init 481 = .ok (.newarray .int, 2) := by decide +kernel
theorem dX7_init_483 : decode cX7_init 483 = .ok (.putfield 56, 3) := by decide +kernel
theorem dX7_init_486 : decode cX7_init 486 = .ok (.aload_n 0, 1) := by decide +kernel
theorem dX7_init_487 : decode cX7_init 487 = .ok (.iconst 4, 1) := by decide +kernel
theorem dX7_init_488 : decode cX7_init 488 = .ok (.newarray .int, 2) := by decide +kernel
theorem dX7_init_490 : decode cX7_init 490 = .ok (.putfield 59, 3) := by decide +kernel
theorem dX7_init_493 : decode cX7_init 493 = .ok (.aload_n 0, 1) := by decide +kernel
theorem dX7_init_494 : decode cX7_init 494 = .ok (.sipush 160, 3) := by decide +kernel
theorem dX7_init_497 : decode cX7_init 497 = .ok (.newarray .int, 2) := by decide +kernel
theorem dX7_init_499 : decode cX7_init 499 = .ok (.putfield 62, 3) := by decide +kernel
theorem dX7_init_502 : decode cX7_init 502 = .ok (.aload_n 0, 1) := by decide +kernel
theorem dX7_init_503 : decode cX7_init 503 = .ok (.bipush 40, 2) := by decide +kernel
theorem dX7_init_505 : decode cX7_init 505 = .ok (.newarray .int, 2) := by decide +kernel
theorem dX7_init_507 : decode cX7_init 507 = .ok (.putfield 65, 3) := by decide +kernel
theorem dX7_init_510 : decode cX7_init 510 = .ok (.bipush 21, 2) := by decide +kernel
theorem dX7_init_512 : decode cX7_init 512 = .ok (.newarray .int, 2) := by decide +kernel
theorem dX7_init_514 : decode cX7_init 514 = .ok (.dup, 1) := by decide +kernel
theorem dX7_init_515 : decode cX7_init 515 = .ok (.iconst 0, 1) := by decide +kernel
theorem dX7_init_516 : decode cX7_init 516 = .ok (.iconst (-1), 1) := by decide +kernel
theorem dX7_init_517 : decode cX7_init 517 = .ok (.iastore, 1) := by decide +kernel
theorem dX7_init_518 : decode cX7_init 518 = .ok (.dup, 1) := by decide +kernel
theorem dX7_init_519 : decode cX7_init 519 = .ok (.iconst 1, 1) := by decide +kernel
theorem dX7_init_520 : decode cX7_init 520 = .ok (.iconst 2, 1) := by decide +kernel
theorem dX7_init_521 : decode cX7_init 521 = .ok (.iastore, 1) := by decide +kernel
theorem dX7_init_522 : decode cX7_init 522 = .ok (.dup, 1) := by decide +kernel
theorem dX7_init_523 : decode cX7_init 523 = .ok (.iconst 2, 1) := by decide +kernel
theorem dX7_init_524 : decode cX7_init 524 = .ok (.sipush (-142), 3) := by decide +kernel
theorem dX7_init_527 : decode cX7_init 527 = .ok (.iastore, 1) := by decide +kernel
theorem dX7_init_528 : decode cX7_init 528 = .ok (.dup, 1) := by decide +kernel
theorem dX7_init_529 : decode cX7_init 529 = .ok (.iconst 3, 1) := by decide +kernel
theorem dX7_init_530 : decode cX7_init 530 = .ok (.bipush (-2), 2) := by decide +kernel
theorem dX7_init_532 : decode cX7_init 532 = .ok (.iastore, 1) := by decide +kernel
theorem dX7_init_533 : decode cX7_init 533 = .ok (.dup, 1) := by decide +kernel
theorem dX7_init_534 : decode cX7_init 534 = .ok (.iconst 4, 1) := by decide +kernel
theorem dX7_init_535 : decode cX7_init 535 = .ok (.sipush (-143), 3) := by decide +kernel
theorem dX7_init_538 : decode cX7_init 538 = .ok (.iastore, 1) := by decide +kernel
theorem dX7_init_539 : decode cX7_init 539 = .ok (.dup, 1) := by decide +kernel
theorem dX7_init_540 : decode cX7_init 540 = .ok (.iconst 5, 1) := by decide +kernel
theorem dX7_init_541 : decode cX7_init 541 = .ok (.bipush 20, 2) := by decide +kernel
theorem dX7_init_543 : decode cX7_init 543 = .ok (.iastore, 1) := by decide +kernel
theorem dX7_init_544 : decode cX7_init 544 = .ok (.dup, 1) := by decide +kernel
theorem dX7_init_545 : decode cX7_init 545 = .ok (.bipush 6, 2) := by decide +kernel
theorem dX7_init_547 : decode cX7_init 547 = .ok (.sipush (-145), 3) := by decide +kernel
theorem dX7_init_550 : decode cX7_init 550 = .ok (.iastore, 1) := by decide +kernel
theorem dX7_init_551 : decode cX7_init 551 = .ok (.dup, 1) := by decide +kernel
theorem dX7_init_552 : decode cX7_init 552 = .ok (.bipush 7, 2) := by decide +kernel
theorem dX7_init_554 : decode cX7_init 554 = .ok (.iconst (-1), 1) := by decide +kernel
theorem dX7_init_555 : decode cX7_init 555 = .ok (.iastore, 1) := by decide +kernel
theorem dX7_init_556 : decode cX7_init 556 = .ok (.dup, 1) := by decide +kernel
theorem dX7_init_557 : decode cX7_init 557 = .ok (.bipush 8, 2) := by decide +kernel
theorem dX7_init_559 : decode cX7_init 559 = .ok (.bipush 50, 2) := by decide +kernel
theorem dX7_init_561 : decode cX7_init 561 = .ok (.iastore, 1) := by decide +kernel
theorem dX7_init_562 : decode cX7_init 562 = .ok (.dup, 1) := by decide +kernel
theorem dX7_init_563 : decode cX7_init 563 = .ok (.bipush 9, 2) := by decide +kernel
theorem dX7_init_565 : decode cX7_init 565 = .ok (.sipush (-145), 3) := by decide +kernel
theorem dX7_init_568 : decode cX7_init 568 = .ok (.iastore, 1) := by decide +kernel
theorem dX7_init_569 : decode cX7_init 569 = .ok (.dup, 1) := by decide +kernel
theorem dX7_init_570 : decode cX7_init 570 = .ok (.bipush 10, 2) := by decide +kernel
theorem dX7_init_572 : decode cX7_init 572 = .ok (.bipush (-2), 2) := by decide +kernel
theorem dX7_init_574 : decode cX7_init 574 = .ok (.iastore, 1) := by decide +kernel
theorem dX7_init_575 : decode cX7_init 575 = .ok (.dup, 1) := by decide +kernel
theorem dX7_init_576 : decode cX7_init 576 = .ok (.bipush 11, 2) := by decide +kernel
theorem dX7_init_578 : decode cX7_init 578 = .ok (.iconst 2, 1) := by decide +kernel
theorem dX7_init_579 : decode cX7_init 579 = .ok (.iastore, 1) := by decide +kernel
theorem dX7_init_580 : decode cX7_init 580 = .ok (.dup, 1) := by decide +kernel
theorem dX7_init_581 : decode cX7_init 581 = .ok (.bipush 12, 2) := by decide +kernel
theorem dX7_init_583 : decode cX7_init 583 = .ok (.sipush (-142), 3) := by decide +kernel
theorem dX7_init_586 : decode cX7_init 586 = .ok (.iastore, 1) := by decide +kernel
theorem dX7_init_587 : decode cX7_init 587 = .ok (.dup, 1) := by decide +kernel
theorem dX7_init_588 : decode cX7_init 588 = .ok (.bipush 13, 2) := by decide +kernel
theorem dX7_init_590 : decode cX7_init 590 = .ok (.sipush (-145), 3) := by decide +kernel
theorem dX7_init_593 : decode cX7_init 593 = .ok (.iastore, 1) := by decide +kernel
theorem dX7_init_594 : decode cX7_init 594 = .ok (.dup, 1) := by decide +kernel
theorem dX7_init_595 : decode cX7_init 595 = .ok (.bipush 14, 2) := by decide +kernel
theorem dX7_init_597 : decode cX7_init 597 = .ok (.bipush (-3), 2) := by decide +kernel
theorem dX7_init_599 : decode cX7_init 599 = .ok (.iastore, 1) := by decide +kernel
theorem dX7_init_600 : decode cX7_init 600 = .ok (.dup, 1) := by decide +kernel
theorem dX7_init_601 : decode cX7_init 601 = .ok (.bipush 15, 2) := by decide +kernel
theorem dX7_init_603 : decode cX7_init 603 = .ok (.sipush (-145), 3) := by decide +kernel
theorem dX7_init_606 : decode cX7_init 606 = .ok (.iastore, 1) := by decide +kernel
theorem dX7_init_607 : decode cX7_init 607 = .ok (.dup, 1) := by decide +kernel
theorem dX7_init_608 : decode cX7_init 608 = .ok (.bipush 16, 2) := by decide +kernel
theorem dX7_init_610 : decode cX7_init 610 = .ok (.bipush 60, 2) := by decide +kernel
theorem dX7_init_612 : decode cX7_init 612 = .ok (.iastore, 1) := by decide +kernel
theorem dX7_init_613 : decode cX7_init 613 = .ok (.dup, 1) := by decide +kernel
theorem dX7_init_614 : decode cX7_init 614 = .ok (.bipush 17, 2) := by decide +kernel
theorem dX7_init_616 : decode cX7_init 616 = .ok (.bipush (-6), 2) := by decide +kernel
theorem dX7_init_618 : decode cX7_init 618 = .ok (.iastore, 1) := by decide +kernel
theorem dX7_init_619 : decode cX7_init 619 = .ok (.dup, 1) := by decide +kernel
theorem dX7_init_620 : decode cX7_init 620 = .ok (.bipush 18, 2) := by decide +kernel
theorem dX7_init_622 : decode cX7_init 622 = .ok (.sipush (-145), 3) := by decide +kernel
theorem dX7_init_625 : decode cX7_init 625 = .ok (.iastore, 1) := by decide +kernel
theorem dX7_init_626 : decode cX7_init 626 = .ok (.dup, 1) := by decide +kernel
theorem dX7_init_627 : decode cX7_init 627 = .ok (.bipush 19, 2) := by decide +kernel
theorem dX7_init_629 : decode cX7_init 629 = .ok (.iconst (-1), 1) := by decide +kernel
theorem dX7_init_630 : decode cX7_init 630 = .ok (.iastore, 1) := by decide +kernel
theorem dX7_init_631 : decode cX7_init 631 = .ok (.dup, 1) := by decide +kernel
theorem dX7_init_632 : decode cX7_init 632 = .ok (.bipush 20, 2) := by decide +kernel
theorem dX7_init_634 : decode cX7_init 634 = .ok (.sipush (-143), 3) := by decide +kernel
theorem dX7_init_637 : decode cX7_init 637 = .ok (.iastore, 1) := by decide +kernel
theorem dX7_init_638 : decode cX7_init 638 = .ok (.astore_n 1, 1) := by decide +kernel
theorem dX7_init_639 : decode cX7_init 639 = .ok (.iconst 0, 1) := by decide +kernel
theorem dX7_init_640 : decode cX7_init 640 = .ok (.istore_n 2, 1) := by decide +kernel
theorem dX7_init_641 : decode cX7_init 641 = .ok (.iload_n 2, 1) := by decide +kernel
theorem dX7_init_642 : decode cX7_init 642 = .ok (.aload_n 1, 1) := by decide +kernel
theorem dX7_init_643 : decode cX7_init 643 = .ok (.arraylength, 1) := by decide +kernel
theorem dX7_init_644 : decode cX7_init 644 = .ok (.if_icmp .ge 18, 3) := by decide +kernel
theorem dX7_init_647 : decode cX7_init 647 = .ok (.aload_n 0, 1) := by decide +kernel
theorem dX7_init_648 : decode cX7_init 648 = .ok (.getfield 19, 3) := by decide +kernel
theorem dX7_init_651 : decode cX7_init 651 = .ok (.iload_n 2, 1) := by decide +kernel
theorem dX7_init_652 : decode cX7_init 652 = .ok (.aload_n 1, 1) := by decide +kernel
theorem dX7_init_653 : decode cX7_init 653 = .ok (.iload_n 2, 1) := by decide +kernel
theorem dX7_init_654 : decode cX7_init 654 = .ok (.iaload, 1) := by decide +kernel
theorem dX7_init_655 : decode cX7_init 655 = .ok (.iastore, 1) := by decide +kernel
theorem dX7_init_656 : decode cX7_init 656 = .ok (.iinc 2 1, 3) := by decide +kernel
theorem dX7_init_659 : decode cX7_init 659 = .ok (.goto (-18), 3) := by decide +kernel
theorem dX7_init_662 : decode cX7_init 662 = .ok (.aload_n 0, 1) := by decide +kernel
theorem dX7_init_663 : decode cX7_init 663 = .ok (.getfield 22, 3) := by decide +kernel
theorem dX7_init_666 : decode cX7_init 666 = .ok (.iconst 0, 1) := by decide +kernel
theorem dX7_init_667 : decode cX7_init 667 = .ok (.iconst 0, 1) := by decide +kernel
theorem dX7_init_668 : decode cX7_init 668 = .ok (.iastore, 1) := by decide +kernel
theorem dX7_init_669 : decode cX7_init 669 = .ok (.aload_n 0, 1) := by decide +kernel
theorem dX7_init_670 : decode cX7_init 670 = .ok (.getfield 25, 3) := by decide +kernel
theorem dX7_init_673 : decode cX7_init 673 = .ok (.iconst 0, 1) := by decide +kernel
theorem dX7_init_674 : decode cX7_init 674 = .ok (.bipush 7, 2) := by decide +kernel
theorem dX7_init_676 : decode cX7_init 676 = .ok (.iastore, 1) := by decide +kernel
theorem dX7_init_677 : decode cX7_init 677 = .ok (.aload_n 0, 1) := by decide +kernel
theorem dX7_init_678 : decode cX7_init 678 = .ok (.getfield 22, 3) := by decide +kernel
theorem dX7_init_681 : decode cX7_init 681 = .ok (.iconst 1, 1) := by decide +kernel
theorem dX7_init_682 : decode cX7_init 682 = .ok (.bipush 7, 2) := by decide +kernel
theorem dX7_init_684 : decode cX7_init 684 = .ok (.iastore, 1) := by decide +kernel
theorem dX7_init_685 : decode cX7_init 685 = .ok (.aload_n 0, 1) := by decide +kernel
theorem dX7_init_686 : decode cX7_init 686 = .ok (.getfield 25, 3) := by decide +kernel
theorem dX7_init_689 : decode cX7_init 689 = .ok (.iconst 1, 1) := by decide +kernel
theorem dX7_init_690 : decode cX7_init 690 = .ok (.bipush 16, 2) := by decide +kernel
theorem dX7_init_692 : decode cX7_init 692 = .ok (.iastore, 1) := by decide +kernel
theorem dX7_init_693 : decode cX7_init 693 = .ok (.aload_n 0, 1) := by decide +kernel
theorem dX7_init_694 : decode cX7_init 694 = .ok (.getfield 22, 3) := by decide +kernel
theorem dX7_init_697 : decode cX7_init 697 = .ok (.iconst 2, 1) := by decide +kernel
theorem dX7_init_698 : decode cX7_init 698 = .ok (.bipush 16, 2) := by decide +kernel
theorem dX7_init_700 : decode cX7_init 700 = .ok (.iastore, 1) := by decide +kernel
theorem dX7_init_701 : decode cX7_init 701 = .ok (.aload_n 0, 1) := by decide +kernel
theorem dX7_init_702 : decode cX7_init 702 = .ok (.getfield 25, 3) := by decide +kernel
theorem dX7_init_705 : decode cX7_init 705 = .ok (.iconst 2, 1) := by decide +kernel
theorem dX7_init_706 : decode cX7_init 706 = .ok (.bipush 21, 2) := by decide +kernel
theorem dX7_init_708 : decode cX7_init 708 = .ok (.iastore, 1) := by decide +kernel
theorem dX7_init_709 : decode cX7_init 709 = .ok (.aload_n 0, 1) := by decide +kernel
theorem dX7_init_710 : decode cX7_init 710 = .ok (.iconst 1, 1) := by decide +kernel
theorem dX7_init_711 : decode cX7_init 711 = .ok (.putfield 68, 3) := by decide +kernel
theorem dX7_init_714 : decode cX7_init 714 = .ok (.aload_n 0, 1) := by decide +kernel
theorem dX7_init_715 : decode cX7_init 715 = .ok (.getfield 13, 3) := by decide +kernel
theorem dX7_init_718 : decode cX7_init 718 = .ok (.iconst 0, 1) := by decide +kernel
theorem dX7_init_719 : decode cX7_init 719 = .ok (.iconst 4, 1) := by decide +kernel
theorem dX7_init_720 : decode cX7_init 720 = .ok (.iastore, 1) := by decide +kernel
theorem dX7_init_721 : decode cX7_init 721 = .ok (.aload_n 0, 1) := by decide +kernel
theorem dX7_init_722 : decode cX7_init 722 = .ok (.getfield 13, 3) := by decide +kernel
theorem dX7_init_725 : decode cX7_init 725 = .ok (.iconst 1, 1) := by decide +kernel
theorem dX7_init_726 : decode cX7_init 726 = .ok (.bipush 20, 2) := by decide +kernel
theorem dX7_init_728 : decode cX7_init 728 = .ok (.iastore, 1) := by decide +kernel
theorem dX7_init_729 : decode cX7_init 729 = .ok (.aload_n 0, 1) := by decide +kernel
theorem dX7_init_730 : decode cX7_init 730 = .ok (.getfield 13, 3) := by decide +kernel
theorem dX7_init_733 : decode cX7_init 733 = .ok (.iconst 2, 1) := by decide +kernel
theorem dX7_init_734 : decode cX7_init 734 = .ok (.iconst 3, 1) := by decide +kernel
theorem dX7_init_735 : decode cX7_init 735 = .ok (.iastore, 1) := by decide +kernel
theorem dX7_init_736 : decode cX7_init 736 = .ok (.iconst 0, 1) := by decide +kernel
theorem dX7_init_737 : decode cX7_init 737 = .ok (.istore_n 2, 1) := by decide +kernel
theorem dX7_init_738 : decode cX7_init 738 = .ok (.iload_n 2, 1) := by decide +kernel
theorem dX7_init_739 : decode cX7_init 739 = .ok (.iconst 4, 1) := by decide +kernel
theorem dX7_init_740 : decode cX7_init 740 = .ok (.if_icmp .ge 16, 3) := by decide +kernel
theorem dX7_init_743 : decode cX7_init 743 = .ok (.aload_n 0, 1) := by decide +kernel
theorem dX7_init_744 : decode cX7_init 744 = .ok (.getfield 56, 3) := by decide +kernel
theorem dX7_init_747 : decode cX7_init 747 = .ok (.iload_n 2, 1) := by decide +kernel
theorem dX7_init_748 : decode cX7_init 748 = .ok (.iconst (-1), 1) := by decide +kernel
theorem dX7_init_749 : decode cX7_init 749 = .ok (.iastore, 1) := by decide +kernel
theorem dX7_init_750 : decode cX7_init 750 = .ok (.iinc 2 1, 3) := by decide +kernel
theorem dX7_init_753 : decode cX7_init 753 = .ok (.goto (-15), 3) := by decide +kernel
theorem dX7_init_756 : decode cX7_init 756 = .ok (.return_, 1) := by decide +kernel
theorem dX7_isCheese_0 : decode cX7_isCheese 0 = .ok (.iload_n 1, 1) := by decide +kernel
theorem dX7_isCheese_1 : decode cX7_isCheese 1 = .ok (.i2l, 1) := by decide +kernel
theorem dX7_isCheese_2 : decode cX7_isCheese 2 = .ok (.lconst 0, 1) := by decide +kernel
theorem dX7_isCheese_3 : decode cX7_isCheese 3 = .ok (.aload_n 0, 1) := by decide +kernel
theorem dX7_isCheese_4 : decode cX7_isCheese 4 = .ok (.getfield 72, 3) := by decide +kernel
theorem dX7_isCheese_7 : decode cX7_isCheese 7 = .ok (.iconst 1, 1) := by decide +kernel
theorem dX7_isCheese_8 : decode cX7_isCheese 8 = .ok (.isub, 1) := by decide +kernel
theorem dX7_isCheese_9 : decode cX7_isCheese 9 = .ok (.i2l, 1) := by decide +kernel
theorem dX7_isCheese_10 : decode cX7_isCheese 10 = .ok (.invokestatic 75, 3) := by decide +kernel
theorem dX7_isCheese_13 : decode cX7_isCheese 13 = .ok (.ireturn, 1) := by decide +kernel
theorem dX7_mayBe_0 : decode cX7_mayBe 0 = .ok (.iload_n 1, 1) := by decide +kernel
theorem dX7_mayBe_1 : decode cX7_mayBe 1 = .ok (.i2l, 1) := by decide +kernel
theorem dX7_mayBe_2 : decode cX7_mayBe 2 = .ok (.iload_n 0, 1) := by decide +kernel
theorem dX7_mayBe_3 : decode cX7_mayBe 3 = .ok (.ifCond .ne 7, 3) := by decide +kernel
theorem dX7_mayBe_6 : decode cX7_mayBe 6 = .ok (.lconst 1, 1) := by decide +kernel
theorem dX7_mayBe_7 : decode cX7_mayBe 7 = .ok (.goto 4, 3) := by decide +kernel
theorem dX7_mayBe_10 : decode cX7_mayBe 10 = .ok (.lconst 0, 1) := by decide +kernel
theorem dX7_mayBe_11 : decode cX7_mayBe 11 = .ok (.ldc2_w 79, 3) := by decide +kernel
theorem dX7_mayBe_14 : decode cX7_mayBe 14 = .ok (.invokestatic 75, 3) := by decide +kernel
theorem dX7_mayBe_17 : decode cX7_mayBe 17 = .ok (.ireturn, 1) := by decide +kernel
theorem dX7_cheese_0 : decode cX7_cheese 0 = .ok (.iconst 0, 1) := by decide +kernel
theorem dX7_cheese_1 : decode cX7_cheese 1 = .ok (.iload_n 1, 1) := by decide +kernel
theorem dX7_cheese_2 : decode cX7_cheese 2 = .ok (.invokestatic 81, 3) := by decide +kernel
theorem dX7_cheese_5 : decode cX7_cheese 5 = .ok (.ifCond .eq 37, 3) := by decide +kernel
theorem dX7_cheese_8 : decode cX7_cheese 8 = .ok (.iconst 1, 1) := by decide +kernel
theorem dX7_cheese_9 : decode cX7_cheese 9 = .ok (.iload_n 2, 1) := by decide +kernel
theorem dX7_cheese_10 : decode cX7_cheese 10 = .ok (.invokestatic 81, 3) := by decide +kernel
theorem dX7_cheese_13 : decode cX7_cheese 13 = .ok (.ifCond .eq 29, 3) := by decide +kernel
theorem dX7_cheese_16 : decode cX7_cheese 16 = .ok (.iconst 2, 1) := by decide +kernel
theorem dX7_cheese_17 : decode cX7_cheese 17 = .ok (.iload_n 3, 1) := by decide +kernel
theorem dX7_cheese_18 : decode cX7_cheese 18 = .ok (.invokestatic 81, 3) := by decide +kernel
theorem dX7_cheese_21 : decode cX7_cheese 21 = .ok (.ifCond .eq 21, 3) := by decide +kernel
theorem dX7_cheese_24 : decode cX7_cheese 24 = .ok (.iconst 3, 1) := by decide +kernel
theorem dX7_cheese_25 : decode cX7_cheese 25 = .ok (.iload 4, 2) := by decide +kernel
theorem dX7_cheese_27 : decode cX7_cheese 27 = .ok (.invokestatic 81, 3) := by decide +kernel
theorem dX7_cheese_30 : decode cX7_cheese 30 = .ok (.ifCond .eq 12, 3) := by decide +kernel
theorem dX7_cheese_33 : decode cX7_cheese 33 = .ok (.iconst 4, 1) := by decide +kernel
theorem dX7_cheese_34 : decode cX7_cheese 34 = .ok (.iload 5, 2) := by decide +kernel
theorem dX7_cheese_36 : decode cX7_cheese 36 = .ok (.invokestatic 81, 3) := by decide +kernel
theorem dX7_cheese_39 : decode cX7_cheese 39 = .ok (.ifCond .ne 6, 3) := by decide +kernel
theorem dX7_cheese_42 : decode cX7_cheese 42 = .ok (.bipush (-2), 2) := by decide +kernel
theorem dX7_cheese_44 : decode cX7_cheese 44 = .ok (.ireturn, 1) := by decide +kernel
theorem dX7_cheese_45 : decode cX7_cheese 45 = .ok (.aload_n 0, 1) := by decide +kernel
theorem dX7_cheese_46 : decode cX7_cheese 46 = .ok (.getfield 72, 3) := by decide +kernel
theorem dX7_cheese_49 : decode cX7_cheese 49 = .ok (.iconst 4, 1) := by decide +kernel
theorem dX7_cheese_50 : decode cX7_cheese 50 = .ok (.if_icmp .ne 6, 3) := by decide +kernel
theorem dX7_cheese_53 : decode cX7_cheese 53 = .ok (.bipush (-4), 2) := by decide +kernel
theorem dX7_cheese_55 : decode cX7_cheese 55 = .ok (.ireturn, 1) := by decide +kernel
theorem dX7_cheese_56 : decode cX7_cheese 56 = .ok (.iconst 5, 1) := by decide +kernel
theorem dX7_cheese_57 : decode cX7_cheese 57 = .ok (.newarray .int, 2) := by decide +kernel
theorem dX7_cheese_59 : decode cX7_cheese 59 = .ok (.dup, 1) := by decide +kernel
theorem dX7_cheese_60 : decode cX7_cheese 60 = .ok (.iconst 0, 1) := by decide +kernel
theorem dX7_cheese_61 : decode cX7_cheese 61 = .ok (.iload_n 1, 1) := by decide +kernel
theorem dX7_cheese_62 : decode cX7_cheese 62 = .ok (.iastore, 1) := by decide +kernel
theorem dX7_cheese_63 : decode cX7_cheese 63 = .ok (.dup, 1) := by decide +kernel
theorem dX7_cheese_64 : decode cX7_cheese 64 = .ok (.iconst 1, 1) := by decide +kernel
theorem dX7_cheese_65 : decode cX7_cheese 65 = .ok (.iload_n 2, 1) := by decide +kernel
theorem dX7_cheese_66 : decode cX7_cheese 66 = .ok (.iastore, 1) := by decide +kernel
theorem dX7_cheese_67 : decode cX7_cheese 67 = .ok (.dup, 1) := by decide +kernel
theorem dX7_cheese_68 : decode cX7_cheese 68 = .ok (.iconst 2, 1) := by decide +kernel
theorem dX7_cheese_69 : decode cX7_cheese 69 = .ok (.iload_n 3, 1) := by decide +kernel
theorem dX7_cheese_70 : decode cX7_cheese 70 = .ok (.iastore, 1) := by decide +kernel
theorem dX7_cheese_71 : decode cX7_cheese 71 = .ok (.dup, 1) := by decide +kernel
theorem dX7_cheese_72 : decode cX7_cheese 72 = .ok (.iconst 3, 1) := by decide +kernel
theorem dX7_cheese_73 : decode cX7_cheese 73 = .ok (.iload 4, 2) := by decide +kernel
theorem dX7_cheese_75 : decode cX7_cheese 75 = .ok (.iastore, 1) := by decide +kernel
theorem dX7_cheese_76 : decode cX7_cheese 76 = .ok (.dup, 1) := by decide +kernel
theorem dX7_cheese_77 : decode cX7_cheese 77 = .ok (.iconst 4, 1) := by decide +kernel
theorem dX7_cheese_78 : decode cX7_cheese 78 = .ok (.iload 5, 2) := by decide +kernel
theorem dX7_cheese_80 : decode cX7_cheese 80 = .ok (.iastore, 1) := by decide +kernel
theorem dX7_cheese_81 : decode cX7_cheese 81 = .ok (.astore 6, 2) := by decide +kernel
theorem dX7_cheese_83 : decode cX7_cheese 83 = .ok (.iconst 0, 1) := by decide +kernel
theorem dX7_cheese_84 : decode cX7_cheese 84 = .ok (.istore 7, 2) := by decide +kernel
theorem dX7_cheese_86 : decode cX7_cheese 86 = .ok (.iload 7, 2) := by decide +kernel
theorem dX7_cheese_88 : decode cX7_cheese 88 = .ok (.iconst 5, 1) := by decide +kernel
theorem dX7_cheese_89 : decode cX7_cheese 89 = .ok (.if_icmp .ge 28, 3) := by decide +kernel
theorem dX7_cheese_92 : decode cX7_cheese 92 = .ok (.aload_n 0, 1) := by decide +kernel
theorem dX7_cheese_93 : decode cX7_cheese 93 = .ok (.getfield 9, 3) := by decide +kernel
theorem dX7_cheese_96 : decode cX7_cheese 96 = .ok (.iconst 5, 1) := by decide +kernel
theorem dX7_cheese_97 : decode cX7_cheese 97 = .ok (.aload_n 0, 1) := by decide +kernel
theorem dX7_cheese_98 : decode cX7_cheese 98 = .ok (.getfield 72, 3) := by decide +kernel
theorem dX7_cheese_101 : decode cX7_cheese 101 = .ok (.imul, 1) := by decide +kernel
theorem dX7_cheese_102 : decode cX7_cheese 102 = .ok (.iload 7, 2) := by decide +kernel
theorem dX7_cheese_104 : decode cX7_cheese 104 = .ok (.iadd, 1) := by decide +kernel
theorem dX7_cheese_105 : decode cX7_cheese 105 = .ok (.aload 6, 2) := by decide +kernel
theorem dX7_cheese_107 : decode cX7_cheese 107 = .ok (.iload 7, 2) := by decide +kernel
theorem dX7_cheese_109 : decode cX7_cheese 109 = .ok (.iaload, 1) := by decide +kernel
theorem dX7_cheese_110 : decode cX7_cheese 110 = .ok (.iastore, 1) := by decide +kernel
theorem dX7_cheese_111 : decode cX7_cheese 111 = .ok (.iinc 7 1, 3) := by decide +kernel
theorem dX7_cheese_114 : decode cX7_cheese 114 = .ok (.goto (-28), 3) := by decide +kernel
theorem dX7_cheese_117 : decode cX7_cheese 117 = .ok (.aload_n 0, 1) := by decide +kernel
theorem dX7_cheese_118 : decode cX7_cheese 118 = .ok (.dup, 1) := by decide +kernel
theorem dX7_cheese_119 : decode cX7_cheese 119 = .ok (.getfield 72, 3) := by decide +kernel
theorem dX7_cheese_122 : decode cX7_cheese 122 = .ok (.iconst 1, 1) := by decide +kernel
theorem dX7_cheese_123 : decode cX7_cheese 123 = .ok (.iadd, 1) := by decide +kernel
theorem dX7_cheese_124 : decode cX7_cheese 124 = .ok (.putfield 72, 3) := by decide +kernel
theorem dX7_cheese_127 : decode cX7_cheese 127 = .ok (.aload_n 0, 1) := by decide +kernel
theorem dX7_cheese_128 : decode cX7_cheese 128 = .ok (.getfield 72, 3) := by decide +kernel
theorem dX7_cheese_131 : decode cX7_cheese 131 = .ok (.iconst 1, 1) := by decide +kernel
theorem dX7_cheese_132 : decode cX7_cheese 132 = .ok (.isub, 1) := by decide +kernel
theorem dX7_cheese_133 : decode cX7_cheese 133 = .ok (.ireturn, 1) := by decide +kernel
theorem dX7_ripen_0 : decode cX7_ripen 0 = .ok (.aload_n 0, 1) := by decide +kernel
theorem dX7_ripen_1 : decode cX7_ripen 1 = .ok (.iload_n 1, 1) := by decide +kernel
theorem dX7_ripen_2 : decode cX7_ripen 2 = .ok (.invokevirtual 85, 3) := by decide +kernel
theorem dX7_ripen_5 : decode cX7_ripen 5 = .ok (.ifCond .ne 6, 3) := by decide +kernel
theorem dX7_ripen_8 : decode cX7_ripen 8 = .ok (.bipush (-5), 2) := by decide +kernel
theorem dX7_ripen_10 : decode cX7_ripen 10 = .ok (.ireturn, 1) := by decide +kernel
theorem dX7_ripen_11 : decode cX7_ripen 11 = .ok (.iload_n 2, 1) := by decide +kernel
theorem dX7_ripen_12 : decode cX7_ripen 12 = .ok (.i2l, 1) := by decide +kernel
theorem dX7_ripen_13 : decode cX7_ripen 13 = .ok (.lconst 0, 1) := by decide +kernel
theorem dX7_ripen_14 : decode cX7_ripen 14 = .ok (.ldc2_w 89, 3) := by decide +kernel
theorem dX7_ripen_17 : decode cX7_ripen 17 = .ok (.invokestatic 75, 3) := by decide +kernel
theorem dX7_ripen_20 : decode cX7_ripen 20 = .ok (.ifCond .eq 11, 3) := by decide +kernel
theorem dX7_ripen_23 : decode cX7_ripen 23 = .ok (.iload_n 2, 1) := by decide +kernel
theorem dX7_ripen_24 : decode cX7_ripen 24 = .ok (.iload_n 3, 1) := by decide +kernel
theorem dX7_ripen_25 : decode cX7_ripen 25 = .ok (.invokestatic 81, 3) := by decide +kernel
theorem dX7_ripen_28 : decode cX7_ripen 28 = .ok (.ifCond .ne 6, 3) := by decide +kernel
theorem dX7_ripen_31 : decode cX7_ripen 31 = .ok (.bipush (-7), 2) := by decide +kernel
theorem dX7_ripen_33 : decode cX7_ripen 33 = .ok (.ireturn, 1) := by decide +kernel
theorem dX7_ripen_34 : decode cX7_ripen 34 = .ok (.aload_n 0, 1) := by decide +kernel
theorem dX7_ripen_35 : decode cX7_ripen 35 = .ok (.getfield 9, 3) := by decide +kernel
theorem dX7_ripen_38 : decode cX7_ripen 38 = .ok (.iconst 5, 1) := by decide +kernel
theorem dX7_ripen_39 : decode cX7_ripen 39 = .ok (.iload_n 1, 1) := by decide +kernel
theorem dX7_ripen_40 : decode cX7_ripen 40 = .ok (.imul, 1) := by decide +kernel
theorem dX7_ripen_41 : decode cX7_ripen 41 = .ok (.iload_n 2, 1) := by decide +kernel
theorem dX7_ripen_42 : decode cX7_ripen 42 = .ok (.iadd, 1) := by decide +kernel
theorem dX7_ripen_43 : decode cX7_ripen 43 = .ok (.iaload, 1) := by decide +kernel
theorem dX7_ripen_44 : decode cX7_ripen 44 = .ok (.istore 4, 2) := by decide +kernel
theorem dX7_ripen_46 : decode cX7_ripen 46 = .ok (.aload_n 0, 1) := by decide +kernel
theorem dX7_ripen_47 : decode cX7_ripen 47 = .ok (.getfield 9, 3) := by decide +kernel
theorem dX7_ripen_50 : decode cX7_ripen 50 = .ok (.iconst 5, 1) := by decide +kernel
theorem dX7_ripen_51 : decode cX7_ripen 51 = .ok (.iload_n 1, 1) := by decide +kernel
theorem dX7_ripen_52 : decode cX7_ripen 52 = .ok (.imul, 1) := by decide +kernel
theorem dX7_ripen_53 : decode cX7_ripen 53 = .ok (.iload_n 2, 1) := by decide +kernel
theorem dX7_ripen_54 : decode cX7_ripen 54 = .ok (.iadd, 1) := by decide +kernel
theorem dX7_ripen_55 : decode cX7_ripen 55 = .ok (.iload_n 3, 1) := by decide +kernel
theorem dX7_ripen_56 : decode cX7_ripen 56 = .ok (.iastore, 1) := by decide +kernel
theorem dX7_ripen_57 : decode cX7_ripen 57 = .ok (.iload 4, 2) := by decide +kernel
theorem dX7_ripen_59 : decode cX7_ripen 59 = .ok (.ireturn, 1) := by decide +kernel
theorem dX7_sortTold_0 : decode cX7_sortTold 0 = .ok (.aload_n 0, 1) := by decide +kernel
theorem dX7_sortTold_1 : decode cX7_sortTold 1 = .ok (.iload_n 1, 1) := by decide +kernel
theorem dX7_sortTold_2 : decode cX7_sortTold 2 = .ok (.invokevirtual 85, 3) := by decide +kernel
theorem dX7_sortTold_5 : decode cX7_sortTold 5 = .ok (.ifCond .ne 8, 3) := by decide +kernel
theorem dX7_sortTold_8 : decode cX7_sortTold 8 = .ok (.bipush (-5), 2) := by decide +kernel
theorem dX7_sortTold_10 : decode cX7_sortTold 10 = .ok (.goto 30, 3) := by decide +kernel
theorem dX7_sortTold_13 : decode cX7_sortTold 13 = .ok (.iload_n 2, 1) := by decide +kernel
theorem dX7_sortTold_14 : decode cX7_sortTold 14 = .ok (.i2l, 1) := by decide +kernel
theorem dX7_sortTold_15 : decode cX7_sortTold 15 = .ok (.lconst 0, 1) := by decide +kernel
theorem dX7_sortTold_16 : decode cX7_sortTold 16 = .ok (.ldc2_w 89, 3) := by decide +kernel
theorem dX7_sortTold_19 : decode cX7_sortTold 19 = .ok (.invokestatic 75, 3) := by decide +kernel
theorem dX7_sortTold_22 : decode cX7_sortTold 22 = .ok (.ifCond .ne 8, 3) := by decide +kernel
theorem dX7_sortTold_25 : decode cX7_sortTold 25 = .ok (.bipush (-7), 2) := by decide +kernel
theorem dX7_sortTold_27 : decode cX7_sortTold 27 = .ok (.goto 13, 3) := by decide +kernel
theorem dX7_sortTold_30 : decode cX7_sortTold 30 = .ok (.aload_n 0, 1) := by decide +kernel
theorem dX7_sortTold_31 : decode cX7_sortTold 31 = .ok (.getfield 9, 3) := by decide +kernel
theorem dX7_sortTold_34 : decode cX7_sortTold 34 = .ok (.iconst 5, 1) := by decide +kernel
theorem dX7_sortTold_35 : decode cX7_sortTold 35 = .ok (.iload_n 1, 1) := by decide +kernel
theorem dX7_sortTold_36 : decode cX7_sortTold 36 = .ok (.imul, 1) := by decide +kernel
theorem dX7_sortTold_37 : decode cX7_sortTold 37 = .ok (.iload_n 2, 1) := by decide +kernel
theorem dX7_sortTold_38 : decode cX7_sortTold 38 = .ok (.iadd, 1) := by decide +kernel
theorem dX7_sortTold_39 : decode cX7_sortTold 39 = .ok (.iaload, 1) := by decide +kernel
theorem dX7_sortTold_40 : decode cX7_sortTold 40 = .ok (.ireturn, 1) := by decide +kernel
theorem dX7_set_0 : decode cX7_set 0 = .ok (.iload_n 1, 1) := by decide +kernel
theorem dX7_set_1 : decode cX7_set 1 = .ok (.i2l, 1) := by decide +kernel
theorem dX7_set_2 : decode cX7_set 2 = .ok (.lconst 0, 1) := by decide +kernel
theorem dX7_set_3 : decode cX7_set 3 = .ok (.ldc2_w 91, 3) := by decide +kernel
theorem dX7_set_6 : decode cX7_set 6 = .ok (.invokestatic 75, 3) := by decide +kernel
theorem dX7_set_9 : decode cX7_set 9 = .ok (.ifCond .ne 5, 3) := by decide +kernel
theorem dX7_set_12 : decode cX7_set 12 = .ok (.iconst (-1), 1) := by decide +kernel
theorem dX7_set_13 : decode cX7_set 13 = .ok (.ireturn, 1) := by decide +kernel
theorem dX7_set_14 : decode cX7_set 14 = .ok (.iload_n 2, 1) := by decide +kernel
theorem dX7_set_15 : decode cX7_set 15 = .ok (.i2l, 1) := by decide +kernel
theorem dX7_set_16 : decode cX7_set 16 = .ok (.lconst 0, 1) := by decide +kernel
theorem dX7_set_17 : decode cX7_set 17 = .ok (.iload_n 1, 1) := by decide +kernel
theorem dX7_set_18 : decode cX7_set 18 = .ok (.iconst 1, 1) := by decide +kernel
theorem dX7_set_19 : decode cX7_set 19 = .ok (.if_icmp .ne 9, 3) := by decide +kernel
theorem dX7_set_22 : decode cX7_set 22 = .ok (.ldc2_w 79, 3) := by decide +kernel
theorem dX7_set_25 : decode cX7_set 25 = .ok (.goto 6, 3) := by decide +kernel
theorem dX7_set_28 : decode cX7_set 28 = .ok (.ldc2_w 93, 3) := by decide +kernel
theorem dX7_set_31 : decode cX7_set 31 = .ok (.invokestatic 75, 3) := by decide +kernel
theorem dX7_set_34 : decode cX7_set 34 = .ok (.ifCond .ne 6, 3) := by decide +kernel
theorem dX7_set_37 : decode cX7_set 37 = .ok (.bipush (-2), 2) := by decide +kernel
theorem dX7_set_39 : decode cX7_set 39 = .ok (.ireturn, 1) := by decide +kernel
theorem dX7_set_40 : decode cX7_set 40 = .ok (.aload_n 0, 1) := by decide +kernel
theorem dX7_set_41 : decode cX7_set 41 = .ok (.getfield 13, 3) := by decide +kernel
theorem dX7_set_44 : decode cX7_set 44 = .ok (.iload_n 1, 1) := by decide +kernel
theorem dX7_set_45 : decode cX7_set 45 = .ok (.iaload, 1) := by decide +kernel
theorem dX7_set_46 : decode cX7_set 46 = .ok (.istore_n 3, 1) := by decide +kernel
theorem dX7_set_47 : decode cX7_set 47 = .ok (.aload_n 0, 1) := by decide +kernel
theorem dX7_set_48 : decode cX7_set 48 = .ok (.getfield 13, 3) := by decide +kernel
theorem dX7_set_51 : decode cX7_set 51 = .ok (.iload_n 1, 1) := by decide +kernel
theorem dX7_set_52 : decode cX7_set 52 = .ok (.iload_n 2, 1) := by decide +kernel
theorem dX7_set_53 : decode cX7_set 53 = .ok (.iastore, 1) := by decide +kernel
theorem dX7_set_54 : decode cX7_set 54 = .ok (.iload_n 3, 1) := by decide +kernel
theorem dX7_set_55 : decode cX7_set 55 = .ok (.ireturn, 1) := by decide +kernel
theorem dX7_count_0 : decode cX7_count 0 = .ok (.iload_n 1, 1) := by decide +kernel
theorem dX7_count_1 : decode cX7_count 1 = .ok (.tableswitch 79 0 7 #[47, 47, 47, 54, 59, 64, 69, 74], 47) := by decide +kernel
theorem dX7_count_48 : decode cX7_count 48 = .ok (.aload_n 0, 1) := by decide +kernel
theorem dX7_count_49 : decode cX7_count 49 = .ok (.getfield 13, 3) := by decide +kernel
theorem dX7_count_52 : decode cX7_count 52 = .ok (.iload_n 1, 1) := by decide +kernel
theorem dX7_count_53 : decode cX7_count 53 = .ok (.iaload, 1) := by decide +kernel
theorem dX7_count_54 : decode cX7_count 54 = .ok (.ireturn, 1) := by decide +kernel
theorem dX7_count_55 : decode cX7_count 55 = .ok (.aload_n 0, 1) := by decide +kernel
theorem dX7_count_56 : decode cX7_count 56 = .ok (.getfield 72, 3) := by decide +kernel
theorem dX7_count_59 : decode cX7_count 59 = .ok (.ireturn, 1) := by decide +kernel
theorem dX7_count_60 : decode cX7_count 60 = .ok (.aload_n 0, 1) := by decide +kernel
theorem dX7_count_61 : decode cX7_count 61 = .ok (.getfield 95, 3) := by decide +kernel
theorem dX7_count_64 : decode cX7_count 64 = .ok (.ireturn, 1) := by decide +kernel
theorem dX7_count_65 : decode cX7_count 65 = .ok (.aload_n 0, 1) := by decide +kernel
theorem dX7_count_66 : decode cX7_count 66 = .ok (.getfield 68, 3) := by decide +kernel
theorem dX7_count_69 : decode cX7_count 69 = .ok (.ireturn, 1) := by decide +kernel
theorem dX7_count_70 : decode cX7_count 70 = .ok (.aload_n 0, 1) := by decide +kernel
theorem dX7_count_71 : decode cX7_count 71 = .ok (.getfield 98, 3) := by decide +kernel
theorem dX7_count_74 : decode cX7_count 74 = .ok (.ireturn, 1) := by decide +kernel
theorem dX7_count_75 : decode cX7_count 75 = .ok (.aload_n 0, 1) := by decide +kernel
theorem dX7_count_76 : decode cX7_count 76 = .ok (.getfield 101, 3) := by decide +kernel
theorem dX7_count_79 : decode cX7_count 79 = .ok (.ireturn, 1) := by decide +kernel
theorem dX7_count_80 : decode cX7_count 80 = .ok (.bipush (-2), 2) := by decide +kernel
theorem dX7_count_82 : decode cX7_count 82 = .ok (.ireturn, 1) := by decide +kernel
theorem dX7_isByte_0 : decode cX7_isByte 0 = .ok (.iload_n 0, 1) := by decide +kernel
theorem dX7_isByte_1 : decode cX7_isByte 1 = .ok (.i2l, 1) := by decide +kernel
theorem dX7_isByte_2 : decode cX7_isByte 2 = .ok (.lconst 0, 1) := by decide +kernel
theorem dX7_isByte_3 : decode cX7_isByte 3 = .ok (.ldc2_w 104, 3) := by decide +kernel
theorem dX7_isByte_6 : decode cX7_isByte 6 = .ok (.invokestatic 75, 3) := by decide +kernel
theorem dX7_isByte_9 : decode cX7_isByte 9 = .ok (.ireturn, 1) := by decide +kernel
theorem dX7_feed_0 : decode cX7_feed 0 = .ok (.iload_n 1, 1) := by decide +kernel
theorem dX7_feed_1 : decode cX7_feed 1 = .ok (.i2l, 1) := by decide +kernel
theorem dX7_feed_2 : decode cX7_feed 2 = .ok (.lconst 1, 1) := by decide +kernel
theorem dX7_feed_3 : decode cX7_feed 3 = .ok (.ldc2_w 106, 3) := by decide +kernel
theorem dX7_feed_6 : decode cX7_feed 6 = .ok (.invokestatic 75, 3) := by decide +kernel
theorem dX7_feed_9 : decode cX7_feed 9 = .ok (.ifCond .eq 41, 3) := by decide +kernel
theorem dX7_feed_12 : decode cX7_feed 12 = .ok (.iload_n 2, 1) := by decide +kernel
theorem dX7_feed_13 : decode cX7_feed 13 = .ok (.invokestatic 108, 3) := by decide +kernel
theorem dX7_feed_16 : decode cX7_feed 16 = .ok (.ifCond .eq 34, 3) := by decide +kernel
theorem dX7_feed_19 : decode cX7_feed 19 = .ok (.iload_n 3, 1) := by decide +kernel
theorem dX7_feed_20 : decode cX7_feed 20 = .ok (.invokestatic 108, 3) := by decide +kernel
theorem dX7_feed_23 : decode cX7_feed 23 = .ok (.ifCond .eq 27, 3) := by decide +kernel
theorem dX7_feed_26 : decode cX7_feed 26 = .ok (.iload 4, 2) := by decide +kernel
theorem dX7_feed_28 : decode cX7_feed 28 = .ok (.invokestatic 108, 3) := by decide +kernel
theorem dX7_feed_31 : decode cX7_feed 31 = .ok (.ifCond .eq 19, 3) := by decide +kernel
theorem dX7_feed_34 : decode cX7_feed 34 = .ok (.iload 5, 2) := by decide +kernel
theorem dX7_feed_36 : decode cX7_feed 36 = .ok (.invokestatic 108, 3) := by decide +kernel
theorem dX7_feed_39 : decode cX7_feed 39 = .ok (.ifCond .eq 11, 3) := by decide +kernel
theorem dX7_feed_42 : decode cX7_feed 42 = .ok (.iload 6, 2) := by decide +kernel
theorem dX7_feed_44 : decode cX7_feed 44 = .ok (.invokestatic 108, 3) := by decide +kernel
theorem dX7_feed_47 : decode cX7_feed 47 = .ok (.ifCond .ne 6, 3) := by decide +kernel
theorem dX7_feed_50 : decode cX7_feed 50 = .ok (.bipush (-2), 2) := by decide +kernel
theorem dX7_feed_52 : decode cX7_feed 52 = .ok (.ireturn, 1) := by decide +kernel
theorem dX7_feed_53 : decode cX7_feed 53 = .ok (.aload_n 0, 1) := by decide +kernel
theorem dX7_feed_54 : decode cX7_feed 54 = .ok (.getfield 101, 3) := by decide +kernel
theorem dX7_feed_57 : decode cX7_feed 57 = .ok (.iload_n 1, 1) := by decide +kernel
theorem dX7_feed_58 : decode cX7_feed 58 = .ok (.iadd, 1) := by decide +kernel
theorem dX7_feed_59 : decode cX7_feed 59 = .ok (.sipush 160, 3) := by decide +kernel
theorem dX7_feed_62 : decode cX7_feed 62 = .ok (.if_icmp .le 6, 3) := by decide +kernel
theorem dX7_feed_65 : decode cX7_feed 65 = .ok (.bipush (-4), 2) := by decide +kernel
theorem dX7_feed_67 : decode cX7_feed 67 = .ok (.ireturn, 1) := by decide +kernel
theorem dX7_feed_68 : decode cX7_feed 68 = .ok (.iconst 5, 1) := by decide +kernel
theorem dX7_feed_69 : decode cX7_feed 69 = .ok (.newarray .int, 2) := by decide +kernel
theorem dX7_feed_71 : decode cX7_feed 71 = .ok (.dup, 1) := by decide +kernel
theorem dX7_feed_72 : decode cX7_feed 72 = .ok (.iconst 0, 1) := by decide +kernel
theorem dX7_feed_73 : decode cX7_feed 73 = .ok (.iload_n 2, 1) := by decide +kernel
theorem dX7_feed_74 : decode cX7_feed 74 = .ok (.iastore, 1) := by decide +kernel
theorem dX7_feed_75 : decode cX7_feed 75 = .ok (.dup, 1) := by decide +kernel
theorem dX7_feed_76 : decode cX7_feed 76 = .ok (.iconst 1, 1) := by decide +kernel
theorem dX7_feed_77 : decode cX7_feed 77 = .ok (.iload_n 3, 1) := by decide +kernel
theorem dX7_feed_78 : decode cX7_feed 78 = .ok (.iastore, 1) := by decide +kernel
theorem dX7_feed_79 : decode cX7_feed 79 = .ok (.dup, 1) := by decide +kernel
theorem dX7_feed_80 : decode cX7_feed 80 = .ok (.iconst 2, 1) := by decide +kernel
theorem dX7_feed_81 : decode cX7_feed 81 = .ok (.iload 4, 2) := by decide +kernel
theorem dX7_feed_83 : decode cX7_feed 83 = .ok (.iastore, 1) := by decide +kernel
theorem dX7_feed_84 : decode cX7_feed 84 = .ok (.dup, 1) := by decide +kernel
theorem dX7_feed_85 : decode cX7_feed 85 = .ok (.iconst 3, 1) := by decide +kernel
theorem dX7_feed_86 : decode cX7_feed 86 = .ok (.iload 5, 2) := by decide +kernel
theorem dX7_feed_88 : decode cX7_feed 88 = .ok (.iastore, 1) := by decide +kernel
theorem dX7_feed_89 : decode cX7_feed 89 = .ok (.dup, 1) := by decide +kernel
theorem dX7_feed_90 : decode cX7_feed 90 = .ok (.iconst 4, 1) := by decide +kernel
theorem dX7_feed_91 : decode cX7_feed 91 = .ok (.iload 6, 2) := by decide +kernel
theorem dX7_feed_93 : decode cX7_feed 93 = .ok (.iastore, 1) := by decide +kernel
theorem dX7_feed_94 : decode cX7_feed 94 = .ok (.astore 7, 2) := by decide +kernel
theorem dX7_feed_96 : decode cX7_feed 96 = .ok (.iconst 0, 1) := by decide +kernel
theorem dX7_feed_97 : decode cX7_feed 97 = .ok (.istore 8, 2) := by decide +kernel
theorem dX7_feed_99 : decode cX7_feed 99 = .ok (.iload 8, 2) := by decide +kernel
theorem dX7_feed_101 : decode cX7_feed 101 = .ok (.iload_n 1, 1) := by decide +kernel
theorem dX7_feed_102 : decode cX7_feed 102 = .ok (.if_icmp .ge 33, 3) := by decide +kernel
theorem dX7_feed_105 : decode cX7_feed 105 = .ok (.aload_n 0, 1) := by decide +kernel
theorem dX7_feed_106 : decode cX7_feed 106 = .ok (.getfield 16, 3) := by decide +kernel
theorem dX7_feed_109 : decode cX7_feed 109 = .ok (.aload_n 0, 1) := by decide +kernel
theorem dX7_feed_110 : decode cX7_feed 110 = .ok (.getfield 101, 3) := by decide +kernel
theorem dX7_feed_113 : decode cX7_feed 113 = .ok (.aload 7, 2) := by decide +kernel
theorem dX7_feed_115 : decode cX7_feed 115 = .ok (.iload 8, 2) := by decide +kernel
theorem dX7_feed_117 : decode cX7_feed 117 = .ok (.iaload, 1) := by decide +kernel
theorem dX7_feed_118 : decode cX7_feed 118 = .ok (.iastore, 1) := by decide +kernel
theorem dX7_feed_119 : decode cX7_feed 119 = .ok (.aload_n 0, 1) := by decide +kernel
theorem dX7_feed_120 : decode cX7_feed 120 = .ok (.dup, 1) := by decide +kernel
theorem dX7_feed_121 : decode cX7_feed 121 = .ok (.getfield 101, 3) := by decide +kernel
theorem dX7_feed_124 : decode cX7_feed 124 = .ok (.iconst 1, 1) := by decide +kernel
theorem dX7_feed_125 : decode cX7_feed 125 = .ok (.iadd, 1) := by decide +kernel
theorem dX7_feed_126 : decode cX7_feed 126 = .ok (.putfield 101, 3) := by decide +kernel
theorem dX7_feed_129 : decode cX7_feed 129 = .ok (.iinc 8 1, 3) := by decide +kernel
theorem dX7_feed_132 : decode cX7_feed 132 = .ok (.goto (-33), 3) := by decide +kernel
theorem dX7_feed_135 : decode cX7_feed 135 = .ok (.aload_n 0, 1) := by decide +kernel
theorem dX7_feed_136 : decode cX7_feed 136 = .ok (.getfield 101, 3) := by decide +kernel
theorem dX7_feed_139 : decode cX7_feed 139 = .ok (.ireturn, 1) := by decide +kernel
theorem dX7_byteAt_0 : decode cX7_byteAt 0 = .ok (.iload_n 1, 1) := by decide +kernel
theorem dX7_byteAt_1 : decode cX7_byteAt 1 = .ok (.aload_n 0, 1) := by decide +kernel
theorem dX7_byteAt_2 : decode cX7_byteAt 2 = .ok (.getfield 101, 3) := by decide +kernel
theorem dX7_byteAt_5 : decode cX7_byteAt 5 = .ok (.if_icmp .ge 12, 3) := by decide +kernel
theorem dX7_byteAt_8 : decode cX7_byteAt 8 = .ok (.aload_n 0, 1) := by decide +kernel
theorem dX7_byteAt_9 : decode cX7_byteAt 9 = .ok (.getfield 16, 3) := by decide +kernel
theorem dX7_byteAt_12 : decode cX7_byteAt 12 = .ok (.iload_n 1, 1) := by decide +kernel
theorem dX7_byteAt_13 : decode cX7_byteAt 13 = .ok (.iaload, 1) := by decide +kernel
theorem dX7_byteAt_14 : decode cX7_byteAt 14 = .ok (.goto 4, 3) := by decide +kernel
theorem dX7_byteAt_17 : decode cX7_byteAt 17 = .ok (.iconst (-1), 1) := by decide +kernel
theorem dX7_byteAt_18 : decode cX7_byteAt 18 = .ok (.ireturn, 1) := by decide +kernel
theorem dX7_wordOf_0 : decode cX7_wordOf 0 = .ok (.iconst 0, 1) := by decide +kernel
theorem dX7_wordOf_1 : decode cX7_wordOf 1 = .ok (.istore_n 1, 1) := by decide +kernel
theorem dX7_wordOf_2 : decode cX7_wordOf 2 = .ok (.iconst 0, 1) := by decide +kernel
theorem dX7_wordOf_3 : decode cX7_wordOf 3 = .ok (.istore_n 2, 1) := by decide +kernel
theorem dX7_wordOf_4 : decode cX7_wordOf 4 = .ok (.iload_n 1, 1) := by decide +kernel
theorem dX7_wordOf_5 : decode cX7_wordOf 5 = .ok (.aload_n 0, 1) := by decide +kernel
theorem dX7_wordOf_6 : decode cX7_wordOf 6 = .ok (.getfield 28, 3) := by decide +kernel
theorem dX7_wordOf_9 : decode cX7_wordOf 9 = .ok (.arraylength, 1) := by decide +kernel
theorem dX7_wordOf_10 : decode cX7_wordOf 10 = .ok (.if_icmp .ge 106, 3) := by decide +kernel
theorem dX7_wordOf_13 : decode cX7_wordOf 13 = .ok (.iconst 0, 1) := by decide +kernel
theorem dX7_wordOf_14 : decode cX7_wordOf 14 = .ok (.istore_n 3, 1) := by decide +kernel
theorem dX7_wordOf_15 : decode cX7_wordOf 15 = .ok (.iconst 1, 1) := by decide +kernel
theorem dX7_wordOf_16 : decode cX7_wordOf 16 = .ok (.istore 4, 2) := by decide +kernel
theorem dX7_wordOf_18 : decode cX7_wordOf 18 = .ok (.aload_n 0, 1) := by decide +kernel
theorem dX7_wordOf_19 : decode cX7_wordOf 19 = .ok (.getfield 28, 3) := by decide +kernel
theorem dX7_wordOf_22 : decode cX7_wordOf 22 = .ok (.iload_n 1, 1) := by decide +kernel
theorem dX7_wordOf_23 : decode cX7_wordOf 23 = .ok (.iload_n 3, 1) := by decide +kernel
theorem dX7_wordOf_24 : decode cX7_wordOf 24 = .ok (.iadd, 1) := by decide +kernel
theorem dX7_wordOf_25 : decode cX7_wordOf 25 = .ok (.caload, 1) := by decide +kernel
theorem dX7_wordOf_26 : decode cX7_wordOf 26 = .ok (.bipush 32, 2) := by decide +kernel
theorem dX7_wordOf_28 : decode cX7_wordOf 28 = .ok (.if_icmp .eq 56, 3) := by decide +kernel
theorem dX7_wordOf_31 : decode cX7_wordOf 31 = .ok (.iload 4, 2) := by decide +kernel
theorem dX7_wordOf_33 : decode cX7_wordOf 33 = .ok (.ifCond .eq 42, 3) := by decide +kernel
theorem dX7_wordOf_36 : decode cX7_wordOf 36 = .ok (.aload_n 0, 1) := by decide +kernel
theorem dX7_wordOf_37 : decode cX7_wordOf 37 = .ok (.getfield 111, 3) := by decide +kernel
theorem dX7_wordOf_40 : decode cX7_wordOf 40 = .ok (.iload_n 3, 1) := by decide +kernel
theorem dX7_wordOf_41 : decode cX7_wordOf 41 = .ok (.iadd, 1) := by decide +kernel
theorem dX7_wordOf_42 : decode cX7_wordOf 42 = .ok (.aload_n 0, 1) := by decide +kernel
theorem dX7_wordOf_43 : decode cX7_wordOf 43 = .ok (.getfield 114, 3) := by decide +kernel
theorem dX7_wordOf_46 : decode cX7_wordOf 46 = .ok (.if_icmp .ge 29, 3) := by decide +kernel
theorem dX7_wordOf_49 : decode cX7_wordOf 49 = .ok (.aload_n 0, 1) := by decide +kernel
theorem dX7_wordOf_50 : decode cX7_wordOf 50 = .ok (.getfield 16, 3) := by decide +kernel
theorem dX7_wordOf_53 : decode cX7_wordOf 53 = .ok (.aload_n 0, 1) := by decide +kernel
theorem dX7_wordOf_54 : decode cX7_wordOf 54 = .ok (.getfield 111, 3) := by decide +kernel
theorem dX7_wordOf_57 : decode cX7_wordOf 57 = .ok (.iload_n 3, 1) := by decide +kernel
theorem dX7_wordOf_58 : decode cX7_wordOf 58 = .ok (.iadd, 1) := by decide +kernel
theorem dX7_wordOf_59 : decode cX7_wordOf 59 = .ok (.iaload, 1) := by decide +kernel
theorem dX7_wordOf_60 : decode cX7_wordOf 60 = .ok (.aload_n 0, 1) := by decide +kernel
theorem dX7_wordOf_61 : decode cX7_wordOf 61 = .ok (.getfield 28, 3) := by decide +kernel
theorem dX7_wordOf_64 : decode cX7_wordOf 64 = .ok (.iload_n 1, 1) := by decide +kernel
theorem dX7_wordOf_65 : decode cX7_wordOf 65 = .ok (.iload_n 3, 1) := by decide +kernel
theorem dX7_wordOf_66 : decode cX7_wordOf 66 = .ok (.iadd, 1) := by decide +kernel
theorem dX7_wordOf_67 : decode cX7_wordOf 67 = .ok (.caload, 1) := by decide +kernel
theorem dX7_wordOf_68 : decode cX7_wordOf 68 = .ok (.if_icmp .ne 7, 3) := by decide +kernel
theorem dX7_wordOf_71 : decode cX7_wordOf 71 = .ok (.iconst 1, 1) := by decide +kernel
theorem dX7_wordOf_72 : decode cX7_wordOf 72 = .ok (.goto 4, 3) := by decide +kernel
theorem dX7_wordOf_75 : decode cX7_wordOf 75 = .ok (.iconst 0, 1) := by decide +kernel
theorem dX7_wordOf_76 : decode cX7_wordOf 76 = .ok (.istore 4, 2) := by decide +kernel
theorem dX7_wordOf_78 : decode cX7_wordOf 78 = .ok (.iinc 3 1, 3) := by decide +kernel
theorem dX7_wordOf_81 : decode cX7_wordOf 81 = .ok (.goto (-63), 3) := by decide +kernel
theorem dX7_wordOf_84 : decode cX7_wordOf 84 = .ok (.iload 4, 2) := by decide +kernel
theorem dX7_wordOf_86 : decode cX7_wordOf 86 = .ok (.ifCond .eq 18, 3) := by decide +kernel
theorem dX7_wordOf_89 : decode cX7_wordOf 89 = .ok (.iload_n 3, 1) := by decide +kernel
theorem dX7_wordOf_90 : decode cX7_wordOf 90 = .ok (.aload_n 0, 1) := by decide +kernel
theorem dX7_wordOf_91 : decode cX7_wordOf 91 = .ok (.getfield 114, 3) := by decide +kernel
theorem dX7_wordOf_94 : decode cX7_wordOf 94 = .ok (.aload_n 0, 1) := by decide +kernel
theorem dX7_wordOf_95 : decode cX7_wordOf 95 = .ok (.getfield 111, 3) := by decide +kernel
theorem dX7_wordOf_98 : decode cX7_wordOf 98 = .ok (.isub, 1) := by decide +kernel
theorem dX7_wordOf_99 : decode cX7_wordOf 99 = .ok (.if_icmp .ne 5, 3) := by decide +kernel
theorem dX7_wordOf_102 : decode cX7_wordOf 102 = .ok (.iload_n 2, 1) := by decide +kernel
theorem dX7_wordOf_103 : decode cX7_wordOf 103 = .ok (.ireturn, 1) := by decide +kernel
theorem dX7_wordOf_104 : decode cX7_wordOf 104 = .ok (.iload_n 1, 1) := by decide +kernel
theorem dX7_wordOf_105 : decode cX7_wordOf 105 = .ok (.iload_n 3, 1) := by decide +kernel
theorem dX7_wordOf_106 : decode cX7_wordOf 106 = .ok (.iconst 1, 1) := by decide +kernel
theorem dX7_wordOf_107 : decode cX7_wordOf 107 = .ok (.iadd, 1) := by decide +kernel
theorem dX7_wordOf_108 : decode cX7_wordOf 108 = .ok (.iadd, 1) := by decide +kernel
theorem dX7_wordOf_109 : decode cX7_wordOf 109 = .ok (.istore_n 1, 1) := by decide +kernel
theorem dX7_wordOf_110 : decode cX7_wordOf 110 = .ok (.iinc 2 1, 3) := by decide +kernel
theorem dX7_wordOf_113 : decode cX7_wordOf 113 = .ok (.goto (-109), 3) := by decide +kernel
theorem dX7_wordOf_116 : decode cX7_wordOf 116 = .ok (.iconst (-1), 1) := by decide +kernel
theorem dX7_wordOf_117 : decode cX7_wordOf 117 = .ok (.ireturn, 1) := by decide +kernel
theorem dX7_isLetter_0 : decode cX7_isLetter 0 = .ok (.iload_n 0, 1) := by decide +kernel
theorem dX7_isLetter_1 : decode cX7_isLetter 1 = .ok (.i2l, 1) := by decide +kernel
theorem dX7_isLetter_2 : decode cX7_isLetter 2 = .ok (.ldc2_w 117, 3) := by decide +kernel
theorem dX7_isLetter_5 : decode cX7_isLetter 5 = .ok (.ldc2_w 119, 3) := by decide +kernel
theorem dX7_isLetter_8 : decode cX7_isLetter 8 = .ok (.invokestatic 75, 3) := by decide +kernel
theorem dX7_isLetter_11 : decode cX7_isLetter 11 = .ok (.ireturn, 1) := by decide +kernel
theorem dX7_isDigit_0 : decode cX7_isDigit 0 = .ok (.iload_n 0, 1) := by decide +kernel
theorem dX7_isDigit_1 : decode cX7_isDigit 1 = .ok (.i2l, 1) := by decide +kernel
theorem dX7_isDigit_2 : decode cX7_isDigit 2 = .ok (.ldc2_w 121, 3) := by decide +kernel
theorem dX7_isDigit_5 : decode cX7_isDigit 5 = .ok (.ldc2_w 123, 3) := by decide +kernel
theorem dX7_isDigit_8 : decode cX7_isDigit 8 = .ok (.invokestatic 75, 3) := by decide +kernel
theorem dX7_isDigit_11 : decode cX7_isDigit 11 = .ok (.ireturn, 1) := by decide +kernel
theorem dX7_isSignByte_0 : decode cX7_isSignByte 0 = .ok (.iload_n 0, 1) := by decide +kernel
theorem dX7_isSignByte_1 : decode cX7_isSignByte 1 = .ok (.bipush 40, 2) := by decide +kernel
theorem dX7_isSignByte_3 : decode cX7_isSignByte 3 = .ok (.if_icmp .eq 45, 3) := by decide +kernel
theorem dX7_isSignByte_6 : decode cX7_isSignByte 6 = .ok (.iload_n 0, 1) := by decide +kernel
theorem dX7_isSignByte_7 : decode cX7_isSignByte 7 = .ok (.bipush 41, 2) := by decide +kernel
theorem dX7_isSignByte_9 : decode cX7_isSignByte 9 = .ok (.if_icmp .eq 39, 3) := by decide +kernel
theorem dX7_isSignByte_12 : decode cX7_isSignByte 12 = .ok (.iload_n 0, 1) := by decide +kernel
theorem dX7_isSignByte_13 : decode cX7_isSignByte 13 = .ok (.bipush 59, 2) := by decide +kernel
theorem dX7_isSignByte_15 : decode cX7_isSignByte 15 = .ok (.if_icmp .eq 33, 3) := by decide +kernel
theorem dX7_isSignByte_18 : decode cX7_isSignByte 18 = .ok (.iload_n 0, 1) := by decide +kernel
theorem dX7_isSignByte_19 : decode cX7_isSignByte 19 = .ok (.bipush 43, 2) := by decide +kernel
theorem dX7_isSignByte_21 : decode cX7_isSignByte 21 = .ok (.if_icmp .eq 27, 3) := by decide +kernel
theorem dX7_isSignByte_24 : decode cX7_isSignByte 24 = .ok (.iload_n 0, 1) := by decide +kernel
theorem dX7_isSignByte_25 : decode cX7_isSignByte 25 = .ok (.bipush 45, 2) := by decide +kernel
theorem dX7_isSignByte_27 : decode cX7_isSignByte 27 = .ok (.if_icmp .eq 21, 3) := by decide +kernel
theorem dX7_isSignByte_30 : decode cX7_isSignByte 30 = .ok (.iload_n 0, 1) := by decide +kernel
theorem dX7_isSignByte_31 : decode cX7_isSignByte 31 = .ok (.bipush 42, 2) := by decide +kernel
theorem dX7_isSignByte_33 : decode cX7_isSignByte 33 = .ok (.if_icmp .eq 15, 3) := by decide +kernel
theorem dX7_isSignByte_36 : decode cX7_isSignByte 36 = .ok (.iload_n 0, 1) := by decide +kernel
theorem dX7_isSignByte_37 : decode cX7_isSignByte 37 = .ok (.bipush 60, 2) := by decide +kernel
theorem dX7_isSignByte_39 : decode cX7_isSignByte 39 = .ok (.if_icmp .eq 9, 3) := by decide +kernel
theorem dX7_isSignByte_42 : decode cX7_isSignByte 42 = .ok (.iload_n 0, 1) := by decide +kernel
theorem dX7_isSignByte_43 : decode cX7_isSignByte 43 = .ok (.bipush 61, 2) := by decide +kernel
theorem dX7_isSignByte_45 : decode cX7_isSignByte 45 = .ok (.if_icmp .ne 7, 3) := by decide +kernel
theorem dX7_isSignByte_48 : decode cX7_isSignByte 48 = .ok (.iconst 1, 1) := by decide +kernel
theorem dX7_isSignByte_49 : decode cX7_isSignByte 49 = .ok (.goto 4, 3) := by decide +kernel
theorem dX7_isSignByte_52 : decode cX7_isSignByte 52 = .ok (.iconst 0, 1) := by decide +kernel
theorem dX7_isSignByte_53 : decode cX7_isSignByte 53 = .ok (.ireturn, 1) := by decide +kernel
theorem dX7_next_0 : decode cX7_next 0 = .ok (.aload_n 0, 1) := by decide +kernel
theorem dX7_next_1 : decode cX7_next 1 = .ok (.aload_n 0, 1) := by decide +kernel
theorem dX7_next_2 : decode cX7_next 2 = .ok (.getfield 114, 3) := by decide +kernel
theorem dX7_next_5 : decode cX7_next 5 = .ok (.invokevirtual 125, 3) := by decide +kernel
theorem dX7_next_8 : decode cX7_next 8 = .ok (.bipush 32, 2) := by decide +kernel
theorem dX7_next_10 : decode cX7_next 10 = .ok (.if_icmp .eq 16, 3) := by decide +kernel
theorem dX7_next_13 : decode cX7_next 13 = .ok (.aload_n 0, 1) := by decide +kernel
theorem dX7_next_14 : decode cX7_next 14 = .ok (.aload_n 0, 1) := by decide +kernel
theorem dX7_next_15 : decode cX7_next 15 = .ok (.getfield 114, 3) := by decide +kernel
theorem dX7_next_18 : decode cX7_next 18 = .ok (.invokevirtual 125, 3) := by decide +kernel
theorem dX7_next_21 : decode cX7_next 21 = .ok (.bipush 10, 2) := by decide +kernel
theorem dX7_next_23 : decode cX7_next 23 = .ok (.if_icmp .ne 16, 3) := by decide +kernel
theorem dX7_next_26 : decode cX7_next 26 = .ok (.aload_n 0, 1) := by decide +kernel
theorem dX7_next_27 : decode cX7_next 27 = .ok (.dup, 1) := by decide +kernel
theorem dX7_next_28 : decode cX7_next 28 = .ok (.getfield 114, 3) := by decide +kernel
theorem dX7_next_31 : decode cX7_next 31 = .ok (.iconst 1, 1) := by decide +kernel
theorem dX7_next_32 : decode cX7_next 32 = .ok (.iadd, 1) := by decide +kernel
theorem dX7_next_33 : decode cX7_next 33 = .ok (.putfield 114, 3) := by decide +kernel
theorem dX7_next_36 : decode cX7_next 36 = .ok (.goto (-36), 3) := by decide +kernel
theorem dX7_next_39 : decode cX7_next 39 = .ok (.aload_n 0, 1) := by decide +kernel
theorem dX7_next_40 : decode cX7_next 40 = .ok (.aload_n 0, 1) := by decide +kernel
theorem dX7_next_41 : decode cX7_next 41 = .ok (.getfield 114, 3) := by decide +kernel
theorem dX7_next_44 : decode cX7_next 44 = .ok (.putfield 111, 3) := by decide +kernel
theorem dX7_next_47 : decode cX7_next 47 = .ok (.aload_n 0, 1) := by decide +kernel
theorem dX7_next_48 : decode cX7_next 48 = .ok (.aload_n 0, 1) := by decide +kernel
theorem dX7_next_49 : decode cX7_next 49 = .ok (.getfield 114, 3) := by decide +kernel
theorem dX7_next_52 : decode cX7_next 52 = .ok (.invokevirtual 125, 3) := by decide +kernel
theorem dX7_next_55 : decode cX7_next 55 = .ok (.istore_n 1, 1) := by decide +kernel
theorem dX7_next_56 : decode cX7_next 56 = .ok (.iload_n 1, 1) := by decide +kernel
theorem dX7_next_57 : decode cX7_next 57 = .ok (.ifCond .ge 9, 3) := by decide +kernel
theorem dX7_next_60 : decode cX7_next 60 = .ok (.aload_n 0, 1) := by decide +kernel
theorem dX7_next_61 : decode cX7_next 61 = .ok (.iconst 0, 1) := by decide +kernel
theorem dX7_next_62 : decode cX7_next 62 = .ok (.putfield 129, 3) := by decide +kernel
theorem dX7_next_65 : decode cX7_next 65 = .ok (.return_, 1) := by decide +kernel
theorem dX7_next_66 : decode cX7_next 66 = .ok (.iload_n 1, 1) := by decide +kernel
theorem dX7_next_67 : decode cX7_next 67 = .ok (.invokestatic 132, 3) := by decide +kernel
theorem dX7_next_70 : decode cX7_next 70 = .ok (.ifCond .eq 77, 3) := by decide +kernel
theorem dX7_next_73 : decode cX7_next 73 = .ok (.aload_n 0, 1) := by decide +kernel
theorem dX7_next_74 : decode cX7_next 74 = .ok (.aload_n 0, 1) := by decide +kernel
theorem dX7_next_75 : decode cX7_next 75 = .ok (.getfield 114, 3) := by decide +kernel
theorem dX7_next_78 : decode cX7_next 78 = .ok (.invokevirtual 125, 3) := by decide +kernel
theorem dX7_next_81 : decode cX7_next 81 = .ok (.invokestatic 132, 3) := by decide +kernel
theorem dX7_next_84 : decode cX7_next 84 = .ok (.ifCond .eq 16, 3) := by decide +kernel
theorem dX7_next_87 : decode cX7_next 87 = .ok (.aload_n 0, 1) := by decide +kernel
theorem dX7_next_88 : decode cX7_next 88 = .ok (.dup, 1) := by decide +kernel
theorem dX7_next_89 : decode cX7_next 89 = .ok (.getfield 114, 3) := by decide +kernel
theorem dX7_next_92 : decode cX7_next 92 = .ok (.iconst 1, 1) := by decide +kernel
theorem dX7_next_93 : decode cX7_next 93 = .ok (.iadd, 1) := by decide +kernel
theorem dX7_next_94 : decode cX7_next 94 = .ok (.putfield 114, 3) := by decide +kernel
theorem dX7_next_97 : decode cX7_next 97 = .ok (.goto (-24), 3) := by decide +kernel
theorem dX7_next_100 : decode cX7_next 100 = .ok (.aload_n 0, 1) := by decide +kernel
theorem dX7_next_101 : decode cX7_next 101 = .ok (.invokevirtual 135, 3) := by decide +kernel
theorem dX7_next_104 : decode cX7_next 104 = .ok (.istore_n 2, 1) := by decide +kernel
theorem dX7_next_105 : decode cX7_next 105 = .ok (.aload_n 0, 1) := by decide +kernel
theorem dX7_next_106 : decode cX7_next 106 = .ok (.iload_n 2, 1) := by decide +kernel
theorem dX7_next_107 : decode cX7_next 107 = .ok (.ifCond .ge 7, 3) := by decide +kernel
theorem dX7_next_110 : decode cX7_next 110 = .ok (.iconst 5, 1) := by decide +kernel
theorem dX7_next_111 : decode cX7_next 111 = .ok (.goto 14, 3) := by decide +kernel
theorem dX7_next_114 : decode cX7_next 114 = .ok (.iload_n 2, 1) := by decide +kernel
theorem dX7_next_115 : decode cX7_next 115 = .ok (.bipush 6, 2) := by decide +kernel
theorem dX7_next_117 : decode cX7_next 117 = .ok (.if_icmp .ge 7, 3) := by decide +kernel
theorem dX7_next_120 : decode cX7_next 120 = .ok (.iconst 2, 1) := by decide +kernel
theorem dX7_next_121 : decode cX7_next 121 = .ok (.goto 4, 3) := by decide +kernel
theorem dX7_next_124 : decode cX7_next 124 = .ok (.iconst 3, 1) := by decide +kernel
theorem dX7_next_125 : decode cX7_next 125 = .ok (.putfield 129, 3) := by decide +kernel
theorem dX7_next_128 : decode cX7_next 128 = .ok (.aload_n 0, 1) := by decide +kernel
theorem dX7_next_129 : decode cX7_next 129 = .ok (.iload_n 2, 1) := by decide +kernel
theorem dX7_next_130 : decode cX7_next 130 = .ok (.bipush 6, 2) := by decide +kernel
theorem dX7_next_132 : decode cX7_next 132 = .ok (.if_icmp .ge 7, 3) := by decide +kernel
theorem dX7_next_135 : decode cX7_next 135 = .ok (.iload_n 2, 1) := by decide +kernel
theorem dX7_next_136 : decode cX7_next 136 = .ok (.goto 7, 3) := by decide +kernel
theorem dX7_next_139 : decode cX7_next 139 = .ok (.iload_n 2, 1) := by decide +kernel
theorem dX7_next_140 : decode cX7_next 140 = .ok (.bipush 6, 2) := by decide +kernel
theorem dX7_next_142 : decode cX7_next 142 = .ok (.isub, 1) := by decide +kernel
theorem dX7_next_143 : decode cX7_next 143 = .ok (.putfield 139, 3) := by decide +kernel
theorem dX7_next_146 : decode cX7_next 146 = .ok (.return_, 1) := by decide +kernel
theorem dX7_next_147 : decode cX7_next 147 = .ok (.iload_n 1, 1) := by decide +kernel
theorem dX7_next_148 : decode cX7_next 148 = .ok (.invokestatic 142, 3) := by decide +kernel
theorem dX7_next_151 : decode cX7_next 151 = .ok (.ifCond .eq 101, 3) := by decide +kernel
theorem dX7_next_154 : decode cX7_next 154 = .ok (.aload_n 0, 1) := by decide +kernel
theorem dX7_next_155 : decode cX7_next 155 = .ok (.iconst 0, 1) := by decide +kernel
theorem dX7_next_156 : decode cX7_next 156 = .ok (.putfield 139, 3) := by decide +kernel
theorem dX7_next_159 : decode cX7_next 159 = .ok (.aload_n 0, 1) := by decide +kernel
theorem dX7_next_160 : decode cX7_next 160 = .ok (.aload_n 0, 1) := by decide +kernel
theorem dX7_next_161 : decode cX7_next 161 = .ok (.getfield 114, 3) := by decide +kernel
theorem dX7_next_164 : decode cX7_next 164 = .ok (.invokevirtual 125, 3) := by decide +kernel
theorem dX7_next_167 : decode cX7_next 167 = .ok (.invokestatic 142, 3) := by decide +kernel
theorem dX7_next_170 : decode cX7_next 170 = .ok (.ifCond .eq 59, 3) := by decide +kernel
theorem dX7_next_173 : decode cX7_next 173 = .ok (.aload_n 0, 1) := by decide +kernel
theorem dX7_next_174 : decode cX7_next 174 = .ok (.aload_n 0, 1) := by decide +kernel
theorem dX7_next_175 : decode cX7_next 175 = .ok (.getfield 114, 3) := by decide +kernel
theorem dX7_next_178 : decode cX7_next 178 = .ok (.aload_n 0, 1) := by decide +kernel
theorem dX7_next_179 : decode cX7_next 179 = .ok (.getfield 111, 3) := by decide +kernel
theorem dX7_next_182 : decode cX7_next 182 = .ok (.isub, 1) := by decide +kernel
theorem dX7_next_183 : decode cX7_next 183 = .ok (.iconst 4, 1) := by decide +kernel
theorem dX7_next_184 : decode cX7_next 184 = .ok (.if_icmp .ge 25, 3) := by decide +kernel
theorem dX7_next_187 : decode cX7_next 187 = .ok (.bipush 10, 2) := by decide +kernel
theorem dX7_next_189 : decode cX7_next 189 = .ok (.aload_n 0, 1) := by decide +kernel
theorem dX7_next_190 : decode cX7_next 190 = .ok (.getfield 139, 3) := by decide +kernel
theorem dX7_next_193 : decode cX7_next 193 = .ok (.imul, 1) := by decide +kernel
theorem dX7_next_194 : decode cX7_next 194 = .ok (.aload_n 0, 1) := by decide +kernel
theorem dX7_next_195 : decode cX7_next 195 = .ok (.aload_n 0, 1) := by decide +kernel
theorem dX7_next_196 : decode cX7_next 196 = .ok (.getfield 114, 3) := by decide +kernel
theorem dX7_next_199 : decode cX7_next 199 = .ok (.invokevirtual 125, 3) := by decide +kernel
theorem dX7_next_202 : decode cX7_next 202 = .ok (.iadd, 1) := by decide +kernel
theorem dX7_next_203 : decode cX7_next 203 = .ok (.bipush 48, 2) := by decide +kernel
theorem dX7_next_205 : decode cX7_next 205 = .ok (.isub, 1) := by decide +kernel
theorem dX7_next_206 : decode cX7_next 206 = .ok (.goto 7, 3) := by decide +kernel
theorem dX7_next_209 : decode cX7_next 209 = .ok (.aload_n 0, 1) := by decide +kernel
theorem dX7_next_210 : decode cX7_next 210 = .ok (.getfield 139, 3) := by decide +kernel
theorem dX7_next_213 : decode cX7_next 213 = .ok (.putfield 139, 3) := by decide +kernel
theorem dX7_next_216 : decode cX7_next 216 = .ok (.aload_n 0, 1) := by decide +kernel
theorem dX7_next_217 : decode cX7_next 217 = .ok (.dup, 1) := by decide +kernel
theorem dX7_next_218 : decode cX7_next 218 = .ok (.getfield 114, 3) := by decide +kernel
theorem dX7_next_221 : decode cX7_next 221 = .ok (.iconst 1, 1) := by decide +kernel
theorem dX7_next_222 : decode cX7_next 222 = .ok (.iadd, 1) := by decide +kernel
theorem dX7_next_223 : decode cX7_next 223 = .ok (.putfield 114, 3) := by decide +kernel
theorem dX7_next_226 : decode cX7_next 226 = .ok (.goto (-67), 3) := by decide +kernel
theorem dX7_next_229 : decode cX7_next 229 = .ok (.aload_n 0, 1) := by decide +kernel
theorem dX7_next_230 : decode cX7_next 230 = .ok (.aload_n 0, 1) := by decide +kernel
theorem dX7_next_231 : decode cX7_next 231 = .ok (.getfield 114, 3) := by decide +kernel
theorem dX7_next_234 : decode cX7_next 234 = .ok (.aload_n 0, 1) := by decide +kernel
theorem dX7_next_235 : decode cX7_next 235 = .ok (.getfield 111, 3) := by decide +kernel
theorem dX7_next_238 : decode cX7_next 238 = .ok (.isub, 1) := by decide +kernel
theorem dX7_next_239 : decode cX7_next 239 = .ok (.iconst 4, 1) := by decide +kernel
theorem dX7_next_240 : decode cX7_next 240 = .ok (.if_icmp .le 7, 3) := by decide +kernel
theorem dX7_next_243 : decode cX7_next 243 = .ok (.iconst 5, 1) := by decide +kernel
theorem dX7_next_244 : decode cX7_next 244 = .ok (.goto 4, 3) := by decide +kernel
theorem dX7_next_247 : decode cX7_next 247 = .ok (.iconst 1, 1) := by decide +kernel
theorem dX7_next_248 : decode cX7_next 248 = .ok (.putfield 129, 3) := by decide +kernel
theorem dX7_next_251 : decode cX7_next 251 = .ok (.return_, 1) := by decide +kernel
theorem dX7_next_252 : decode cX7_next 252 = .ok (.aload_n 0, 1) := by decide +kernel
theorem dX7_next_253 : decode cX7_next 253 = .ok (.iload_n 1, 1) := by decide +kernel
theorem dX7_next_254 : decode cX7_next 254 = .ok (.invokestatic 145, 3) := by decide +kernel
theorem dX7_next_257 : decode cX7_next 257 = .ok (.ifCond .eq 7, 3) := by decide +kernel
theorem dX7_next_260 : decode cX7_next 260 = .ok (.iconst 4, 1) := by decide +kernel
theorem dX7_next_261 : decode cX7_next 261 = .ok (.goto 4, 3) := by decide +kernel
theorem dX7_next_264 : decode cX7_next 264 = .ok (.iconst 5, 1) := by decide +kernel
theorem dX7_next_265 : decode cX7_next 265 = .ok (.putfield 129, 3) := by decide +kernel
theorem dX7_next_268 : decode cX7_next 268 = .ok (.aload_n 0, 1) := by decide +kernel
theorem dX7_next_269 : decode cX7_next 269 = .ok (.iload_n 1, 1) := by decide +kernel
theorem dX7_next_270 : decode cX7_next 270 = .ok (.putfield 139, 3) := by decide +kernel
theorem dX7_next_273 : decode cX7_next 273 = .ok (.aload_n 0, 1) := by decide +kernel
theorem dX7_next_274 : decode cX7_next 274 = .ok (.dup, 1) := by decide +kernel
theorem dX7_next_275 : decode cX7_next 275 = .ok (.getfield 114, 3) := by decide +kernel
theorem dX7_next_278 : decode cX7_next 278 = .ok (.iconst 1, 1) := by decide +kernel
theorem dX7_next_279 : decode cX7_next 279 = .ok (.iadd, 1) := by decide +kernel
theorem dX7_next_280 : decode cX7_next 280 = .ok (.putfield 114, 3) := by decide +kernel
theorem dX7_next_283 : decode cX7_next 283 = .ok (.return_, 1) := by decide +kernel
theorem dX7_wrong_0 : decode cX7_wrong 0 = .ok (.aload_n 0, 1) := by decide +kernel
theorem dX7_wrong_1 : decode cX7_wrong 1 = .ok (.getfield 148, 3) := by decide +kernel
theorem dX7_wrong_4 : decode cX7_wrong 4 = .ok (.ifCond .ne 16, 3) := by decide +kernel
theorem dX7_wrong_7 : decode cX7_wrong 7 = .ok (.aload_n 0, 1) := by decide +kernel
theorem dX7_wrong_8 : decode cX7_wrong 8 = .ok (.iconst 1, 1) := by decide +kernel
theorem dX7_wrong_9 : decode cX7_wrong 9 = .ok (.putfield 148, 3) := by decide +kernel
theorem dX7_wrong_12 : decode cX7_wrong 12 = .ok (.aload_n 0, 1) := by decide +kernel
theorem dX7_wrong_13 : decode cX7_wrong 13 = .ok (.aload_n 0, 1) := by decide +kernel
theorem dX7_wrong_14 : decode cX7_wrong 14 = .ok (.getfield 111, 3) := by decide +kernel
theorem dX7_wrong_17 : decode cX7_wrong 17 = .ok (.putfield 152, 3) := by decide +kernel
theorem dX7_wrong_20 : decode cX7_wrong 20 = .ok (.return_, 1) := by decide +kernel
theorem dX7_isSign_0 : decode cX7_isSign 0 = .ok (.aload_n 0, 1) := by decide +kernel
theorem dX7_isSign_1 : decode cX7_isSign 1 = .ok (.getfield 148, 3) := by decide +kernel
theorem dX7_isSign_4 : decode cX7_isSign 4 = .ok (.ifCond .ne 23, 3) := by decide +kernel
theorem dX7_isSign_7 : decode cX7_isSign 7 = .ok (.aload_n 0, 1) := by decide +kernel
theorem dX7_isSign_8 : decode cX7_isSign 8 = .ok (.getfield 129, 3) := by decide +kernel
theorem dX7_isSign_11 : decode cX7_isSign 11 = .ok (.iconst 4, 1) := by decide +kernel
theorem dX7_isSign_12 : decode cX7_isSign 12 = .ok (.if_icmp .ne 15, 3) := by decide +kernel
theorem dX7_isSign_15 : decode cX7_isSign 15 = .ok (.aload_n 0, 1) := by decide +kernel
theorem dX7_isSign_16 : decode cX7_isSign 16 = .ok (.getfield 139, 3) := by decide +kernel
theorem dX7_isSign_19 : decode cX7_isSign 19 = .ok (.iload_n 1, 1) := by decide +kernel
theorem dX7_isSign_20 : decode cX7_isSign 20 = .ok (.if_icmp .ne 7, 3) := by decide +kernel
theorem dX7_isSign_23 : decode cX7_isSign 23 = .ok (.iconst 1, 1) := by decide +kernel
theorem dX7_isSign_24 : decode cX7_isSign 24 = .ok (.goto 4, 3) := by decide +kernel
theorem dX7_isSign_27 : decode cX7_isSign 27 = .ok (.iconst 0, 1) := by decide +kernel
theorem dX7_isSign_28 : decode cX7_isSign 28 = .ok (.ireturn, 1) := by decide +kernel
theorem dX7_isKey_0 : decode cX7_isKey 0 = .ok (.aload_n 0, 1) := by decide +kernel
theorem dX7_isKey_1 : decode cX7_isKey 1 = .ok (.getfield 148, 3) := by decide +kernel
theorem dX7_isKey_4 : decode cX7_isKey 4 = .ok (.ifCond .ne 23, 3) := by decide +kernel
theorem dX7_isKey_7 : decode cX7_isKey 7 = .ok (.aload_n 0, 1) := by decide +kernel
theorem dX7_isKey_8 : decode cX7_isKey 8 = .ok (.getfield 129, 3) := by decide +kernel
theorem dX7_isKey_11 : decode cX7_isKey 11 = .ok (.iconst 3, 1) := by decide +kernel
theorem dX7_isKey_12 : decode cX7_isKey 12 = .ok (.if_icmp .ne 15, 3) := by decide +kernel
theorem dX7_isKey_15 : decode cX7_isKey 15 = .ok (.aload_n 0, 1) := by decide +kernel
theorem dX7_isKey_16 : decode cX7_isKey 16 = .ok (.getfield 139, 3) := by decide +kernel
theorem dX7_isKey_19 : decode cX7_isKey 19 = .ok (.iload_n 1, 1) := by decide +kernel
theorem dX7_isKey_20 : decode cX7_isKey 20 = .ok (.if_icmp .ne 7, 3) := by decide +kernel
theorem dX7_isKey_23 : decode cX7_isKey 23 = .ok (.iconst 1, 1) := by decide +kernel
theorem dX7_isKey_24 : decode cX7_isKey 24 = .ok (.goto 4, 3) := by decide +kernel
theorem dX7_isKey_27 : decode cX7_isKey 27 = .ok (.iconst 0, 1) := by decide +kernel
theorem dX7_isKey_28 : decode cX7_isKey 28 = .ok (.ireturn, 1) := by decide +kernel
theorem dX7_adds_0 : decode cX7_adds 0 = .ok (.aload_n 0, 1) := by decide +kernel
theorem dX7_adds_1 : decode cX7_adds 1 = .ok (.getfield 19, 3) := by decide +kernel
theorem dX7_adds_4 : decode cX7_adds 4 = .ok (.aload_n 0, 1) := by decide +kernel
theorem dX7_adds_5 : decode cX7_adds 5 = .ok (.getfield 155, 3) := by decide +kernel
theorem dX7_adds_8 : decode cX7_adds 8 = .ok (.iload_n 1, 1) := by decide +kernel
theorem dX7_adds_9 : decode cX7_adds 9 = .ok (.iastore, 1) := by decide +kernel
theorem dX7_adds_10 : decode cX7_adds 10 = .ok (.aload_n 0, 1) := by decide +kernel
theorem dX7_adds_11 : decode cX7_adds 11 = .ok (.dup, 1) := by decide +kernel
theorem dX7_adds_12 : decode cX7_adds 12 = .ok (.getfield 155, 3) := by decide +kernel
theorem dX7_adds_15 : decode cX7_adds 15 = .ok (.iconst 1, 1) := by decide +kernel
theorem dX7_adds_16 : decode cX7_adds 16 = .ok (.iadd, 1) := by decide +kernel
theorem dX7_adds_17 : decode cX7_adds 17 = .ok (.putfield 155, 3) := by decide +kernel
theorem dX7_adds_20 : decode cX7_adds 20 = .ok (.return_, 1) := by decide +kernel
theorem dX7_opens_0 : decode cX7_opens 0 = .ok (.aload_n 0, 1) := by decide +kernel
theorem dX7_opens_1 : decode cX7_opens 1 = .ok (.getfield 158, 3) := by decide +kernel
theorem dX7_opens_4 : decode cX7_opens 4 = .ok (.iconst 5, 1) := by decide +kernel
theorem dX7_opens_5 : decode cX7_opens 5 = .ok (.if_icmp .ne 9, 3) := by decide +kernel
theorem dX7_opens_8 : decode cX7_opens 8 = .ok (.aload_n 0, 1) := by decide +kernel
theorem dX7_opens_9 : decode cX7_opens 9 = .ok (.invokevirtual 161, 3) := by decide +kernel
theorem dX7_opens_12 : decode cX7_opens 12 = .ok (.iconst 0, 1) := by decide +kernel
theorem dX7_opens_13 : decode cX7_opens 13 = .ok (.ireturn, 1) := by decide +kernel
theorem dX7_opens_14 : decode cX7_opens 14 = .ok (.aload_n 0, 1) := by decide +kernel
theorem dX7_opens_15 : decode cX7_opens 15 = .ok (.dup, 1) := by decide +kernel
theorem dX7_opens_16 : decode cX7_opens 16 = .ok (.getfield 158, 3) := by decide +kernel
theorem dX7_opens_19 : decode cX7_opens 19 = .ok (.iconst 1, 1) := by decide +kernel
theorem dX7_opens_20 : decode cX7_opens 20 = .ok (.iadd, 1) := by decide +kernel
theorem dX7_opens_21 : decode cX7_opens 21 = .ok (.putfield 158, 3) := by decide +kernel
theorem dX7_opens_24 : decode cX7_opens 24 = .ok (.aload_n 0, 1) := by decide +kernel
theorem dX7_opens_25 : decode cX7_opens 25 = .ok (.invokevirtual 164, 3) := by decide +kernel
theorem dX7_opens_28 : decode cX7_opens 28 = .ok (.iconst 1, 1) := by decide +kernel
theorem dX7_opens_29 : decode cX7_opens 29 = .ok (.ireturn, 1) := by decide +kernel
theorem dX7_one_0 : decode cX7_one 0 = .ok (.aload_n 0, 1) := by decide +kernel
theorem dX7_one_1 : decode cX7_one 1 = .ok (.getfield 148, 3) := by decide +kernel
theorem dX7_one_4 : decode cX7_one 4 = .ok (.ifCond .eq 4, 3) := by decide +kernel
theorem dX7_one_7 : decode cX7_one 7 = .ok (.return_, 1) := by decide +kernel
theorem dX7_one_8 : decode cX7_one 8 = .ok (.aload_n 0, 1) := by decide +kernel
theorem dX7_one_9 : decode cX7_one 9 = .ok (.getfield 129, 3) := by decide +kernel
theorem dX7_one_12 : decode cX7_one 12 = .ok (.iconst 1, 1) := by decide +kernel
theorem dX7_one_13 : decode cX7_one 13 = .ok (.if_icmp .eq 11, 3) := by decide +kernel
theorem dX7_one_16 : decode cX7_one 16 = .ok (.aload_n 0, 1) := by decide +kernel
theorem dX7_one_17 : decode cX7_one 17 = .ok (.getfield 129, 3) := by decide +kernel
theorem dX7_one_20 : decode cX7_one 20 = .ok (.iconst 2, 1) := by decide +kernel
theorem dX7_one_21 : decode cX7_one 21 = .ok (.if_icmp .ne 33, 3) := by decide +kernel
theorem dX7_one_24 : decode cX7_one 24 = .ok (.aload_n 0, 1) := by decide +kernel
theorem dX7_one_25 : decode cX7_one 25 = .ok (.aload_n 0, 1) := by decide +kernel
theorem dX7_one_26 : decode cX7_one 26 = .ok (.getfield 129, 3) := by decide +kernel
theorem dX7_one_29 : decode cX7_one 29 = .ok (.iconst 1, 1) := by decide +kernel
theorem dX7_one_30 : decode cX7_one 30 = .ok (.if_icmp .ne 10, 3) := by decide +kernel
theorem dX7_one_33 : decode cX7_one 33 = .ok (.aload_n 0, 1) := by decide +kernel
theorem dX7_one_34 : decode cX7_one 34 = .ok (.getfield 139, 3) := by decide +kernel
theorem dX7_one_37 : decode cX7_one 37 = .ok (.goto 9, 3) := by decide +kernel
theorem dX7_one_40 : decode cX7_one 40 = .ok (.iconst (-1), 1) := by decide +kernel
theorem dX7_one_41 : decode cX7_one 41 = .ok (.aload_n 0, 1) := by decide +kernel
theorem dX7_one_42 : decode cX7_one 42 = .ok (.getfield 139, 3) := by decide +kernel
theorem dX7_one_45 : decode cX7_one 45 = .ok (.isub, 1) := by decide +kernel
theorem dX7_one_46 : decode cX7_one 46 = .ok (.invokevirtual 167, 3) := by decide +kernel
theorem dX7_one_49 : decode cX7_one 49 = .ok (.aload_n 0, 1) := by decide +kernel
theorem dX7_one_50 : decode cX7_one 50 = .ok (.invokevirtual 164, 3) := by decide +kernel
theorem dX7_one_53 : decode cX7_one 53 = .ok (.return_, 1) := by decide +kernel
theorem dX7_one_54 : decode cX7_one 54 = .ok (.aload_n 0, 1) := by decide +kernel
theorem dX7_one_55 : decode cX7_one 55 = .ok (.bipush 45, 2) := by decide +kernel
theorem dX7_one_57 : decode cX7_one 57 = .ok (.invokevirtual 171, 3) := by decide +kernel
theorem dX7_one_60 : decode cX7_one 60 = .ok (.istore_n 1, 1) := by decide +kernel
theorem dX7_one_61 : decode cX7_one 61 = .ok (.iload_n 1, 1) := by decide +kernel
theorem dX7_one_62 : decode cX7_one 62 = .ok (.ifCond .ne 17, 3) := by decide +kernel
theorem dX7_one_65 : decode cX7_one 65 = .ok (.aload_n 0, 1) := by decide +kernel
theorem dX7_one_66 : decode cX7_one 66 = .ok (.bipush 40, 2) := by decide +kernel
theorem dX7_one_68 : decode cX7_one 68 = .ok (.invokevirtual 171, 3) := by decide +kernel
theorem dX7_one_71 : decode cX7_one 71 = .ok (.ifCond .ne 8, 3) := by decide +kernel
theorem dX7_one_74 : decode cX7_one 74 = .ok (.aload_n 0, 1) := by decide +kernel
theorem dX7_one_75 : decode cX7_one 75 = .ok (.invokevirtual 161, 3) := by decide +kernel
theorem dX7_one_78 : decode cX7_one 78 = .ok (.return_, 1) := by decide +kernel
theorem dX7_one_79 : decode cX7_one 79 = .ok (.aload_n 0, 1) := by decide +kernel
theorem dX7_one_80 : decode cX7_one 80 = .ok (.invokevirtual 174, 3) := by decide +kernel
theorem dX7_one_83 : decode cX7_one 83 = .ok (.ifCond .ne 4, 3) := by decide +kernel
theorem dX7_one_86 : decode cX7_one 86 = .ok (.return_, 1) := by decide +kernel
theorem dX7_one_87 : decode cX7_one 87 = .ok (.iload_n 1, 1) := by decide +kernel
theorem dX7_one_88 : decode cX7_one 88 = .ok (.ifCond .eq 24, 3) := by decide +kernel
theorem dX7_one_91 : decode cX7_one 91 = .ok (.aload_n 0, 1) := by decide +kernel
theorem dX7_one_92 : decode cX7_one 92 = .ok (.invokevirtual 178, 3) := by decide +kernel
theorem dX7_one_95 : decode cX7_one 95 = .ok (.aload_n 0, 1) := by decide +kernel
theorem dX7_one_96 : decode cX7_one 96 = .ok (.bipush (-100), 2) := by decide +kernel
theorem dX7_one_98 : decode cX7_one 98 = .ok (.invokevirtual 167, 3) := by decide +kernel
theorem dX7_one_101 : decode cX7_one 101 = .ok (.aload_n 0, 1) := by decide +kernel
theorem dX7_one_102 : decode cX7_one 102 = .ok (.dup, 1) := by decide +kernel
theorem dX7_one_103 : decode cX7_one 103 = .ok (.getfield 158, 3) := by decide +kernel
theorem dX7_one_106 : decode cX7_one 106 = .ok (.iconst 1, 1) := by decide +kernel
theorem dX7_one_107 : decode cX7_one 107 = .ok (.isub, 1) := by decide +kernel
theorem dX7_one_108 : decode cX7_one 108 = .ok (.putfield 158, 3) := by decide +kernel
theorem dX7_one_111 : decode cX7_one 111 = .ok (.return_, 1) := by decide +kernel
theorem dX7_one_112 : decode cX7_one 112 = .ok (.aload_n 0, 1) := by decide +kernel
theorem dX7_one_113 : decode cX7_one 113 = .ok (.invokevirtual 181, 3) := by decide +kernel
theorem dX7_one_116 : decode cX7_one 116 = .ok (.aload_n 0, 1) := by decide +kernel
theorem dX7_one_117 : decode cX7_one 117 = .ok (.bipush 41, 2) := by decide +kernel
theorem dX7_one_119 : decode cX7_one 119 = .ok (.invokevirtual 171, 3) := by decide +kernel
theorem dX7_one_122 : decode cX7_one 122 = .ok (.ifCond .ne 8, 3) := by decide +kernel
theorem dX7_one_125 : decode cX7_one 125 = .ok (.aload_n 0, 1) := by decide +kernel
theorem dX7_one_126 : decode cX7_one 126 = .ok (.invokevirtual 161, 3) := by decide +kernel
theorem dX7_one_129 : decode cX7_one 129 = .ok (.return_, 1) := by decide +kernel
theorem dX7_one_130 : decode cX7_one 130 = .ok (.aload_n 0, 1) := by decide +kernel
theorem dX7_one_131 : decode cX7_one 131 = .ok (.dup, 1) := by decide +kernel
theorem dX7_one_132 : decode cX7_one 132 = .ok (.getfield 158, 3) := by decide +kernel
theorem dX7_one_135 : decode cX7_one 135 = .ok (.iconst 1, 1) := by decide +kernel
theorem dX7_one_136 : decode cX7_one 136 = .ok (.isub, 1) := by decide +kernel
theorem dX7_one_137 : decode cX7_one 137 = .ok (.putfield 158, 3) := by decide +kernel
theorem dX7_one_140 : decode cX7_one 140 = .ok (.aload_n 0, 1) := by decide +kernel
theorem dX7_one_141 : decode cX7_one 141 = .ok (.invokevirtual 164, 3) := by decide +kernel
theorem dX7_one_144 : decode cX7_one 144 = .ok (.return_, 1) := by decide +kernel
theorem dX7_term_0 : decode cX7_term 0 = .ok (.aload_n 0, 1) := by decide +kernel
theorem dX7_term_1 : decode cX7_term 1 = .ok (.invokevirtual 178, 3) := by decide +kernel
theorem dX7_term_4 : decode cX7_term 4 = .ok (.aload_n 0, 1) := by decide +kernel
theorem dX7_term_5 : decode cX7_term 5 = .ok (.bipush 42, 2) := by decide +kernel
theorem dX7_term_7 : decode cX7_term 7 = .ok (.invokevirtual 171, 3) := by decide +kernel
theorem dX7_term_10 : decode cX7_term 10 = .ok (.ifCond .eq 21, 3) := by decide +kernel
theorem dX7_term_13 : decode cX7_term 13 = .ok (.aload_n 0, 1) := by decide +kernel
theorem dX7_term_14 : decode cX7_term 14 = .ok (.invokevirtual 164, 3) := by decide +kernel
theorem dX7_term_17 : decode cX7_term 17 = .ok (.aload_n 0, 1) := by decide +kernel
theorem dX7_term_18 : decode cX7_term 18 = .ok (.invokevirtual 178, 3) := by decide +kernel
theorem dX7_term_21 : decode cX7_term 21 = .ok (.aload_n 0, 1) := by decide +kernel
theorem dX7_term_22 : decode cX7_term 22 = .ok (.sipush (-142), 3) := by decide +kernel
theorem dX7_term_25 : decode cX7_term 25 = .ok (.invokevirtual 167, 3) := by decide +kernel
theorem dX7_term_28 : decode cX7_term 28 = .ok (.goto (-24), 3) := by decide +kernel
theorem dX7_term_31 : decode cX7_term 31 = .ok (.return_, 1) := by decide +kernel
theorem dX7_sum_0 : decode cX7_sum 0 = .ok (.aload_n 0, 1) := by decide +kernel
theorem dX7_sum_1 : decode cX7_sum 1 = .ok (.invokevirtual 184, 3) := by decide +kernel
theorem dX7_sum_4 : decode cX7_sum 4 = .ok (.aload_n 0, 1) := by decide +kernel
theorem dX7_sum_5 : decode cX7_sum 5 = .ok (.bipush 43, 2) := by decide +kernel
theorem dX7_sum_7 : decode cX7_sum 7 = .ok (.invokevirtual 171, 3) := by decide +kernel
theorem dX7_sum_10 : decode cX7_sum 10 = .ok (.ifCond .ne 12, 3) := by decide +kernel
theorem dX7_sum_13 : decode cX7_sum 13 = .ok (.aload_n 0, 1) := by decide +kernel
theorem dX7_sum_14 : decode cX7_sum 14 = .ok (.bipush 45, 2) := by decide +kernel
theorem dX7_sum_16 : decode cX7_sum 16 = .ok (.invokevirtual 171, 3) := by decide +kernel
theorem dX7_sum_19 : decode cX7_sum 19 = .ok (.ifCond .eq 27, 3) := by decide +kernel
theorem dX7_sum_22 : decode cX7_sum 22 = .ok (.aload_n 0, 1) := by decide +kernel
theorem dX7_sum_23 : decode cX7_sum 23 = .ok (.getfield 139, 3) := by decide +kernel
theorem dX7_sum_26 : decode cX7_sum 26 = .ok (.istore_n 1, 1) := by decide +kernel
theorem dX7_sum_27 : decode cX7_sum 27 = .ok (.aload_n 0, 1) := by decide +kernel
theorem dX7_sum_28 : decode cX7_sum 28 = .ok (.invokevirtual 164, 3) := by decide +kernel
theorem dX7_sum_31 : decode cX7_sum 31 = .ok (.aload_n 0, 1) := by decide +kernel
theorem dX7_sum_32 : decode cX7_sum 32 = .ok (.invokevirtual 184, 3) := by decide +kernel
theorem dX7_sum_35 : decode cX7_sum 35 = .ok (.aload_n 0, 1) := by decide +kernel
theorem dX7_sum_36 : decode cX7_sum 36 = .ok (.bipush (-100), 2) := by decide +kernel
theorem dX7_sum_38 : decode cX7_sum 38 = .ok (.iload_n 1, 1) := by decide +kernel
theorem dX7_sum_39 : decode cX7_sum 39 = .ok (.isub, 1) := by decide +kernel
theorem dX7_sum_40 : decode cX7_sum 40 = .ok (.invokevirtual 167, 3) := by decide +kernel
theorem dX7_sum_43 : decode cX7_sum 43 = .ok (.goto (-39), 3) := by decide +kernel
theorem dX7_sum_46 : decode cX7_sum 46 = .ok (.return_, 1) := by decide +kernel
theorem dX7_not_0 : decode cX7_not 0 = .ok (.aload_n 0, 1) := by decide +kernel
theorem dX7_not_1 : decode cX7_not 1 = .ok (.iconst 5, 1) := by decide +kernel
theorem dX7_not_2 : decode cX7_not 2 = .ok (.invokevirtual 187, 3) := by decide +kernel
theorem dX7_not_5 : decode cX7_not 5 = .ok (.ifCond .eq 31, 3) := by decide +kernel
theorem dX7_not_8 : decode cX7_not 8 = .ok (.aload_n 0, 1) := by decide +kernel
theorem dX7_not_9 : decode cX7_not 9 = .ok (.invokevirtual 174, 3) := by decide +kernel
theorem dX7_not_12 : decode cX7_not 12 = .ok (.ifCond .eq 23, 3) := by decide +kernel
theorem dX7_not_15 : decode cX7_not 15 = .ok (.aload_n 0, 1) := by decide +kernel
theorem dX7_not_16 : decode cX7_not 16 = .ok (.invokevirtual 190, 3) := by decide +kernel
theorem dX7_not_19 : decode cX7_not 19 = .ok (.aload_n 0, 1) := by decide +kernel
theorem dX7_not_20 : decode cX7_not 20 = .ok (.bipush (-101), 2) := by decide +kernel
theorem dX7_not_22 : decode cX7_not 22 = .ok (.invokevirtual 167, 3) := by decide +kernel
theorem dX7_not_25 : decode cX7_not 25 = .ok (.aload_n 0, 1) := by decide +kernel
theorem dX7_not_26 : decode cX7_not 26 = .ok (.dup, 1) := by decide +kernel
theorem dX7_not_27 : decode cX7_not 27 = .ok (.getfield 158, 3) := by decide +kernel
theorem dX7_not_30 : decode cX7_not 30 = .ok (.iconst 1, 1) := by decide +kernel
theorem dX7_not_31 : decode cX7_not 31 = .ok (.isub, 1) := by decide +kernel
theorem dX7_not_32 : decode cX7_not 32 = .ok (.putfield 158, 3) := by decide +kernel
theorem dX7_not_35 : decode cX7_not 35 = .ok (.return_, 1) := by decide +kernel
theorem dX7_not_36 : decode cX7_not 36 = .ok (.aload_n 0, 1) := by decide +kernel
theorem dX7_not_37 : decode cX7_not 37 = .ok (.invokevirtual 193, 3) := by decide +kernel
theorem dX7_not_40 : decode cX7_not 40 = .ok (.aload_n 0, 1) := by decide +kernel
theorem dX7_not_41 : decode cX7_not 41 = .ok (.bipush 60, 2) := by decide +kernel
theorem dX7_not_43 : decode cX7_not 43 = .ok (.invokevirtual 171, 3) := by decide +kernel
theorem dX7_not_46 : decode cX7_not 46 = .ok (.ifCond .ne 12, 3) := by decide +kernel
theorem dX7_not_49 : decode cX7_not 49 = .ok (.aload_n 0, 1) := by decide +kernel
theorem dX7_not_50 : decode cX7_not 50 = .ok (.bipush 61, 2) := by decide +kernel
theorem dX7_not_52 : decode cX7_not 52 = .ok (.invokevirtual 171, 3) := by decide +kernel
theorem dX7_not_55 : decode cX7_not 55 = .ok (.ifCond .eq 24, 3) := by decide +kernel
theorem dX7_not_58 : decode cX7_not 58 = .ok (.aload_n 0, 1) := by decide +kernel
theorem dX7_not_59 : decode cX7_not 59 = .ok (.getfield 139, 3) := by decide +kernel
theorem dX7_not_62 : decode cX7_not 62 = .ok (.istore_n 1, 1) := by decide +kernel
theorem dX7_not_63 : decode cX7_not 63 = .ok (.aload_n 0, 1) := by decide +kernel
theorem dX7_not_64 : decode cX7_not 64 = .ok (.invokevirtual 164, 3) := by decide +kernel
theorem dX7_not_67 : decode cX7_not 67 = .ok (.aload_n 0, 1) := by decide +kernel
theorem dX7_not_68 : decode cX7_not 68 = .ok (.invokevirtual 193, 3) := by decide +kernel
theorem dX7_not_71 : decode cX7_not 71 = .ok (.aload_n 0, 1) := by decide +kernel
theorem dX7_not_72 : decode cX7_not 72 = .ok (.bipush (-100), 2) := by decide +kernel
theorem dX7_not_74 : decode cX7_not 74 = .ok (.iload_n 1, 1) := by decide +kernel
theorem dX7_not_75 : decode cX7_not 75 = .ok (.isub, 1) := by decide +kernel
theorem dX7_not_76 : decode cX7_not 76 = .ok (.invokevirtual 167, 3) := by decide +kernel
theorem dX7_not_79 : decode cX7_not 79 = .ok (.return_, 1) := by decide +kernel
theorem dX7_both_0 : decode cX7_both 0 = .ok (.aload_n 0, 1) := by decide +kernel
theorem dX7_both_1 : decode cX7_both 1 = .ok (.invokevirtual 190, 3) := by decide +kernel
theorem dX7_both_4 : decode cX7_both 4 = .ok (.aload_n 0, 1) := by decide +kernel
theorem dX7_both_5 : decode cX7_both 5 = .ok (.iconst 4, 1) := by decide +kernel
theorem dX7_both_6 : decode cX7_both 6 = .ok (.invokevirtual 187, 3) := by decide +kernel
theorem dX7_both_9 : decode cX7_both 9 = .ok (.ifCond .eq 20, 3) := by decide +kernel
theorem dX7_both_12 : decode cX7_both 12 = .ok (.aload_n 0, 1) := by decide +kernel
theorem dX7_both_13 : decode cX7_both 13 = .ok (.invokevirtual 164, 3) := by decide +kernel
theorem dX7_both_16 : decode cX7_both 16 = .ok (.aload_n 0, 1) := by decide +kernel
theorem dX7_both_17 : decode cX7_both 17 = .ok (.invokevirtual 190, 3) := by decide +kernel
theorem dX7_both_20 : decode cX7_both 20 = .ok (.aload_n 0, 1) := by decide +kernel
theorem dX7_both_21 : decode cX7_both 21 = .ok (.bipush (-102), 2) := by decide +kernel
theorem dX7_both_23 : decode cX7_both 23 = .ok (.invokevirtual 167, 3) := by decide +kernel
theorem dX7_both_26 : decode cX7_both 26 = .ok (.goto (-22), 3) := by decide +kernel
theorem dX7_both_29 : decode cX7_both 29 = .ok (.return_, 1) := by decide +kernel
theorem dX7_either_0 : decode cX7_either 0 = .ok (.aload_n 0, 1) := by decide +kernel
theorem dX7_either_1 : decode cX7_either 1 = .ok (.invokevirtual 196, 3) := by decide +kernel
theorem dX7_either_4 : decode cX7_either 4 = .ok (.aload_n 0, 1) := by decide +kernel
theorem dX7_either_5 : decode cX7_either 5 = .ok (.iconst 3, 1) := by decide +kernel
theorem dX7_either_6 : decode cX7_either 6 = .ok (.invokevirtual 187, 3) := by decide +kernel
theorem dX7_either_9 : decode cX7_either 9 = .ok (.ifCond .eq 20, 3) := by decide +kernel
theorem dX7_either_12 : decode cX7_either 12 = .ok (.aload_n 0, 1) := by decide +kernel
theorem dX7_either_13 : decode cX7_either 13 = .ok (.invokevirtual 164, 3) := by decide +kernel
theorem dX7_either_16 : decode cX7_either 16 = .ok (.aload_n 0, 1) := by decide +kernel
theorem dX7_either_17 : decode cX7_either 17 = .ok (.invokevirtual 196, 3) := by decide +kernel
theorem dX7_either_20 : decode cX7_either 20 = .ok (.aload_n 0, 1) := by decide +kernel
theorem dX7_either_21 : decode cX7_either 21 = .ok (.bipush (-103), 2) := by decide +kernel
theorem dX7_either_23 : decode cX7_either 23 = .ok (.invokevirtual 167, 3) := by decide +kernel
theorem dX7_either_26 : decode cX7_either 26 = .ok (.goto (-22), 3) := by decide +kernel
theorem dX7_either_29 : decode cX7_either 29 = .ok (.return_, 1) := by decide +kernel
theorem dX7_text_0 : decode cX7_text 0 = .ok (.aload_n 0, 1) := by decide +kernel
theorem dX7_text_1 : decode cX7_text 1 = .ok (.getfield 68, 3) := by decide +kernel
theorem dX7_text_4 : decode cX7_text 4 = .ok (.bipush 6, 2) := by decide +kernel
theorem dX7_text_6 : decode cX7_text 6 = .ok (.if_icmp .ne 6, 3) := by decide +kernel
theorem dX7_text_9 : decode cX7_text 9 = .ok (.bipush (-4), 2) := by decide +kernel
theorem dX7_text_11 : decode cX7_text 11 = .ok (.ireturn, 1) := by decide +kernel
theorem dX7_text_12 : decode cX7_text 12 = .ok (.aload_n 0, 1) := by decide +kernel
theorem dX7_text_13 : decode cX7_text 13 = .ok (.iconst 0, 1) := by decide +kernel
theorem dX7_text_14 : decode cX7_text 14 = .ok (.putfield 114, 3) := by decide +kernel
theorem dX7_text_17 : decode cX7_text 17 = .ok (.aload_n 0, 1) := by decide +kernel
theorem dX7_text_18 : decode cX7_text 18 = .ok (.iconst 0, 1) := by decide +kernel
theorem dX7_text_19 : decode cX7_text 19 = .ok (.putfield 158, 3) := by decide +kernel
theorem dX7_text_22 : decode cX7_text 22 = .ok (.aload_n 0, 1) := by decide +kernel
theorem dX7_text_23 : decode cX7_text 23 = .ok (.iconst 0, 1) := by decide +kernel
theorem dX7_text_24 : decode cX7_text 24 = .ok (.putfield 148, 3) := by decide +kernel
theorem dX7_text_27 : decode cX7_text 27 = .ok (.aload_n 0, 1) := by decide +kernel
theorem dX7_text_28 : decode cX7_text 28 = .ok (.sipush 510, 3) := by decide +kernel
theorem dX7_text_31 : decode cX7_text 31 = .ok (.aload_n 0, 1) := by decide +kernel
theorem dX7_text_32 : decode cX7_text 32 = .ok (.getfield 68, 3) := by decide +kernel
theorem dX7_text_35 : decode cX7_text 35 = .ok (.imul, 1) := by decide +kernel
theorem dX7_text_36 : decode cX7_text 36 = .ok (.putfield 155, 3) := by decide +kernel
theorem dX7_text_39 : decode cX7_text 39 = .ok (.aload_n 0, 1) := by decide +kernel
theorem dX7_text_40 : decode cX7_text 40 = .ok (.invokevirtual 164, 3) := by decide +kernel
theorem dX7_text_43 : decode cX7_text 43 = .ok (.iconst 0, 1) := by decide +kernel
theorem dX7_text_44 : decode cX7_text 44 = .ok (.istore_n 1, 1) := by decide +kernel
theorem dX7_text_45 : decode cX7_text 45 = .ok (.iload_n 1, 1) := by decide +kernel
theorem dX7_text_46 : decode cX7_text 46 = .ok (.iconst 3, 1) := by decide +kernel
theorem dX7_text_47 : decode cX7_text 47 = .ok (.if_icmp .ge 93, 3) := by decide +kernel
theorem dX7_text_50 : decode cX7_text 50 = .ok (.aload_n 0, 1) := by decide +kernel
theorem dX7_text_51 : decode cX7_text 51 = .ok (.getfield 148, 3) := by decide +kernel
theorem dX7_text_54 : decode cX7_text 54 = .ok (.ifCond .ne 86, 3) := by decide +kernel
theorem dX7_text_57 : decode cX7_text 57 = .ok (.aload_n 0, 1) := by decide +kernel
theorem dX7_text_58 : decode cX7_text 58 = .ok (.iload_n 1, 1) := by decide +kernel
theorem dX7_text_59 : decode cX7_text 59 = .ok (.invokevirtual 187, 3) := by decide +kernel
theorem dX7_text_62 : decode cX7_text 62 = .ok (.ifCond .ne 10, 3) := by decide +kernel
theorem dX7_text_65 : decode cX7_text 65 = .ok (.aload_n 0, 1) := by decide +kernel
theorem dX7_text_66 : decode cX7_text 66 = .ok (.invokevirtual 161, 3) := by decide +kernel
theorem dX7_text_69 : decode cX7_text 69 = .ok (.goto 71, 3) := by decide +kernel
theorem dX7_text_72 : decode cX7_text 72 = .ok (.aload_n 0, 1) := by decide +kernel
theorem dX7_text_73 : decode cX7_text 73 = .ok (.invokevirtual 164, 3) := by decide +kernel
theorem dX7_text_76 : decode cX7_text 76 = .ok (.aload_n 0, 1) := by decide +kernel
theorem dX7_text_77 : decode cX7_text 77 = .ok (.getfield 22, 3) := by decide +kernel
theorem dX7_text_80 : decode cX7_text 80 = .ok (.iconst 3, 1) := by decide +kernel
theorem dX7_text_81 : decode cX7_text 81 = .ok (.aload_n 0, 1) := by decide +kernel
theorem dX7_text_82 : decode cX7_text 82 = .ok (.getfield 68, 3) := by decide +kernel
theorem dX7_text_85 : decode cX7_text 85 = .ok (.imul, 1) := by decide +kernel
theorem dX7_text_86 : decode cX7_text 86 = .ok (.iload_n 1, 1) := by decide +kernel
theorem dX7_text_87 : decode cX7_text 87 = .ok (.iadd, 1) := by decide +kernel
theorem dX7_text_88 : decode cX7_text 88 = .ok (.aload_n 0, 1) := by decide +kernel
theorem dX7_text_89 : decode cX7_text 89 = .ok (.getfield 155, 3) := by decide +kernel
theorem dX7_text_92 : decode cX7_text 92 = .ok (.iastore, 1) := by decide +kernel
theorem dX7_text_93 : decode cX7_text 93 = .ok (.aload_n 0, 1) := by decide +kernel
theorem dX7_text_94 : decode cX7_text 94 = .ok (.invokevirtual 181, 3) := by decide +kernel
theorem dX7_text_97 : decode cX7_text 97 = .ok (.aload_n 0, 1) := by decide +kernel
theorem dX7_text_98 : decode cX7_text 98 = .ok (.getfield 25, 3) := by decide +kernel
theorem dX7_text_101 : decode cX7_text 101 = .ok (.iconst 3, 1) := by decide +kernel
theorem dX7_text_102 : decode cX7_text 102 = .ok (.aload_n 0, 1) := by decide +kernel
theorem dX7_text_103 : decode cX7_text 103 = .ok (.getfield 68, 3) := by decide +kernel
theorem dX7_text_106 : decode cX7_text 106 = .ok (.imul, 1) := by decide +kernel
theorem dX7_text_107 : decode cX7_text 107 = .ok (.iload_n 1, 1) := by decide +kernel
theorem dX7_text_108 : decode cX7_text 108 = .ok (.iadd, 1) := by decide +kernel
theorem dX7_text_109 : decode cX7_text 109 = .ok (.aload_n 0, 1) := by decide +kernel
theorem dX7_text_110 : decode cX7_text 110 = .ok (.getfield 155, 3) := by decide +kernel
theorem dX7_text_113 : decode cX7_text 113 = .ok (.iastore, 1) := by decide +kernel
theorem dX7_text_114 : decode cX7_text 114 = .ok (.aload_n 0, 1) := by decide +kernel
theorem dX7_text_115 : decode cX7_text 115 = .ok (.bipush 59, 2) := by decide +kernel
theorem dX7_text_117 : decode cX7_text 117 = .ok (.invokevirtual 171, 3) := by decide +kernel
theorem dX7_text_120 : decode cX7_text 120 = .ok (.ifCond .eq 10, 3) := by decide +kernel
theorem dX7_text_123 : decode cX7_text 123 = .ok (.aload_n 0, 1) := by decide +kernel
theorem dX7_text_124 : decode cX7_text 124 = .ok (.invokevirtual 164, 3) := by decide +kernel
theorem dX7_text_127 : decode cX7_text 127 = .ok (.goto 7, 3) := by decide +kernel
theorem dX7_text_130 : decode cX7_text 130 = .ok (.aload_n 0, 1) := by decide +kernel
theorem dX7_text_131 : decode cX7_text 131 = .ok (.invokevirtual 161, 3) := by decide +kernel
theorem dX7_text_134 : decode cX7_text 134 = .ok (.iinc 1 1, 3) := by decide +kernel
theorem dX7_text_137 : decode cX7_text 137 = .ok (.goto (-92), 3) := by decide +kernel
theorem dX7_text_140 : decode cX7_text 140 = .ok (.aload_n 0, 1) := by decide +kernel
theorem dX7_text_141 : decode cX7_text 141 = .ok (.getfield 148, 3) := by decide +kernel
theorem dX7_text_144 : decode cX7_text 144 = .ok (.ifCond .ne 14, 3) := by decide +kernel
theorem dX7_text_147 : decode cX7_text 147 = .ok (.aload_n 0, 1) := by decide +kernel
theorem dX7_text_148 : decode cX7_text 148 = .ok (.getfield 129, 3) := by decide +kernel
theorem dX7_text_151 : decode cX7_text 151 = .ok (.ifCond .eq 7, 3) := by decide +kernel
theorem dX7_text_154 : decode cX7_text 154 = .ok (.aload_n 0, 1) := by decide +kernel
theorem dX7_text_155 : decode cX7_text 155 = .ok (.invokevirtual 161, 3) := by decide +kernel
theorem dX7_text_158 : decode cX7_text 158 = .ok (.aload_n 0, 1) := by decide +kernel
theorem dX7_text_159 : decode cX7_text 159 = .ok (.iconst 0, 1) := by decide +kernel
theorem dX7_text_160 : decode cX7_text 160 = .ok (.putfield 101, 3) := by decide +kernel
theorem dX7_text_163 : decode cX7_text 163 = .ok (.aload_n 0, 1) := by decide +kernel
theorem dX7_text_164 : decode cX7_text 164 = .ok (.getfield 148, 3) := by decide +kernel
theorem dX7_text_167 : decode cX7_text 167 = .ok (.ifCond .eq 11, 3) := by decide +kernel
theorem dX7_text_170 : decode cX7_text 170 = .ok (.bipush (-100), 2) := by decide +kernel
theorem dX7_text_172 : decode cX7_text 172 = .ok (.aload_n 0, 1) := by decide +kernel
theorem dX7_text_173 : decode cX7_text 173 = .ok (.getfield 152, 3) := by decide +kernel
theorem dX7_text_176 : decode cX7_text 176 = .ok (.isub, 1) := by decide +kernel
theorem dX7_text_177 : decode cX7_text 177 = .ok (.ireturn, 1) := by decide +kernel
theorem dX7_text_178 : decode cX7_text 178 = .ok (.aload_n 0, 1) := by decide +kernel
theorem dX7_text_179 : decode cX7_text 179 = .ok (.dup, 1) := by decide +kernel
theorem dX7_text_180 : decode cX7_text 180 = .ok (.getfield 68, 3) := by decide +kernel
theorem dX7_text_183 : decode cX7_text 183 = .ok (.iconst 1, 1) := by decide +kernel
theorem dX7_text_184 : decode cX7_text 184 = .ok (.iadd, 1) := by decide +kernel
theorem dX7_text_185 : decode cX7_text 185 = .ok (.putfield 68, 3) := by decide +kernel
theorem dX7_text_188 : decode cX7_text 188 = .ok (.aload_n 0, 1) := by decide +kernel
theorem dX7_text_189 : decode cX7_text 189 = .ok (.getfield 68, 3) := by decide +kernel
theorem dX7_text_192 : decode cX7_text 192 = .ok (.iconst 1, 1) := by decide +kernel
theorem dX7_text_193 : decode cX7_text 193 = .ok (.isub, 1) := by decide +kernel
theorem dX7_text_194 : decode cX7_text 194 = .ok (.ireturn, 1) := by decide +kernel
theorem dX7_force_0 : decode cX7_force 0 = .ok (.iload_n 1, 1) := by decide +kernel
theorem dX7_force_1 : decode cX7_force 1 = .ok (.i2l, 1) := by decide +kernel
theorem dX7_force_2 : decode cX7_force 2 = .ok (.lconst 0, 1) := by decide +kernel
theorem dX7_force_3 : decode cX7_force 3 = .ok (.aload_n 0, 1) := by decide +kernel
theorem dX7_force_4 : decode cX7_force 4 = .ok (.getfield 68, 3) := by decide +kernel
theorem dX7_force_7 : decode cX7_force 7 = .ok (.iconst 1, 1) := by decide +kernel
theorem dX7_force_8 : decode cX7_force 8 = .ok (.isub, 1) := by decide +kernel
theorem dX7_force_9 : decode cX7_force 9 = .ok (.i2l, 1) := by decide +kernel
theorem dX7_force_10 : decode cX7_force 10 = .ok (.invokestatic 75, 3) := by decide +kernel
theorem dX7_force_13 : decode cX7_force 13 = .ok (.ifCond .ne 6, 3) := by decide +kernel
theorem dX7_force_16 : decode cX7_force 16 = .ok (.bipush (-2), 2) := by decide +kernel
theorem dX7_force_18 : decode cX7_force 18 = .ok (.ireturn, 1) := by decide +kernel
theorem dX7_force_19 : decode cX7_force 19 = .ok (.aload_n 0, 1) := by decide +kernel
theorem dX7_force_20 : decode cX7_force 20 = .ok (.getfield 98, 3) := by decide +kernel
theorem dX7_force_23 : decode cX7_force 23 = .ok (.istore_n 2, 1) := by decide +kernel
theorem dX7_force_24 : decode cX7_force 24 = .ok (.aload_n 0, 1) := by decide +kernel
theorem dX7_force_25 : decode cX7_force 25 = .ok (.iload_n 1, 1) := by decide +kernel
theorem dX7_force_26 : decode cX7_force 26 = .ok (.putfield 98, 3) := by decide +kernel
theorem dX7_force_29 : decode cX7_force 29 = .ok (.iload_n 2, 1) := by decide +kernel
theorem dX7_force_30 : decode cX7_force 30 = .ok (.ireturn, 1) := by decide +kernel
theorem dX7_reckon_0 : decode cX7_reckon 0 = .ok (.iload_n 0, 1) := by decide +kernel
theorem dX7_reckon_1 : decode cX7_reckon 1 = .ok (.lookupswitch 107 #[(2, 93), (42, 67), (43, 59), (45, 63), (60, 71), (61, 82)], 59) := by decide +kernel
theorem dX7_reckon_60 : decode cX7_reckon 60 = .ok (.iload_n 1, 1) := by decide +kernel
theorem dX7_reckon_61 : decode cX7_reckon 61 = .ok (.iload_n 2, 1) := by decide +kernel
theorem dX7_reckon_62 : decode cX7_reckon 62 = .ok (.iadd, 1) := by decide +kernel
theorem dX7_reckon_63 : decode cX7_reckon 63 = .ok (.ireturn, 1) := by decide +kernel
theorem dX7_reckon_64 : decode cX7_reckon 64 = .ok (.iload_n 1, 1) := by decide +kernel
theorem dX7_reckon_65 : decode cX7_reckon 65 = .ok (.iload_n 2, 1) := by decide +kernel
theorem dX7_reckon_66 : decode cX7_reckon 66 = .ok (.isub, 1) := by decide +kernel
theorem dX7_reckon_67 : decode cX7_reckon 67 = .ok (.ireturn, 1) := by decide +kernel
theorem dX7_reckon_68 : decode cX7_reckon 68 = .ok (.iload_n 1, 1) := by decide +kernel
theorem dX7_reckon_69 : decode cX7_reckon 69 = .ok (.iload_n 2, 1) := by decide +kernel
theorem dX7_reckon_70 : decode cX7_reckon 70 = .ok (.imul, 1) := by decide +kernel
theorem dX7_reckon_71 : decode cX7_reckon 71 = .ok (.ireturn, 1) := by decide +kernel
theorem dX7_reckon_72 : decode cX7_reckon 72 = .ok (.iload_n 1, 1) := by decide +kernel
theorem dX7_reckon_73 : decode cX7_reckon 73 = .ok (.iload_n 2, 1) := by decide +kernel
theorem dX7_reckon_74 : decode cX7_reckon 74 = .ok (.if_icmp .ge 7, 3) := by decide +kernel
theorem dX7_reckon_77 : decode cX7_reckon 77 = .ok (.iconst 1, 1) := by decide +kernel
theorem dX7_reckon_78 : decode cX7_reckon 78 = .ok (.goto 4, 3) := by decide +kernel
theorem dX7_reckon_81 : decode cX7_reckon 81 = .ok (.iconst 0, 1) := by decide +kernel
theorem dX7_reckon_82 : decode cX7_reckon 82 = .ok (.ireturn, 1) := by decide +kernel
theorem dX7_reckon_83 : decode cX7_reckon 83 = .ok (.iload_n 1, 1) := by decide +kernel
theorem dX7_reckon_84 : decode cX7_reckon 84 = .ok (.iload_n 2, 1) := by decide +kernel
theorem dX7_reckon_85 : decode cX7_reckon 85 = .ok (.if_icmp .ne 7, 3) := by decide +kernel
theorem dX7_reckon_88 : decode cX7_reckon 88 = .ok (.iconst 1, 1) := by decide +kernel
theorem dX7_reckon_89 : decode cX7_reckon 89 = .ok (.goto 4, 3) := by decide +kernel
theorem dX7_reckon_92 : decode cX7_reckon 92 = .ok (.iconst 0, 1) := by decide +kernel
theorem dX7_reckon_93 : decode cX7_reckon 93 = .ok (.ireturn, 1) := by decide +kernel
theorem dX7_reckon_94 : decode cX7_reckon 94 = .ok (.iload_n 1, 1) := by decide +kernel
theorem dX7_reckon_95 : decode cX7_reckon 95 = .ok (.ifCond .eq 11, 3) := by decide +kernel
theorem dX7_reckon_98 : decode cX7_reckon 98 = .ok (.iload_n 2, 1) := by decide +kernel
theorem dX7_reckon_99 : decode cX7_reckon 99 = .ok (.ifCond .eq 7, 3) := by decide +kernel
theorem dX7_reckon_102 : decode cX7_reckon 102 = .ok (.iconst 1, 1) := by decide +kernel
theorem dX7_reckon_103 : decode cX7_reckon 103 = .ok (.goto 4, 3) := by decide +kernel
theorem dX7_reckon_106 : decode cX7_reckon 106 = .ok (.iconst 0, 1) := by decide +kernel
theorem dX7_reckon_107 : decode cX7_reckon 107 = .ok (.ireturn, 1) := by decide +kernel
theorem dX7_reckon_108 : decode cX7_reckon 108 = .ok (.iload_n 1, 1) := by decide +kernel
theorem dX7_reckon_109 : decode cX7_reckon 109 = .ok (.ifCond .ne 7, 3) := by decide +kernel
theorem dX7_reckon_112 : decode cX7_reckon 112 = .ok (.iload_n 2, 1) := by decide +kernel
theorem dX7_reckon_113 : decode cX7_reckon 113 = .ok (.ifCond .eq 7, 3) := by decide +kernel
theorem dX7_reckon_116 : decode cX7_reckon 116 = .ok (.iconst 1, 1) := by decide +kernel
theorem dX7_reckon_117 : decode cX7_reckon 117 = .ok (.goto 4, 3) := by decide +kernel
theorem dX7_reckon_120 : decode cX7_reckon 120 = .ok (.iconst 0, 1) := by decide +kernel
theorem dX7_reckon_121 : decode cX7_reckon 121 = .ok (.ireturn, 1) := by decide +kernel
theorem dX7_work_0 : decode cX7_work 0 = .ok (.aload_n 0, 1) := by decide +kernel
theorem dX7_work_1 : decode cX7_work 1 = .ok (.getfield 35, 3) := by decide +kernel
theorem dX7_work_4 : decode cX7_work 4 = .ok (.iconst 0, 1) := by decide +kernel
theorem dX7_work_5 : decode cX7_work 5 = .ok (.aload_n 0, 1) := by decide +kernel
theorem dX7_work_6 : decode cX7_work 6 = .ok (.getfield 47, 3) := by decide +kernel
theorem dX7_work_9 : decode cX7_work 9 = .ok (.bipush 8, 2) := by decide +kernel
theorem dX7_work_11 : decode cX7_work 11 = .ok (.iaload, 1) := by decide +kernel
theorem dX7_work_12 : decode cX7_work 12 = .ok (.iastore, 1) := by decide +kernel
theorem dX7_work_13 : decode cX7_work 13 = .ok (.aload_n 0, 1) := by decide +kernel
theorem dX7_work_14 : decode cX7_work 14 = .ok (.getfield 35, 3) := by decide +kernel
theorem dX7_work_17 : decode cX7_work 17 = .ok (.iconst 1, 1) := by decide +kernel
theorem dX7_work_18 : decode cX7_work 18 = .ok (.aload_n 0, 1) := by decide +kernel
theorem dX7_work_19 : decode cX7_work 19 = .ok (.getfield 47, 3) := by decide +kernel
theorem dX7_work_22 : decode cX7_work 22 = .ok (.bipush 6, 2) := by decide +kernel
theorem dX7_work_24 : decode cX7_work 24 = .ok (.iaload, 1) := by decide +kernel
theorem dX7_work_25 : decode cX7_work 25 = .ok (.iastore, 1) := by decide +kernel
theorem dX7_work_26 : decode cX7_work 26 = .ok (.aload_n 0, 1) := by decide +kernel
theorem dX7_work_27 : decode cX7_work 27 = .ok (.getfield 35, 3) := by decide +kernel
theorem dX7_work_30 : decode cX7_work 30 = .ok (.iconst 2, 1) := by decide +kernel
theorem dX7_work_31 : decode cX7_work 31 = .ok (.aload_n 0, 1) := by decide +kernel
theorem dX7_work_32 : decode cX7_work 32 = .ok (.getfield 47, 3) := by decide +kernel
theorem dX7_work_35 : decode cX7_work 35 = .ok (.bipush 7, 2) := by decide +kernel
theorem dX7_work_37 : decode cX7_work 37 = .ok (.iaload, 1) := by decide +kernel
theorem dX7_work_38 : decode cX7_work 38 = .ok (.iastore, 1) := by decide +kernel
theorem dX7_work_39 : decode cX7_work 39 = .ok (.aload_n 0, 1) := by decide +kernel
theorem dX7_work_40 : decode cX7_work 40 = .ok (.getfield 35, 3) := by decide +kernel
theorem dX7_work_43 : decode cX7_work 43 = .ok (.iconst 3, 1) := by decide +kernel
theorem dX7_work_44 : decode cX7_work 44 = .ok (.aload_n 0, 1) := by decide +kernel
theorem dX7_work_45 : decode cX7_work 45 = .ok (.getfield 47, 3) := by decide +kernel
theorem dX7_work_48 : decode cX7_work 48 = .ok (.iconst 5, 1) := by decide +kernel
theorem dX7_work_49 : decode cX7_work 49 = .ok (.iaload, 1) := by decide +kernel
theorem dX7_work_50 : decode cX7_work 50 = .ok (.iastore, 1) := by decide +kernel
theorem dX7_work_51 : decode cX7_work 51 = .ok (.aload_n 0, 1) := by decide +kernel
theorem dX7_work_52 : decode cX7_work 52 = .ok (.getfield 35, 3) := by decide +kernel
theorem dX7_work_55 : decode cX7_work 55 = .ok (.iconst 4, 1) := by decide +kernel
theorem dX7_work_56 : decode cX7_work 56 = .ok (.aload_n 0, 1) := by decide +kernel
theorem dX7_work_57 : decode cX7_work 57 = .ok (.getfield 47, 3) := by decide +kernel
theorem dX7_work_60 : decode cX7_work 60 = .ok (.iconst 2, 1) := by decide +kernel
theorem dX7_work_61 : decode cX7_work 61 = .ok (.iaload, 1) := by decide +kernel
theorem dX7_work_62 : decode cX7_work 62 = .ok (.iastore, 1) := by decide +kernel
theorem dX7_work_63 : decode cX7_work 63 = .ok (.aload_n 0, 1) := by decide +kernel
theorem dX7_work_64 : decode cX7_work 64 = .ok (.getfield 35, 3) := by decide +kernel
theorem dX7_work_67 : decode cX7_work 67 = .ok (.iconst 5, 1) := by decide +kernel
theorem dX7_work_68 : decode cX7_work 68 = .ok (.aload_n 0, 1) := by decide +kernel
theorem dX7_work_69 : decode cX7_work 69 = .ok (.getfield 47, 3) := by decide +kernel
theorem dX7_work_72 : decode cX7_work 72 = .ok (.bipush 11, 2) := by decide +kernel
theorem dX7_work_74 : decode cX7_work 74 = .ok (.iaload, 1) := by decide +kernel
theorem dX7_work_75 : decode cX7_work 75 = .ok (.ifCond .ne 7, 3) := by decide +kernel
theorem dX7_work_78 : decode cX7_work 78 = .ok (.iconst 0, 1) := by decide +kernel
theorem dX7_work_79 : decode cX7_work 79 = .ok (.goto 18, 3) := by decide +kernel
theorem dX7_work_82 : decode cX7_work 82 = .ok (.aload_n 0, 1) := by decide +kernel
theorem dX7_work_83 : decode cX7_work 83 = .ok (.getfield 47, 3) := by decide +kernel
theorem dX7_work_86 : decode cX7_work 86 = .ok (.bipush 12, 2) := by decide +kernel
theorem dX7_work_88 : decode cX7_work 88 = .ok (.iaload, 1) := by decide +kernel
theorem dX7_work_89 : decode cX7_work 89 = .ok (.aload_n 0, 1) := by decide +kernel
theorem dX7_work_90 : decode cX7_work 90 = .ok (.getfield 47, 3) := by decide +kernel
theorem dX7_work_93 : decode cX7_work 93 = .ok (.bipush 11, 2) := by decide +kernel
theorem dX7_work_95 : decode cX7_work 95 = .ok (.iaload, 1) := by decide +kernel
theorem dX7_work_96 : decode cX7_work 96 = .ok (.idiv, 1) := by decide +kernel
theorem dX7_work_97 : decode cX7_work 97 = .ok (.iastore, 1) := by decide +kernel
theorem dX7_work_98 : decode cX7_work 98 = .ok (.iconst 0, 1) := by decide +kernel
theorem dX7_work_99 : decode cX7_work 99 = .ok (.istore_n 2, 1) := by decide +kernel
theorem dX7_work_100 : decode cX7_work 100 = .ok (.aload_n 0, 1) := by decide +kernel
theorem dX7_work_101 : decode cX7_work 101 = .ok (.getfield 22, 3) := by decide +kernel
theorem dX7_work_104 : decode cX7_work 104 = .ok (.iconst 3, 1) := by decide +kernel
theorem dX7_work_105 : decode cX7_work 105 = .ok (.aload_n 0, 1) := by decide +kernel
theorem dX7_work_106 : decode cX7_work 106 = .ok (.getfield 98, 3) := by decide +kernel
theorem dX7_work_109 : decode cX7_work 109 = .ok (.imul, 1) := by decide +kernel
theorem dX7_work_110 : decode cX7_work 110 = .ok (.iload_n 1, 1) := by decide +kernel
theorem dX7_work_111 : decode cX7_work 111 = .ok (.iadd, 1) := by decide +kernel
theorem dX7_work_112 : decode cX7_work 112 = .ok (.iaload, 1) := by decide +kernel
theorem dX7_work_113 : decode cX7_work 113 = .ok (.istore_n 3, 1) := by decide +kernel
theorem dX7_work_114 : decode cX7_work 114 = .ok (.iload_n 3, 1) := by decide +kernel
theorem dX7_work_115 : decode cX7_work 115 = .ok (.aload_n 0, 1) := by decide +kernel
theorem dX7_work_116 : decode cX7_work 116 = .ok (.getfield 25, 3) := by decide +kernel
theorem dX7_work_119 : decode cX7_work 119 = .ok (.iconst 3, 1) := by decide +kernel
theorem dX7_work_120 : decode cX7_work 120 = .ok (.aload_n 0, 1) := by decide +kernel
theorem dX7_work_121 : decode cX7_work 121 = .ok (.getfield 98, 3) := by decide +kernel
theorem dX7_work_124 : decode cX7_work 124 = .ok (.imul, 1) := by decide +kernel
theorem dX7_work_125 : decode cX7_work 125 = .ok (.iload_n 1, 1) := by decide +kernel
theorem dX7_work_126 : decode cX7_work 126 = .ok (.iadd, 1) := by decide +kernel
theorem dX7_work_127 : decode cX7_work 127 = .ok (.iaload, 1) := by decide +kernel
theorem dX7_work_128 : decode cX7_work 128 = .ok (.if_icmp .ge 149, 3) := by decide +kernel
theorem dX7_work_131 : decode cX7_work 131 = .ok (.aload_n 0, 1) := by decide +kernel
theorem dX7_work_132 : decode cX7_work 132 = .ok (.getfield 19, 3) := by decide +kernel
theorem dX7_work_135 : decode cX7_work 135 = .ok (.iload_n 3, 1) := by decide +kernel
theorem dX7_work_136 : decode cX7_work 136 = .ok (.iaload, 1) := by decide +kernel
theorem dX7_work_137 : decode cX7_work 137 = .ok (.istore 4, 2) := by decide +kernel
theorem dX7_work_139 : decode cX7_work 139 = .ok (.iload 4, 2) := by decide +kernel
theorem dX7_work_141 : decode cX7_work 141 = .ok (.bipush (-100), 2) := by decide +kernel
theorem dX7_work_143 : decode cX7_work 143 = .ok (.if_icmp .le 34, 3) := by decide +kernel
theorem dX7_work_146 : decode cX7_work 146 = .ok (.aload_n 0, 1) := by decide +kernel
theorem dX7_work_147 : decode cX7_work 147 = .ok (.getfield 32, 3) := by decide +kernel
theorem dX7_work_150 : decode cX7_work 150 = .ok (.iload_n 2, 1) := by decide +kernel
theorem dX7_work_151 : decode cX7_work 151 = .ok (.iload 4, 2) := by decide +kernel
theorem dX7_work_153 : decode cX7_work 153 = .ok (.ifCond .ge 15, 3) := by decide +kernel
theorem dX7_work_156 : decode cX7_work 156 = .ok (.aload_n 0, 1) := by decide +kernel
theorem dX7_work_157 : decode cX7_work 157 = .ok (.getfield 35, 3) := by decide +kernel
theorem dX7_work_160 : decode cX7_work 160 = .ok (.iconst (-1), 1) := by decide +kernel
theorem dX7_work_161 : decode cX7_work 161 = .ok (.iload 4, 2) := by decide +kernel
theorem dX7_work_163 : decode cX7_work 163 = .ok (.isub, 1) := by decide +kernel
theorem dX7_work_164 : decode cX7_work 164 = .ok (.iaload, 1) := by decide +kernel
theorem dX7_work_165 : decode cX7_work 165 = .ok (.goto 5, 3) := by decide +kernel
theorem dX7_work_168 : decode cX7_work 168 = .ok (.iload 4, 2) := by decide +kernel
theorem dX7_work_170 : decode cX7_work 170 = .ok (.iastore, 1) := by decide +kernel
theorem dX7_work_171 : decode cX7_work 171 = .ok (.iinc 2 1, 3) := by decide +kernel
theorem dX7_work_174 : decode cX7_work 174 = .ok (.goto 97, 3) := by decide +kernel
theorem dX7_work_177 : decode cX7_work 177 = .ok (.iload 4, 2) := by decide +kernel
theorem dX7_work_179 : decode cX7_work 179 = .ok (.bipush (-100), 2) := by decide +kernel
theorem dX7_work_181 : decode cX7_work 181 = .ok (.if_icmp .ne 23, 3) := by decide +kernel
theorem dX7_work_184 : decode cX7_work 184 = .ok (.aload_n 0, 1) := by decide +kernel
theorem dX7_work_185 : decode cX7_work 185 = .ok (.getfield 32, 3) := by decide +kernel
theorem dX7_work_188 : decode cX7_work 188 = .ok (.iload_n 2, 1) := by decide +kernel
theorem dX7_work_189 : decode cX7_work 189 = .ok (.iconst 1, 1) := by decide +kernel
theorem dX7_work_190 : decode cX7_work 190 = .ok (.isub, 1) := by decide +kernel
theorem dX7_work_191 : decode cX7_work 191 = .ok (.aload_n 0, 1) := by decide +kernel
theorem dX7_work_192 : decode cX7_work 192 = .ok (.getfield 32, 3) := by decide +kernel
theorem dX7_work_195 : decode cX7_work 195 = .ok (.iload_n 2, 1) := by decide +kernel
theorem dX7_work_196 : decode cX7_work 196 = .ok (.iconst 1, 1) := by decide +kernel
theorem dX7_work_197 : decode cX7_work 197 = .ok (.isub, 1) := by decide +kernel
theorem dX7_work_198 : decode cX7_work 198 = .ok (.iaload, 1) := by decide +kernel
theorem dX7_work_199 : decode cX7_work 199 = .ok (.ineg, 1) := by decide +kernel
theorem dX7_work_200 : decode cX7_work 200 = .ok (.iastore, 1) := by decide +kernel
theorem dX7_work_201 : decode cX7_work 201 = .ok (.goto 70, 3) := by decide +kernel
theorem dX7_work_204 : decode cX7_work 204 = .ok (.iload 4, 2) := by decide +kernel
theorem dX7_work_206 : decode cX7_work 206 = .ok (.bipush (-101), 2) := by decide +kernel
theorem dX7_work_208 : decode cX7_work 208 = .ok (.if_icmp .ne 30, 3) := by decide +kernel
theorem dX7_work_211 : decode cX7_work 211 = .ok (.aload_n 0, 1) := by decide +kernel
theorem dX7_work_212 : decode cX7_work 212 = .ok (.getfield 32, 3) := by decide +kernel
theorem dX7_work_215 : decode cX7_work 215 = .ok (.iload_n 2, 1) := by decide +kernel
theorem dX7_work_216 : decode cX7_work 216 = .ok (.iconst 1, 1) := by decide +kernel
theorem dX7_work_217 : decode cX7_work 217 = .ok (.isub, 1) := by decide +kernel
theorem dX7_work_218 : decode cX7_work 218 = .ok (.aload_n 0, 1) := by decide +kernel
theorem dX7_work_219 : decode cX7_work 219 = .ok (.getfield 32, 3) := by decide +kernel
theorem dX7_work_222 : decode cX7_work 222 = .ok (.iload_n 2, 1) := by decide +kernel
theorem dX7_work_223 : decode cX7_work 223 = .ok (.iconst 1, 1) := by decide +kernel
theorem dX7_work_224 : decode cX7_work 224 = .ok (.isub, 1) := by decide +kernel
theorem dX7_work_225 : decode cX7_work 225 = .ok (.iaload, 1) := by decide +kernel
theorem dX7_work_226 : decode cX7_work 226 = .ok (.ifCond .ne 7, 3) := by decide +kernel
theorem dX7_work_229 : decode cX7_work 229 = .ok (.iconst 1, 1) := by decide +kernel
theorem dX7_work_230 : decode cX7_work 230 = .ok (.goto 4, 3) := by decide +kernel
theorem dX7_work_233 : decode cX7_work 233 = .ok (.iconst 0, 1) := by decide +kernel
theorem dX7_work_234 : decode cX7_work 234 = .ok (.iastore, 1) := by decide +kernel
theorem dX7_work_235 : decode cX7_work 235 = .ok (.goto 36, 3) := by decide +kernel
theorem dX7_work_238 : decode cX7_work 238 = .ok (.iinc 2 (-1), 3) := by decide +kernel
theorem dX7_work_241 : decode cX7_work 241 = .ok (.aload_n 0, 1) := by decide +kernel
theorem dX7_work_242 : decode cX7_work 242 = .ok (.getfield 32, 3) := by decide +kernel
theorem dX7_work_245 : decode cX7_work 245 = .ok (.iload_n 2, 1) := by decide +kernel
theorem dX7_work_246 : decode cX7_work 246 = .ok (.iconst 1, 1) := by decide +kernel
theorem dX7_work_247 : decode cX7_work 247 = .ok (.isub, 1) := by decide +kernel
theorem dX7_work_248 : decode cX7_work 248 = .ok (.bipush (-100), 2) := by decide +kernel
theorem dX7_work_250 : decode cX7_work 250 = .ok (.iload 4, 2) := by decide +kernel
theorem dX7_work_252 : decode cX7_work 252 = .ok (.isub, 1) := by decide +kernel
theorem dX7_work_253 : decode cX7_work 253 = .ok (.aload_n 0, 1) := by decide +kernel
theorem dX7_work_254 : decode cX7_work 254 = .ok (.getfield 32, 3) := by decide +kernel
theorem dX7_work_257 : decode cX7_work 257 = .ok (.iload_n 2, 1) := by decide +kernel
theorem dX7_work_258 : decode cX7_work 258 = .ok (.iconst 1, 1) := by decide +kernel
theorem dX7_work_259 : decode cX7_work 259 = .ok (.isub, 1) := by decide +kernel
theorem dX7_work_260 : decode cX7_work 260 = .ok (.iaload, 1) := by decide +kernel
theorem dX7_work_261 : decode cX7_work 261 = .ok (.aload_n 0, 1) := by decide +kernel
theorem dX7_work_262 : decode cX7_work 262 = .ok (.getfield 32, 3) := by decide +kernel
theorem dX7_work_265 : decode cX7_work 265 = .ok (.iload_n 2, 1) := by decide +kernel
theorem dX7_work_266 : decode cX7_work 266 = .ok (.iaload, 1) := by decide +kernel
theorem dX7_work_267 : decode cX7_work 267 = .ok (.invokestatic 199, 3) := by decide +kernel
theorem dX7_work_270 : decode cX7_work 270 = .ok (.iastore, 1) := by decide +kernel
theorem dX7_work_271 : decode cX7_work 271 = .ok (.iinc 3 1, 3) := by decide +kernel
theorem dX7_work_274 : decode cX7_work 274 = .ok (.goto (-160), 3) := by decide +kernel
theorem dX7_work_277 : decode cX7_work 277 = .ok (.aload_n 0, 1) := by decide +kernel
theorem dX7_work_278 : decode cX7_work 278 = .ok (.getfield 32, 3) := by decide +kernel
theorem dX7_work_281 : decode cX7_work 281 = .ok (.iconst 0, 1) := by decide +kernel
theorem dX7_work_282 : decode cX7_work 282 = .ok (.iaload, 1) := by decide +kernel
theorem dX7_work_283 : decode cX7_work 283 = .ok (.iload_n 1, 1) := by decide +kernel
theorem dX7_work_284 : decode cX7_work 284 = .ok (.iconst 2, 1) := by decide +kernel
theorem dX7_work_285 : decode cX7_work 285 = .ok (.if_icmp .ne 9, 3) := by decide +kernel
theorem dX7_work_288 : decode cX7_work 288 = .ok (.sipush 999, 3) := by decide +kernel
theorem dX7_work_291 : decode cX7_work 291 = .ok (.goto 5, 3) := by decide +kernel
theorem dX7_work_294 : decode cX7_work 294 = .ok (.bipush 100, 2) := by decide +kernel
theorem dX7_work_296 : decode cX7_work 296 = .ok (.invokestatic 203, 3) := by decide +kernel
theorem dX7_work_299 : decode cX7_work 299 = .ok (.ireturn, 1) := by decide +kernel
theorem dX7_isAct_0 : decode cX7_isAct 0 = .ok (.iload_n 1, 1) := by decide +kernel
theorem dX7_isAct_1 : decode cX7_isAct 1 = .ok (.i2l, 1) := by decide +kernel
theorem dX7_isAct_2 : decode cX7_isAct 2 = .ok (.lconst 0, 1) := by decide +kernel
theorem dX7_isAct_3 : decode cX7_isAct 3 = .ok (.aload_n 0, 1) := by decide +kernel
theorem dX7_isAct_4 : decode cX7_isAct 4 = .ok (.getfield 95, 3) := by decide +kernel
theorem dX7_isAct_7 : decode cX7_isAct 7 = .ok (.iconst 1, 1) := by decide +kernel
theorem dX7_isAct_8 : decode cX7_isAct 8 = .ok (.isub, 1) := by decide +kernel
theorem dX7_isAct_9 : decode cX7_isAct 9 = .ok (.i2l, 1) := by decide +kernel
theorem dX7_isAct_10 : decode cX7_isAct 10 = .ok (.invokestatic 75, 3) := by decide +kernel
theorem dX7_isAct_13 : decode cX7_isAct 13 = .ok (.ireturn, 1) := by decide +kernel
theorem dX7_act_0 : decode cX7_act 0 = .ok (.iload_n 1, 1) := by decide +kernel
theorem dX7_act_1 : decode cX7_act 1 = .ok (.i2l, 1) := by decide +kernel
theorem dX7_act_2 : decode cX7_act 2 = .ok (.lconst 0, 1) := by decide +kernel
theorem dX7_act_3 : decode cX7_act 3 = .ok (.ldc2_w 106, 3) := by decide +kernel
theorem dX7_act_6 : decode cX7_act 6 = .ok (.invokestatic 75, 3) := by decide +kernel
theorem dX7_act_9 : decode cX7_act 9 = .ok (.ifCond .eq 27, 3) := by decide +kernel
theorem dX7_act_12 : decode cX7_act 12 = .ok (.iload_n 2, 1) := by decide +kernel
theorem dX7_act_13 : decode cX7_act 13 = .ok (.i2l, 1) := by decide +kernel
theorem dX7_act_14 : decode cX7_act 14 = .ok (.lconst 0, 1) := by decide +kernel
theorem dX7_act_15 : decode cX7_act 15 = .ok (.ldc2_w 93, 3) := by decide +kernel
theorem dX7_act_18 : decode cX7_act 18 = .ok (.invokestatic 75, 3) := by decide +kernel
theorem dX7_act_21 : decode cX7_act 21 = .ok (.ifCond .eq 15, 3) := by decide +kernel
theorem dX7_act_24 : decode cX7_act 24 = .ok (.iload_n 3, 1) := by decide +kernel
theorem dX7_act_25 : decode cX7_act 25 = .ok (.i2l, 1) := by decide +kernel
theorem dX7_act_26 : decode cX7_act 26 = .ok (.lconst 0, 1) := by decide +kernel
theorem dX7_act_27 : decode cX7_act 27 = .ok (.ldc2_w 93, 3) := by decide +kernel
theorem dX7_act_30 : decode cX7_act 30 = .ok (.invokestatic 75, 3) := by decide +kernel
theorem dX7_act_33 : decode cX7_act 33 = .ok (.ifCond .ne 6, 3) := by decide +kernel
theorem dX7_act_36 : decode cX7_act 36 = .ok (.bipush (-2), 2) := by decide +kernel
theorem dX7_act_38 : decode cX7_act 38 = .ok (.ireturn, 1) := by decide +kernel
theorem dX7_act_39 : decode cX7_act 39 = .ok (.aload_n 0, 1) := by decide +kernel
theorem dX7_act_40 : decode cX7_act 40 = .ok (.getfield 95, 3) := by decide +kernel
theorem dX7_act_43 : decode cX7_act 43 = .ok (.bipush 12, 2) := by decide +kernel
theorem dX7_act_45 : decode cX7_act 45 = .ok (.if_icmp .ne 6, 3) := by decide +kernel
theorem dX7_act_48 : decode cX7_act 48 = .ok (.bipush (-4), 2) := by decide +kernel
theorem dX7_act_50 : decode cX7_act 50 = .ok (.ireturn, 1) := by decide +kernel
theorem dX7_act_51 : decode cX7_act 51 = .ok (.aload_n 0, 1) := by decide +kernel
theorem dX7_act_52 : decode cX7_act 52 = .ok (.getfield 38, 3) := by decide +kernel
theorem dX7_act_55 : decode cX7_act 55 = .ok (.aload_n 0, 1) := by decide +kernel
theorem dX7_act_56 : decode cX7_act 56 = .ok (.getfield 95, 3) := by decide +kernel
theorem dX7_act_59 : decode cX7_act 59 = .ok (.iload_n 1, 1) := by decide +kernel
theorem dX7_act_60 : decode cX7_act 60 = .ok (.iastore, 1) := by decide +kernel
theorem dX7_act_61 : decode cX7_act 61 = .ok (.aload_n 0, 1) := by decide +kernel
theorem dX7_act_62 : decode cX7_act 62 = .ok (.getfield 41, 3) := by decide +kernel
theorem dX7_act_65 : decode cX7_act 65 = .ok (.aload_n 0, 1) := by decide +kernel
theorem dX7_act_66 : decode cX7_act 66 = .ok (.getfield 95, 3) := by decide +kernel
theorem dX7_act_69 : decode cX7_act 69 = .ok (.iload_n 2, 1) := by decide +kernel
theorem dX7_act_70 : decode cX7_act 70 = .ok (.iastore, 1) := by decide +kernel
theorem dX7_act_71 : decode cX7_act 71 = .ok (.aload_n 0, 1) := by decide +kernel
theorem dX7_act_72 : decode cX7_act 72 = .ok (.getfield 44, 3) := by decide +kernel
theorem dX7_act_75 : decode cX7_act 75 = .ok (.aload_n 0, 1) := by decide +kernel
theorem dX7_act_76 : decode cX7_act 76 = .ok (.getfield 95, 3) := by decide +kernel
theorem dX7_act_79 : decode cX7_act 79 = .ok (.iload_n 3, 1) := by decide +kernel
theorem dX7_act_80 : decode cX7_act 80 = .ok (.iastore, 1) := by decide +kernel
theorem dX7_act_81 : decode cX7_act 81 = .ok (.aload_n 0, 1) := by decide +kernel
theorem dX7_act_82 : decode cX7_act 82 = .ok (.dup, 1) := by decide +kernel
theorem dX7_act_83 : decode cX7_act 83 = .ok (.getfield 95, 3) := by decide +kernel
theorem dX7_act_86 : decode cX7_act 86 = .ok (.iconst 1, 1) := by decide +kernel
theorem dX7_act_87 : decode cX7_act 87 = .ok (.iadd, 1) := by decide +kernel
theorem dX7_act_88 : decode cX7_act 88 = .ok (.putfield 95, 3) := by decide +kernel
theorem dX7_act_91 : decode cX7_act 91 = .ok (.aload_n 0, 1) := by decide +kernel
theorem dX7_act_92 : decode cX7_act 92 = .ok (.getfield 95, 3) := by decide +kernel
theorem dX7_act_95 : decode cX7_act 95 = .ok (.iconst 1, 1) := by decide +kernel
theorem dX7_act_96 : decode cX7_act 96 = .ok (.isub, 1) := by decide +kernel
theorem dX7_act_97 : decode cX7_act 97 = .ok (.ireturn, 1) := by decide +kernel
theorem dX7_forget_0 : decode cX7_forget 0 = .ok (.aload_n 0, 1) := by decide +kernel
theorem dX7_forget_1 : decode cX7_forget 1 = .ok (.getfield 95, 3) := by decide +kernel
theorem dX7_forget_4 : decode cX7_forget 4 = .ok (.ifCond .ne 6, 3) := by decide +kernel
theorem dX7_forget_7 : decode cX7_forget 7 = .ok (.bipush (-3), 2) := by decide +kernel
theorem dX7_forget_9 : decode cX7_forget 9 = .ok (.ireturn, 1) := by decide +kernel
theorem dX7_forget_10 : decode cX7_forget 10 = .ok (.aload_n 0, 1) := by decide +kernel
theorem dX7_forget_11 : decode cX7_forget 11 = .ok (.dup, 1) := by decide +kernel
theorem dX7_forget_12 : decode cX7_forget 12 = .ok (.getfield 95, 3) := by decide +kernel
theorem dX7_forget_15 : decode cX7_forget 15 = .ok (.iconst 1, 1) := by decide +kernel
theorem dX7_forget_16 : decode cX7_forget 16 = .ok (.isub, 1) := by decide +kernel
theorem dX7_forget_17 : decode cX7_forget 17 = .ok (.putfield 95, 3) := by decide +kernel
theorem dX7_forget_20 : decode cX7_forget 20 = .ok (.aload_n 0, 1) := by decide +kernel
theorem dX7_forget_21 : decode cX7_forget 21 = .ok (.getfield 95, 3) := by decide +kernel
theorem dX7_forget_24 : decode cX7_forget 24 = .ok (.ireturn, 1) := by decide +kernel
theorem dX7_minutesOf_0 : decode cX7_minutesOf 0 = .ok (.iload_n 0, 1) := by decide +kernel
theorem dX7_minutesOf_1 : decode cX7_minutesOf 1 = .ok (.lookupswitch 50 #[(0, 35), (3, 35), (5, 39)], 35) := by decide +kernel
theorem dX7_minutesOf_36 : decode cX7_minutesOf 36 = .ok (.iconst 1, 1) := by decide +kernel
theorem dX7_minutesOf_37 : decode cX7_minutesOf 37 = .ok (.iload_n 1, 1) := by decide +kernel
theorem dX7_minutesOf_38 : decode cX7_minutesOf 38 = .ok (.iadd, 1) := by decide +kernel
theorem dX7_minutesOf_39 : decode cX7_minutesOf 39 = .ok (.ireturn, 1) := by decide +kernel
theorem dX7_minutesOf_40 : decode cX7_minutesOf 40 = .ok (.iload_n 1, 1) := by decide +kernel
theorem dX7_minutesOf_41 : decode cX7_minutesOf 41 = .ok (.iconst 1, 1) := by decide +kernel
theorem dX7_minutesOf_42 : decode cX7_minutesOf 42 = .ok (.if_icmp .ge 7, 3) := by decide +kernel
theorem dX7_minutesOf_45 : decode cX7_minutesOf 45 = .ok (.iconst 1, 1) := by decide +kernel
theorem dX7_minutesOf_46 : decode cX7_minutesOf 46 = .ok (.goto 4, 3) := by decide +kernel
theorem dX7_minutesOf_49 : decode cX7_minutesOf 49 = .ok (.iload_n 1, 1) := by decide +kernel
theorem dX7_minutesOf_50 : decode cX7_minutesOf 50 = .ok (.ireturn, 1) := by decide +kernel
theorem dX7_minutesOf_51 : decode cX7_minutesOf 51 = .ok (.iconst 1, 1) := by decide +kernel
theorem dX7_minutesOf_52 : decode cX7_minutesOf 52 = .ok (.ireturn, 1) := by decide +kernel
theorem dX7_actTold_0 : decode cX7_actTold 0 = .ok (.aload_n 0, 1) := by decide +kernel
theorem dX7_actTold_1 : decode cX7_actTold 1 = .ok (.iload_n 1, 1) := by decide +kernel
theorem dX7_actTold_2 : decode cX7_actTold 2 = .ok (.invokevirtual 207, 3) := by decide +kernel
theorem dX7_actTold_5 : decode cX7_actTold 5 = .ok (.ifCond .ne 6, 3) := by decide +kernel
theorem dX7_actTold_8 : decode cX7_actTold 8 = .ok (.bipush (-5), 2) := by decide +kernel
theorem dX7_actTold_10 : decode cX7_actTold 10 = .ok (.ireturn, 1) := by decide +kernel
theorem dX7_actTold_11 : decode cX7_actTold 11 = .ok (.iload_n 2, 1) := by decide +kernel
theorem dX7_actTold_12 : decode cX7_actTold 12 = .ok (.tableswitch 88 0 4 #[36, 43, 50, 57, 73], 36) := by decide +kernel
theorem dX7_actTold_48 : decode cX7_actTold 48 = .ok (.aload_n 0, 1) := by decide +kernel
theorem dX7_actTold_49 : decode cX7_actTold 49 = .ok (.getfield 38, 3) := by decide +kernel
theorem dX7_actTold_52 : decode cX7_actTold 52 = .ok (.iload_n 1, 1) := by decide +kernel
theorem dX7_actTold_53 : decode cX7_actTold 53 = .ok (.iaload, 1) := by decide +kernel
theorem dX7_actTold_54 : decode cX7_actTold 54 = .ok (.ireturn, 1) := by decide +kernel
theorem dX7_actTold_55 : decode cX7_actTold 55 = .ok (.aload_n 0, 1) := by decide +kernel
theorem dX7_actTold_56 : decode cX7_actTold 56 = .ok (.getfield 41, 3) := by decide +kernel
theorem dX7_actTold_59 : decode cX7_actTold 59 = .ok (.iload_n 1, 1) := by decide +kernel
theorem dX7_actTold_60 : decode cX7_actTold 60 = .ok (.iaload, 1) := by decide +kernel
theorem dX7_actTold_61 : decode cX7_actTold 61 = .ok (.ireturn, 1) := by decide +kernel
theorem dX7_actTold_62 : decode cX7_actTold 62 = .ok (.aload_n 0, 1) := by decide +kernel
theorem dX7_actTold_63 : decode cX7_actTold 63 = .ok (.getfield 44, 3) := by decide +kernel
theorem dX7_actTold_66 : decode cX7_actTold 66 = .ok (.iload_n 1, 1) := by decide +kernel
theorem dX7_actTold_67 : decode cX7_actTold 67 = .ok (.iaload, 1) := by decide +kernel
theorem dX7_actTold_68 : decode cX7_actTold 68 = .ok (.ireturn, 1) := by decide +kernel
theorem dX7_actTold_69 : decode cX7_actTold 69 = .ok (.aload_n 0, 1) := by decide +kernel
theorem dX7_actTold_70 : decode cX7_actTold 70 = .ok (.getfield 38, 3) := by decide +kernel
theorem dX7_actTold_73 : decode cX7_actTold 73 = .ok (.iload_n 1, 1) := by decide +kernel
theorem dX7_actTold_74 : decode cX7_actTold 74 = .ok (.iaload, 1) := by decide +kernel
theorem dX7_actTold_75 : decode cX7_actTold 75 = .ok (.aload_n 0, 1) := by decide +kernel
theorem dX7_actTold_76 : decode cX7_actTold 76 = .ok (.getfield 41, 3) := by decide +kernel
theorem dX7_actTold_79 : decode cX7_actTold 79 = .ok (.iload_n 1, 1) := by decide +kernel
theorem dX7_actTold_80 : decode cX7_actTold 80 = .ok (.iaload, 1) := by decide +kernel
theorem dX7_actTold_81 : decode cX7_actTold 81 = .ok (.invokestatic 210, 3) := by decide +kernel
theorem dX7_actTold_84 : decode cX7_actTold 84 = .ok (.ireturn, 1) := by decide +kernel
theorem dX7_actTold_85 : decode cX7_actTold 85 = .ok (.aload_n 0, 1) := by decide +kernel
theorem dX7_actTold_86 : decode cX7_actTold 86 = .ok (.getfield 38, 3) := by decide +kernel
theorem dX7_actTold_89 : decode cX7_actTold 89 = .ok (.iload_n 1, 1) := by decide +kernel
theorem dX7_actTold_90 : decode cX7_actTold 90 = .ok (.iaload, 1) := by decide +kernel
theorem dX7_actTold_91 : decode cX7_actTold 91 = .ok (.ifCond .ne 7, 3) := by decide +kernel
theorem dX7_actTold_94 : decode cX7_actTold 94 = .ok (.iconst 0, 1) := by decide +kernel
theorem dX7_actTold_95 : decode cX7_actTold 95 = .ok (.goto 4, 3) := by decide +kernel
theorem dX7_actTold_98 : decode cX7_actTold 98 = .ok (.iconst 1, 1) := by decide +kernel
theorem dX7_actTold_99 : decode cX7_actTold 99 = .ok (.ireturn, 1) := by decide +kernel
theorem dX7_actTold_100 : decode cX7_actTold 100 = .ok (.bipush (-7), 2) := by decide +kernel
theorem dX7_actTold_102 : decode cX7_actTold 102 = .ok (.ireturn, 1) := by decide +kernel
theorem dX7_begins_0 : decode cX7_begins 0 = .ok (.iconst 0, 1) := by decide +kernel
theorem dX7_begins_1 : decode cX7_begins 1 = .ok (.istore_n 1, 1) := by decide +kernel
theorem dX7_begins_2 : decode cX7_begins 2 = .ok (.iload_n 1, 1) := by decide +kernel
theorem dX7_begins_3 : decode cX7_begins 3 = .ok (.bipush 14, 2) := by decide +kernel
theorem dX7_begins_5 : decode cX7_begins 5 = .ok (.if_icmp .ge 16, 3) := by decide +kernel
theorem dX7_begins_8 : decode cX7_begins 8 = .ok (.aload_n 0, 1) := by decide +kernel
theorem dX7_begins_9 : decode cX7_begins 9 = .ok (.getfield 47, 3) := by decide +kernel
theorem dX7_begins_12 : decode cX7_begins 12 = .ok (.iload_n 1, 1) := by decide +kernel
theorem dX7_begins_13 : decode cX7_begins 13 = .ok (.iconst 0, 1) := by decide +kernel
theorem dX7_begins_14 : decode cX7_begins 14 = .ok (.iastore, 1) := by decide +kernel
theorem dX7_begins_15 : decode cX7_begins 15 = .ok (.iinc 1 1, 3) := by decide +kernel
theorem dX7_begins_18 : decode cX7_begins 18 = .ok (.goto (-16), 3) := by decide +kernel
theorem dX7_begins_21 : decode cX7_begins 21 = .ok (.aload_n 0, 1) := by decide +kernel
theorem dX7_begins_22 : decode cX7_begins 22 = .ok (.getfield 47, 3) := by decide +kernel
theorem dX7_begins_25 : decode cX7_begins 25 = .ok (.iconst 5, 1) := by decide +kernel
theorem dX7_begins_26 : decode cX7_begins 26 = .ok (.aload_n 0, 1) := by decide +kernel
theorem dX7_begins_27 : decode cX7_begins 27 = .ok (.getfield 13, 3) := by decide +kernel
theorem dX7_begins_30 : decode cX7_begins 30 = .ok (.iconst 1, 1) := by decide +kernel
theorem dX7_begins_31 : decode cX7_begins 31 = .ok (.iaload, 1) := by decide +kernel
theorem dX7_begins_32 : decode cX7_begins 32 = .ok (.iastore, 1) := by decide +kernel
theorem dX7_begins_33 : decode cX7_begins 33 = .ok (.aload_n 0, 1) := by decide +kernel
theorem dX7_begins_34 : decode cX7_begins 34 = .ok (.getfield 47, 3) := by decide +kernel
theorem dX7_begins_37 : decode cX7_begins 37 = .ok (.bipush 6, 2) := by decide +kernel
theorem dX7_begins_39 : decode cX7_begins 39 = .ok (.aload_n 0, 1) := by decide +kernel
theorem dX7_begins_40 : decode cX7_begins 40 = .ok (.getfield 13, 3) := by decide +kernel
theorem dX7_begins_43 : decode cX7_begins 43 = .ok (.iconst 2, 1) := by decide +kernel
theorem dX7_begins_44 : decode cX7_begins 44 = .ok (.iaload, 1) := by decide +kernel
theorem dX7_begins_45 : decode cX7_begins 45 = .ok (.iastore, 1) := by decide +kernel
theorem dX7_begins_46 : decode cX7_begins 46 = .ok (.aload_n 0, 1) := by decide +kernel
theorem dX7_begins_47 : decode cX7_begins 47 = .ok (.getfield 47, 3) := by decide +kernel
theorem dX7_begins_50 : decode cX7_begins 50 = .ok (.bipush 8, 2) := by decide +kernel
theorem dX7_begins_52 : decode cX7_begins 52 = .ok (.bipush 20, 2) := by decide +kernel
theorem dX7_begins_54 : decode cX7_begins 54 = .ok (.iastore, 1) := by decide +kernel
theorem dX7_begins_55 : decode cX7_begins 55 = .ok (.aload_n 0, 1) := by decide +kernel
theorem dX7_begins_56 : decode cX7_begins 56 = .ok (.getfield 47, 3) := by decide +kernel
theorem dX7_begins_59 : decode cX7_begins 59 = .ok (.bipush 13, 2) := by decide +kernel
theorem dX7_begins_61 : decode cX7_begins 61 = .ok (.aload_n 0, 1) := by decide +kernel
theorem dX7_begins_62 : decode cX7_begins 62 = .ok (.getfield 13, 3) := by decide +kernel
theorem dX7_begins_65 : decode cX7_begins 65 = .ok (.iconst 0, 1) := by decide +kernel
theorem dX7_begins_66 : decode cX7_begins 66 = .ok (.iaload, 1) := by decide +kernel
theorem dX7_begins_67 : decode cX7_begins 67 = .ok (.iastore, 1) := by decide +kernel
theorem dX7_begins_68 : decode cX7_begins 68 = .ok (.aload_n 0, 1) := by decide +kernel
theorem dX7_begins_69 : decode cX7_begins 69 = .ok (.iconst 0, 1) := by decide +kernel
theorem dX7_begins_70 : decode cX7_begins 70 = .ok (.putfield 213, 3) := by decide +kernel
theorem dX7_begins_73 : decode cX7_begins 73 = .ok (.return_, 1) := by decide +kernel
theorem dX7_handfuls_0 : decode cX7_handfuls 0 = .ok (.aload_n 0, 1) := by decide +kernel
theorem dX7_handfuls_1 : decode cX7_handfuls 1 = .ok (.getfield 47, 3) := by decide +kernel
theorem dX7_handfuls_4 : decode cX7_handfuls 4 = .ok (.bipush 11, 2) := by decide +kernel
theorem dX7_handfuls_6 : decode cX7_handfuls 6 = .ok (.dup2, 1) := by decide +kernel
theorem dX7_handfuls_7 : decode cX7_handfuls 7 = .ok (.iaload, 1) := by decide +kernel
theorem dX7_handfuls_8 : decode cX7_handfuls 8 = .ok (.iload_n 2, 1) := by decide +kernel
theorem dX7_handfuls_9 : decode cX7_handfuls 9 = .ok (.iadd, 1) := by decide +kernel
theorem dX7_handfuls_10 : decode cX7_handfuls 10 = .ok (.iastore, 1) := by decide +kernel
theorem dX7_handfuls_11 : decode cX7_handfuls 11 = .ok (.aload_n 0, 1) := by decide +kernel
theorem dX7_handfuls_12 : decode cX7_handfuls 12 = .ok (.getfield 47, 3) := by decide +kernel
theorem dX7_handfuls_15 : decode cX7_handfuls 15 = .ok (.bipush 12, 2) := by decide +kernel
theorem dX7_handfuls_17 : decode cX7_handfuls 17 = .ok (.dup2, 1) := by decide +kernel
theorem dX7_handfuls_18 : decode cX7_handfuls 18 = .ok (.iaload, 1) := by decide +kernel
theorem dX7_handfuls_19 : decode cX7_handfuls 19 = .ok (.iload_n 2, 1) := by decide +kernel
theorem dX7_handfuls_20 : decode cX7_handfuls 20 = .ok (.aload_n 0, 1) := by decide +kernel
theorem dX7_handfuls_21 : decode cX7_handfuls 21 = .ok (.getfield 9, 3) := by decide +kernel
theorem dX7_handfuls_24 : decode cX7_handfuls 24 = .ok (.iconst 5, 1) := by decide +kernel
theorem dX7_handfuls_25 : decode cX7_handfuls 25 = .ok (.iload_n 1, 1) := by decide +kernel
theorem dX7_handfuls_26 : decode cX7_handfuls 26 = .ok (.imul, 1) := by decide +kernel
theorem dX7_handfuls_27 : decode cX7_handfuls 27 = .ok (.iaload, 1) := by decide +kernel
theorem dX7_handfuls_28 : decode cX7_handfuls 28 = .ok (.imul, 1) := by decide +kernel
theorem dX7_handfuls_29 : decode cX7_handfuls 29 = .ok (.iadd, 1) := by decide +kernel
theorem dX7_handfuls_30 : decode cX7_handfuls 30 = .ok (.iastore, 1) := by decide +kernel
theorem dX7_handfuls_31 : decode cX7_handfuls 31 = .ok (.aload_n 0, 1) := by decide +kernel
theorem dX7_handfuls_32 : decode cX7_handfuls 32 = .ok (.getfield 47, 3) := by decide +kernel
theorem dX7_handfuls_35 : decode cX7_handfuls 35 = .ok (.iconst 0, 1) := by decide +kernel
theorem dX7_handfuls_36 : decode cX7_handfuls 36 = .ok (.dup2, 1) := by decide +kernel
theorem dX7_handfuls_37 : decode cX7_handfuls 37 = .ok (.iaload, 1) := by decide +kernel
theorem dX7_handfuls_38 : decode cX7_handfuls 38 = .ok (.iload_n 2, 1) := by decide +kernel
theorem dX7_handfuls_39 : decode cX7_handfuls 39 = .ok (.aload_n 0, 1) := by decide +kernel
theorem dX7_handfuls_40 : decode cX7_handfuls 40 = .ok (.getfield 9, 3) := by decide +kernel
theorem dX7_handfuls_43 : decode cX7_handfuls 43 = .ok (.iconst 5, 1) := by decide +kernel
theorem dX7_handfuls_44 : decode cX7_handfuls 44 = .ok (.iload_n 1, 1) := by decide +kernel
theorem dX7_handfuls_45 : decode cX7_handfuls 45 = .ok (.imul, 1) := by decide +kernel
theorem dX7_handfuls_46 : decode cX7_handfuls 46 = .ok (.iconst 3, 1) := by decide +kernel
theorem dX7_handfuls_47 : decode cX7_handfuls 47 = .ok (.iadd, 1) := by decide +kernel
theorem dX7_handfuls_48 : decode cX7_handfuls 48 = .ok (.iaload, 1) := by decide +kernel
theorem dX7_handfuls_49 : decode cX7_handfuls 49 = .ok (.imul, 1) := by decide +kernel
theorem dX7_handfuls_50 : decode cX7_handfuls 50 = .ok (.iadd, 1) := by decide +kernel
theorem dX7_handfuls_51 : decode cX7_handfuls 51 = .ok (.iastore, 1) := by decide +kernel
theorem dX7_handfuls_52 : decode cX7_handfuls 52 = .ok (.aload_n 0, 1) := by decide +kernel
theorem dX7_handfuls_53 : decode cX7_handfuls 53 = .ok (.getfield 47, 3) := by decide +kernel
theorem dX7_handfuls_56 : decode cX7_handfuls 56 = .ok (.iconst 2, 1) := by decide +kernel
theorem dX7_handfuls_57 : decode cX7_handfuls 57 = .ok (.dup2, 1) := by decide +kernel
theorem dX7_handfuls_58 : decode cX7_handfuls 58 = .ok (.iaload, 1) := by decide +kernel
theorem dX7_handfuls_59 : decode cX7_handfuls 59 = .ok (.iload_n 2, 1) := by decide +kernel
theorem dX7_handfuls_60 : decode cX7_handfuls 60 = .ok (.aload_n 0, 1) := by decide +kernel
theorem dX7_handfuls_61 : decode cX7_handfuls 61 = .ok (.getfield 9, 3) := by decide +kernel
theorem dX7_handfuls_64 : decode cX7_handfuls 64 = .ok (.iconst 5, 1) := by decide +kernel
theorem dX7_handfuls_65 : decode cX7_handfuls 65 = .ok (.iload_n 1, 1) := by decide +kernel
theorem dX7_handfuls_66 : decode cX7_handfuls 66 = .ok (.imul, 1) := by decide +kernel
theorem dX7_handfuls_67 : decode cX7_handfuls 67 = .ok (.iconst 1, 1) := by decide +kernel
theorem dX7_handfuls_68 : decode cX7_handfuls 68 = .ok (.iadd, 1) := by decide +kernel
theorem dX7_handfuls_69 : decode cX7_handfuls 69 = .ok (.iaload, 1) := by decide +kernel
theorem dX7_handfuls_70 : decode cX7_handfuls 70 = .ok (.imul, 1) := by decide +kernel
theorem dX7_handfuls_71 : decode cX7_handfuls 71 = .ok (.iadd, 1) := by decide +kernel
theorem dX7_handfuls_72 : decode cX7_handfuls 72 = .ok (.iastore, 1) := by decide +kernel
theorem dX7_handfuls_73 : decode cX7_handfuls 73 = .ok (.aload_n 0, 1) := by decide +kernel
theorem dX7_handfuls_74 : decode cX7_handfuls 74 = .ok (.getfield 47, 3) := by decide +kernel
theorem dX7_handfuls_77 : decode cX7_handfuls 77 = .ok (.iconst 5, 1) := by decide +kernel
theorem dX7_handfuls_78 : decode cX7_handfuls 78 = .ok (.dup2, 1) := by decide +kernel
theorem dX7_handfuls_79 : decode cX7_handfuls 79 = .ok (.iaload, 1) := by decide +kernel
theorem dX7_handfuls_80 : decode cX7_handfuls 80 = .ok (.iload_n 2, 1) := by decide +kernel
theorem dX7_handfuls_81 : decode cX7_handfuls 81 = .ok (.aload_n 0, 1) := by decide +kernel
theorem dX7_handfuls_82 : decode cX7_handfuls 82 = .ok (.getfield 9, 3) := by decide +kernel
theorem dX7_handfuls_85 : decode cX7_handfuls 85 = .ok (.iconst 5, 1) := by decide +kernel
theorem dX7_handfuls_86 : decode cX7_handfuls 86 = .ok (.iload_n 1, 1) := by decide +kernel
theorem dX7_handfuls_87 : decode cX7_handfuls 87 = .ok (.imul, 1) := by decide +kernel
theorem dX7_handfuls_88 : decode cX7_handfuls 88 = .ok (.iconst 2, 1) := by decide +kernel
theorem dX7_handfuls_89 : decode cX7_handfuls 89 = .ok (.iadd, 1) := by decide +kernel
theorem dX7_handfuls_90 : decode cX7_handfuls 90 = .ok (.iaload, 1) := by decide +kernel
theorem dX7_handfuls_91 : decode cX7_handfuls 91 = .ok (.imul, 1) := by decide +kernel
theorem dX7_handfuls_92 : decode cX7_handfuls 92 = .ok (.iadd, 1) := by decide +kernel
theorem dX7_handfuls_93 : decode cX7_handfuls 93 = .ok (.iastore, 1) := by decide +kernel
theorem dX7_handfuls_94 : decode cX7_handfuls 94 = .ok (.aload_n 0, 1) := by decide +kernel
theorem dX7_handfuls_95 : decode cX7_handfuls 95 = .ok (.getfield 47, 3) := by decide +kernel
theorem dX7_handfuls_98 : decode cX7_handfuls 98 = .ok (.bipush 8, 2) := by decide +kernel
theorem dX7_handfuls_100 : decode cX7_handfuls 100 = .ok (.aload_n 0, 1) := by decide +kernel
theorem dX7_handfuls_101 : decode cX7_handfuls 101 = .ok (.getfield 47, 3) := by decide +kernel
theorem dX7_handfuls_104 : decode cX7_handfuls 104 = .ok (.bipush 8, 2) := by decide +kernel
theorem dX7_handfuls_106 : decode cX7_handfuls 106 = .ok (.iaload, 1) := by decide +kernel
theorem dX7_handfuls_107 : decode cX7_handfuls 107 = .ok (.iload_n 2, 1) := by decide +kernel
theorem dX7_handfuls_108 : decode cX7_handfuls 108 = .ok (.isub, 1) := by decide +kernel
theorem dX7_handfuls_109 : decode cX7_handfuls 109 = .ok (.bipush 120, 2) := by decide +kernel
theorem dX7_handfuls_111 : decode cX7_handfuls 111 = .ok (.invokestatic 203, 3) := by decide +kernel
theorem dX7_handfuls_114 : decode cX7_handfuls 114 = .ok (.iastore, 1) := by decide +kernel
theorem dX7_handfuls_115 : decode cX7_handfuls 115 = .ok (.return_, 1) := by decide +kernel
theorem dX7_strokesOf_0 : decode cX7_strokesOf 0 = .ok (.iload_n 1, 1) := by decide +kernel
theorem dX7_strokesOf_1 : decode cX7_strokesOf 1 = .ok (.iconst 1, 1) := by decide +kernel
theorem dX7_strokesOf_2 : decode cX7_strokesOf 2 = .ok (.aload_n 0, 1) := by decide +kernel
theorem dX7_strokesOf_3 : decode cX7_strokesOf 3 = .ok (.getfield 47, 3) := by decide +kernel
theorem dX7_strokesOf_6 : decode cX7_strokesOf 6 = .ok (.bipush 7, 2) := by decide +kernel
theorem dX7_strokesOf_8 : decode cX7_strokesOf 8 = .ok (.iaload, 1) := by decide +kernel
theorem dX7_strokesOf_9 : decode cX7_strokesOf 9 = .ok (.iadd, 1) := by decide +kernel
theorem dX7_strokesOf_10 : decode cX7_strokesOf 10 = .ok (.aload_n 0, 1) := by decide +kernel
theorem dX7_strokesOf_11 : decode cX7_strokesOf 11 = .ok (.getfield 47, 3) := by decide +kernel
theorem dX7_strokesOf_14 : decode cX7_strokesOf 14 = .ok (.iconst 1, 1) := by decide +kernel
theorem dX7_strokesOf_15 : decode cX7_strokesOf 15 = .ok (.iaload, 1) := by decide +kernel
theorem dX7_strokesOf_16 : decode cX7_strokesOf 16 = .ok (.bipush 20, 2) := by decide +kernel
theorem dX7_strokesOf_18 : decode cX7_strokesOf 18 = .ok (.idiv, 1) := by decide +kernel
theorem dX7_strokesOf_19 : decode cX7_strokesOf 19 = .ok (.iadd, 1) := by decide +kernel
theorem dX7_strokesOf_20 : decode cX7_strokesOf 20 = .ok (.imul, 1) := by decide +kernel
theorem dX7_strokesOf_21 : decode cX7_strokesOf 21 = .ok (.istore_n 2, 1) := by decide +kernel
theorem dX7_strokesOf_22 : decode cX7_strokesOf 22 = .ok (.iload_n 2, 1) := by decide +kernel
theorem dX7_strokesOf_23 : decode cX7_strokesOf 23 = .ok (.aload_n 0, 1) := by decide +kernel
theorem dX7_strokesOf_24 : decode cX7_strokesOf 24 = .ok (.getfield 47, 3) := by decide +kernel
theorem dX7_strokesOf_27 : decode cX7_strokesOf 27 = .ok (.iconst 4, 1) := by decide +kernel
theorem dX7_strokesOf_28 : decode cX7_strokesOf 28 = .ok (.iaload, 1) := by decide +kernel
theorem dX7_strokesOf_29 : decode cX7_strokesOf 29 = .ok (.if_icmp .le 12, 3) := by decide +kernel
theorem dX7_strokesOf_32 : decode cX7_strokesOf 32 = .ok (.aload_n 0, 1) := by decide +kernel
theorem dX7_strokesOf_33 : decode cX7_strokesOf 33 = .ok (.getfield 47, 3) := by decide +kernel
theorem dX7_strokesOf_36 : decode cX7_strokesOf 36 = .ok (.iconst 4, 1) := by decide +kernel
theorem dX7_strokesOf_37 : decode cX7_strokesOf 37 = .ok (.iaload, 1) := by decide +kernel
theorem dX7_strokesOf_38 : decode cX7_strokesOf 38 = .ok (.goto 4, 3) := by decide +kernel
theorem dX7_strokesOf_41 : decode cX7_strokesOf 41 = .ok (.iload_n 2, 1) := by decide +kernel
theorem dX7_strokesOf_42 : decode cX7_strokesOf 42 = .ok (.istore_n 2, 1) := by decide +kernel
theorem dX7_strokesOf_43 : decode cX7_strokesOf 43 = .ok (.aload_n 0, 1) := by decide +kernel
theorem dX7_strokesOf_44 : decode cX7_strokesOf 44 = .ok (.getfield 47, 3) := by decide +kernel
theorem dX7_strokesOf_47 : decode cX7_strokesOf 47 = .ok (.iconst 4, 1) := by decide +kernel
theorem dX7_strokesOf_48 : decode cX7_strokesOf 48 = .ok (.dup2, 1) := by decide +kernel
theorem dX7_strokesOf_49 : decode cX7_strokesOf 49 = .ok (.iaload, 1) := by decide +kernel
theorem dX7_strokesOf_50 : decode cX7_strokesOf 50 = .ok (.iload_n 2, 1) := by decide +kernel
theorem dX7_strokesOf_51 : decode cX7_strokesOf 51 = .ok (.isub, 1) := by decide +kernel
theorem dX7_strokesOf_52 : decode cX7_strokesOf 52 = .ok (.iastore, 1) := by decide +kernel
theorem dX7_strokesOf_53 : decode cX7_strokesOf 53 = .ok (.aload_n 0, 1) := by decide +kernel
theorem dX7_strokesOf_54 : decode cX7_strokesOf 54 = .ok (.getfield 47, 3) := by decide +kernel
theorem dX7_strokesOf_57 : decode cX7_strokesOf 57 = .ok (.iconst 3, 1) := by decide +kernel
theorem dX7_strokesOf_58 : decode cX7_strokesOf 58 = .ok (.dup2, 1) := by decide +kernel
theorem dX7_strokesOf_59 : decode cX7_strokesOf 59 = .ok (.iaload, 1) := by decide +kernel
theorem dX7_strokesOf_60 : decode cX7_strokesOf 60 = .ok (.iload_n 2, 1) := by decide +kernel
theorem dX7_strokesOf_61 : decode cX7_strokesOf 61 = .ok (.iadd, 1) := by decide +kernel
theorem dX7_strokesOf_62 : decode cX7_strokesOf 62 = .ok (.iastore, 1) := by decide +kernel
theorem dX7_strokesOf_63 : decode cX7_strokesOf 63 = .ok (.aload_n 0, 1) := by decide +kernel
theorem dX7_strokesOf_64 : decode cX7_strokesOf 64 = .ok (.getfield 47, 3) := by decide +kernel
theorem dX7_strokesOf_67 : decode cX7_strokesOf 67 = .ok (.bipush 10, 2) := by decide +kernel
theorem dX7_strokesOf_69 : decode cX7_strokesOf 69 = .ok (.aload_n 0, 1) := by decide +kernel
theorem dX7_strokesOf_70 : decode cX7_strokesOf 70 = .ok (.getfield 47, 3) := by decide +kernel
theorem dX7_strokesOf_73 : decode cX7_strokesOf 73 = .ok (.bipush 10, 2) := by decide +kernel
theorem dX7_strokesOf_75 : decode cX7_strokesOf 75 = .ok (.iaload, 1) := by decide +kernel
theorem dX7_strokesOf_76 : decode cX7_strokesOf 76 = .ok (.iload_n 1, 1) := by decide +kernel
theorem dX7_strokesOf_77 : decode cX7_strokesOf 77 = .ok (.if_icmp .ge 7, 3) := by decide +kernel
theorem dX7_strokesOf_80 : decode cX7_strokesOf 80 = .ok (.iconst 0, 1) := by decide +kernel
theorem dX7_strokesOf_81 : decode cX7_strokesOf 81 = .ok (.goto 12, 3) := by decide +kernel
theorem dX7_strokesOf_84 : decode cX7_strokesOf 84 = .ok (.aload_n 0, 1) := by decide +kernel
theorem dX7_strokesOf_85 : decode cX7_strokesOf 85 = .ok (.getfield 47, 3) := by decide +kernel
theorem dX7_strokesOf_88 : decode cX7_strokesOf 88 = .ok (.bipush 10, 2) := by decide +kernel
theorem dX7_strokesOf_90 : decode cX7_strokesOf 90 = .ok (.iaload, 1) := by decide +kernel
theorem dX7_strokesOf_91 : decode cX7_strokesOf 91 = .ok (.iload_n 1, 1) := by decide +kernel
theorem dX7_strokesOf_92 : decode cX7_strokesOf 92 = .ok (.isub, 1) := by decide +kernel
theorem dX7_strokesOf_93 : decode cX7_strokesOf 93 = .ok (.iastore, 1) := by decide +kernel
theorem dX7_strokesOf_94 : decode cX7_strokesOf 94 = .ok (.return_, 1) := by decide +kernel
theorem dX7_drawsHeat_0 : decode cX7_drawsHeat 0 = .ok (.aload_n 0, 1) := by decide +kernel
theorem dX7_drawsHeat_1 : decode cX7_drawsHeat 1 = .ok (.getfield 213, 3) := by decide +kernel
theorem dX7_drawsHeat_4 : decode cX7_drawsHeat 4 = .ok (.ifCond .ne 5, 3) := by decide +kernel
theorem dX7_drawsHeat_7 : decode cX7_drawsHeat 7 = .ok (.iconst 0, 1) := by decide +kernel
theorem dX7_drawsHeat_8 : decode cX7_drawsHeat 8 = .ok (.ireturn, 1) := by decide +kernel
theorem dX7_drawsHeat_9 : decode cX7_drawsHeat 9 = .ok (.aload_n 0, 1) := by decide +kernel
theorem dX7_drawsHeat_10 : decode cX7_drawsHeat 10 = .ok (.getfield 216, 3) := by decide +kernel
theorem dX7_drawsHeat_13 : decode cX7_drawsHeat 13 = .ok (.ldc2_w 93, 3) := by decide +kernel
theorem dX7_drawsHeat_16 : decode cX7_drawsHeat 16 = .ok (.lrem, 1) := by decide +kernel
theorem dX7_drawsHeat_17 : decode cX7_drawsHeat 17 = .ok (.l2i, 1) := by decide +kernel
theorem dX7_drawsHeat_18 : decode cX7_drawsHeat 18 = .ok (.iconst 4, 1) := by decide +kernel
theorem dX7_drawsHeat_19 : decode cX7_drawsHeat 19 = .ok (.isub, 1) := by decide +kernel
theorem dX7_drawsHeat_20 : decode cX7_drawsHeat 20 = .ok (.istore_n 1, 1) := by decide +kernel
theorem dX7_drawsHeat_21 : decode cX7_drawsHeat 21 = .ok (.aload_n 0, 1) := by decide +kernel
theorem dX7_drawsHeat_22 : decode cX7_drawsHeat 22 = .ok (.aload_n 0, 1) := by decide +kernel
theorem dX7_drawsHeat_23 : decode cX7_drawsHeat 23 = .ok (.getfield 216, 3) := by decide +kernel
theorem dX7_drawsHeat_26 : decode cX7_drawsHeat 26 = .ok (.ldc2_w 220, 3) := by decide +kernel
theorem dX7_drawsHeat_29 : decode cX7_drawsHeat 29 = .ok (.lmul, 1) := by decide +kernel
theorem dX7_drawsHeat_30 : decode cX7_drawsHeat 30 = .ok (.ldc2_w 222, 3) := by decide +kernel
theorem dX7_drawsHeat_33 : decode cX7_drawsHeat 33 = .ok (.lrem, 1) := by decide +kernel
theorem dX7_drawsHeat_34 : decode cX7_drawsHeat 34 = .ok (.putfield 216, 3) := by decide +kernel
theorem dX7_drawsHeat_37 : decode cX7_drawsHeat 37 = .ok (.iload_n 1, 1) := by decide +kernel
theorem dX7_drawsHeat_38 : decode cX7_drawsHeat 38 = .ok (.ireturn, 1) := by decide +kernel
theorem dX7_minute_0 : decode cX7_minute 0 = .ok (.aload_n 0, 1) := by decide +kernel
theorem dX7_minute_1 : decode cX7_minute 1 = .ok (.getfield 47, 3) := by decide +kernel
theorem dX7_minute_4 : decode cX7_minute 4 = .ok (.bipush 9, 2) := by decide +kernel
theorem dX7_minute_6 : decode cX7_minute 6 = .ok (.dup2, 1) := by decide +kernel
theorem dX7_minute_7 : decode cX7_minute 7 = .ok (.iaload, 1) := by decide +kernel
theorem dX7_minute_8 : decode cX7_minute 8 = .ok (.iconst 1, 1) := by decide +kernel
theorem dX7_minute_9 : decode cX7_minute 9 = .ok (.iadd, 1) := by decide +kernel
theorem dX7_minute_10 : decode cX7_minute 10 = .ok (.iastore, 1) := by decide +kernel
theorem dX7_minute_11 : decode cX7_minute 11 = .ok (.aload_n 0, 1) := by decide +kernel
theorem dX7_minute_12 : decode cX7_minute 12 = .ok (.getfield 47, 3) := by decide +kernel
theorem dX7_minute_15 : decode cX7_minute 15 = .ok (.bipush 8, 2) := by decide +kernel
theorem dX7_minute_17 : decode cX7_minute 17 = .ok (.aload_n 0, 1) := by decide +kernel
theorem dX7_minute_18 : decode cX7_minute 18 = .ok (.getfield 47, 3) := by decide +kernel
theorem dX7_minute_21 : decode cX7_minute 21 = .ok (.bipush 8, 2) := by decide +kernel
theorem dX7_minute_23 : decode cX7_minute 23 = .ok (.iaload, 1) := by decide +kernel
theorem dX7_minute_24 : decode cX7_minute 24 = .ok (.bipush 12, 2) := by decide +kernel
theorem dX7_minute_26 : decode cX7_minute 26 = .ok (.aload_n 0, 1) := by decide +kernel
theorem dX7_minute_27 : decode cX7_minute 27 = .ok (.getfield 47, 3) := by decide +kernel
theorem dX7_minute_30 : decode cX7_minute 30 = .ok (.bipush 13, 2) := by decide +kernel
theorem dX7_minute_32 : decode cX7_minute 32 = .ok (.iaload, 1) := by decide +kernel
theorem dX7_minute_33 : decode cX7_minute 33 = .ok (.imul, 1) := by decide +kernel
theorem dX7_minute_34 : decode cX7_minute 34 = .ok (.aload_n 0, 1) := by decide +kernel
theorem dX7_minute_35 : decode cX7_minute 35 = .ok (.getfield 47, 3) := by decide +kernel
theorem dX7_minute_38 : decode cX7_minute 38 = .ok (.bipush 8, 2) := by decide +kernel
theorem dX7_minute_40 : decode cX7_minute 40 = .ok (.iaload, 1) := by decide +kernel
theorem dX7_minute_41 : decode cX7_minute 41 = .ok (.isub, 1) := by decide +kernel
theorem dX7_minute_42 : decode cX7_minute 42 = .ok (.iconst 3, 1) := by decide +kernel
theorem dX7_minute_43 : decode cX7_minute 43 = .ok (.idiv, 1) := by decide +kernel
theorem dX7_minute_44 : decode cX7_minute 44 = .ok (.iadd, 1) := by decide +kernel
theorem dX7_minute_45 : decode cX7_minute 45 = .ok (.aload_n 0, 1) := by decide +kernel
theorem dX7_minute_46 : decode cX7_minute 46 = .ok (.invokevirtual 224, 3) := by decide +kernel
theorem dX7_minute_49 : decode cX7_minute 49 = .ok (.iadd, 1) := by decide +kernel
theorem dX7_minute_50 : decode cX7_minute 50 = .ok (.bipush 120, 2) := by decide +kernel
theorem dX7_minute_52 : decode cX7_minute 52 = .ok (.invokestatic 203, 3) := by decide +kernel
theorem dX7_minute_55 : decode cX7_minute 55 = .ok (.iastore, 1) := by decide +kernel
theorem dX7_minute_56 : decode cX7_minute 56 = .ok (.aload_n 0, 1) := by decide +kernel
theorem dX7_minute_57 : decode cX7_minute 57 = .ok (.iconst 0, 1) := by decide +kernel
theorem dX7_minute_58 : decode cX7_minute 58 = .ok (.invokevirtual 227, 3) := by decide +kernel
theorem dX7_minute_61 : decode cX7_minute 61 = .ok (.istore_n 2, 1) := by decide +kernel
theorem dX7_minute_62 : decode cX7_minute 62 = .ok (.aload_n 0, 1) := by decide +kernel
theorem dX7_minute_63 : decode cX7_minute 63 = .ok (.iconst 1, 1) := by decide +kernel
theorem dX7_minute_64 : decode cX7_minute 64 = .ok (.invokevirtual 227, 3) := by decide +kernel
theorem dX7_minute_67 : decode cX7_minute 67 = .ok (.istore_n 3, 1) := by decide +kernel
theorem dX7_minute_68 : decode cX7_minute 68 = .ok (.aload_n 0, 1) := by decide +kernel
theorem dX7_minute_69 : decode cX7_minute 69 = .ok (.getfield 47, 3) := by decide +kernel
theorem dX7_minute_72 : decode cX7_minute 72 = .ok (.iconst 0, 1) := by decide +kernel
theorem dX7_minute_73 : decode cX7_minute 73 = .ok (.iaload, 1) := by decide +kernel
theorem dX7_minute_74 : decode cX7_minute 74 = .ok (.iload_n 2, 1) := by decide +kernel
theorem dX7_minute_75 : decode cX7_minute 75 = .ok (.imul, 1) := by decide +kernel
theorem dX7_minute_76 : decode cX7_minute 76 = .ok (.bipush 100, 2) := by decide +kernel
theorem dX7_minute_78 : decode cX7_minute 78 = .ok (.idiv, 1) := by decide +kernel
theorem dX7_minute_79 : decode cX7_minute 79 = .ok (.istore 4, 2) := by decide +kernel
theorem dX7_minute_81 : decode cX7_minute 81 = .ok (.aload_n 0, 1) := by decide +kernel
theorem dX7_minute_82 : decode cX7_minute 82 = .ok (.getfield 47, 3) := by decide +kernel
theorem dX7_minute_85 : decode cX7_minute 85 = .ok (.iconst 2, 1) := by decide +kernel
theorem dX7_minute_86 : decode cX7_minute 86 = .ok (.iaload, 1) := by decide +kernel
theorem dX7_minute_87 : decode cX7_minute 87 = .ok (.iload_n 3, 1) := by decide +kernel
theorem dX7_minute_88 : decode cX7_minute 88 = .ok (.imul, 1) := by decide +kernel
theorem dX7_minute_89 : decode cX7_minute 89 = .ok (.bipush 100, 2) := by decide +kernel
theorem dX7_minute_91 : decode cX7_minute 91 = .ok (.idiv, 1) := by decide +kernel
theorem dX7_minute_92 : decode cX7_minute 92 = .ok (.istore 5, 2) := by decide +kernel
theorem dX7_minute_94 : decode cX7_minute 94 = .ok (.aload_n 0, 1) := by decide +kernel
theorem dX7_minute_95 : decode cX7_minute 95 = .ok (.getfield 47, 3) := by decide +kernel
theorem dX7_minute_98 : decode cX7_minute 98 = .ok (.iconst 0, 1) := by decide +kernel
theorem dX7_minute_99 : decode cX7_minute 99 = .ok (.dup2, 1) := by decide +kernel
theorem dX7_minute_100 : decode cX7_minute 100 = .ok (.iaload, 1) := by decide +kernel
theorem dX7_minute_101 : decode cX7_minute 101 = .ok (.iload 4, 2) := by decide +kernel
theorem dX7_minute_103 : decode cX7_minute 103 = .ok (.isub, 1) := by decide +kernel
theorem dX7_minute_104 : decode cX7_minute 104 = .ok (.iastore, 1) := by decide +kernel
theorem dX7_minute_105 : decode cX7_minute 105 = .ok (.aload_n 0, 1) := by decide +kernel
theorem dX7_minute_106 : decode cX7_minute 106 = .ok (.getfield 47, 3) := by decide +kernel
theorem dX7_minute_109 : decode cX7_minute 109 = .ok (.iconst 1, 1) := by decide +kernel
theorem dX7_minute_110 : decode cX7_minute 110 = .ok (.dup2, 1) := by decide +kernel
theorem dX7_minute_111 : decode cX7_minute 111 = .ok (.iaload, 1) := by decide +kernel
theorem dX7_minute_112 : decode cX7_minute 112 = .ok (.iload 4, 2) := by decide +kernel
theorem dX7_minute_114 : decode cX7_minute 114 = .ok (.iadd, 1) := by decide +kernel
theorem dX7_minute_115 : decode cX7_minute 115 = .ok (.iastore, 1) := by decide +kernel
theorem dX7_minute_116 : decode cX7_minute 116 = .ok (.aload_n 0, 1) := by decide +kernel
theorem dX7_minute_117 : decode cX7_minute 117 = .ok (.getfield 47, 3) := by decide +kernel
theorem dX7_minute_120 : decode cX7_minute 120 = .ok (.iconst 2, 1) := by decide +kernel
theorem dX7_minute_121 : decode cX7_minute 121 = .ok (.dup2, 1) := by decide +kernel
theorem dX7_minute_122 : decode cX7_minute 122 = .ok (.iaload, 1) := by decide +kernel
theorem dX7_minute_123 : decode cX7_minute 123 = .ok (.iload 5, 2) := by decide +kernel
theorem dX7_minute_125 : decode cX7_minute 125 = .ok (.isub, 1) := by decide +kernel
theorem dX7_minute_126 : decode cX7_minute 126 = .ok (.iastore, 1) := by decide +kernel
theorem dX7_minute_127 : decode cX7_minute 127 = .ok (.iload_n 1, 1) := by decide +kernel
theorem dX7_minute_128 : decode cX7_minute 128 = .ok (.ifCond .eq 17, 3) := by decide +kernel
theorem dX7_minute_131 : decode cX7_minute 131 = .ok (.aload_n 0, 1) := by decide +kernel
theorem dX7_minute_132 : decode cX7_minute 132 = .ok (.getfield 47, 3) := by decide +kernel
theorem dX7_minute_135 : decode cX7_minute 135 = .ok (.iconst 3, 1) := by decide +kernel
theorem dX7_minute_136 : decode cX7_minute 136 = .ok (.dup2, 1) := by decide +kernel
theorem dX7_minute_137 : decode cX7_minute 137 = .ok (.iaload, 1) := by decide +kernel
theorem dX7_minute_138 : decode cX7_minute 138 = .ok (.iload 5, 2) := by decide +kernel
theorem dX7_minute_140 : decode cX7_minute 140 = .ok (.iadd, 1) := by decide +kernel
theorem dX7_minute_141 : decode cX7_minute 141 = .ok (.iastore, 1) := by decide +kernel
theorem dX7_minute_142 : decode cX7_minute 142 = .ok (.goto 75, 3) := by decide +kernel
theorem dX7_minute_145 : decode cX7_minute 145 = .ok (.aload_n 0, 1) := by decide +kernel
theorem dX7_minute_146 : decode cX7_minute 146 = .ok (.getfield 47, 3) := by decide +kernel
theorem dX7_minute_149 : decode cX7_minute 149 = .ok (.iconst 3, 1) := by decide +kernel
theorem dX7_minute_150 : decode cX7_minute 150 = .ok (.iaload, 1) := by decide +kernel
theorem dX7_minute_151 : decode cX7_minute 151 = .ok (.iconst 2, 1) := by decide +kernel
theorem dX7_minute_152 : decode cX7_minute 152 = .ok (.idiv, 1) := by decide +kernel
theorem dX7_minute_153 : decode cX7_minute 153 = .ok (.istore 6, 2) := by decide +kernel
theorem dX7_minute_155 : decode cX7_minute 155 = .ok (.aload_n 0, 1) := by decide +kernel
theorem dX7_minute_156 : decode cX7_minute 156 = .ok (.getfield 47, 3) := by decide +kernel
theorem dX7_minute_159 : decode cX7_minute 159 = .ok (.iconst 3, 1) := by decide +kernel
theorem dX7_minute_160 : decode cX7_minute 160 = .ok (.dup2, 1) := by decide +kernel
theorem dX7_minute_161 : decode cX7_minute 161 = .ok (.iaload, 1) := by decide +kernel
theorem dX7_minute_162 : decode cX7_minute 162 = .ok (.iload 6, 2) := by decide +kernel
theorem dX7_minute_164 : decode cX7_minute 164 = .ok (.isub, 1) := by decide +kernel
theorem dX7_minute_165 : decode cX7_minute 165 = .ok (.iastore, 1) := by decide +kernel
theorem dX7_minute_166 : decode cX7_minute 166 = .ok (.aload_n 0, 1) := by decide +kernel
theorem dX7_minute_167 : decode cX7_minute 167 = .ok (.getfield 47, 3) := by decide +kernel
theorem dX7_minute_170 : decode cX7_minute 170 = .ok (.iconst 4, 1) := by decide +kernel
theorem dX7_minute_171 : decode cX7_minute 171 = .ok (.dup2, 1) := by decide +kernel
theorem dX7_minute_172 : decode cX7_minute 172 = .ok (.iaload, 1) := by decide +kernel
theorem dX7_minute_173 : decode cX7_minute 173 = .ok (.iload 5, 2) := by decide +kernel
theorem dX7_minute_175 : decode cX7_minute 175 = .ok (.iload 6, 2) := by decide +kernel
theorem dX7_minute_177 : decode cX7_minute 177 = .ok (.iadd, 1) := by decide +kernel
theorem dX7_minute_178 : decode cX7_minute 178 = .ok (.iadd, 1) := by decide +kernel
theorem dX7_minute_179 : decode cX7_minute 179 = .ok (.iastore, 1) := by decide +kernel
theorem dX7_minute_180 : decode cX7_minute 180 = .ok (.aload_n 0, 1) := by decide +kernel
theorem dX7_minute_181 : decode cX7_minute 181 = .ok (.getfield 47, 3) := by decide +kernel
theorem dX7_minute_184 : decode cX7_minute 184 = .ok (.bipush 10, 2) := by decide +kernel
theorem dX7_minute_186 : decode cX7_minute 186 = .ok (.dup2, 1) := by decide +kernel
theorem dX7_minute_187 : decode cX7_minute 187 = .ok (.iaload, 1) := by decide +kernel
theorem dX7_minute_188 : decode cX7_minute 188 = .ok (.aload_n 0, 1) := by decide +kernel
theorem dX7_minute_189 : decode cX7_minute 189 = .ok (.getfield 47, 3) := by decide +kernel
theorem dX7_minute_192 : decode cX7_minute 192 = .ok (.bipush 8, 2) := by decide +kernel
theorem dX7_minute_194 : decode cX7_minute 194 = .ok (.iaload, 1) := by decide +kernel
theorem dX7_minute_195 : decode cX7_minute 195 = .ok (.bipush 60, 2) := by decide +kernel
theorem dX7_minute_197 : decode cX7_minute 197 = .ok (.if_icmp .le 17, 3) := by decide +kernel
theorem dX7_minute_200 : decode cX7_minute 200 = .ok (.iconst 1, 1) := by decide +kernel
theorem dX7_minute_201 : decode cX7_minute 201 = .ok (.aload_n 0, 1) := by decide +kernel
theorem dX7_minute_202 : decode cX7_minute 202 = .ok (.getfield 47, 3) := by decide +kernel
theorem dX7_minute_205 : decode cX7_minute 205 = .ok (.iconst 0, 1) := by decide +kernel
theorem dX7_minute_206 : decode cX7_minute 206 = .ok (.iaload, 1) := by decide +kernel
theorem dX7_minute_207 : decode cX7_minute 207 = .ok (.bipush 50, 2) := by decide +kernel
theorem dX7_minute_209 : decode cX7_minute 209 = .ok (.idiv, 1) := by decide +kernel
theorem dX7_minute_210 : decode cX7_minute 210 = .ok (.iadd, 1) := by decide +kernel
theorem dX7_minute_211 : decode cX7_minute 211 = .ok (.goto 4, 3) := by decide +kernel
theorem dX7_minute_214 : decode cX7_minute 214 = .ok (.iconst 0, 1) := by decide +kernel
theorem dX7_minute_215 : decode cX7_minute 215 = .ok (.iadd, 1) := by decide +kernel
theorem dX7_minute_216 : decode cX7_minute 216 = .ok (.iastore, 1) := by decide +kernel
theorem dX7_minute_217 : decode cX7_minute 217 = .ok (.aload_n 0, 1) := by decide +kernel
theorem dX7_minute_218 : decode cX7_minute 218 = .ok (.getfield 47, 3) := by decide +kernel
theorem dX7_minute_221 : decode cX7_minute 221 = .ok (.bipush 8, 2) := by decide +kernel
theorem dX7_minute_223 : decode cX7_minute 223 = .ok (.iaload, 1) := by decide +kernel
theorem dX7_minute_224 : decode cX7_minute 224 = .ok (.bipush 40, 2) := by decide +kernel
theorem dX7_minute_226 : decode cX7_minute 226 = .ok (.idiv, 1) := by decide +kernel
theorem dX7_minute_227 : decode cX7_minute 227 = .ok (.istore 6, 2) := by decide +kernel
theorem dX7_minute_229 : decode cX7_minute 229 = .ok (.aload_n 0, 1) := by decide +kernel
theorem dX7_minute_230 : decode cX7_minute 230 = .ok (.getfield 47, 3) := by decide +kernel
theorem dX7_minute_233 : decode cX7_minute 233 = .ok (.iconst 5, 1) := by decide +kernel
theorem dX7_minute_234 : decode cX7_minute 234 = .ok (.aload_n 0, 1) := by decide +kernel
theorem dX7_minute_235 : decode cX7_minute 235 = .ok (.getfield 47, 3) := by decide +kernel
theorem dX7_minute_238 : decode cX7_minute 238 = .ok (.iconst 5, 1) := by decide +kernel
theorem dX7_minute_239 : decode cX7_minute 239 = .ok (.iaload, 1) := by decide +kernel
theorem dX7_minute_240 : decode cX7_minute 240 = .ok (.iload 6, 2) := by decide +kernel
theorem dX7_minute_242 : decode cX7_minute 242 = .ok (.if_icmp .ge 7, 3) := by decide +kernel
theorem dX7_minute_245 : decode cX7_minute 245 = .ok (.iconst 0, 1) := by decide +kernel
theorem dX7_minute_246 : decode cX7_minute 246 = .ok (.goto 12, 3) := by decide +kernel
theorem dX7_minute_249 : decode cX7_minute 249 = .ok (.aload_n 0, 1) := by decide +kernel
theorem dX7_minute_250 : decode cX7_minute 250 = .ok (.getfield 47, 3) := by decide +kernel
theorem dX7_minute_253 : decode cX7_minute 253 = .ok (.iconst 5, 1) := by decide +kernel
theorem dX7_minute_254 : decode cX7_minute 254 = .ok (.iaload, 1) := by decide +kernel
theorem dX7_minute_255 : decode cX7_minute 255 = .ok (.iload 6, 2) := by decide +kernel
theorem dX7_minute_257 : decode cX7_minute 257 = .ok (.isub, 1) := by decide +kernel
theorem dX7_minute_258 : decode cX7_minute 258 = .ok (.iastore, 1) := by decide +kernel
theorem dX7_minute_259 : decode cX7_minute 259 = .ok (.return_, 1) := by decide +kernel
theorem dX7_pours_0 : decode cX7_pours 0 = .ok (.aload_n 0, 1) := by decide +kernel
theorem dX7_pours_1 : decode cX7_pours 1 = .ok (.getfield 47, 3) := by decide +kernel
theorem dX7_pours_4 : decode cX7_pours 4 = .ok (.iconst 5, 1) := by decide +kernel
theorem dX7_pours_5 : decode cX7_pours 5 = .ok (.aload_n 0, 1) := by decide +kernel
theorem dX7_pours_6 : decode cX7_pours 6 = .ok (.getfield 47, 3) := by decide +kernel
theorem dX7_pours_9 : decode cX7_pours 9 = .ok (.iconst 5, 1) := by decide +kernel
theorem dX7_pours_10 : decode cX7_pours 10 = .ok (.iaload, 1) := by decide +kernel
theorem dX7_pours_11 : decode cX7_pours 11 = .ok (.iload_n 1, 1) := by decide +kernel
theorem dX7_pours_12 : decode cX7_pours 12 = .ok (.iadd, 1) := by decide +kernel
theorem dX7_pours_13 : decode cX7_pours 13 = .ok (.sipush 9999, 3) := by decide +kernel
theorem dX7_pours_16 : decode cX7_pours 16 = .ok (.if_icmp .le 9, 3) := by decide +kernel
theorem dX7_pours_19 : decode cX7_pours 19 = .ok (.sipush 9999, 3) := by decide +kernel
theorem dX7_pours_22 : decode cX7_pours 22 = .ok (.goto 11, 3) := by decide +kernel
theorem dX7_pours_25 : decode cX7_pours 25 = .ok (.aload_n 0, 1) := by decide +kernel
theorem dX7_pours_26 : decode cX7_pours 26 = .ok (.getfield 47, 3) := by decide +kernel
theorem dX7_pours_29 : decode cX7_pours 29 = .ok (.iconst 5, 1) := by decide +kernel
theorem dX7_pours_30 : decode cX7_pours 30 = .ok (.iaload, 1) := by decide +kernel
theorem dX7_pours_31 : decode cX7_pours 31 = .ok (.iload_n 1, 1) := by decide +kernel
theorem dX7_pours_32 : decode cX7_pours 32 = .ok (.iadd, 1) := by decide +kernel
theorem dX7_pours_33 : decode cX7_pours 33 = .ok (.iastore, 1) := by decide +kernel
theorem dX7_pours_34 : decode cX7_pours 34 = .ok (.aload_n 0, 1) := by decide +kernel
theorem dX7_pours_35 : decode cX7_pours 35 = .ok (.getfield 47, 3) := by decide +kernel
theorem dX7_pours_38 : decode cX7_pours 38 = .ok (.bipush 6, 2) := by decide +kernel
theorem dX7_pours_40 : decode cX7_pours 40 = .ok (.aload_n 0, 1) := by decide +kernel
theorem dX7_pours_41 : decode cX7_pours 41 = .ok (.getfield 47, 3) := by decide +kernel
theorem dX7_pours_44 : decode cX7_pours 44 = .ok (.bipush 6, 2) := by decide +kernel
theorem dX7_pours_46 : decode cX7_pours 46 = .ok (.iaload, 1) := by decide +kernel
theorem dX7_pours_47 : decode cX7_pours 47 = .ok (.iload_n 1, 1) := by decide +kernel
theorem dX7_pours_48 : decode cX7_pours 48 = .ok (.iload_n 2, 1) := by decide +kernel
theorem dX7_pours_49 : decode cX7_pours 49 = .ok (.imul, 1) := by decide +kernel
theorem dX7_pours_50 : decode cX7_pours 50 = .ok (.iconst 4, 1) := by decide +kernel
theorem dX7_pours_51 : decode cX7_pours 51 = .ok (.idiv, 1) := by decide +kernel
theorem dX7_pours_52 : decode cX7_pours 52 = .ok (.iadd, 1) := by decide +kernel
theorem dX7_pours_53 : decode cX7_pours 53 = .ok (.bipush 99, 2) := by decide +kernel
theorem dX7_pours_55 : decode cX7_pours 55 = .ok (.if_icmp .le 8, 3) := by decide +kernel
theorem dX7_pours_58 : decode cX7_pours 58 = .ok (.bipush 99, 2) := by decide +kernel
theorem dX7_pours_60 : decode cX7_pours 60 = .ok (.goto 16, 3) := by decide +kernel
theorem dX7_pours_63 : decode cX7_pours 63 = .ok (.aload_n 0, 1) := by decide +kernel
theorem dX7_pours_64 : decode cX7_pours 64 = .ok (.getfield 47, 3) := by decide +kernel
theorem dX7_pours_67 : decode cX7_pours 67 = .ok (.bipush 6, 2) := by decide +kernel
theorem dX7_pours_69 : decode cX7_pours 69 = .ok (.iaload, 1) := by decide +kernel
theorem dX7_pours_70 : decode cX7_pours 70 = .ok (.iload_n 1, 1) := by decide +kernel
theorem dX7_pours_71 : decode cX7_pours 71 = .ok (.iload_n 2, 1) := by decide +kernel
theorem dX7_pours_72 : decode cX7_pours 72 = .ok (.imul, 1) := by decide +kernel
theorem dX7_pours_73 : decode cX7_pours 73 = .ok (.iconst 4, 1) := by decide +kernel
theorem dX7_pours_74 : decode cX7_pours 74 = .ok (.idiv, 1) := by decide +kernel
theorem dX7_pours_75 : decode cX7_pours 75 = .ok (.iadd, 1) := by decide +kernel
theorem dX7_pours_76 : decode cX7_pours 76 = .ok (.iastore, 1) := by decide +kernel
theorem dX7_pours_77 : decode cX7_pours 77 = .ok (.aload_n 0, 1) := by decide +kernel
theorem dX7_pours_78 : decode cX7_pours 78 = .ok (.getfield 47, 3) := by decide +kernel
theorem dX7_pours_81 : decode cX7_pours 81 = .ok (.bipush 8, 2) := by decide +kernel
theorem dX7_pours_83 : decode cX7_pours 83 = .ok (.aload_n 0, 1) := by decide +kernel
theorem dX7_pours_84 : decode cX7_pours 84 = .ok (.getfield 47, 3) := by decide +kernel
theorem dX7_pours_87 : decode cX7_pours 87 = .ok (.bipush 8, 2) := by decide +kernel
theorem dX7_pours_89 : decode cX7_pours 89 = .ok (.iaload, 1) := by decide +kernel
theorem dX7_pours_90 : decode cX7_pours 90 = .ok (.iload_n 1, 1) := by decide +kernel
theorem dX7_pours_91 : decode cX7_pours 91 = .ok (.iconst 2, 1) := by decide +kernel
theorem dX7_pours_92 : decode cX7_pours 92 = .ok (.idiv, 1) := by decide +kernel
theorem dX7_pours_93 : decode cX7_pours 93 = .ok (.isub, 1) := by decide +kernel
theorem dX7_pours_94 : decode cX7_pours 94 = .ok (.bipush 120, 2) := by decide +kernel
theorem dX7_pours_96 : decode cX7_pours 96 = .ok (.invokestatic 203, 3) := by decide +kernel
theorem dX7_pours_99 : decode cX7_pours 99 = .ok (.iastore, 1) := by decide +kernel
theorem dX7_pours_100 : decode cX7_pours 100 = .ok (.return_, 1) := by decide +kernel
theorem dX7_does_0 : decode cX7_does 0 = .ok (.iload_n 1, 1) := by decide +kernel
theorem dX7_does_1 : decode cX7_does 1 = .ok (.iconst 1, 1) := by decide +kernel
theorem dX7_does_2 : decode cX7_does 2 = .ok (.if_icmp .eq 8, 3) := by decide +kernel
theorem dX7_does_5 : decode cX7_does 5 = .ok (.iload_n 1, 1) := by decide +kernel
theorem dX7_does_6 : decode cX7_does 6 = .ok (.iconst 4, 1) := by decide +kernel
theorem dX7_does_7 : decode cX7_does 7 = .ok (.if_icmp .ne 9, 3) := by decide +kernel
theorem dX7_does_10 : decode cX7_does 10 = .ok (.aload_n 0, 1) := by decide +kernel
theorem dX7_does_11 : decode cX7_does 11 = .ok (.iload_n 2, 1) := by decide +kernel
theorem dX7_does_12 : decode cX7_does 12 = .ok (.iload_n 3, 1) := by decide +kernel
theorem dX7_does_13 : decode cX7_does 13 = .ok (.invokevirtual 230, 3) := by decide +kernel
theorem dX7_does_16 : decode cX7_does 16 = .ok (.iload_n 1, 1) := by decide +kernel
theorem dX7_does_17 : decode cX7_does 17 = .ok (.iconst 4, 1) := by decide +kernel
theorem dX7_does_18 : decode cX7_does 18 = .ok (.if_icmp .ne 24, 3) := by decide +kernel
theorem dX7_does_21 : decode cX7_does 21 = .ok (.aload_n 0, 1) := by decide +kernel
theorem dX7_does_22 : decode cX7_does 22 = .ok (.getfield 47, 3) := by decide +kernel
theorem dX7_does_25 : decode cX7_does 25 = .ok (.bipush 7, 2) := by decide +kernel
theorem dX7_does_27 : decode cX7_does 27 = .ok (.aload_n 0, 1) := by decide +kernel
theorem dX7_does_28 : decode cX7_does 28 = .ok (.getfield 47, 3) := by decide +kernel
theorem dX7_does_31 : decode cX7_does 31 = .ok (.bipush 7, 2) := by decide +kernel
theorem dX7_does_33 : decode cX7_does 33 = .ok (.iaload, 1) := by decide +kernel
theorem dX7_does_34 : decode cX7_does 34 = .ok (.iload_n 2, 1) := by decide +kernel
theorem dX7_does_35 : decode cX7_does 35 = .ok (.iadd, 1) := by decide +kernel
theorem dX7_does_36 : decode cX7_does 36 = .ok (.bipush 99, 2) := by decide +kernel
theorem dX7_does_38 : decode cX7_does 38 = .ok (.invokestatic 203, 3) := by decide +kernel
theorem dX7_does_41 : decode cX7_does 41 = .ok (.iastore, 1) := by decide +kernel
theorem dX7_does_42 : decode cX7_does 42 = .ok (.iload_n 1, 1) := by decide +kernel
theorem dX7_does_43 : decode cX7_does 43 = .ok (.iconst 2, 1) := by decide +kernel
theorem dX7_does_44 : decode cX7_does 44 = .ok (.if_icmp .ne 17, 3) := by decide +kernel
theorem dX7_does_47 : decode cX7_does 47 = .ok (.aload_n 0, 1) := by decide +kernel
theorem dX7_does_48 : decode cX7_does 48 = .ok (.iload_n 3, 1) := by decide +kernel
theorem dX7_does_49 : decode cX7_does 49 = .ok (.invokevirtual 85, 3) := by decide +kernel
theorem dX7_does_52 : decode cX7_does 52 = .ok (.ifCond .eq 9, 3) := by decide +kernel
theorem dX7_does_55 : decode cX7_does 55 = .ok (.aload_n 0, 1) := by decide +kernel
theorem dX7_does_56 : decode cX7_does 56 = .ok (.iload_n 3, 1) := by decide +kernel
theorem dX7_does_57 : decode cX7_does 57 = .ok (.iload_n 2, 1) := by decide +kernel
theorem dX7_does_58 : decode cX7_does 58 = .ok (.invokevirtual 234, 3) := by decide +kernel
theorem dX7_does_61 : decode cX7_does 61 = .ok (.iload_n 1, 1) := by decide +kernel
theorem dX7_does_62 : decode cX7_does 62 = .ok (.iconst 3, 1) := by decide +kernel
theorem dX7_does_63 : decode cX7_does 63 = .ok (.if_icmp .eq 8, 3) := by decide +kernel
theorem dX7_does_66 : decode cX7_does 66 = .ok (.iload_n 1, 1) := by decide +kernel
theorem dX7_does_67 : decode cX7_does 67 = .ok (.iconst 5, 1) := by decide +kernel
theorem dX7_does_68 : decode cX7_does 68 = .ok (.if_icmp .ne 8, 3) := by decide +kernel
theorem dX7_does_71 : decode cX7_does 71 = .ok (.aload_n 0, 1) := by decide +kernel
theorem dX7_does_72 : decode cX7_does 72 = .ok (.iload_n 2, 1) := by decide +kernel
theorem dX7_does_73 : decode cX7_does 73 = .ok (.invokevirtual 237, 3) := by decide +kernel
theorem dX7_does_76 : decode cX7_does 76 = .ok (.aload_n 0, 1) := by decide +kernel
theorem dX7_does_77 : decode cX7_does 77 = .ok (.getfield 47, 3) := by decide +kernel
theorem dX7_does_80 : decode cX7_does 80 = .ok (.bipush 13, 2) := by decide +kernel
theorem dX7_does_82 : decode cX7_does 82 = .ok (.iload_n 1, 1) := by decide +kernel
theorem dX7_does_83 : decode cX7_does 83 = .ok (.iconst 5, 1) := by decide +kernel
theorem dX7_does_84 : decode cX7_does 84 = .ok (.if_icmp .ne 7, 3) := by decide +kernel
theorem dX7_does_87 : decode cX7_does 87 = .ok (.iload_n 3, 1) := by decide +kernel
theorem dX7_does_88 : decode cX7_does 88 = .ok (.goto 10, 3) := by decide +kernel
theorem dX7_does_91 : decode cX7_does 91 = .ok (.aload_n 0, 1) := by decide +kernel
theorem dX7_does_92 : decode cX7_does 92 = .ok (.getfield 47, 3) := by decide +kernel
theorem dX7_does_95 : decode cX7_does 95 = .ok (.bipush 13, 2) := by decide +kernel
theorem dX7_does_97 : decode cX7_does 97 = .ok (.iaload, 1) := by decide +kernel
theorem dX7_does_98 : decode cX7_does 98 = .ok (.iastore, 1) := by decide +kernel
theorem dX7_does_99 : decode cX7_does 99 = .ok (.iconst 0, 1) := by decide +kernel
theorem dX7_does_100 : decode cX7_does 100 = .ok (.istore 4, 2) := by decide +kernel
theorem dX7_does_102 : decode cX7_does 102 = .ok (.iload 4, 2) := by decide +kernel
theorem dX7_does_104 : decode cX7_does 104 = .ok (.iload_n 1, 1) := by decide +kernel
theorem dX7_does_105 : decode cX7_does 105 = .ok (.iload_n 2, 1) := by decide +kernel
theorem dX7_does_106 : decode cX7_does 106 = .ok (.invokestatic 210, 3) := by decide +kernel
theorem dX7_does_109 : decode cX7_does 109 = .ok (.if_icmp .ge 22, 3) := by decide +kernel
theorem dX7_does_112 : decode cX7_does 112 = .ok (.aload_n 0, 1) := by decide +kernel
theorem dX7_does_113 : decode cX7_does 113 = .ok (.iload_n 1, 1) := by decide +kernel
theorem dX7_does_114 : decode cX7_does 114 = .ok (.ifCond .eq 7, 3) := by decide +kernel
theorem dX7_does_117 : decode cX7_does 117 = .ok (.iconst 1, 1) := by decide +kernel
theorem dX7_does_118 : decode cX7_does 118 = .ok (.goto 4, 3) := by decide +kernel
theorem dX7_does_121 : decode cX7_does 121 = .ok (.iconst 0, 1) := by decide +kernel
theorem dX7_does_122 : decode cX7_does 122 = .ok (.invokevirtual 240, 3) := by decide +kernel
theorem dX7_does_125 : decode cX7_does 125 = .ok (.iinc 4 1, 3) := by decide +kernel
theorem dX7_does_128 : decode cX7_does 128 = .ok (.goto (-26), 3) := by decide +kernel
theorem dX7_does_131 : decode cX7_does 131 = .ok (.return_, 1) := by decide +kernel
theorem dX7_doesAct_0 : decode cX7_doesAct 0 = .ok (.aload_n 0, 1) := by decide +kernel
theorem dX7_doesAct_1 : decode cX7_doesAct 1 = .ok (.aload_n 0, 1) := by decide +kernel
theorem dX7_doesAct_2 : decode cX7_doesAct 2 = .ok (.getfield 38, 3) := by decide +kernel
theorem dX7_doesAct_5 : decode cX7_doesAct 5 = .ok (.iload_n 1, 1) := by decide +kernel
theorem dX7_doesAct_6 : decode cX7_doesAct 6 = .ok (.iaload, 1) := by decide +kernel
theorem dX7_doesAct_7 : decode cX7_doesAct 7 = .ok (.aload_n 0, 1) := by decide +kernel
theorem dX7_doesAct_8 : decode cX7_doesAct 8 = .ok (.getfield 41, 3) := by decide +kernel
theorem dX7_doesAct_11 : decode cX7_doesAct 11 = .ok (.iload_n 1, 1) := by decide +kernel
theorem dX7_doesAct_12 : decode cX7_doesAct 12 = .ok (.iaload, 1) := by decide +kernel
theorem dX7_doesAct_13 : decode cX7_doesAct 13 = .ok (.aload_n 0, 1) := by decide +kernel
theorem dX7_doesAct_14 : decode cX7_doesAct 14 = .ok (.getfield 44, 3) := by decide +kernel
theorem dX7_doesAct_17 : decode cX7_doesAct 17 = .ok (.iload_n 1, 1) := by decide +kernel
theorem dX7_doesAct_18 : decode cX7_doesAct 18 = .ok (.iaload, 1) := by decide +kernel
theorem dX7_doesAct_19 : decode cX7_doesAct 19 = .ok (.invokevirtual 244, 3) := by decide +kernel
theorem dX7_doesAct_22 : decode cX7_doesAct 22 = .ok (.return_, 1) := by decide +kernel
theorem dX7_goes_0 : decode cX7_goes 0 = .ok (.aload_n 0, 1) := by decide +kernel
theorem dX7_goes_1 : decode cX7_goes 1 = .ok (.invokevirtual 248, 3) := by decide +kernel
theorem dX7_goes_4 : decode cX7_goes 4 = .ok (.iconst 0, 1) := by decide +kernel
theorem dX7_goes_5 : decode cX7_goes 5 = .ok (.istore_n 2, 1) := by decide +kernel
theorem dX7_goes_6 : decode cX7_goes 6 = .ok (.iload_n 2, 1) := by decide +kernel
theorem dX7_goes_7 : decode cX7_goes 7 = .ok (.iload_n 1, 1) := by decide +kernel
theorem dX7_goes_8 : decode cX7_goes 8 = .ok (.if_icmp .ge 14, 3) := by decide +kernel
theorem dX7_goes_11 : decode cX7_goes 11 = .ok (.aload_n 0, 1) := by decide +kernel
theorem dX7_goes_12 : decode cX7_goes 12 = .ok (.iload_n 2, 1) := by decide +kernel
theorem dX7_goes_13 : decode cX7_goes 13 = .ok (.invokevirtual 251, 3) := by decide +kernel
theorem dX7_goes_16 : decode cX7_goes 16 = .ok (.iinc 2 1, 3) := by decide +kernel
theorem dX7_goes_19 : decode cX7_goes 19 = .ok (.goto (-13), 3) := by decide +kernel
theorem dX7_goes_22 : decode cX7_goes 22 = .ok (.return_, 1) := by decide +kernel
theorem dX7_thick_0 : decode cX7_thick 0 = .ok (.aload_n 0, 1) := by decide +kernel
theorem dX7_thick_1 : decode cX7_thick 1 = .ok (.getfield 47, 3) := by decide +kernel
theorem dX7_thick_4 : decode cX7_thick 4 = .ok (.iconst 5, 1) := by decide +kernel
theorem dX7_thick_5 : decode cX7_thick 5 = .ok (.iaload, 1) := by decide +kernel
theorem dX7_thick_6 : decode cX7_thick 6 = .ok (.bipush 10, 2) := by decide +kernel
theorem dX7_thick_8 : decode cX7_thick 8 = .ok (.idiv, 1) := by decide +kernel
theorem dX7_thick_9 : decode cX7_thick 9 = .ok (.istore_n 1, 1) := by decide +kernel
theorem dX7_thick_10 : decode cX7_thick 10 = .ok (.aload_n 0, 1) := by decide +kernel
theorem dX7_thick_11 : decode cX7_thick 11 = .ok (.getfield 47, 3) := by decide +kernel
theorem dX7_thick_14 : decode cX7_thick 14 = .ok (.iconst 1, 1) := by decide +kernel
theorem dX7_thick_15 : decode cX7_thick 15 = .ok (.iaload, 1) := by decide +kernel
theorem dX7_thick_16 : decode cX7_thick 16 = .ok (.iconst 3, 1) := by decide +kernel
theorem dX7_thick_17 : decode cX7_thick 17 = .ok (.aload_n 0, 1) := by decide +kernel
theorem dX7_thick_18 : decode cX7_thick 18 = .ok (.getfield 47, 3) := by decide +kernel
theorem dX7_thick_21 : decode cX7_thick 21 = .ok (.bipush 7, 2) := by decide +kernel
theorem dX7_thick_23 : decode cX7_thick 23 = .ok (.iaload, 1) := by decide +kernel
theorem dX7_thick_24 : decode cX7_thick 24 = .ok (.imul, 1) := by decide +kernel
theorem dX7_thick_25 : decode cX7_thick 25 = .ok (.iadd, 1) := by decide +kernel
theorem dX7_thick_26 : decode cX7_thick 26 = .ok (.aload_n 0, 1) := by decide +kernel
theorem dX7_thick_27 : decode cX7_thick 27 = .ok (.getfield 47, 3) := by decide +kernel
theorem dX7_thick_30 : decode cX7_thick 30 = .ok (.iconst 3, 1) := by decide +kernel
theorem dX7_thick_31 : decode cX7_thick 31 = .ok (.iaload, 1) := by decide +kernel
theorem dX7_thick_32 : decode cX7_thick 32 = .ok (.iadd, 1) := by decide +kernel
theorem dX7_thick_33 : decode cX7_thick 33 = .ok (.iload_n 1, 1) := by decide +kernel
theorem dX7_thick_34 : decode cX7_thick 34 = .ok (.iconst 1, 1) := by decide +kernel
theorem dX7_thick_35 : decode cX7_thick 35 = .ok (.if_icmp .ge 7, 3) := by decide +kernel
theorem dX7_thick_38 : decode cX7_thick 38 = .ok (.iconst 1, 1) := by decide +kernel
theorem dX7_thick_39 : decode cX7_thick 39 = .ok (.goto 4, 3) := by decide +kernel
theorem dX7_thick_42 : decode cX7_thick 42 = .ok (.iload_n 1, 1) := by decide +kernel
theorem dX7_thick_43 : decode cX7_thick 43 = .ok (.idiv, 1) := by decide +kernel
theorem dX7_thick_44 : decode cX7_thick 44 = .ok (.ireturn, 1) := by decide +kernel
theorem dX7_threads_0 : decode cX7_threads 0 = .ok (.aload_n 0, 1) := by decide +kernel
theorem dX7_threads_1 : decode cX7_threads 1 = .ok (.getfield 47, 3) := by decide +kernel
theorem dX7_threads_4 : decode cX7_threads 4 = .ok (.iconst 1, 1) := by decide +kernel
theorem dX7_threads_5 : decode cX7_threads 5 = .ok (.iaload, 1) := by decide +kernel
theorem dX7_threads_6 : decode cX7_threads 6 = .ok (.ifCond .ne 7, 3) := by decide +kernel
theorem dX7_threads_9 : decode cX7_threads 9 = .ok (.iconst 0, 1) := by decide +kernel
theorem dX7_threads_10 : decode cX7_threads 10 = .ok (.goto 8, 3) := by decide +kernel
theorem dX7_threads_13 : decode cX7_threads 13 = .ok (.aload_n 0, 1) := by decide +kernel
theorem dX7_threads_14 : decode cX7_threads 14 = .ok (.iconst 2, 1) := by decide +kernel
theorem dX7_threads_15 : decode cX7_threads 15 = .ok (.invokevirtual 227, 3) := by decide +kernel
theorem dX7_threads_18 : decode cX7_threads 18 = .ok (.ireturn, 1) := by decide +kernel
theorem dX7_sortNow_0 : decode cX7_sortNow 0 = .ok (.aload_n 0, 1) := by decide +kernel
theorem dX7_sortNow_1 : decode cX7_sortNow 1 = .ok (.getfield 47, 3) := by decide +kernel
theorem dX7_sortNow_4 : decode cX7_sortNow 4 = .ok (.bipush 11, 2) := by decide +kernel
theorem dX7_sortNow_6 : decode cX7_sortNow 6 = .ok (.iaload, 1) := by decide +kernel
theorem dX7_sortNow_7 : decode cX7_sortNow 7 = .ok (.ifCond .ne 5, 3) := by decide +kernel
theorem dX7_sortNow_10 : decode cX7_sortNow 10 = .ok (.iconst 0, 1) := by decide +kernel
theorem dX7_sortNow_11 : decode cX7_sortNow 11 = .ok (.ireturn, 1) := by decide +kernel
theorem dX7_sortNow_12 : decode cX7_sortNow 12 = .ok (.ldc2_w 89, 3) := by decide +kernel
theorem dX7_sortNow_15 : decode cX7_sortNow 15 = .ok (.aload_n 0, 1) := by decide +kernel
theorem dX7_sortNow_16 : decode cX7_sortNow 16 = .ok (.getfield 47, 3) := by decide +kernel
theorem dX7_sortNow_19 : decode cX7_sortNow 19 = .ok (.iconst 4, 1) := by decide +kernel
theorem dX7_sortNow_20 : decode cX7_sortNow 20 = .ok (.iaload, 1) := by decide +kernel
theorem dX7_sortNow_21 : decode cX7_sortNow 21 = .ok (.i2l, 1) := by decide +kernel
theorem dX7_sortNow_22 : decode cX7_sortNow 22 = .ok (.lmul, 1) := by decide +kernel
theorem dX7_sortNow_23 : decode cX7_sortNow 23 = .ok (.aload_n 0, 1) := by decide +kernel
theorem dX7_sortNow_24 : decode cX7_sortNow 24 = .ok (.getfield 47, 3) := by decide +kernel
theorem dX7_sortNow_27 : decode cX7_sortNow 27 = .ok (.iconst 2, 1) := by decide +kernel
theorem dX7_sortNow_28 : decode cX7_sortNow 28 = .ok (.iaload, 1) := by decide +kernel
theorem dX7_sortNow_29 : decode cX7_sortNow 29 = .ok (.aload_n 0, 1) := by decide +kernel
theorem dX7_sortNow_30 : decode cX7_sortNow 30 = .ok (.getfield 47, 3) := by decide +kernel
theorem dX7_sortNow_33 : decode cX7_sortNow 33 = .ok (.iconst 3, 1) := by decide +kernel
theorem dX7_sortNow_34 : decode cX7_sortNow 34 = .ok (.iaload, 1) := by decide +kernel
theorem dX7_sortNow_35 : decode cX7_sortNow 35 = .ok (.iadd, 1) := by decide +kernel
theorem dX7_sortNow_36 : decode cX7_sortNow 36 = .ok (.i2l, 1) := by decide +kernel
theorem dX7_sortNow_37 : decode cX7_sortNow 37 = .ok (.lcmp, 1) := by decide +kernel
theorem dX7_sortNow_38 : decode cX7_sortNow 38 = .ok (.ifCond .le 42, 3) := by decide +kernel
theorem dX7_sortNow_41 : decode cX7_sortNow 41 = .ok (.aload_n 0, 1) := by decide +kernel
theorem dX7_sortNow_42 : decode cX7_sortNow 42 = .ok (.getfield 47, 3) := by decide +kernel
theorem dX7_sortNow_45 : decode cX7_sortNow 45 = .ok (.iconst 0, 1) := by decide +kernel
theorem dX7_sortNow_46 : decode cX7_sortNow 46 = .ok (.iaload, 1) := by decide +kernel
theorem dX7_sortNow_47 : decode cX7_sortNow 47 = .ok (.aload_n 0, 1) := by decide +kernel
theorem dX7_sortNow_48 : decode cX7_sortNow 48 = .ok (.getfield 47, 3) := by decide +kernel
theorem dX7_sortNow_51 : decode cX7_sortNow 51 = .ok (.iconst 1, 1) := by decide +kernel
theorem dX7_sortNow_52 : decode cX7_sortNow 52 = .ok (.iaload, 1) := by decide +kernel
theorem dX7_sortNow_53 : decode cX7_sortNow 53 = .ok (.if_icmp .le 25, 3) := by decide +kernel
theorem dX7_sortNow_56 : decode cX7_sortNow 56 = .ok (.aload_n 0, 1) := by decide +kernel
theorem dX7_sortNow_57 : decode cX7_sortNow 57 = .ok (.getfield 47, 3) := by decide +kernel
theorem dX7_sortNow_60 : decode cX7_sortNow 60 = .ok (.iconst 5, 1) := by decide +kernel
theorem dX7_sortNow_61 : decode cX7_sortNow 61 = .ok (.iaload, 1) := by decide +kernel
theorem dX7_sortNow_62 : decode cX7_sortNow 62 = .ok (.iconst 5, 1) := by decide +kernel
theorem dX7_sortNow_63 : decode cX7_sortNow 63 = .ok (.aload_n 0, 1) := by decide +kernel
theorem dX7_sortNow_64 : decode cX7_sortNow 64 = .ok (.getfield 47, 3) := by decide +kernel
theorem dX7_sortNow_67 : decode cX7_sortNow 67 = .ok (.bipush 11, 2) := by decide +kernel
theorem dX7_sortNow_69 : decode cX7_sortNow 69 = .ok (.iaload, 1) := by decide +kernel
theorem dX7_sortNow_70 : decode cX7_sortNow 70 = .ok (.imul, 1) := by decide +kernel
theorem dX7_sortNow_71 : decode cX7_sortNow 71 = .ok (.if_icmp .le 7, 3) := by decide +kernel
theorem dX7_sortNow_74 : decode cX7_sortNow 74 = .ok (.iconst 4, 1) := by decide +kernel
theorem dX7_sortNow_75 : decode cX7_sortNow 75 = .ok (.goto 4, 3) := by decide +kernel
theorem dX7_sortNow_78 : decode cX7_sortNow 78 = .ok (.iconst 3, 1) := by decide +kernel
theorem dX7_sortNow_79 : decode cX7_sortNow 79 = .ok (.ireturn, 1) := by decide +kernel
theorem dX7_sortNow_80 : decode cX7_sortNow 80 = .ok (.aload_n 0, 1) := by decide +kernel
theorem dX7_sortNow_81 : decode cX7_sortNow 81 = .ok (.getfield 47, 3) := by decide +kernel
theorem dX7_sortNow_84 : decode cX7_sortNow 84 = .ok (.iconst 0, 1) := by decide +kernel
theorem dX7_sortNow_85 : decode cX7_sortNow 85 = .ok (.iaload, 1) := by decide +kernel
theorem dX7_sortNow_86 : decode cX7_sortNow 86 = .ok (.aload_n 0, 1) := by decide +kernel
theorem dX7_sortNow_87 : decode cX7_sortNow 87 = .ok (.getfield 47, 3) := by decide +kernel
theorem dX7_sortNow_90 : decode cX7_sortNow 90 = .ok (.iconst 1, 1) := by decide +kernel
theorem dX7_sortNow_91 : decode cX7_sortNow 91 = .ok (.iaload, 1) := by decide +kernel
theorem dX7_sortNow_92 : decode cX7_sortNow 92 = .ok (.if_icmp .le 7, 3) := by decide +kernel
theorem dX7_sortNow_95 : decode cX7_sortNow 95 = .ok (.iconst 2, 1) := by decide +kernel
theorem dX7_sortNow_96 : decode cX7_sortNow 96 = .ok (.goto 30, 3) := by decide +kernel
theorem dX7_sortNow_99 : decode cX7_sortNow 99 = .ok (.aload_n 0, 1) := by decide +kernel
theorem dX7_sortNow_100 : decode cX7_sortNow 100 = .ok (.invokevirtual 254, 3) := by decide +kernel
theorem dX7_sortNow_103 : decode cX7_sortNow 103 = .ok (.bipush 60, 2) := by decide +kernel
theorem dX7_sortNow_105 : decode cX7_sortNow 105 = .ok (.if_icmp .le 7, 3) := by decide +kernel
theorem dX7_sortNow_108 : decode cX7_sortNow 108 = .ok (.iconst 5, 1) := by decide +kernel
theorem dX7_sortNow_109 : decode cX7_sortNow 109 = .ok (.goto 17, 3) := by decide +kernel
theorem dX7_sortNow_112 : decode cX7_sortNow 112 = .ok (.aload_n 0, 1) := by decide +kernel
theorem dX7_sortNow_113 : decode cX7_sortNow 113 = .ok (.invokevirtual 257, 3) := by decide +kernel
theorem dX7_sortNow_116 : decode cX7_sortNow 116 = .ok (.bipush 40, 2) := by decide +kernel
theorem dX7_sortNow_118 : decode cX7_sortNow 118 = .ok (.if_icmp .le 7, 3) := by decide +kernel
theorem dX7_sortNow_121 : decode cX7_sortNow 121 = .ok (.iconst 1, 1) := by decide +kernel
theorem dX7_sortNow_122 : decode cX7_sortNow 122 = .ok (.goto 4, 3) := by decide +kernel
theorem dX7_sortNow_125 : decode cX7_sortNow 125 = .ok (.iconst 0, 1) := by decide +kernel
theorem dX7_sortNow_126 : decode cX7_sortNow 126 = .ok (.ireturn, 1) := by decide +kernel
theorem dX7_holds_0 : decode cX7_holds 0 = .ok (.aload_n 0, 1) := by decide +kernel
theorem dX7_holds_1 : decode cX7_holds 1 = .ok (.invokevirtual 260, 3) := by decide +kernel
theorem dX7_holds_4 : decode cX7_holds 4 = .ok (.iconst 3, 1) := by decide +kernel
theorem dX7_holds_5 : decode cX7_holds 5 = .ok (.if_icmp .eq 15, 3) := by decide +kernel
theorem dX7_holds_8 : decode cX7_holds 8 = .ok (.aload_n 0, 1) := by decide +kernel
theorem dX7_holds_9 : decode cX7_holds 9 = .ok (.invokevirtual 260, 3) := by decide +kernel
theorem dX7_holds_12 : decode cX7_holds 12 = .ok (.iconst 4, 1) := by decide +kernel
theorem dX7_holds_13 : decode cX7_holds 13 = .ok (.if_icmp .eq 7, 3) := by decide +kernel
theorem dX7_holds_16 : decode cX7_holds 16 = .ok (.iconst 1, 1) := by decide +kernel
theorem dX7_holds_17 : decode cX7_holds 17 = .ok (.goto 4, 3) := by decide +kernel
theorem dX7_holds_20 : decode cX7_holds 20 = .ok (.iconst 0, 1) := by decide +kernel
theorem dX7_holds_21 : decode cX7_holds 21 = .ok (.ireturn, 1) := by decide +kernel
theorem dX7_potTold_0 : decode cX7_potTold 0 = .ok (.iload_n 1, 1) := by decide +kernel
theorem dX7_potTold_1 : decode cX7_potTold 1 = .ok (.bipush 11, 2) := by decide +kernel
theorem dX7_potTold_3 : decode cX7_potTold 3 = .ok (.if_icmp .ne 10, 3) := by decide +kernel
theorem dX7_potTold_6 : decode cX7_potTold 6 = .ok (.aload_n 0, 1) := by decide +kernel
theorem dX7_potTold_7 : decode cX7_potTold 7 = .ok (.invokevirtual 254, 3) := by decide +kernel
theorem dX7_potTold_10 : decode cX7_potTold 10 = .ok (.goto 35, 3) := by decide +kernel
theorem dX7_potTold_13 : decode cX7_potTold 13 = .ok (.iload_n 1, 1) := by decide +kernel
theorem dX7_potTold_14 : decode cX7_potTold 14 = .ok (.bipush 12, 2) := by decide +kernel
theorem dX7_potTold_16 : decode cX7_potTold 16 = .ok (.if_icmp .ne 10, 3) := by decide +kernel
theorem dX7_potTold_19 : decode cX7_potTold 19 = .ok (.aload_n 0, 1) := by decide +kernel
theorem dX7_potTold_20 : decode cX7_potTold 20 = .ok (.invokevirtual 257, 3) := by decide +kernel
theorem dX7_potTold_23 : decode cX7_potTold 23 = .ok (.goto 22, 3) := by decide +kernel
theorem dX7_potTold_26 : decode cX7_potTold 26 = .ok (.iload_n 1, 1) := by decide +kernel
theorem dX7_potTold_27 : decode cX7_potTold 27 = .ok (.bipush 13, 2) := by decide +kernel
theorem dX7_potTold_29 : decode cX7_potTold 29 = .ok (.if_icmp .ne 10, 3) := by decide +kernel
theorem dX7_potTold_32 : decode cX7_potTold 32 = .ok (.aload_n 0, 1) := by decide +kernel
theorem dX7_potTold_33 : decode cX7_potTold 33 = .ok (.invokevirtual 260, 3) := by decide +kernel
theorem dX7_potTold_36 : decode cX7_potTold 36 = .ok (.goto 9, 3) := by decide +kernel
theorem dX7_potTold_39 : decode cX7_potTold 39 = .ok (.aload_n 0, 1) := by decide +kernel
theorem dX7_potTold_40 : decode cX7_potTold 40 = .ok (.getfield 47, 3) := by decide +kernel
theorem dX7_potTold_43 : decode cX7_potTold 43 = .ok (.iload_n 1, 1) := by decide +kernel
theorem dX7_potTold_44 : decode cX7_potTold 44 = .ok (.iaload, 1) := by decide +kernel
theorem dX7_potTold_45 : decode cX7_potTold 45 = .ok (.ireturn, 1) := by decide +kernel
theorem dX7_areActs_0 : decode cX7_areActs 0 = .ok (.iload_n 1, 1) := by decide +kernel
theorem dX7_areActs_1 : decode cX7_areActs 1 = .ok (.i2l, 1) := by decide +kernel
theorem dX7_areActs_2 : decode cX7_areActs 2 = .ok (.lconst 0, 1) := by decide +kernel
theorem dX7_areActs_3 : decode cX7_areActs 3 = .ok (.aload_n 0, 1) := by decide +kernel
theorem dX7_areActs_4 : decode cX7_areActs 4 = .ok (.getfield 95, 3) := by decide +kernel
theorem dX7_areActs_7 : decode cX7_areActs 7 = .ok (.i2l, 1) := by decide +kernel
theorem dX7_areActs_8 : decode cX7_areActs 8 = .ok (.invokestatic 75, 3) := by decide +kernel
theorem dX7_areActs_11 : decode cX7_areActs 11 = .ok (.ireturn, 1) := by decide +kernel
theorem dX7_pot_0 : decode cX7_pot 0 = .ok (.aload_n 0, 1) := by decide +kernel
theorem dX7_pot_1 : decode cX7_pot 1 = .ok (.iload_n 1, 1) := by decide +kernel
theorem dX7_pot_2 : decode cX7_pot 2 = .ok (.invokevirtual 263, 3) := by decide +kernel
theorem dX7_pot_5 : decode cX7_pot 5 = .ok (.ifCond .ne 6, 3) := by decide +kernel
theorem dX7_pot_8 : decode cX7_pot 8 = .ok (.bipush (-5), 2) := by decide +kernel
theorem dX7_pot_10 : decode cX7_pot 10 = .ok (.ireturn, 1) := by decide +kernel
theorem dX7_pot_11 : decode cX7_pot 11 = .ok (.iload_n 2, 1) := by decide +kernel
theorem dX7_pot_12 : decode cX7_pot 12 = .ok (.i2l, 1) := by decide +kernel
theorem dX7_pot_13 : decode cX7_pot 13 = .ok (.lconst 0, 1) := by decide +kernel
theorem dX7_pot_14 : decode cX7_pot 14 = .ok (.ldc2_w 266, 3) := by decide +kernel
theorem dX7_pot_17 : decode cX7_pot 17 = .ok (.invokestatic 75, 3) := by decide +kernel
theorem dX7_pot_20 : decode cX7_pot 20 = .ok (.ifCond .ne 6, 3) := by decide +kernel
theorem dX7_pot_23 : decode cX7_pot 23 = .ok (.bipush (-7), 2) := by decide +kernel
theorem dX7_pot_25 : decode cX7_pot 25 = .ok (.ireturn, 1) := by decide +kernel
theorem dX7_pot_26 : decode cX7_pot 26 = .ok (.aload_n 0, 1) := by decide +kernel
theorem dX7_pot_27 : decode cX7_pot 27 = .ok (.iload_n 1, 1) := by decide +kernel
theorem dX7_pot_28 : decode cX7_pot 28 = .ok (.invokevirtual 268, 3) := by decide +kernel
theorem dX7_pot_31 : decode cX7_pot 31 = .ok (.aload_n 0, 1) := by decide +kernel
theorem dX7_pot_32 : decode cX7_pot 32 = .ok (.iload_n 2, 1) := by decide +kernel
theorem dX7_pot_33 : decode cX7_pot 33 = .ok (.invokevirtual 271, 3) := by decide +kernel
theorem dX7_pot_36 : decode cX7_pot 36 = .ok (.ireturn, 1) := by decide +kernel
theorem dX7_splits_0 : decode cX7_splits 0 = .ok (.iload_n 1, 1) := by decide +kernel
theorem dX7_splits_1 : decode cX7_splits 1 = .ok (.i2l, 1) := by decide +kernel
theorem dX7_splits_2 : decode cX7_splits 2 = .ok (.lconst 0, 1) := by decide +kernel
theorem dX7_splits_3 : decode cX7_splits 3 = .ok (.lconst 1, 1) := by decide +kernel
theorem dX7_splits_4 : decode cX7_splits 4 = .ok (.invokestatic 75, 3) := by decide +kernel
theorem dX7_splits_7 : decode cX7_splits 7 = .ok (.ifCond .ne 6, 3) := by decide +kernel
theorem dX7_splits_10 : decode cX7_splits 10 = .ok (.bipush (-2), 2) := by decide +kernel
theorem dX7_splits_12 : decode cX7_splits 12 = .ok (.ireturn, 1) := by decide +kernel
theorem dX7_splits_13 : decode cX7_splits 13 = .ok (.aload_n 0, 1) := by decide +kernel
theorem dX7_splits_14 : decode cX7_splits 14 = .ok (.invokevirtual 248, 3) := by decide +kernel
theorem dX7_splits_17 : decode cX7_splits 17 = .ok (.iconst (-1), 1) := by decide +kernel
theorem dX7_splits_18 : decode cX7_splits 18 = .ok (.istore_n 2, 1) := by decide +kernel
theorem dX7_splits_19 : decode cX7_splits 19 = .ok (.iconst 0, 1) := by decide +kernel
theorem dX7_splits_20 : decode cX7_splits 20 = .ok (.istore_n 3, 1) := by decide +kernel
theorem dX7_splits_21 : decode cX7_splits 21 = .ok (.iconst (-1), 1) := by decide +kernel
theorem dX7_splits_22 : decode cX7_splits 22 = .ok (.istore 4, 2) := by decide +kernel
theorem dX7_splits_24 : decode cX7_splits 24 = .ok (.iconst 0, 1) := by decide +kernel
theorem dX7_splits_25 : decode cX7_splits 25 = .ok (.istore 5, 2) := by decide +kernel
theorem dX7_splits_27 : decode cX7_splits 27 = .ok (.iload 5, 2) := by decide +kernel
theorem dX7_splits_29 : decode cX7_splits 29 = .ok (.aload_n 0, 1) := by decide +kernel
theorem dX7_splits_30 : decode cX7_splits 30 = .ok (.getfield 95, 3) := by decide +kernel
theorem dX7_splits_33 : decode cX7_splits 33 = .ok (.if_icmp .ge 68, 3) := by decide +kernel
theorem dX7_splits_36 : decode cX7_splits 36 = .ok (.aload_n 0, 1) := by decide +kernel
theorem dX7_splits_37 : decode cX7_splits 37 = .ok (.getfield 47, 3) := by decide +kernel
theorem dX7_splits_40 : decode cX7_splits 40 = .ok (.iconst 4, 1) := by decide +kernel
theorem dX7_splits_41 : decode cX7_splits 41 = .ok (.iaload, 1) := by decide +kernel
theorem dX7_splits_42 : decode cX7_splits 42 = .ok (.istore 6, 2) := by decide +kernel
theorem dX7_splits_44 : decode cX7_splits 44 = .ok (.aload_n 0, 1) := by decide +kernel
theorem dX7_splits_45 : decode cX7_splits 45 = .ok (.iload 5, 2) := by decide +kernel
theorem dX7_splits_47 : decode cX7_splits 47 = .ok (.invokevirtual 251, 3) := by decide +kernel
theorem dX7_splits_50 : decode cX7_splits 50 = .ok (.iload_n 2, 1) := by decide +kernel
theorem dX7_splits_51 : decode cX7_splits 51 = .ok (.ifCond .ge 15, 3) := by decide +kernel
theorem dX7_splits_54 : decode cX7_splits 54 = .ok (.aload_n 0, 1) := by decide +kernel
theorem dX7_splits_55 : decode cX7_splits 55 = .ok (.invokevirtual 274, 3) := by decide +kernel
theorem dX7_splits_58 : decode cX7_splits 58 = .ok (.ifCond .ne 8, 3) := by decide +kernel
theorem dX7_splits_61 : decode cX7_splits 61 = .ok (.iload 5, 2) := by decide +kernel
theorem dX7_splits_63 : decode cX7_splits 63 = .ok (.goto 4, 3) := by decide +kernel
theorem dX7_splits_66 : decode cX7_splits 66 = .ok (.iload_n 2, 1) := by decide +kernel
theorem dX7_splits_67 : decode cX7_splits 67 = .ok (.istore_n 2, 1) := by decide +kernel
theorem dX7_splits_68 : decode cX7_splits 68 = .ok (.aload_n 0, 1) := by decide +kernel
theorem dX7_splits_69 : decode cX7_splits 69 = .ok (.getfield 47, 3) := by decide +kernel
theorem dX7_splits_72 : decode cX7_splits 72 = .ok (.iconst 4, 1) := by decide +kernel
theorem dX7_splits_73 : decode cX7_splits 73 = .ok (.iaload, 1) := by decide +kernel
theorem dX7_splits_74 : decode cX7_splits 74 = .ok (.iload 6, 2) := by decide +kernel
theorem dX7_splits_76 : decode cX7_splits 76 = .ok (.isub, 1) := by decide +kernel
theorem dX7_splits_77 : decode cX7_splits 77 = .ok (.iload_n 3, 1) := by decide +kernel
theorem dX7_splits_78 : decode cX7_splits 78 = .ok (.if_icmp .le 17, 3) := by decide +kernel
theorem dX7_splits_81 : decode cX7_splits 81 = .ok (.iload 5, 2) := by decide +kernel
theorem dX7_splits_83 : decode cX7_splits 83 = .ok (.istore 4, 2) := by decide +kernel
theorem dX7_splits_85 : decode cX7_splits 85 = .ok (.aload_n 0, 1) := by decide +kernel
theorem dX7_splits_86 : decode cX7_splits 86 = .ok (.getfield 47, 3) := by decide +kernel
theorem dX7_splits_89 : decode cX7_splits 89 = .ok (.iconst 4, 1) := by decide +kernel
theorem dX7_splits_90 : decode cX7_splits 90 = .ok (.iaload, 1) := by decide +kernel
theorem dX7_splits_91 : decode cX7_splits 91 = .ok (.iload 6, 2) := by decide +kernel
theorem dX7_splits_93 : decode cX7_splits 93 = .ok (.isub, 1) := by decide +kernel
theorem dX7_splits_94 : decode cX7_splits 94 = .ok (.istore_n 3, 1) := by decide +kernel
theorem dX7_splits_95 : decode cX7_splits 95 = .ok (.iinc 5 1, 3) := by decide +kernel
theorem dX7_splits_98 : decode cX7_splits 98 = .ok (.goto (-71), 3) := by decide +kernel
theorem dX7_splits_101 : decode cX7_splits 101 = .ok (.iload_n 1, 1) := by decide +kernel
theorem dX7_splits_102 : decode cX7_splits 102 = .ok (.ifCond .ne 7, 3) := by decide +kernel
theorem dX7_splits_105 : decode cX7_splits 105 = .ok (.iload_n 2, 1) := by decide +kernel
theorem dX7_splits_106 : decode cX7_splits 106 = .ok (.goto 5, 3) := by decide +kernel
theorem dX7_splits_109 : decode cX7_splits 109 = .ok (.iload 4, 2) := by decide +kernel
theorem dX7_splits_111 : decode cX7_splits 111 = .ok (.ireturn, 1) := by decide +kernel
theorem dX7_hour_0 : decode cX7_hour 0 = .ok (.aload_n 0, 1) := by decide +kernel
theorem dX7_hour_1 : decode cX7_hour 1 = .ok (.iload_n 1, 1) := by decide +kernel
theorem dX7_hour_2 : decode cX7_hour 2 = .ok (.invokevirtual 263, 3) := by decide +kernel
theorem dX7_hour_5 : decode cX7_hour 5 = .ok (.ifCond .ne 6, 3) := by decide +kernel
theorem dX7_hour_8 : decode cX7_hour 8 = .ok (.bipush (-5), 2) := by decide +kernel
theorem dX7_hour_10 : decode cX7_hour 10 = .ok (.ireturn, 1) := by decide +kernel
theorem dX7_hour_11 : decode cX7_hour 11 = .ok (.iload_n 2, 1) := by decide +kernel
theorem dX7_hour_12 : decode cX7_hour 12 = .ok (.i2l, 1) := by decide +kernel
theorem dX7_hour_13 : decode cX7_hour 13 = .ok (.lconst 0, 1) := by decide +kernel
theorem dX7_hour_14 : decode cX7_hour 14 = .ok (.lconst 1, 1) := by decide +kernel
theorem dX7_hour_15 : decode cX7_hour 15 = .ok (.invokestatic 75, 3) := by decide +kernel
theorem dX7_hour_18 : decode cX7_hour 18 = .ok (.ifCond .ne 6, 3) := by decide +kernel
theorem dX7_hour_21 : decode cX7_hour 21 = .ok (.bipush (-7), 2) := by decide +kernel
theorem dX7_hour_23 : decode cX7_hour 23 = .ok (.ireturn, 1) := by decide +kernel
theorem dX7_hour_24 : decode cX7_hour 24 = .ok (.aload_n 0, 1) := by decide +kernel
theorem dX7_hour_25 : decode cX7_hour 25 = .ok (.iload_n 1, 1) := by decide +kernel
theorem dX7_hour_26 : decode cX7_hour 26 = .ok (.invokevirtual 268, 3) := by decide +kernel
theorem dX7_hour_29 : decode cX7_hour 29 = .ok (.iconst 0, 1) := by decide +kernel
theorem dX7_hour_30 : decode cX7_hour 30 = .ok (.istore_n 3, 1) := by decide +kernel
theorem dX7_hour_31 : decode cX7_hour 31 = .ok (.aload_n 0, 1) := by decide +kernel
theorem dX7_hour_32 : decode cX7_hour 32 = .ok (.invokevirtual 274, 3) := by decide +kernel
theorem dX7_hour_35 : decode cX7_hour 35 = .ok (.istore 4, 2) := by decide +kernel
theorem dX7_hour_37 : decode cX7_hour 37 = .ok (.iload 4, 2) := by decide +kernel
theorem dX7_hour_39 : decode cX7_hour 39 = .ok (.ifCond .eq 45, 3) := by decide +kernel
theorem dX7_hour_42 : decode cX7_hour 42 = .ok (.iload_n 3, 1) := by decide +kernel
theorem dX7_hour_43 : decode cX7_hour 43 = .ok (.bipush 60, 2) := by decide +kernel
theorem dX7_hour_45 : decode cX7_hour 45 = .ok (.if_icmp .ge 39, 3) := by decide +kernel
theorem dX7_hour_48 : decode cX7_hour 48 = .ok (.aload_n 0, 1) := by decide +kernel
theorem dX7_hour_49 : decode cX7_hour 49 = .ok (.iload_n 2, 1) := by decide +kernel
theorem dX7_hour_50 : decode cX7_hour 50 = .ok (.iconst 1, 1) := by decide +kernel
theorem dX7_hour_51 : decode cX7_hour 51 = .ok (.if_icmp .ne 7, 3) := by decide +kernel
theorem dX7_hour_54 : decode cX7_hour 54 = .ok (.iconst 1, 1) := by decide +kernel
theorem dX7_hour_55 : decode cX7_hour 55 = .ok (.goto 4, 3) := by decide +kernel
theorem dX7_hour_58 : decode cX7_hour 58 = .ok (.iconst 0, 1) := by decide +kernel
theorem dX7_hour_59 : decode cX7_hour 59 = .ok (.invokevirtual 240, 3) := by decide +kernel
theorem dX7_hour_62 : decode cX7_hour 62 = .ok (.aload_n 0, 1) := by decide +kernel
theorem dX7_hour_63 : decode cX7_hour 63 = .ok (.invokevirtual 274, 3) := by decide +kernel
theorem dX7_hour_66 : decode cX7_hour 66 = .ok (.istore 4, 2) := by decide +kernel
theorem dX7_hour_68 : decode cX7_hour 68 = .ok (.iload_n 3, 1) := by decide +kernel
theorem dX7_hour_69 : decode cX7_hour 69 = .ok (.iload 4, 2) := by decide +kernel
theorem dX7_hour_71 : decode cX7_hour 71 = .ok (.ifCond .eq 7, 3) := by decide +kernel
theorem dX7_hour_74 : decode cX7_hour 74 = .ok (.iconst 1, 1) := by decide +kernel
theorem dX7_hour_75 : decode cX7_hour 75 = .ok (.goto 4, 3) := by decide +kernel
theorem dX7_hour_78 : decode cX7_hour 78 = .ok (.iconst 0, 1) := by decide +kernel
theorem dX7_hour_79 : decode cX7_hour 79 = .ok (.iadd, 1) := by decide +kernel
theorem dX7_hour_80 : decode cX7_hour 80 = .ok (.istore_n 3, 1) := by decide +kernel
theorem dX7_hour_81 : decode cX7_hour 81 = .ok (.goto (-44), 3) := by decide +kernel
theorem dX7_hour_84 : decode cX7_hour 84 = .ok (.iload_n 3, 1) := by decide +kernel
theorem dX7_hour_85 : decode cX7_hour 85 = .ok (.ireturn, 1) := by decide +kernel
theorem dX7_holdsInAll_0 : decode cX7_holdsInAll 0 = .ok (.aload_n 0, 1) := by decide +kernel
theorem dX7_holdsInAll_1 : decode cX7_holdsInAll 1 = .ok (.aload_n 0, 1) := by decide +kernel
theorem dX7_holdsInAll_2 : decode cX7_holdsInAll 2 = .ok (.getfield 95, 3) := by decide +kernel
theorem dX7_holdsInAll_5 : decode cX7_holdsInAll 5 = .ok (.invokevirtual 268, 3) := by decide +kernel
theorem dX7_holdsInAll_8 : decode cX7_holdsInAll 8 = .ok (.aload_n 0, 1) := by decide +kernel
theorem dX7_holdsInAll_9 : decode cX7_holdsInAll 9 = .ok (.invokevirtual 274, 3) := by decide +kernel
theorem dX7_holdsInAll_12 : decode cX7_holdsInAll 12 = .ok (.ireturn, 1) := by decide +kernel
theorem dX7_holdsWith_0 : decode cX7_holdsWith 0 = .ok (.aload_n 0, 1) := by decide +kernel
theorem dX7_holdsWith_1 : decode cX7_holdsWith 1 = .ok (.getfield 13, 3) := by decide +kernel
theorem dX7_holdsWith_4 : decode cX7_holdsWith 4 = .ok (.iconst 0, 1) := by decide +kernel
theorem dX7_holdsWith_5 : decode cX7_holdsWith 5 = .ok (.iaload, 1) := by decide +kernel
theorem dX7_holdsWith_6 : decode cX7_holdsWith 6 = .ok (.istore_n 3, 1) := by decide +kernel
theorem dX7_holdsWith_7 : decode cX7_holdsWith 7 = .ok (.aload_n 0, 1) := by decide +kernel
theorem dX7_holdsWith_8 : decode cX7_holdsWith 8 = .ok (.getfield 13, 3) := by decide +kernel
theorem dX7_holdsWith_11 : decode cX7_holdsWith 11 = .ok (.iconst 2, 1) := by decide +kernel
theorem dX7_holdsWith_12 : decode cX7_holdsWith 12 = .ok (.iaload, 1) := by decide +kernel
theorem dX7_holdsWith_13 : decode cX7_holdsWith 13 = .ok (.istore 4, 2) := by decide +kernel
theorem dX7_holdsWith_15 : decode cX7_holdsWith 15 = .ok (.aload_n 0, 1) := by decide +kernel
theorem dX7_holdsWith_16 : decode cX7_holdsWith 16 = .ok (.getfield 13, 3) := by decide +kernel
theorem dX7_holdsWith_19 : decode cX7_holdsWith 19 = .ok (.iconst 0, 1) := by decide +kernel
theorem dX7_holdsWith_20 : decode cX7_holdsWith 20 = .ok (.iload_n 1, 1) := by decide +kernel
theorem dX7_holdsWith_21 : decode cX7_holdsWith 21 = .ok (.iastore, 1) := by decide +kernel
theorem dX7_holdsWith_22 : decode cX7_holdsWith 22 = .ok (.aload_n 0, 1) := by decide +kernel
theorem dX7_holdsWith_23 : decode cX7_holdsWith 23 = .ok (.getfield 13, 3) := by decide +kernel
theorem dX7_holdsWith_26 : decode cX7_holdsWith 26 = .ok (.iconst 2, 1) := by decide +kernel
theorem dX7_holdsWith_27 : decode cX7_holdsWith 27 = .ok (.iload_n 2, 1) := by decide +kernel
theorem dX7_holdsWith_28 : decode cX7_holdsWith 28 = .ok (.iastore, 1) := by decide +kernel
theorem dX7_holdsWith_29 : decode cX7_holdsWith 29 = .ok (.aload_n 0, 1) := by decide +kernel
theorem dX7_holdsWith_30 : decode cX7_holdsWith 30 = .ok (.invokevirtual 277, 3) := by decide +kernel
theorem dX7_holdsWith_33 : decode cX7_holdsWith 33 = .ok (.istore 5, 2) := by decide +kernel
theorem dX7_holdsWith_35 : decode cX7_holdsWith 35 = .ok (.aload_n 0, 1) := by decide +kernel
theorem dX7_holdsWith_36 : decode cX7_holdsWith 36 = .ok (.getfield 13, 3) := by decide +kernel
theorem dX7_holdsWith_39 : decode cX7_holdsWith 39 = .ok (.iconst 0, 1) := by decide +kernel
theorem dX7_holdsWith_40 : decode cX7_holdsWith 40 = .ok (.iload_n 3, 1) := by decide +kernel
theorem dX7_holdsWith_41 : decode cX7_holdsWith 41 = .ok (.iastore, 1) := by decide +kernel
theorem dX7_holdsWith_42 : decode cX7_holdsWith 42 = .ok (.aload_n 0, 1) := by decide +kernel
theorem dX7_holdsWith_43 : decode cX7_holdsWith 43 = .ok (.getfield 13, 3) := by decide +kernel
theorem dX7_holdsWith_46 : decode cX7_holdsWith 46 = .ok (.iconst 2, 1) := by decide +kernel
theorem dX7_holdsWith_47 : decode cX7_holdsWith 47 = .ok (.iload 4, 2) := by decide +kernel
theorem dX7_holdsWith_49 : decode cX7_holdsWith 49 = .ok (.iastore, 1) := by decide +kernel
theorem dX7_holdsWith_50 : decode cX7_holdsWith 50 = .ok (.iload 5, 2) := by decide +kernel
theorem dX7_holdsWith_52 : decode cX7_holdsWith 52 = .ok (.ireturn, 1) := by decide +kernel
theorem dX7_flames_0 : decode cX7_flames 0 = .ok (.iconst 0, 1) := by decide +kernel
theorem dX7_flames_1 : decode cX7_flames 1 = .ok (.istore_n 1, 1) := by decide +kernel
theorem dX7_flames_2 : decode cX7_flames 2 = .ok (.iconst 0, 1) := by decide +kernel
theorem dX7_flames_3 : decode cX7_flames 3 = .ok (.istore_n 2, 1) := by decide +kernel
theorem dX7_flames_4 : decode cX7_flames 4 = .ok (.iload_n 2, 1) := by decide +kernel
theorem dX7_flames_5 : decode cX7_flames 5 = .ok (.bipush 10, 2) := by decide +kernel
theorem dX7_flames_7 : decode cX7_flames 7 = .ok (.if_icmp .ge 33, 3) := by decide +kernel
theorem dX7_flames_10 : decode cX7_flames 10 = .ok (.iload_n 1, 1) := by decide +kernel
theorem dX7_flames_11 : decode cX7_flames 11 = .ok (.aload_n 0, 1) := by decide +kernel
theorem dX7_flames_12 : decode cX7_flames 12 = .ok (.iload_n 2, 1) := by decide +kernel
theorem dX7_flames_13 : decode cX7_flames 13 = .ok (.aload_n 0, 1) := by decide +kernel
theorem dX7_flames_14 : decode cX7_flames 14 = .ok (.getfield 13, 3) := by decide +kernel
theorem dX7_flames_17 : decode cX7_flames 17 = .ok (.iconst 2, 1) := by decide +kernel
theorem dX7_flames_18 : decode cX7_flames 18 = .ok (.iaload, 1) := by decide +kernel
theorem dX7_flames_19 : decode cX7_flames 19 = .ok (.invokevirtual 280, 3) := by decide +kernel
theorem dX7_flames_22 : decode cX7_flames 22 = .ok (.ifCond .eq 9, 3) := by decide +kernel
theorem dX7_flames_25 : decode cX7_flames 25 = .ok (.iconst 1, 1) := by decide +kernel
theorem dX7_flames_26 : decode cX7_flames 26 = .ok (.iload_n 2, 1) := by decide +kernel
theorem dX7_flames_27 : decode cX7_flames 27 = .ok (.ishl, 1) := by decide +kernel
theorem dX7_flames_28 : decode cX7_flames 28 = .ok (.goto 4, 3) := by decide +kernel
theorem dX7_flames_31 : decode cX7_flames 31 = .ok (.iconst 0, 1) := by decide +kernel
theorem dX7_flames_32 : decode cX7_flames 32 = .ok (.ior, 1) := by decide +kernel
theorem dX7_flames_33 : decode cX7_flames 33 = .ok (.istore_n 1, 1) := by decide +kernel
theorem dX7_flames_34 : decode cX7_flames 34 = .ok (.iinc 2 1, 3) := by decide +kernel
theorem dX7_flames_37 : decode cX7_flames 37 = .ok (.goto (-33), 3) := by decide +kernel
theorem dX7_flames_40 : decode cX7_flames 40 = .ok (.iload_n 1, 1) := by decide +kernel
theorem dX7_flames_41 : decode cX7_flames 41 = .ok (.ireturn, 1) := by decide +kernel
theorem dX7_sours_0 : decode cX7_sours 0 = .ok (.iconst 0, 1) := by decide +kernel
theorem dX7_sours_1 : decode cX7_sours 1 = .ok (.istore_n 1, 1) := by decide +kernel
theorem dX7_sours_2 : decode cX7_sours 2 = .ok (.iconst 0, 1) := by decide +kernel
theorem dX7_sours_3 : decode cX7_sours 3 = .ok (.istore_n 2, 1) := by decide +kernel
theorem dX7_sours_4 : decode cX7_sours 4 = .ok (.iload_n 2, 1) := by decide +kernel
theorem dX7_sours_5 : decode cX7_sours 5 = .ok (.bipush 10, 2) := by decide +kernel
theorem dX7_sours_7 : decode cX7_sours 7 = .ok (.if_icmp .ge 33, 3) := by decide +kernel
theorem dX7_sours_10 : decode cX7_sours 10 = .ok (.iload_n 1, 1) := by decide +kernel
theorem dX7_sours_11 : decode cX7_sours 11 = .ok (.aload_n 0, 1) := by decide +kernel
theorem dX7_sours_12 : decode cX7_sours 12 = .ok (.aload_n 0, 1) := by decide +kernel
theorem dX7_sours_13 : decode cX7_sours 13 = .ok (.getfield 13, 3) := by decide +kernel
theorem dX7_sours_16 : decode cX7_sours 16 = .ok (.iconst 0, 1) := by decide +kernel
theorem dX7_sours_17 : decode cX7_sours 17 = .ok (.iaload, 1) := by decide +kernel
theorem dX7_sours_18 : decode cX7_sours 18 = .ok (.iload_n 2, 1) := by decide +kernel
theorem dX7_sours_19 : decode cX7_sours 19 = .ok (.invokevirtual 280, 3) := by decide +kernel
theorem dX7_sours_22 : decode cX7_sours 22 = .ok (.ifCond .eq 9, 3) := by decide +kernel
theorem dX7_sours_25 : decode cX7_sours 25 = .ok (.iconst 1, 1) := by decide +kernel
theorem dX7_sours_26 : decode cX7_sours 26 = .ok (.iload_n 2, 1) := by decide +kernel
theorem dX7_sours_27 : decode cX7_sours 27 = .ok (.ishl, 1) := by decide +kernel
theorem dX7_sours_28 : decode cX7_sours 28 = .ok (.goto 4, 3) := by decide +kernel
theorem dX7_sours_31 : decode cX7_sours 31 = .ok (.iconst 0, 1) := by decide +kernel
theorem dX7_sours_32 : decode cX7_sours 32 = .ok (.ior, 1) := by decide +kernel
theorem dX7_sours_33 : decode cX7_sours 33 = .ok (.istore_n 1, 1) := by decide +kernel
theorem dX7_sours_34 : decode cX7_sours 34 = .ok (.iinc 2 1, 3) := by decide +kernel
theorem dX7_sours_37 : decode cX7_sours 37 = .ok (.goto (-33), 3) := by decide +kernel
theorem dX7_sours_40 : decode cX7_sours 40 = .ok (.iload_n 1, 1) := by decide +kernel
theorem dX7_sours_41 : decode cX7_sours 41 = .ok (.ireturn, 1) := by decide +kernel
theorem dX7_region_0 : decode cX7_region 0 = .ok (.iconst 0, 1) := by decide +kernel
theorem dX7_region_1 : decode cX7_region 1 = .ok (.istore_n 1, 1) := by decide +kernel
theorem dX7_region_2 : decode cX7_region 2 = .ok (.iconst 0, 1) := by decide +kernel
theorem dX7_region_3 : decode cX7_region 3 = .ok (.istore_n 2, 1) := by decide +kernel
theorem dX7_region_4 : decode cX7_region 4 = .ok (.iload_n 2, 1) := by decide +kernel
theorem dX7_region_5 : decode cX7_region 5 = .ok (.bipush 100, 2) := by decide +kernel
theorem dX7_region_7 : decode cX7_region 7 = .ok (.if_icmp .ge 32, 3) := by decide +kernel
theorem dX7_region_10 : decode cX7_region 10 = .ok (.iload_n 1, 1) := by decide +kernel
theorem dX7_region_11 : decode cX7_region 11 = .ok (.aload_n 0, 1) := by decide +kernel
theorem dX7_region_12 : decode cX7_region 12 = .ok (.iload_n 2, 1) := by decide +kernel
theorem dX7_region_13 : decode cX7_region 13 = .ok (.bipush 10, 2) := by decide +kernel
theorem dX7_region_15 : decode cX7_region 15 = .ok (.idiv, 1) := by decide +kernel
theorem dX7_region_16 : decode cX7_region 16 = .ok (.iload_n 2, 1) := by decide +kernel
theorem dX7_region_17 : decode cX7_region 17 = .ok (.bipush 10, 2) := by decide +kernel
theorem dX7_region_19 : decode cX7_region 19 = .ok (.irem, 1) := by decide +kernel
theorem dX7_region_20 : decode cX7_region 20 = .ok (.invokevirtual 280, 3) := by decide +kernel
theorem dX7_region_23 : decode cX7_region 23 = .ok (.ifCond .eq 7, 3) := by decide +kernel
theorem dX7_region_26 : decode cX7_region 26 = .ok (.iconst 1, 1) := by decide +kernel
theorem dX7_region_27 : decode cX7_region 27 = .ok (.goto 4, 3) := by decide +kernel
theorem dX7_region_30 : decode cX7_region 30 = .ok (.iconst 0, 1) := by decide +kernel
theorem dX7_region_31 : decode cX7_region 31 = .ok (.iadd, 1) := by decide +kernel
theorem dX7_region_32 : decode cX7_region 32 = .ok (.istore_n 1, 1) := by decide +kernel
theorem dX7_region_33 : decode cX7_region 33 = .ok (.iinc 2 1, 3) := by decide +kernel
theorem dX7_region_36 : decode cX7_region 36 = .ok (.goto (-32), 3) := by decide +kernel
theorem dX7_region_39 : decode cX7_region 39 = .ok (.iload_n 1, 1) := by decide +kernel
theorem dX7_region_40 : decode cX7_region 40 = .ok (.ireturn, 1) := by decide +kernel
theorem dX7_most_0 : decode cX7_most 0 = .ok (.aload_n 0, 1) := by decide +kernel
theorem dX7_most_1 : decode cX7_most 1 = .ok (.getfield 13, 3) := by decide +kernel
theorem dX7_most_4 : decode cX7_most 4 = .ok (.iconst 1, 1) := by decide +kernel
theorem dX7_most_5 : decode cX7_most 5 = .ok (.iaload, 1) := by decide +kernel
theorem dX7_most_6 : decode cX7_most 6 = .ok (.istore_n 1, 1) := by decide +kernel
theorem dX7_most_7 : decode cX7_most 7 = .ok (.iconst (-1), 1) := by decide +kernel
theorem dX7_most_8 : decode cX7_most 8 = .ok (.istore_n 2, 1) := by decide +kernel
theorem dX7_most_9 : decode cX7_most 9 = .ok (.iconst 1, 1) := by decide +kernel
theorem dX7_most_10 : decode cX7_most 10 = .ok (.istore_n 3, 1) := by decide +kernel
theorem dX7_most_11 : decode cX7_most 11 = .ok (.iload_n 1, 1) := by decide +kernel
theorem dX7_most_12 : decode cX7_most 12 = .ok (.istore 4, 2) := by decide +kernel
theorem dX7_most_14 : decode cX7_most 14 = .ok (.iload 4, 2) := by decide +kernel
theorem dX7_most_16 : decode cX7_most 16 = .ok (.bipush 99, 2) := by decide +kernel
theorem dX7_most_18 : decode cX7_most 18 = .ok (.if_icmp .gt 37, 3) := by decide +kernel
theorem dX7_most_21 : decode cX7_most 21 = .ok (.iload_n 3, 1) := by decide +kernel
theorem dX7_most_22 : decode cX7_most 22 = .ok (.ifCond .eq 33, 3) := by decide +kernel
theorem dX7_most_25 : decode cX7_most 25 = .ok (.aload_n 0, 1) := by decide +kernel
theorem dX7_most_26 : decode cX7_most 26 = .ok (.getfield 13, 3) := by decide +kernel
theorem dX7_most_29 : decode cX7_most 29 = .ok (.iconst 1, 1) := by decide +kernel
theorem dX7_most_30 : decode cX7_most 30 = .ok (.iload 4, 2) := by decide +kernel
theorem dX7_most_32 : decode cX7_most 32 = .ok (.iastore, 1) := by decide +kernel
theorem dX7_most_33 : decode cX7_most 33 = .ok (.aload_n 0, 1) := by decide +kernel
theorem dX7_most_34 : decode cX7_most 34 = .ok (.invokevirtual 277, 3) := by decide +kernel
theorem dX7_most_37 : decode cX7_most 37 = .ok (.istore_n 3, 1) := by decide +kernel
theorem dX7_most_38 : decode cX7_most 38 = .ok (.iload_n 3, 1) := by decide +kernel
theorem dX7_most_39 : decode cX7_most 39 = .ok (.ifCond .eq 8, 3) := by decide +kernel
theorem dX7_most_42 : decode cX7_most 42 = .ok (.iload 4, 2) := by decide +kernel
theorem dX7_most_44 : decode cX7_most 44 = .ok (.goto 4, 3) := by decide +kernel
theorem dX7_most_47 : decode cX7_most 47 = .ok (.iload_n 2, 1) := by decide +kernel
theorem dX7_most_48 : decode cX7_most 48 = .ok (.istore_n 2, 1) := by decide +kernel
theorem dX7_most_49 : decode cX7_most 49 = .ok (.iinc 4 1, 3) := by decide +kernel
theorem dX7_most_52 : decode cX7_most 52 = .ok (.goto (-38), 3) := by decide +kernel
theorem dX7_most_55 : decode cX7_most 55 = .ok (.aload_n 0, 1) := by decide +kernel
theorem dX7_most_56 : decode cX7_most 56 = .ok (.getfield 13, 3) := by decide +kernel
theorem dX7_most_59 : decode cX7_most 59 = .ok (.iconst 1, 1) := by decide +kernel
theorem dX7_most_60 : decode cX7_most 60 = .ok (.iload_n 1, 1) := by decide +kernel
theorem dX7_most_61 : decode cX7_most 61 = .ok (.iastore, 1) := by decide +kernel
theorem dX7_most_62 : decode cX7_most 62 = .ok (.iload_n 2, 1) := by decide +kernel
theorem dX7_most_63 : decode cX7_most 63 = .ok (.ireturn, 1) := by decide +kernel
theorem dX7_lowest_0 : decode cX7_lowest 0 = .ok (.lload_n 0, 1) := by decide +kernel
theorem dX7_lowest_1 : decode cX7_lowest 1 = .ok (.lstore 5, 2) := by decide +kernel
theorem dX7_lowest_3 : decode cX7_lowest 3 = .ok (.lload_n 2, 1) := by decide +kernel
theorem dX7_lowest_4 : decode cX7_lowest 4 = .ok (.lstore 7, 2) := by decide +kernel
theorem dX7_lowest_6 : decode cX7_lowest 6 = .ok (.lload 7, 2) := by decide +kernel
theorem dX7_lowest_8 : decode cX7_lowest 8 = .ok (.lconst 0, 1) := by decide +kernel
theorem dX7_lowest_9 : decode cX7_lowest 9 = .ok (.lcmp, 1) := by decide +kernel
theorem dX7_lowest_10 : decode cX7_lowest 10 = .ok (.ifCond .eq 21, 3) := by decide +kernel
theorem dX7_lowest_13 : decode cX7_lowest 13 = .ok (.lload 5, 2) := by decide +kernel
theorem dX7_lowest_15 : decode cX7_lowest 15 = .ok (.lload 7, 2) := by decide +kernel
theorem dX7_lowest_17 : decode cX7_lowest 17 = .ok (.lrem, 1) := by decide +kernel
theorem dX7_lowest_18 : decode cX7_lowest 18 = .ok (.lstore 9, 2) := by decide +kernel
theorem dX7_lowest_20 : decode cX7_lowest 20 = .ok (.lload 7, 2) := by decide +kernel
theorem dX7_lowest_22 : decode cX7_lowest 22 = .ok (.lstore 5, 2) := by decide +kernel
theorem dX7_lowest_24 : decode cX7_lowest 24 = .ok (.lload 9, 2) := by decide +kernel
theorem dX7_lowest_26 : decode cX7_lowest 26 = .ok (.lstore 7, 2) := by decide +kernel
theorem dX7_lowest_28 : decode cX7_lowest 28 = .ok (.goto (-22), 3) := by decide +kernel
theorem dX7_lowest_31 : decode cX7_lowest 31 = .ok (.iload 4, 2) := by decide +kernel
theorem dX7_lowest_33 : decode cX7_lowest 33 = .ok (.ifCond .ne 10, 3) := by decide +kernel
theorem dX7_lowest_36 : decode cX7_lowest 36 = .ok (.lload_n 0, 1) := by decide +kernel
theorem dX7_lowest_37 : decode cX7_lowest 37 = .ok (.lload 5, 2) := by decide +kernel
theorem dX7_lowest_39 : decode cX7_lowest 39 = .ok (.ldiv, 1) := by decide +kernel
theorem dX7_lowest_40 : decode cX7_lowest 40 = .ok (.goto 7, 3) := by decide +kernel
theorem dX7_lowest_43 : decode cX7_lowest 43 = .ok (.lload_n 2, 1) := by decide +kernel
theorem dX7_lowest_44 : decode cX7_lowest 44 = .ok (.lload 5, 2) := by decide +kernel
theorem dX7_lowest_46 : decode cX7_lowest 46 = .ok (.ldiv, 1) := by decide +kernel
theorem dX7_lowest_47 : decode cX7_lowest 47 = .ok (.lreturn, 1) := by decide +kernel
theorem dX7_odds_0 : decode cX7_odds 0 = .ok (.iload_n 1, 1) := by decide +kernel
theorem dX7_odds_1 : decode cX7_odds 1 = .ok (.i2l, 1) := by decide +kernel
theorem dX7_odds_2 : decode cX7_odds 2 = .ok (.lconst 0, 1) := by decide +kernel
theorem dX7_odds_3 : decode cX7_odds 3 = .ok (.ldc2_w 106, 3) := by decide +kernel
theorem dX7_odds_6 : decode cX7_odds 6 = .ok (.invokestatic 75, 3) := by decide +kernel
theorem dX7_odds_9 : decode cX7_odds 9 = .ok (.ifCond .eq 13, 3) := by decide +kernel
theorem dX7_odds_12 : decode cX7_odds 12 = .ok (.iload_n 2, 1) := by decide +kernel
theorem dX7_odds_13 : decode cX7_odds 13 = .ok (.i2l, 1) := by decide +kernel
theorem dX7_odds_14 : decode cX7_odds 14 = .ok (.lconst 0, 1) := by decide +kernel
theorem dX7_odds_15 : decode cX7_odds 15 = .ok (.lconst 1, 1) := by decide +kernel
theorem dX7_odds_16 : decode cX7_odds 16 = .ok (.invokestatic 75, 3) := by decide +kernel
theorem dX7_odds_19 : decode cX7_odds 19 = .ok (.ifCond .ne 7, 3) := by decide +kernel
theorem dX7_odds_22 : decode cX7_odds 22 = .ok (.ldc2_w 283, 3) := by decide +kernel
theorem dX7_odds_25 : decode cX7_odds 25 = .ok (.lreturn, 1) := by decide +kernel
theorem dX7_odds_26 : decode cX7_odds 26 = .ok (.iconst 0, 1) := by decide +kernel
theorem dX7_odds_27 : decode cX7_odds 27 = .ok (.istore_n 3, 1) := by decide +kernel
theorem dX7_odds_28 : decode cX7_odds 28 = .ok (.iload_n 1, 1) := by decide +kernel
theorem dX7_odds_29 : decode cX7_odds 29 = .ok (.ineg, 1) := by decide +kernel
theorem dX7_odds_30 : decode cX7_odds 30 = .ok (.istore 4, 2) := by decide +kernel
theorem dX7_odds_32 : decode cX7_odds 32 = .ok (.iload 4, 2) := by decide +kernel
theorem dX7_odds_34 : decode cX7_odds 34 = .ok (.iload_n 1, 1) := by decide +kernel
theorem dX7_odds_35 : decode cX7_odds 35 = .ok (.if_icmp .gt 44, 3) := by decide +kernel
theorem dX7_odds_38 : decode cX7_odds 38 = .ok (.iload_n 3, 1) := by decide +kernel
theorem dX7_odds_39 : decode cX7_odds 39 = .ok (.aload_n 0, 1) := by decide +kernel
theorem dX7_odds_40 : decode cX7_odds 40 = .ok (.aload_n 0, 1) := by decide +kernel
theorem dX7_odds_41 : decode cX7_odds 41 = .ok (.getfield 13, 3) := by decide +kernel
theorem dX7_odds_44 : decode cX7_odds 44 = .ok (.iconst 0, 1) := by decide +kernel
theorem dX7_odds_45 : decode cX7_odds 45 = .ok (.iaload, 1) := by decide +kernel
theorem dX7_odds_46 : decode cX7_odds 46 = .ok (.iload 4, 2) := by decide +kernel
theorem dX7_odds_48 : decode cX7_odds 48 = .ok (.iadd, 1) := by decide +kernel
theorem dX7_odds_49 : decode cX7_odds 49 = .ok (.bipush 9, 2) := by decide +kernel
theorem dX7_odds_51 : decode cX7_odds 51 = .ok (.invokestatic 203, 3) := by decide +kernel
theorem dX7_odds_54 : decode cX7_odds 54 = .ok (.aload_n 0, 1) := by decide +kernel
theorem dX7_odds_55 : decode cX7_odds 55 = .ok (.getfield 13, 3) := by decide +kernel
theorem dX7_odds_58 : decode cX7_odds 58 = .ok (.iconst 2, 1) := by decide +kernel
theorem dX7_odds_59 : decode cX7_odds 59 = .ok (.iaload, 1) := by decide +kernel
theorem dX7_odds_60 : decode cX7_odds 60 = .ok (.invokevirtual 280, 3) := by decide +kernel
theorem dX7_odds_63 : decode cX7_odds 63 = .ok (.ifCond .eq 7, 3) := by decide +kernel
theorem dX7_odds_66 : decode cX7_odds 66 = .ok (.iconst 1, 1) := by decide +kernel
theorem dX7_odds_67 : decode cX7_odds 67 = .ok (.goto 4, 3) := by decide +kernel
theorem dX7_odds_70 : decode cX7_odds 70 = .ok (.iconst 0, 1) := by decide +kernel
theorem dX7_odds_71 : decode cX7_odds 71 = .ok (.iadd, 1) := by decide +kernel
theorem dX7_odds_72 : decode cX7_odds 72 = .ok (.istore_n 3, 1) := by decide +kernel
theorem dX7_odds_73 : decode cX7_odds 73 = .ok (.iinc 4 1, 3) := by decide +kernel
theorem dX7_odds_76 : decode cX7_odds 76 = .ok (.goto (-44), 3) := by decide +kernel
theorem dX7_odds_79 : decode cX7_odds 79 = .ok (.iload_n 3, 1) := by decide +kernel
theorem dX7_odds_80 : decode cX7_odds 80 = .ok (.i2l, 1) := by decide +kernel
theorem dX7_odds_81 : decode cX7_odds 81 = .ok (.iconst 2, 1) := by decide +kernel
theorem dX7_odds_82 : decode cX7_odds 82 = .ok (.iload_n 1, 1) := by decide +kernel
theorem dX7_odds_83 : decode cX7_odds 83 = .ok (.imul, 1) := by decide +kernel
theorem dX7_odds_84 : decode cX7_odds 84 = .ok (.iconst 1, 1) := by decide +kernel
theorem dX7_odds_85 : decode cX7_odds 85 = .ok (.iadd, 1) := by decide +kernel
theorem dX7_odds_86 : decode cX7_odds 86 = .ok (.i2l, 1) := by decide +kernel
theorem dX7_odds_87 : decode cX7_odds 87 = .ok (.iload_n 2, 1) := by decide +kernel
theorem dX7_odds_88 : decode cX7_odds 88 = .ok (.invokestatic 285, 3) := by decide +kernel
theorem dX7_odds_91 : decode cX7_odds 91 = .ok (.lreturn, 1) := by decide +kernel
theorem dX7_save_0 : decode cX7_save 0 = .ok (.aload_n 0, 1) := by decide +kernel
theorem dX7_save_1 : decode cX7_save 1 = .ok (.iload_n 1, 1) := by decide +kernel
theorem dX7_save_2 : decode cX7_save 2 = .ok (.invokevirtual 263, 3) := by decide +kernel
theorem dX7_save_5 : decode cX7_save 5 = .ok (.ifCond .ne 6, 3) := by decide +kernel
theorem dX7_save_8 : decode cX7_save 8 = .ok (.bipush (-5), 2) := by decide +kernel
theorem dX7_save_10 : decode cX7_save 10 = .ok (.ireturn, 1) := by decide +kernel
theorem dX7_save_11 : decode cX7_save 11 = .ok (.iload_n 2, 1) := by decide +kernel
theorem dX7_save_12 : decode cX7_save 12 = .ok (.i2l, 1) := by decide +kernel
theorem dX7_save_13 : decode cX7_save 13 = .ok (.lconst 0, 1) := by decide +kernel
theorem dX7_save_14 : decode cX7_save 14 = .ok (.ldc2_w 79, 3) := by decide +kernel
theorem dX7_save_17 : decode cX7_save 17 = .ok (.invokestatic 75, 3) := by decide +kernel
theorem dX7_save_20 : decode cX7_save 20 = .ok (.ifCond .eq 15, 3) := by decide +kernel
theorem dX7_save_23 : decode cX7_save 23 = .ok (.iload_n 3, 1) := by decide +kernel
theorem dX7_save_24 : decode cX7_save 24 = .ok (.i2l, 1) := by decide +kernel
theorem dX7_save_25 : decode cX7_save 25 = .ok (.lconst 0, 1) := by decide +kernel
theorem dX7_save_26 : decode cX7_save 26 = .ok (.ldc2_w 91, 3) := by decide +kernel
theorem dX7_save_29 : decode cX7_save 29 = .ok (.invokestatic 75, 3) := by decide +kernel
theorem dX7_save_32 : decode cX7_save 32 = .ok (.ifCond .ne 6, 3) := by decide +kernel
theorem dX7_save_35 : decode cX7_save 35 = .ok (.bipush (-7), 2) := by decide +kernel
theorem dX7_save_37 : decode cX7_save 37 = .ok (.ireturn, 1) := by decide +kernel
theorem dX7_save_38 : decode cX7_save 38 = .ok (.iconst (-1), 1) := by decide +kernel
theorem dX7_save_39 : decode cX7_save 39 = .ok (.istore 4, 2) := by decide +kernel
theorem dX7_save_41 : decode cX7_save 41 = .ok (.iconst 0, 1) := by decide +kernel
theorem dX7_save_42 : decode cX7_save 42 = .ok (.istore 5, 2) := by decide +kernel
theorem dX7_save_44 : decode cX7_save 44 = .ok (.iconst 0, 1) := by decide +kernel
theorem dX7_save_45 : decode cX7_save 45 = .ok (.istore 6, 2) := by decide +kernel
theorem dX7_save_47 : decode cX7_save 47 = .ok (.iconst 0, 1) := by decide +kernel
theorem dX7_save_48 : decode cX7_save 48 = .ok (.istore 7, 2) := by decide +kernel
theorem dX7_save_50 : decode cX7_save 50 = .ok (.iload 7, 2) := by decide +kernel
theorem dX7_save_52 : decode cX7_save 52 = .ok (.iconst 5, 1) := by decide +kernel
theorem dX7_save_53 : decode cX7_save 53 = .ok (.if_icmp .gt 70, 3) := by decide +kernel
theorem dX7_save_56 : decode cX7_save 56 = .ok (.aload_n 0, 1) := by decide +kernel
theorem dX7_save_57 : decode cX7_save 57 = .ok (.iload_n 1, 1) := by decide +kernel
theorem dX7_save_58 : decode cX7_save 58 = .ok (.invokevirtual 268, 3) := by decide +kernel
theorem dX7_save_61 : decode cX7_save 61 = .ok (.aload_n 0, 1) := by decide +kernel
theorem dX7_save_62 : decode cX7_save 62 = .ok (.iload 7, 2) := by decide +kernel
theorem dX7_save_64 : decode cX7_save 64 = .ok (.iload_n 2, 1) := by decide +kernel
theorem dX7_save_65 : decode cX7_save 65 = .ok (.bipush 10, 2) := by decide +kernel
theorem dX7_save_67 : decode cX7_save 67 = .ok (.idiv, 1) := by decide +kernel
theorem dX7_save_68 : decode cX7_save 68 = .ok (.iload_n 2, 1) := by decide +kernel
theorem dX7_save_69 : decode cX7_save 69 = .ok (.bipush 10, 2) := by decide +kernel
theorem dX7_save_71 : decode cX7_save 71 = .ok (.irem, 1) := by decide +kernel
theorem dX7_save_72 : decode cX7_save 72 = .ok (.invokevirtual 244, 3) := by decide +kernel
theorem dX7_save_75 : decode cX7_save 75 = .ok (.iload 4, 2) := by decide +kernel
theorem dX7_save_77 : decode cX7_save 77 = .ok (.ifCond .lt 14, 3) := by decide +kernel
theorem dX7_save_80 : decode cX7_save 80 = .ok (.aload_n 0, 1) := by decide +kernel
theorem dX7_save_81 : decode cX7_save 81 = .ok (.getfield 47, 3) := by decide +kernel
theorem dX7_save_84 : decode cX7_save 84 = .ok (.iconst 4, 1) := by decide +kernel
theorem dX7_save_85 : decode cX7_save 85 = .ok (.iaload, 1) := by decide +kernel
theorem dX7_save_86 : decode cX7_save 86 = .ok (.iload 5, 2) := by decide +kernel
theorem dX7_save_88 : decode cX7_save 88 = .ok (.if_icmp .ge 29, 3) := by decide +kernel
theorem dX7_save_91 : decode cX7_save 91 = .ok (.iload 7, 2) := by decide +kernel
theorem dX7_save_93 : decode cX7_save 93 = .ok (.istore 4, 2) := by decide +kernel
theorem dX7_save_95 : decode cX7_save 95 = .ok (.aload_n 0, 1) := by decide +kernel
theorem dX7_save_96 : decode cX7_save 96 = .ok (.getfield 47, 3) := by decide +kernel
theorem dX7_save_99 : decode cX7_save 99 = .ok (.iconst 4, 1) := by decide +kernel
theorem dX7_save_100 : decode cX7_save 100 = .ok (.iaload, 1) := by decide +kernel
theorem dX7_save_101 : decode cX7_save 101 = .ok (.istore 5, 2) := by decide +kernel
theorem dX7_save_103 : decode cX7_save 103 = .ok (.aload_n 0, 1) := by decide +kernel
theorem dX7_save_104 : decode cX7_save 104 = .ok (.invokevirtual 274, 3) := by decide +kernel
theorem dX7_save_107 : decode cX7_save 107 = .ok (.ifCond .eq 7, 3) := by decide +kernel
theorem dX7_save_110 : decode cX7_save 110 = .ok (.iconst 1, 1) := by decide +kernel
theorem dX7_save_111 : decode cX7_save 111 = .ok (.goto 4, 3) := by decide +kernel
theorem dX7_save_114 : decode cX7_save 114 = .ok (.iconst 0, 1) := by decide +kernel
theorem dX7_save_115 : decode cX7_save 115 = .ok (.istore 6, 2) := by decide +kernel
theorem dX7_save_117 : decode cX7_save 117 = .ok (.iinc 7 1, 3) := by decide +kernel
theorem dX7_save_120 : decode cX7_save 120 = .ok (.goto (-70), 3) := by decide +kernel
theorem dX7_save_123 : decode cX7_save 123 = .ok (.iload_n 3, 1) := by decide +kernel
theorem dX7_save_124 : decode cX7_save 124 = .ok (.ifCond .ne 8, 3) := by decide +kernel
theorem dX7_save_127 : decode cX7_save 127 = .ok (.iload 4, 2) := by decide +kernel
theorem dX7_save_129 : decode cX7_save 129 = .ok (.goto 15, 3) := by decide +kernel
theorem dX7_save_132 : decode cX7_save 132 = .ok (.iload_n 3, 1) := by decide +kernel
theorem dX7_save_133 : decode cX7_save 133 = .ok (.iconst 1, 1) := by decide +kernel
theorem dX7_save_134 : decode cX7_save 134 = .ok (.if_icmp .ne 8, 3) := by decide +kernel
theorem dX7_save_137 : decode cX7_save 137 = .ok (.iload 5, 2) := by decide +kernel
theorem dX7_save_139 : decode cX7_save 139 = .ok (.goto 5, 3) := by decide +kernel
theorem dX7_save_142 : decode cX7_save 142 = .ok (.iload 6, 2) := by decide +kernel
theorem dX7_save_144 : decode cX7_save 144 = .ok (.ireturn, 1) := by decide +kernel
theorem dX7_why_0 : decode cX7_why 0 = .ok (.aload_n 0, 1) := by decide +kernel
theorem dX7_why_1 : decode cX7_why 1 = .ok (.iload_n 1, 1) := by decide +kernel
theorem dX7_why_2 : decode cX7_why 2 = .ok (.invokevirtual 263, 3) := by decide +kernel
theorem dX7_why_5 : decode cX7_why 5 = .ok (.ifCond .ne 6, 3) := by decide +kernel
theorem dX7_why_8 : decode cX7_why 8 = .ok (.bipush (-5), 2) := by decide +kernel
theorem dX7_why_10 : decode cX7_why 10 = .ok (.ireturn, 1) := by decide +kernel
theorem dX7_why_11 : decode cX7_why 11 = .ok (.aload_n 0, 1) := by decide +kernel
theorem dX7_why_12 : decode cX7_why 12 = .ok (.iload_n 1, 1) := by decide +kernel
theorem dX7_why_13 : decode cX7_why 13 = .ok (.invokevirtual 268, 3) := by decide +kernel
theorem dX7_why_16 : decode cX7_why 16 = .ok (.aload_n 0, 1) := by decide +kernel
theorem dX7_why_17 : decode cX7_why 17 = .ok (.invokevirtual 274, 3) := by decide +kernel
theorem dX7_why_20 : decode cX7_why 20 = .ok (.ifCond .eq 5, 3) := by decide +kernel
theorem dX7_why_23 : decode cX7_why 23 = .ok (.iconst (-1), 1) := by decide +kernel
theorem dX7_why_24 : decode cX7_why 24 = .ok (.ireturn, 1) := by decide +kernel
theorem dX7_why_25 : decode cX7_why 25 = .ok (.iconst 0, 1) := by decide +kernel
theorem dX7_why_26 : decode cX7_why 26 = .ok (.istore_n 2, 1) := by decide +kernel
theorem dX7_why_27 : decode cX7_why 27 = .ok (.iload_n 2, 1) := by decide +kernel
theorem dX7_why_28 : decode cX7_why 28 = .ok (.iload_n 1, 1) := by decide +kernel
theorem dX7_why_29 : decode cX7_why 29 = .ok (.if_icmp .ge 45, 3) := by decide +kernel
theorem dX7_why_32 : decode cX7_why 32 = .ok (.aload_n 0, 1) := by decide +kernel
theorem dX7_why_33 : decode cX7_why 33 = .ok (.invokevirtual 248, 3) := by decide +kernel
theorem dX7_why_36 : decode cX7_why 36 = .ok (.iconst 0, 1) := by decide +kernel
theorem dX7_why_37 : decode cX7_why 37 = .ok (.istore_n 3, 1) := by decide +kernel
theorem dX7_why_38 : decode cX7_why 38 = .ok (.iload_n 3, 1) := by decide +kernel
theorem dX7_why_39 : decode cX7_why 39 = .ok (.iload_n 1, 1) := by decide +kernel
theorem dX7_why_40 : decode cX7_why 40 = .ok (.if_icmp .ge 19, 3) := by decide +kernel
theorem dX7_why_43 : decode cX7_why 43 = .ok (.iload_n 3, 1) := by decide +kernel
theorem dX7_why_44 : decode cX7_why 44 = .ok (.iload_n 2, 1) := by decide +kernel
theorem dX7_why_45 : decode cX7_why 45 = .ok (.if_icmp .eq 8, 3) := by decide +kernel
theorem dX7_why_48 : decode cX7_why 48 = .ok (.aload_n 0, 1) := by decide +kernel
theorem dX7_why_49 : decode cX7_why 49 = .ok (.iload_n 3, 1) := by decide +kernel
theorem dX7_why_50 : decode cX7_why 50 = .ok (.invokevirtual 251, 3) := by decide +kernel
theorem dX7_why_53 : decode cX7_why 53 = .ok (.iinc 3 1, 3) := by decide +kernel
theorem dX7_why_56 : decode cX7_why 56 = .ok (.goto (-18), 3) := by decide +kernel
theorem dX7_why_59 : decode cX7_why 59 = .ok (.aload_n 0, 1) := by decide +kernel
theorem dX7_why_60 : decode cX7_why 60 = .ok (.invokevirtual 274, 3) := by decide +kernel
theorem dX7_why_63 : decode cX7_why 63 = .ok (.ifCond .eq 5, 3) := by decide +kernel
theorem dX7_why_66 : decode cX7_why 66 = .ok (.iload_n 2, 1) := by decide +kernel
theorem dX7_why_67 : decode cX7_why 67 = .ok (.ireturn, 1) := by decide +kernel
theorem dX7_why_68 : decode cX7_why 68 = .ok (.iinc 2 1, 3) := by decide +kernel
theorem dX7_why_71 : decode cX7_why 71 = .ok (.goto (-44), 3) := by decide +kernel
theorem dX7_why_74 : decode cX7_why 74 = .ok (.iconst (-1), 1) := by decide +kernel
theorem dX7_why_75 : decode cX7_why 75 = .ok (.ireturn, 1) := by decide +kernel
theorem dX7_order_0 : decode cX7_order 0 = .ok (.iload_n 1, 1) := by decide +kernel
theorem dX7_order_1 : decode cX7_order 1 = .ok (.i2l, 1) := by decide +kernel
theorem dX7_order_2 : decode cX7_order 2 = .ok (.lconst 0, 1) := by decide +kernel
theorem dX7_order_3 : decode cX7_order 3 = .ok (.lconst 1, 1) := by decide +kernel
theorem dX7_order_4 : decode cX7_order 4 = .ok (.invokestatic 75, 3) := by decide +kernel
theorem dX7_order_7 : decode cX7_order 7 = .ok (.ifCond .ne 6, 3) := by decide +kernel
theorem dX7_order_10 : decode cX7_order 10 = .ok (.bipush (-2), 2) := by decide +kernel
theorem dX7_order_12 : decode cX7_order 12 = .ok (.ireturn, 1) := by decide +kernel
theorem dX7_order_13 : decode cX7_order 13 = .ok (.aload_n 0, 1) := by decide +kernel
theorem dX7_order_14 : decode cX7_order 14 = .ok (.aload_n 0, 1) := by decide +kernel
theorem dX7_order_15 : decode cX7_order 15 = .ok (.getfield 95, 3) := by decide +kernel
theorem dX7_order_18 : decode cX7_order 18 = .ok (.invokevirtual 268, 3) := by decide +kernel
theorem dX7_order_21 : decode cX7_order 21 = .ok (.aload_n 0, 1) := by decide +kernel
theorem dX7_order_22 : decode cX7_order 22 = .ok (.getfield 47, 3) := by decide +kernel
theorem dX7_order_25 : decode cX7_order 25 = .ok (.iconst 4, 1) := by decide +kernel
theorem dX7_order_26 : decode cX7_order 26 = .ok (.iaload, 1) := by decide +kernel
theorem dX7_order_27 : decode cX7_order 27 = .ok (.istore_n 2, 1) := by decide +kernel
theorem dX7_order_28 : decode cX7_order 28 = .ok (.iconst (-1), 1) := by decide +kernel
theorem dX7_order_29 : decode cX7_order 29 = .ok (.istore_n 3, 1) := by decide +kernel
theorem dX7_order_30 : decode cX7_order 30 = .ok (.iconst 0, 1) := by decide +kernel
theorem dX7_order_31 : decode cX7_order 31 = .ok (.istore 4, 2) := by decide +kernel
theorem dX7_order_33 : decode cX7_order 33 = .ok (.iload 4, 2) := by decide +kernel
theorem dX7_order_35 : decode cX7_order 35 = .ok (.iconst 1, 1) := by decide +kernel
theorem dX7_order_36 : decode cX7_order 36 = .ok (.iadd, 1) := by decide +kernel
theorem dX7_order_37 : decode cX7_order 37 = .ok (.aload_n 0, 1) := by decide +kernel
theorem dX7_order_38 : decode cX7_order 38 = .ok (.getfield 95, 3) := by decide +kernel
theorem dX7_order_41 : decode cX7_order 41 = .ok (.if_icmp .ge 85, 3) := by decide +kernel
theorem dX7_order_44 : decode cX7_order 44 = .ok (.aload_n 0, 1) := by decide +kernel
theorem dX7_order_45 : decode cX7_order 45 = .ok (.invokevirtual 248, 3) := by decide +kernel
theorem dX7_order_48 : decode cX7_order 48 = .ok (.iconst 0, 1) := by decide +kernel
theorem dX7_order_49 : decode cX7_order 49 = .ok (.istore 5, 2) := by decide +kernel
theorem dX7_order_51 : decode cX7_order 51 = .ok (.iload 5, 2) := by decide +kernel
theorem dX7_order_53 : decode cX7_order 53 = .ok (.aload_n 0, 1) := by decide +kernel
theorem dX7_order_54 : decode cX7_order 54 = .ok (.getfield 95, 3) := by decide +kernel
theorem dX7_order_57 : decode cX7_order 57 = .ok (.if_icmp .ge 43, 3) := by decide +kernel
theorem dX7_order_60 : decode cX7_order 60 = .ok (.aload_n 0, 1) := by decide +kernel
theorem dX7_order_61 : decode cX7_order 61 = .ok (.iload 5, 2) := by decide +kernel
theorem dX7_order_63 : decode cX7_order 63 = .ok (.iload 4, 2) := by decide +kernel
theorem dX7_order_65 : decode cX7_order 65 = .ok (.if_icmp .ne 10, 3) := by decide +kernel
theorem dX7_order_68 : decode cX7_order 68 = .ok (.iload 4, 2) := by decide +kernel
theorem dX7_order_70 : decode cX7_order 70 = .ok (.iconst 1, 1) := by decide +kernel
theorem dX7_order_71 : decode cX7_order 71 = .ok (.iadd, 1) := by decide +kernel
theorem dX7_order_72 : decode cX7_order 72 = .ok (.goto 19, 3) := by decide +kernel
theorem dX7_order_75 : decode cX7_order 75 = .ok (.iload 5, 2) := by decide +kernel
theorem dX7_order_77 : decode cX7_order 77 = .ok (.iload 4, 2) := by decide +kernel
theorem dX7_order_79 : decode cX7_order 79 = .ok (.iconst 1, 1) := by decide +kernel
theorem dX7_order_80 : decode cX7_order 80 = .ok (.iadd, 1) := by decide +kernel
theorem dX7_order_81 : decode cX7_order 81 = .ok (.if_icmp .ne 8, 3) := by decide +kernel
theorem dX7_order_84 : decode cX7_order 84 = .ok (.iload 4, 2) := by decide +kernel
theorem dX7_order_86 : decode cX7_order 86 = .ok (.goto 5, 3) := by decide +kernel
theorem dX7_order_89 : decode cX7_order 89 = .ok (.iload 5, 2) := by decide +kernel
theorem dX7_order_91 : decode cX7_order 91 = .ok (.invokevirtual 251, 3) := by decide +kernel
theorem dX7_order_94 : decode cX7_order 94 = .ok (.iinc 5 1, 3) := by decide +kernel
theorem dX7_order_97 : decode cX7_order 97 = .ok (.goto (-46), 3) := by decide +kernel
theorem dX7_order_100 : decode cX7_order 100 = .ok (.aload_n 0, 1) := by decide +kernel
theorem dX7_order_101 : decode cX7_order 101 = .ok (.getfield 47, 3) := by decide +kernel
theorem dX7_order_104 : decode cX7_order 104 = .ok (.iconst 4, 1) := by decide +kernel
theorem dX7_order_105 : decode cX7_order 105 = .ok (.iaload, 1) := by decide +kernel
theorem dX7_order_106 : decode cX7_order 106 = .ok (.iload_n 2, 1) := by decide +kernel
theorem dX7_order_107 : decode cX7_order 107 = .ok (.if_icmp .ge 13, 3) := by decide +kernel
theorem dX7_order_110 : decode cX7_order 110 = .ok (.iload 4, 2) := by decide +kernel
theorem dX7_order_112 : decode cX7_order 112 = .ok (.istore_n 3, 1) := by decide +kernel
theorem dX7_order_113 : decode cX7_order 113 = .ok (.aload_n 0, 1) := by decide +kernel
theorem dX7_order_114 : decode cX7_order 114 = .ok (.getfield 47, 3) := by decide +kernel
theorem dX7_order_117 : decode cX7_order 117 = .ok (.iconst 4, 1) := by decide +kernel
theorem dX7_order_118 : decode cX7_order 118 = .ok (.iaload, 1) := by decide +kernel
theorem dX7_order_119 : decode cX7_order 119 = .ok (.istore_n 2, 1) := by decide +kernel
theorem dX7_order_120 : decode cX7_order 120 = .ok (.iinc 4 1, 3) := by decide +kernel
theorem dX7_order_123 : decode cX7_order 123 = .ok (.goto (-90), 3) := by decide +kernel
theorem dX7_order_126 : decode cX7_order 126 = .ok (.iload_n 1, 1) := by decide +kernel
theorem dX7_order_127 : decode cX7_order 127 = .ok (.ifCond .ne 7, 3) := by decide +kernel
theorem dX7_order_130 : decode cX7_order 130 = .ok (.iload_n 3, 1) := by decide +kernel
theorem dX7_order_131 : decode cX7_order 131 = .ok (.goto 4, 3) := by decide +kernel
theorem dX7_order_134 : decode cX7_order 134 = .ok (.iload_n 2, 1) := by decide +kernel
theorem dX7_order_135 : decode cX7_order 135 = .ok (.ireturn, 1) := by decide +kernel
theorem dX7_strokes_0 : decode cX7_strokes 0 = .ok (.aload_n 0, 1) := by decide +kernel
theorem dX7_strokes_1 : decode cX7_strokes 1 = .ok (.iload_n 1, 1) := by decide +kernel
theorem dX7_strokes_2 : decode cX7_strokes 2 = .ok (.invokevirtual 263, 3) := by decide +kernel
theorem dX7_strokes_5 : decode cX7_strokes 5 = .ok (.ifCond .ne 6, 3) := by decide +kernel
theorem dX7_strokes_8 : decode cX7_strokes 8 = .ok (.bipush (-5), 2) := by decide +kernel
theorem dX7_strokes_10 : decode cX7_strokes 10 = .ok (.ireturn, 1) := by decide +kernel
theorem dX7_strokes_11 : decode cX7_strokes 11 = .ok (.iload_n 2, 1) := by decide +kernel
theorem dX7_strokes_12 : decode cX7_strokes 12 = .ok (.i2l, 1) := by decide +kernel
theorem dX7_strokes_13 : decode cX7_strokes 13 = .ok (.lconst 1, 1) := by decide +kernel
theorem dX7_strokes_14 : decode cX7_strokes 14 = .ok (.ldc2_w 93, 3) := by decide +kernel
theorem dX7_strokes_17 : decode cX7_strokes 17 = .ok (.invokestatic 75, 3) := by decide +kernel
theorem dX7_strokes_20 : decode cX7_strokes 20 = .ok (.ifCond .ne 6, 3) := by decide +kernel
theorem dX7_strokes_23 : decode cX7_strokes 23 = .ok (.bipush (-7), 2) := by decide +kernel
theorem dX7_strokes_25 : decode cX7_strokes 25 = .ok (.ireturn, 1) := by decide +kernel
theorem dX7_strokes_26 : decode cX7_strokes 26 = .ok (.aload_n 0, 1) := by decide +kernel
theorem dX7_strokes_27 : decode cX7_strokes 27 = .ok (.iload_n 1, 1) := by decide +kernel
theorem dX7_strokes_28 : decode cX7_strokes 28 = .ok (.invokevirtual 268, 3) := by decide +kernel
theorem dX7_strokes_31 : decode cX7_strokes 31 = .ok (.iconst 0, 1) := by decide +kernel
theorem dX7_strokes_32 : decode cX7_strokes 32 = .ok (.istore_n 3, 1) := by decide +kernel
theorem dX7_strokes_33 : decode cX7_strokes 33 = .ok (.iload_n 3, 1) := by decide +kernel
theorem dX7_strokes_34 : decode cX7_strokes 34 = .ok (.bipush 60, 2) := by decide +kernel
theorem dX7_strokes_36 : decode cX7_strokes 36 = .ok (.if_icmp .gt 30, 3) := by decide +kernel
theorem dX7_strokes_39 : decode cX7_strokes 39 = .ok (.aload_n 0, 1) := by decide +kernel
theorem dX7_strokes_40 : decode cX7_strokes 40 = .ok (.getfield 47, 3) := by decide +kernel
theorem dX7_strokes_43 : decode cX7_strokes 43 = .ok (.iconst 4, 1) := by decide +kernel
theorem dX7_strokes_44 : decode cX7_strokes 44 = .ok (.iaload, 1) := by decide +kernel
theorem dX7_strokes_45 : decode cX7_strokes 45 = .ok (.ifCond .ne 5, 3) := by decide +kernel
theorem dX7_strokes_48 : decode cX7_strokes 48 = .ok (.iload_n 3, 1) := by decide +kernel
theorem dX7_strokes_49 : decode cX7_strokes 49 = .ok (.ireturn, 1) := by decide +kernel
theorem dX7_strokes_50 : decode cX7_strokes 50 = .ok (.aload_n 0, 1) := by decide +kernel
theorem dX7_strokes_51 : decode cX7_strokes 51 = .ok (.iload_n 2, 1) := by decide +kernel
theorem dX7_strokes_52 : decode cX7_strokes 52 = .ok (.invokevirtual 237, 3) := by decide +kernel
theorem dX7_strokes_55 : decode cX7_strokes 55 = .ok (.aload_n 0, 1) := by decide +kernel
theorem dX7_strokes_56 : decode cX7_strokes 56 = .ok (.iconst 1, 1) := by decide +kernel
theorem dX7_strokes_57 : decode cX7_strokes 57 = .ok (.invokevirtual 240, 3) := by decide +kernel
theorem dX7_strokes_60 : decode cX7_strokes 60 = .ok (.iinc 3 1, 3) := by decide +kernel
theorem dX7_strokes_63 : decode cX7_strokes 63 = .ok (.goto (-30), 3) := by decide +kernel
theorem dX7_strokes_66 : decode cX7_strokes 66 = .ok (.iconst (-1), 1) := by decide +kernel
theorem dX7_strokes_67 : decode cX7_strokes 67 = .ok (.ireturn, 1) := by decide +kernel
theorem dX7_mix_0 : decode cX7_mix 0 = .ok (.iload_n 1, 1) := by decide +kernel
theorem dX7_mix_1 : decode cX7_mix 1 = .ok (.ifCond .lt 25, 3) := by decide +kernel
theorem dX7_mix_4 : decode cX7_mix 4 = .ok (.aload_n 0, 1) := by decide +kernel
theorem dX7_mix_5 : decode cX7_mix 5 = .ok (.iload_n 1, 1) := by decide +kernel
theorem dX7_mix_6 : decode cX7_mix 6 = .ok (.bipush 10, 2) := by decide +kernel
theorem dX7_mix_8 : decode cX7_mix 8 = .ok (.idiv, 1) := by decide +kernel
theorem dX7_mix_9 : decode cX7_mix 9 = .ok (.invokevirtual 85, 3) := by decide +kernel
theorem dX7_mix_12 : decode cX7_mix 12 = .ok (.ifCond .eq 14, 3) := by decide +kernel
theorem dX7_mix_15 : decode cX7_mix 15 = .ok (.aload_n 0, 1) := by decide +kernel
theorem dX7_mix_16 : decode cX7_mix 16 = .ok (.iload_n 1, 1) := by decide +kernel
theorem dX7_mix_17 : decode cX7_mix 17 = .ok (.bipush 10, 2) := by decide +kernel
theorem dX7_mix_19 : decode cX7_mix 19 = .ok (.irem, 1) := by decide +kernel
theorem dX7_mix_20 : decode cX7_mix 20 = .ok (.invokevirtual 85, 3) := by decide +kernel
theorem dX7_mix_23 : decode cX7_mix 23 = .ok (.ifCond .ne 6, 3) := by decide +kernel
theorem dX7_mix_26 : decode cX7_mix 26 = .ok (.bipush (-5), 2) := by decide +kernel
theorem dX7_mix_28 : decode cX7_mix 28 = .ok (.ireturn, 1) := by decide +kernel
theorem dX7_mix_29 : decode cX7_mix 29 = .ok (.iload_n 2, 1) := by decide +kernel
theorem dX7_mix_30 : decode cX7_mix 30 = .ok (.ifCond .lt 37, 3) := by decide +kernel
theorem dX7_mix_33 : decode cX7_mix 33 = .ok (.iload_n 2, 1) := by decide +kernel
theorem dX7_mix_34 : decode cX7_mix 34 = .ok (.bipush 100, 2) := by decide +kernel
theorem dX7_mix_36 : decode cX7_mix 36 = .ok (.idiv, 1) := by decide +kernel
theorem dX7_mix_37 : decode cX7_mix 37 = .ok (.i2l, 1) := by decide +kernel
theorem dX7_mix_38 : decode cX7_mix 38 = .ok (.lconst 1, 1) := by decide +kernel
theorem dX7_mix_39 : decode cX7_mix 39 = .ok (.ldc2_w 289, 3) := by decide +kernel
theorem dX7_mix_42 : decode cX7_mix 42 = .ok (.invokestatic 75, 3) := by decide +kernel
theorem dX7_mix_45 : decode cX7_mix 45 = .ok (.ifCond .eq 22, 3) := by decide +kernel
theorem dX7_mix_48 : decode cX7_mix 48 = .ok (.iload_n 2, 1) := by decide +kernel
theorem dX7_mix_49 : decode cX7_mix 49 = .ok (.bipush 100, 2) := by decide +kernel
theorem dX7_mix_51 : decode cX7_mix 51 = .ok (.irem, 1) := by decide +kernel
theorem dX7_mix_52 : decode cX7_mix 52 = .ok (.bipush 60, 2) := by decide +kernel
theorem dX7_mix_54 : decode cX7_mix 54 = .ok (.if_icmp .gt 13, 3) := by decide +kernel
theorem dX7_mix_57 : decode cX7_mix 57 = .ok (.iload_n 3, 1) := by decide +kernel
theorem dX7_mix_58 : decode cX7_mix 58 = .ok (.i2l, 1) := by decide +kernel
theorem dX7_mix_59 : decode cX7_mix 59 = .ok (.lconst 0, 1) := by decide +kernel
theorem dX7_mix_60 : decode cX7_mix 60 = .ok (.lconst 1, 1) := by decide +kernel
theorem dX7_mix_61 : decode cX7_mix 61 = .ok (.invokestatic 75, 3) := by decide +kernel
theorem dX7_mix_64 : decode cX7_mix 64 = .ok (.ifCond .ne 6, 3) := by decide +kernel
theorem dX7_mix_67 : decode cX7_mix 67 = .ok (.bipush (-7), 2) := by decide +kernel
theorem dX7_mix_69 : decode cX7_mix 69 = .ok (.ireturn, 1) := by decide +kernel
theorem dX7_mix_70 : decode cX7_mix 70 = .ok (.iload_n 2, 1) := by decide +kernel
theorem dX7_mix_71 : decode cX7_mix 71 = .ok (.bipush 100, 2) := by decide +kernel
theorem dX7_mix_73 : decode cX7_mix 73 = .ok (.idiv, 1) := by decide +kernel
theorem dX7_mix_74 : decode cX7_mix 74 = .ok (.istore 4, 2) := by decide +kernel
theorem dX7_mix_76 : decode cX7_mix 76 = .ok (.iconst (-1), 1) := by decide +kernel
theorem dX7_mix_77 : decode cX7_mix 77 = .ok (.istore 5, 2) := by decide +kernel
theorem dX7_mix_79 : decode cX7_mix 79 = .ok (.iconst (-1), 1) := by decide +kernel
theorem dX7_mix_80 : decode cX7_mix 80 = .ok (.istore 6, 2) := by decide +kernel
theorem dX7_mix_82 : decode cX7_mix 82 = .ok (.iconst 0, 1) := by decide +kernel
theorem dX7_mix_83 : decode cX7_mix 83 = .ok (.istore 7, 2) := by decide +kernel
theorem dX7_mix_85 : decode cX7_mix 85 = .ok (.iload 7, 2) := by decide +kernel
theorem dX7_mix_87 : decode cX7_mix 87 = .ok (.iload 4, 2) := by decide +kernel
theorem dX7_mix_89 : decode cX7_mix 89 = .ok (.if_icmp .gt 119, 3) := by decide +kernel
theorem dX7_mix_92 : decode cX7_mix 92 = .ok (.aload_n 0, 1) := by decide +kernel
theorem dX7_mix_93 : decode cX7_mix 93 = .ok (.invokevirtual 248, 3) := by decide +kernel
theorem dX7_mix_96 : decode cX7_mix 96 = .ok (.aload_n 0, 1) := by decide +kernel
theorem dX7_mix_97 : decode cX7_mix 97 = .ok (.iload_n 1, 1) := by decide +kernel
theorem dX7_mix_98 : decode cX7_mix 98 = .ok (.bipush 10, 2) := by decide +kernel
theorem dX7_mix_100 : decode cX7_mix 100 = .ok (.idiv, 1) := by decide +kernel
theorem dX7_mix_101 : decode cX7_mix 101 = .ok (.iload 7, 2) := by decide +kernel
theorem dX7_mix_103 : decode cX7_mix 103 = .ok (.invokevirtual 234, 3) := by decide +kernel
theorem dX7_mix_106 : decode cX7_mix 106 = .ok (.aload_n 0, 1) := by decide +kernel
theorem dX7_mix_107 : decode cX7_mix 107 = .ok (.iload_n 1, 1) := by decide +kernel
theorem dX7_mix_108 : decode cX7_mix 108 = .ok (.bipush 10, 2) := by decide +kernel
theorem dX7_mix_110 : decode cX7_mix 110 = .ok (.irem, 1) := by decide +kernel
theorem dX7_mix_111 : decode cX7_mix 111 = .ok (.iload 4, 2) := by decide +kernel
theorem dX7_mix_113 : decode cX7_mix 113 = .ok (.iload 7, 2) := by decide +kernel
theorem dX7_mix_115 : decode cX7_mix 115 = .ok (.isub, 1) := by decide +kernel
theorem dX7_mix_116 : decode cX7_mix 116 = .ok (.invokevirtual 234, 3) := by decide +kernel
theorem dX7_mix_119 : decode cX7_mix 119 = .ok (.iconst 0, 1) := by decide +kernel
theorem dX7_mix_120 : decode cX7_mix 120 = .ok (.istore 8, 2) := by decide +kernel
theorem dX7_mix_122 : decode cX7_mix 122 = .ok (.iload 8, 2) := by decide +kernel
theorem dX7_mix_124 : decode cX7_mix 124 = .ok (.iload_n 2, 1) := by decide +kernel
theorem dX7_mix_125 : decode cX7_mix 125 = .ok (.bipush 100, 2) := by decide +kernel
theorem dX7_mix_127 : decode cX7_mix 127 = .ok (.irem, 1) := by decide +kernel
theorem dX7_mix_128 : decode cX7_mix 128 = .ok (.if_icmp .ge 14, 3) := by decide +kernel
theorem dX7_mix_131 : decode cX7_mix 131 = .ok (.aload_n 0, 1) := by decide +kernel
theorem dX7_mix_132 : decode cX7_mix 132 = .ok (.iconst 1, 1) := by decide +kernel
theorem dX7_mix_133 : decode cX7_mix 133 = .ok (.invokevirtual 240, 3) := by decide +kernel
theorem dX7_mix_136 : decode cX7_mix 136 = .ok (.iinc 8 1, 3) := by decide +kernel
theorem dX7_mix_139 : decode cX7_mix 139 = .ok (.goto (-17), 3) := by decide +kernel
theorem dX7_mix_142 : decode cX7_mix 142 = .ok (.iload 7, 2) := by decide +kernel
theorem dX7_mix_144 : decode cX7_mix 144 = .ok (.aload_n 0, 1) := by decide +kernel
theorem dX7_mix_145 : decode cX7_mix 145 = .ok (.getfield 9, 3) := by decide +kernel
theorem dX7_mix_148 : decode cX7_mix 148 = .ok (.iconst 5, 1) := by decide +kernel
theorem dX7_mix_149 : decode cX7_mix 149 = .ok (.iload_n 1, 1) := by decide +kernel
theorem dX7_mix_150 : decode cX7_mix 150 = .ok (.bipush 10, 2) := by decide +kernel
theorem dX7_mix_152 : decode cX7_mix 152 = .ok (.idiv, 1) := by decide +kernel
theorem dX7_mix_153 : decode cX7_mix 153 = .ok (.imul, 1) := by decide +kernel
theorem dX7_mix_154 : decode cX7_mix 154 = .ok (.iconst 4, 1) := by decide +kernel
theorem dX7_mix_155 : decode cX7_mix 155 = .ok (.iadd, 1) := by decide +kernel
theorem dX7_mix_156 : decode cX7_mix 156 = .ok (.iaload, 1) := by decide +kernel
theorem dX7_mix_157 : decode cX7_mix 157 = .ok (.imul, 1) := by decide +kernel
theorem dX7_mix_158 : decode cX7_mix 158 = .ok (.iload 4, 2) := by decide +kernel
theorem dX7_mix_160 : decode cX7_mix 160 = .ok (.iload 7, 2) := by decide +kernel
theorem dX7_mix_162 : decode cX7_mix 162 = .ok (.isub, 1) := by decide +kernel
theorem dX7_mix_163 : decode cX7_mix 163 = .ok (.aload_n 0, 1) := by decide +kernel
theorem dX7_mix_164 : decode cX7_mix 164 = .ok (.getfield 9, 3) := by decide +kernel
theorem dX7_mix_167 : decode cX7_mix 167 = .ok (.iconst 5, 1) := by decide +kernel
theorem dX7_mix_168 : decode cX7_mix 168 = .ok (.iload_n 1, 1) := by decide +kernel
theorem dX7_mix_169 : decode cX7_mix 169 = .ok (.bipush 10, 2) := by decide +kernel
theorem dX7_mix_171 : decode cX7_mix 171 = .ok (.irem, 1) := by decide +kernel
theorem dX7_mix_172 : decode cX7_mix 172 = .ok (.imul, 1) := by decide +kernel
theorem dX7_mix_173 : decode cX7_mix 173 = .ok (.iconst 4, 1) := by decide +kernel
theorem dX7_mix_174 : decode cX7_mix 174 = .ok (.iadd, 1) := by decide +kernel
theorem dX7_mix_175 : decode cX7_mix 175 = .ok (.iaload, 1) := by decide +kernel
theorem dX7_mix_176 : decode cX7_mix 176 = .ok (.imul, 1) := by decide +kernel
theorem dX7_mix_177 : decode cX7_mix 177 = .ok (.iadd, 1) := by decide +kernel
theorem dX7_mix_178 : decode cX7_mix 178 = .ok (.istore 8, 2) := by decide +kernel
theorem dX7_mix_180 : decode cX7_mix 180 = .ok (.aload_n 0, 1) := by decide +kernel
theorem dX7_mix_181 : decode cX7_mix 181 = .ok (.invokevirtual 274, 3) := by decide +kernel
theorem dX7_mix_184 : decode cX7_mix 184 = .ok (.ifCond .eq 18, 3) := by decide +kernel
theorem dX7_mix_187 : decode cX7_mix 187 = .ok (.iload 8, 2) := by decide +kernel
theorem dX7_mix_189 : decode cX7_mix 189 = .ok (.iload 6, 2) := by decide +kernel
theorem dX7_mix_191 : decode cX7_mix 191 = .ok (.if_icmp .le 11, 3) := by decide +kernel
theorem dX7_mix_194 : decode cX7_mix 194 = .ok (.iload 7, 2) := by decide +kernel
theorem dX7_mix_196 : decode cX7_mix 196 = .ok (.istore 5, 2) := by decide +kernel
theorem dX7_mix_198 : decode cX7_mix 198 = .ok (.iload 8, 2) := by decide +kernel
theorem dX7_mix_200 : decode cX7_mix 200 = .ok (.istore 6, 2) := by decide +kernel
theorem dX7_mix_202 : decode cX7_mix 202 = .ok (.iinc 7 1, 3) := by decide +kernel
theorem dX7_mix_205 : decode cX7_mix 205 = .ok (.goto (-120), 3) := by decide +kernel
theorem dX7_mix_208 : decode cX7_mix 208 = .ok (.iload_n 3, 1) := by decide +kernel
theorem dX7_mix_209 : decode cX7_mix 209 = .ok (.ifCond .ne 8, 3) := by decide +kernel
theorem dX7_mix_212 : decode cX7_mix 212 = .ok (.iload 5, 2) := by decide +kernel
theorem dX7_mix_214 : decode cX7_mix 214 = .ok (.goto 5, 3) := by decide +kernel
theorem dX7_mix_217 : decode cX7_mix 217 = .ok (.iload 6, 2) := by decide +kernel
theorem dX7_mix_219 : decode cX7_mix 219 = .ok (.ireturn, 1) := by decide +kernel
theorem dX7_week_0 : decode cX7_week 0 = .ok (.aload_n 0, 1) := by decide +kernel
theorem dX7_week_1 : decode cX7_week 1 = .ok (.iload_n 1, 1) := by decide +kernel
theorem dX7_week_2 : decode cX7_week 2 = .ok (.invokevirtual 85, 3) := by decide +kernel
theorem dX7_week_5 : decode cX7_week 5 = .ok (.ifCond .ne 6, 3) := by decide +kernel
theorem dX7_week_8 : decode cX7_week 8 = .ok (.bipush (-5), 2) := by decide +kernel
theorem dX7_week_10 : decode cX7_week 10 = .ok (.ireturn, 1) := by decide +kernel
theorem dX7_week_11 : decode cX7_week 11 = .ok (.iload_n 2, 1) := by decide +kernel
theorem dX7_week_12 : decode cX7_week 12 = .ok (.i2l, 1) := by decide +kernel
theorem dX7_week_13 : decode cX7_week 13 = .ok (.lconst 0, 1) := by decide +kernel
theorem dX7_week_14 : decode cX7_week 14 = .ok (.lconst 1, 1) := by decide +kernel
theorem dX7_week_15 : decode cX7_week 15 = .ok (.invokestatic 75, 3) := by decide +kernel
theorem dX7_week_18 : decode cX7_week 18 = .ok (.ifCond .ne 6, 3) := by decide +kernel
theorem dX7_week_21 : decode cX7_week 21 = .ok (.bipush (-7), 2) := by decide +kernel
theorem dX7_week_23 : decode cX7_week 23 = .ok (.ireturn, 1) := by decide +kernel
theorem dX7_week_24 : decode cX7_week 24 = .ok (.aload_n 0, 1) := by decide +kernel
theorem dX7_week_25 : decode cX7_week 25 = .ok (.getfield 9, 3) := by decide +kernel
theorem dX7_week_28 : decode cX7_week 28 = .ok (.iconst 5, 1) := by decide +kernel
theorem dX7_week_29 : decode cX7_week 29 = .ok (.iload_n 1, 1) := by decide +kernel
theorem dX7_week_30 : decode cX7_week 30 = .ok (.imul, 1) := by decide +kernel
theorem dX7_week_31 : decode cX7_week 31 = .ok (.iaload, 1) := by decide +kernel
theorem dX7_week_32 : decode cX7_week 32 = .ok (.istore_n 3, 1) := by decide +kernel
theorem dX7_week_33 : decode cX7_week 33 = .ok (.iconst 1, 1) := by decide +kernel
theorem dX7_week_34 : decode cX7_week 34 = .ok (.istore 4, 2) := by decide +kernel
theorem dX7_week_36 : decode cX7_week 36 = .ok (.iconst (-1), 1) := by decide +kernel
theorem dX7_week_37 : decode cX7_week 37 = .ok (.istore 5, 2) := by decide +kernel
theorem dX7_week_39 : decode cX7_week 39 = .ok (.iconst 1, 1) := by decide +kernel
theorem dX7_week_40 : decode cX7_week 40 = .ok (.istore 6, 2) := by decide +kernel
theorem dX7_week_42 : decode cX7_week 42 = .ok (.iload 6, 2) := by decide +kernel
theorem dX7_week_44 : decode cX7_week 44 = .ok (.bipush 60, 2) := by decide +kernel
theorem dX7_week_46 : decode cX7_week 46 = .ok (.if_icmp .gt 46, 3) := by decide +kernel
theorem dX7_week_49 : decode cX7_week 49 = .ok (.aload_n 0, 1) := by decide +kernel
theorem dX7_week_50 : decode cX7_week 50 = .ok (.getfield 9, 3) := by decide +kernel
theorem dX7_week_53 : decode cX7_week 53 = .ok (.iconst 5, 1) := by decide +kernel
theorem dX7_week_54 : decode cX7_week 54 = .ok (.iload_n 1, 1) := by decide +kernel
theorem dX7_week_55 : decode cX7_week 55 = .ok (.imul, 1) := by decide +kernel
theorem dX7_week_56 : decode cX7_week 56 = .ok (.iload 6, 2) := by decide +kernel
theorem dX7_week_58 : decode cX7_week 58 = .ok (.iastore, 1) := by decide +kernel
theorem dX7_week_59 : decode cX7_week 59 = .ok (.aload_n 0, 1) := by decide +kernel
theorem dX7_week_60 : decode cX7_week 60 = .ok (.aload_n 0, 1) := by decide +kernel
theorem dX7_week_61 : decode cX7_week 61 = .ok (.getfield 95, 3) := by decide +kernel
theorem dX7_week_64 : decode cX7_week 64 = .ok (.invokevirtual 268, 3) := by decide +kernel
theorem dX7_week_67 : decode cX7_week 67 = .ok (.aload_n 0, 1) := by decide +kernel
theorem dX7_week_68 : decode cX7_week 68 = .ok (.invokevirtual 257, 3) := by decide +kernel
theorem dX7_week_71 : decode cX7_week 71 = .ok (.iload 5, 2) := by decide +kernel
theorem dX7_week_73 : decode cX7_week 73 = .ok (.if_icmp .le 13, 3) := by decide +kernel
theorem dX7_week_76 : decode cX7_week 76 = .ok (.iload 6, 2) := by decide +kernel
theorem dX7_week_78 : decode cX7_week 78 = .ok (.istore 4, 2) := by decide +kernel
theorem dX7_week_80 : decode cX7_week 80 = .ok (.aload_n 0, 1) := by decide +kernel
theorem dX7_week_81 : decode cX7_week 81 = .ok (.invokevirtual 257, 3) := by decide +kernel
theorem dX7_week_84 : decode cX7_week 84 = .ok (.istore 5, 2) := by decide +kernel
theorem dX7_week_86 : decode cX7_week 86 = .ok (.iinc 6 1, 3) := by decide +kernel
theorem dX7_week_89 : decode cX7_week 89 = .ok (.goto (-47), 3) := by decide +kernel
theorem dX7_week_92 : decode cX7_week 92 = .ok (.aload_n 0, 1) := by decide +kernel
theorem dX7_week_93 : decode cX7_week 93 = .ok (.getfield 9, 3) := by decide +kernel
theorem dX7_week_96 : decode cX7_week 96 = .ok (.iconst 5, 1) := by decide +kernel
theorem dX7_week_97 : decode cX7_week 97 = .ok (.iload_n 1, 1) := by decide +kernel
theorem dX7_week_98 : decode cX7_week 98 = .ok (.imul, 1) := by decide +kernel
theorem dX7_week_99 : decode cX7_week 99 = .ok (.iload_n 3, 1) := by decide +kernel
theorem dX7_week_100 : decode cX7_week 100 = .ok (.iastore, 1) := by decide +kernel
theorem dX7_week_101 : decode cX7_week 101 = .ok (.iload_n 2, 1) := by decide +kernel
theorem dX7_week_102 : decode cX7_week 102 = .ok (.ifCond .ne 8, 3) := by decide +kernel
theorem dX7_week_105 : decode cX7_week 105 = .ok (.iload 4, 2) := by decide +kernel
theorem dX7_week_107 : decode cX7_week 107 = .ok (.goto 5, 3) := by decide +kernel
theorem dX7_week_110 : decode cX7_week 110 = .ok (.iload 5, 2) := by decide +kernel
theorem dX7_week_112 : decode cX7_week 112 = .ok (.ireturn, 1) := by decide +kernel
theorem dX7_pace_0 : decode cX7_pace 0 = .ok (.aload_n 0, 1) := by decide +kernel
theorem dX7_pace_1 : decode cX7_pace 1 = .ok (.iload_n 1, 1) := by decide +kernel
theorem dX7_pace_2 : decode cX7_pace 2 = .ok (.invokevirtual 85, 3) := by decide +kernel
theorem dX7_pace_5 : decode cX7_pace 5 = .ok (.ifCond .ne 6, 3) := by decide +kernel
theorem dX7_pace_8 : decode cX7_pace 8 = .ok (.bipush (-5), 2) := by decide +kernel
theorem dX7_pace_10 : decode cX7_pace 10 = .ok (.ireturn, 1) := by decide +kernel
theorem dX7_pace_11 : decode cX7_pace 11 = .ok (.iload_n 2, 1) := by decide +kernel
theorem dX7_pace_12 : decode cX7_pace 12 = .ok (.i2l, 1) := by decide +kernel
theorem dX7_pace_13 : decode cX7_pace 13 = .ok (.lconst 1, 1) := by decide +kernel
theorem dX7_pace_14 : decode cX7_pace 14 = .ok (.ldc2_w 291, 3) := by decide +kernel
theorem dX7_pace_17 : decode cX7_pace 17 = .ok (.invokestatic 75, 3) := by decide +kernel
theorem dX7_pace_20 : decode cX7_pace 20 = .ok (.ifCond .ne 6, 3) := by decide +kernel
theorem dX7_pace_23 : decode cX7_pace 23 = .ok (.bipush (-7), 2) := by decide +kernel
theorem dX7_pace_25 : decode cX7_pace 25 = .ok (.ireturn, 1) := by decide +kernel
theorem dX7_pace_26 : decode cX7_pace 26 = .ok (.iload_n 2, 1) := by decide +kernel
theorem dX7_pace_27 : decode cX7_pace 27 = .ok (.istore_n 3, 1) := by decide +kernel
theorem dX7_pace_28 : decode cX7_pace 28 = .ok (.iload_n 3, 1) := by decide +kernel
theorem dX7_pace_29 : decode cX7_pace 29 = .ok (.ifCond .le 76, 3) := by decide +kernel
theorem dX7_pace_32 : decode cX7_pace 32 = .ok (.aload_n 0, 1) := by decide +kernel
theorem dX7_pace_33 : decode cX7_pace 33 = .ok (.invokevirtual 248, 3) := by decide +kernel
theorem dX7_pace_36 : decode cX7_pace 36 = .ok (.iload_n 2, 1) := by decide +kernel
theorem dX7_pace_37 : decode cX7_pace 37 = .ok (.istore 4, 2) := by decide +kernel
theorem dX7_pace_39 : decode cX7_pace 39 = .ok (.iload 4, 2) := by decide +kernel
theorem dX7_pace_41 : decode cX7_pace 41 = .ok (.ifCond .le 34, 3) := by decide +kernel
theorem dX7_pace_44 : decode cX7_pace 44 = .ok (.aload_n 0, 1) := by decide +kernel
theorem dX7_pace_45 : decode cX7_pace 45 = .ok (.iload_n 1, 1) := by decide +kernel
theorem dX7_pace_46 : decode cX7_pace 46 = .ok (.iload 4, 2) := by decide +kernel
theorem dX7_pace_48 : decode cX7_pace 48 = .ok (.iload_n 3, 1) := by decide +kernel
theorem dX7_pace_49 : decode cX7_pace 49 = .ok (.if_icmp .ge 8, 3) := by decide +kernel
theorem dX7_pace_52 : decode cX7_pace 52 = .ok (.iload 4, 2) := by decide +kernel
theorem dX7_pace_54 : decode cX7_pace 54 = .ok (.goto 4, 3) := by decide +kernel
theorem dX7_pace_57 : decode cX7_pace 57 = .ok (.iload_n 3, 1) := by decide +kernel
theorem dX7_pace_58 : decode cX7_pace 58 = .ok (.invokevirtual 234, 3) := by decide +kernel
theorem dX7_pace_61 : decode cX7_pace 61 = .ok (.aload_n 0, 1) := by decide +kernel
theorem dX7_pace_62 : decode cX7_pace 62 = .ok (.iconst 1, 1) := by decide +kernel
theorem dX7_pace_63 : decode cX7_pace 63 = .ok (.invokevirtual 240, 3) := by decide +kernel
theorem dX7_pace_66 : decode cX7_pace 66 = .ok (.iload 4, 2) := by decide +kernel
theorem dX7_pace_68 : decode cX7_pace 68 = .ok (.iload_n 3, 1) := by decide +kernel
theorem dX7_pace_69 : decode cX7_pace 69 = .ok (.isub, 1) := by decide +kernel
theorem dX7_pace_70 : decode cX7_pace 70 = .ok (.istore 4, 2) := by decide +kernel
theorem dX7_pace_72 : decode cX7_pace 72 = .ok (.goto (-33), 3) := by decide +kernel
theorem dX7_pace_75 : decode cX7_pace 75 = .ok (.aload_n 0, 1) := by decide +kernel
theorem dX7_pace_76 : decode cX7_pace 76 = .ok (.invokevirtual 274, 3) := by decide +kernel
theorem dX7_pace_79 : decode cX7_pace 79 = .ok (.ifCond .eq 20, 3) := by decide +kernel
theorem dX7_pace_82 : decode cX7_pace 82 = .ok (.aload_n 0, 1) := by decide +kernel
theorem dX7_pace_83 : decode cX7_pace 83 = .ok (.getfield 47, 3) := by decide +kernel
theorem dX7_pace_86 : decode cX7_pace 86 = .ok (.iconst 0, 1) := by decide +kernel
theorem dX7_pace_87 : decode cX7_pace 87 = .ok (.iaload, 1) := by decide +kernel
theorem dX7_pace_88 : decode cX7_pace 88 = .ok (.aload_n 0, 1) := by decide +kernel
theorem dX7_pace_89 : decode cX7_pace 89 = .ok (.getfield 47, 3) := by decide +kernel
theorem dX7_pace_92 : decode cX7_pace 92 = .ok (.iconst 1, 1) := by decide +kernel
theorem dX7_pace_93 : decode cX7_pace 93 = .ok (.iaload, 1) := by decide +kernel
theorem dX7_pace_94 : decode cX7_pace 94 = .ok (.if_icmp .gt 5, 3) := by decide +kernel
theorem dX7_pace_97 : decode cX7_pace 97 = .ok (.iload_n 3, 1) := by decide +kernel
theorem dX7_pace_98 : decode cX7_pace 98 = .ok (.ireturn, 1) := by decide +kernel
theorem dX7_pace_99 : decode cX7_pace 99 = .ok (.iinc 3 (-1), 3) := by decide +kernel
theorem dX7_pace_102 : decode cX7_pace 102 = .ok (.goto (-74), 3) := by decide +kernel
theorem dX7_pace_105 : decode cX7_pace 105 = .ok (.iconst (-1), 1) := by decide +kernel
theorem dX7_pace_106 : decode cX7_pace 106 = .ok (.ireturn, 1) := by decide +kernel
theorem dX7_atTable_0 : decode cX7_atTable 0 = .ok (.aload_n 0, 1) := by decide +kernel
theorem dX7_atTable_1 : decode cX7_atTable 1 = .ok (.iconst 0, 1) := by decide +kernel
theorem dX7_atTable_2 : decode cX7_atTable 2 = .ok (.putfield 293, 3) := by decide +kernel
theorem dX7_atTable_5 : decode cX7_atTable 5 = .ok (.aload_n 0, 1) := by decide +kernel
theorem dX7_atTable_6 : decode cX7_atTable 6 = .ok (.invokevirtual 274, 3) := by decide +kernel
theorem dX7_atTable_9 : decode cX7_atTable 9 = .ok (.istore_n 3, 1) := by decide +kernel
theorem dX7_atTable_10 : decode cX7_atTable 10 = .ok (.iconst 1, 1) := by decide +kernel
theorem dX7_atTable_11 : decode cX7_atTable 11 = .ok (.istore 4, 2) := by decide +kernel
theorem dX7_atTable_13 : decode cX7_atTable 13 = .ok (.iload 4, 2) := by decide +kernel
theorem dX7_atTable_15 : decode cX7_atTable 15 = .ok (.iload_n 1, 1) := by decide +kernel
theorem dX7_atTable_16 : decode cX7_atTable 16 = .ok (.if_icmp .gt 74, 3) := by decide +kernel
theorem dX7_atTable_19 : decode cX7_atTable 19 = .ok (.iload 4, 2) := by decide +kernel
theorem dX7_atTable_21 : decode cX7_atTable 21 = .ok (.iload_n 2, 1) := by decide +kernel
theorem dX7_atTable_22 : decode cX7_atTable 22 = .ok (.irem, 1) := by decide +kernel
theorem dX7_atTable_23 : decode cX7_atTable 23 = .ok (.ifCond .ne 7, 3) := by decide +kernel
theorem dX7_atTable_26 : decode cX7_atTable 26 = .ok (.iconst 1, 1) := by decide +kernel
theorem dX7_atTable_27 : decode cX7_atTable 27 = .ok (.goto 4, 3) := by decide +kernel
theorem dX7_atTable_30 : decode cX7_atTable 30 = .ok (.iconst 0, 1) := by decide +kernel
theorem dX7_atTable_31 : decode cX7_atTable 31 = .ok (.istore 5, 2) := by decide +kernel
theorem dX7_atTable_33 : decode cX7_atTable 33 = .ok (.iload 5, 2) := by decide +kernel
theorem dX7_atTable_35 : decode cX7_atTable 35 = .ok (.ifCond .eq 8, 3) := by decide +kernel
theorem dX7_atTable_38 : decode cX7_atTable 38 = .ok (.aload_n 0, 1) := by decide +kernel
theorem dX7_atTable_39 : decode cX7_atTable 39 = .ok (.iconst 2, 1) := by decide +kernel
theorem dX7_atTable_40 : decode cX7_atTable 40 = .ok (.invokevirtual 237, 3) := by decide +kernel
theorem dX7_atTable_43 : decode cX7_atTable 43 = .ok (.aload_n 0, 1) := by decide +kernel
theorem dX7_atTable_44 : decode cX7_atTable 44 = .ok (.iload 5, 2) := by decide +kernel
theorem dX7_atTable_46 : decode cX7_atTable 46 = .ok (.invokevirtual 240, 3) := by decide +kernel
theorem dX7_atTable_49 : decode cX7_atTable 49 = .ok (.iload_n 3, 1) := by decide +kernel
theorem dX7_atTable_50 : decode cX7_atTable 50 = .ok (.ifCond .eq 14, 3) := by decide +kernel
theorem dX7_atTable_53 : decode cX7_atTable 53 = .ok (.aload_n 0, 1) := by decide +kernel
theorem dX7_atTable_54 : decode cX7_atTable 54 = .ok (.invokevirtual 274, 3) := by decide +kernel
theorem dX7_atTable_57 : decode cX7_atTable 57 = .ok (.ifCond .eq 7, 3) := by decide +kernel
theorem dX7_atTable_60 : decode cX7_atTable 60 = .ok (.iconst 1, 1) := by decide +kernel
theorem dX7_atTable_61 : decode cX7_atTable 61 = .ok (.goto 4, 3) := by decide +kernel
theorem dX7_atTable_64 : decode cX7_atTable 64 = .ok (.iconst 0, 1) := by decide +kernel
theorem dX7_atTable_65 : decode cX7_atTable 65 = .ok (.istore_n 3, 1) := by decide +kernel
theorem dX7_atTable_66 : decode cX7_atTable 66 = .ok (.aload_n 0, 1) := by decide +kernel
theorem dX7_atTable_67 : decode cX7_atTable 67 = .ok (.dup, 1) := by decide +kernel
theorem dX7_atTable_68 : decode cX7_atTable 68 = .ok (.getfield 293, 3) := by decide +kernel
theorem dX7_atTable_71 : decode cX7_atTable 71 = .ok (.iload_n 3, 1) := by decide +kernel
theorem dX7_atTable_72 : decode cX7_atTable 72 = .ok (.ifCond .eq 7, 3) := by decide +kernel
theorem dX7_atTable_75 : decode cX7_atTable 75 = .ok (.iconst 1, 1) := by decide +kernel
theorem dX7_atTable_76 : decode cX7_atTable 76 = .ok (.goto 4, 3) := by decide +kernel
theorem dX7_atTable_79 : decode cX7_atTable 79 = .ok (.iconst 0, 1) := by decide +kernel
theorem dX7_atTable_80 : decode cX7_atTable 80 = .ok (.iadd, 1) := by decide +kernel
theorem dX7_atTable_81 : decode cX7_atTable 81 = .ok (.putfield 293, 3) := by decide +kernel
theorem dX7_atTable_84 : decode cX7_atTable 84 = .ok (.iinc 4 1, 3) := by decide +kernel
theorem dX7_atTable_87 : decode cX7_atTable 87 = .ok (.goto (-74), 3) := by decide +kernel
theorem dX7_atTable_90 : decode cX7_atTable 90 = .ok (.return_, 1) := by decide +kernel
theorem dX7_table_0 : decode cX7_table 0 = .ok (.iload_n 1, 1) := by decide +kernel
theorem dX7_table_1 : decode cX7_table 1 = .ok (.i2l, 1) := by decide +kernel
theorem dX7_table_2 : decode cX7_table 2 = .ok (.lconst 0, 1) := by decide +kernel
theorem dX7_table_3 : decode cX7_table 3 = .ok (.ldc2_w 296, 3) := by decide +kernel
theorem dX7_table_6 : decode cX7_table 6 = .ok (.invokestatic 75, 3) := by decide +kernel
theorem dX7_table_9 : decode cX7_table 9 = .ok (.ifCond .eq 27, 3) := by decide +kernel
theorem dX7_table_12 : decode cX7_table 12 = .ok (.iload_n 2, 1) := by decide +kernel
theorem dX7_table_13 : decode cX7_table 13 = .ok (.i2l, 1) := by decide +kernel
theorem dX7_table_14 : decode cX7_table 14 = .ok (.lconst 1, 1) := by decide +kernel
theorem dX7_table_15 : decode cX7_table 15 = .ok (.ldc2_w 291, 3) := by decide +kernel
theorem dX7_table_18 : decode cX7_table 18 = .ok (.invokestatic 75, 3) := by decide +kernel
theorem dX7_table_21 : decode cX7_table 21 = .ok (.ifCond .eq 15, 3) := by decide +kernel
theorem dX7_table_24 : decode cX7_table 24 = .ok (.iload_n 3, 1) := by decide +kernel
theorem dX7_table_25 : decode cX7_table 25 = .ok (.i2l, 1) := by decide +kernel
theorem dX7_table_26 : decode cX7_table 26 = .ok (.lconst 0, 1) := by decide +kernel
theorem dX7_table_27 : decode cX7_table 27 = .ok (.ldc2_w 298, 3) := by decide +kernel
theorem dX7_table_30 : decode cX7_table 30 = .ok (.invokestatic 75, 3) := by decide +kernel
theorem dX7_table_33 : decode cX7_table 33 = .ok (.ifCond .ne 6, 3) := by decide +kernel
theorem dX7_table_36 : decode cX7_table 36 = .ok (.bipush (-2), 2) := by decide +kernel
theorem dX7_table_38 : decode cX7_table 38 = .ok (.ireturn, 1) := by decide +kernel
theorem dX7_table_39 : decode cX7_table 39 = .ok (.aload_n 0, 1) := by decide +kernel
theorem dX7_table_40 : decode cX7_table 40 = .ok (.aload_n 0, 1) := by decide +kernel
theorem dX7_table_41 : decode cX7_table 41 = .ok (.getfield 95, 3) := by decide +kernel
theorem dX7_table_44 : decode cX7_table 44 = .ok (.invokevirtual 268, 3) := by decide +kernel
theorem dX7_table_47 : decode cX7_table 47 = .ok (.aload_n 0, 1) := by decide +kernel
theorem dX7_table_48 : decode cX7_table 48 = .ok (.iload_n 1, 1) := by decide +kernel
theorem dX7_table_49 : decode cX7_table 49 = .ok (.iload_n 2, 1) := by decide +kernel
theorem dX7_table_50 : decode cX7_table 50 = .ok (.invokevirtual 300, 3) := by decide +kernel
theorem dX7_table_53 : decode cX7_table 53 = .ok (.iload_n 3, 1) := by decide +kernel
theorem dX7_table_54 : decode cX7_table 54 = .ok (.ifCond .ne 10, 3) := by decide +kernel
theorem dX7_table_57 : decode cX7_table 57 = .ok (.aload_n 0, 1) := by decide +kernel
theorem dX7_table_58 : decode cX7_table 58 = .ok (.getfield 293, 3) := by decide +kernel
theorem dX7_table_61 : decode cX7_table 61 = .ok (.goto 36, 3) := by decide +kernel
theorem dX7_table_64 : decode cX7_table 64 = .ok (.iload_n 3, 1) := by decide +kernel
theorem dX7_table_65 : decode cX7_table 65 = .ok (.iconst 1, 1) := by decide +kernel
theorem dX7_table_66 : decode cX7_table 66 = .ok (.if_icmp .ne 13, 3) := by decide +kernel
theorem dX7_table_69 : decode cX7_table 69 = .ok (.aload_n 0, 1) := by decide +kernel
theorem dX7_table_70 : decode cX7_table 70 = .ok (.getfield 47, 3) := by decide +kernel
theorem dX7_table_73 : decode cX7_table 73 = .ok (.bipush 10, 2) := by decide +kernel
theorem dX7_table_75 : decode cX7_table 75 = .ok (.iaload, 1) := by decide +kernel
theorem dX7_table_76 : decode cX7_table 76 = .ok (.goto 21, 3) := by decide +kernel
theorem dX7_table_79 : decode cX7_table 79 = .ok (.iload_n 3, 1) := by decide +kernel
theorem dX7_table_80 : decode cX7_table 80 = .ok (.iconst 2, 1) := by decide +kernel
theorem dX7_table_81 : decode cX7_table 81 = .ok (.if_icmp .ne 10, 3) := by decide +kernel
theorem dX7_table_84 : decode cX7_table 84 = .ok (.aload_n 0, 1) := by decide +kernel
theorem dX7_table_85 : decode cX7_table 85 = .ok (.invokevirtual 254, 3) := by decide +kernel
theorem dX7_table_88 : decode cX7_table 88 = .ok (.goto 9, 3) := by decide +kernel
theorem dX7_table_91 : decode cX7_table 91 = .ok (.aload_n 0, 1) := by decide +kernel
theorem dX7_table_92 : decode cX7_table 92 = .ok (.getfield 47, 3) := by decide +kernel
theorem dX7_table_95 : decode cX7_table 95 = .ok (.iconst 4, 1) := by decide +kernel
theorem dX7_table_96 : decode cX7_table 96 = .ok (.iaload, 1) := by decide +kernel
theorem dX7_table_97 : decode cX7_table 97 = .ok (.ireturn, 1) := by decide +kernel
theorem dX7_dips_0 : decode cX7_dips 0 = .ok (.iload_n 1, 1) := by decide +kernel
theorem dX7_dips_1 : decode cX7_dips 1 = .ok (.i2l, 1) := by decide +kernel
theorem dX7_dips_2 : decode cX7_dips 2 = .ok (.lconst 1, 1) := by decide +kernel
theorem dX7_dips_3 : decode cX7_dips 3 = .ok (.ldc2_w 296, 3) := by decide +kernel
theorem dX7_dips_6 : decode cX7_dips 6 = .ok (.invokestatic 75, 3) := by decide +kernel
theorem dX7_dips_9 : decode cX7_dips 9 = .ok (.ifCond .eq 15, 3) := by decide +kernel
theorem dX7_dips_12 : decode cX7_dips 12 = .ok (.iload_n 2, 1) := by decide +kernel
theorem dX7_dips_13 : decode cX7_dips 13 = .ok (.i2l, 1) := by decide +kernel
theorem dX7_dips_14 : decode cX7_dips 14 = .ok (.lconst 0, 1) := by decide +kernel
theorem dX7_dips_15 : decode cX7_dips 15 = .ok (.ldc2_w 303, 3) := by decide +kernel
theorem dX7_dips_18 : decode cX7_dips 18 = .ok (.invokestatic 75, 3) := by decide +kernel
theorem dX7_dips_21 : decode cX7_dips 21 = .ok (.ifCond .ne 6, 3) := by decide +kernel
theorem dX7_dips_24 : decode cX7_dips 24 = .ok (.bipush (-2), 2) := by decide +kernel
theorem dX7_dips_26 : decode cX7_dips 26 = .ok (.ireturn, 1) := by decide +kernel
theorem dX7_dips_27 : decode cX7_dips 27 = .ok (.bipush 30, 2) := by decide +kernel
theorem dX7_dips_29 : decode cX7_dips 29 = .ok (.istore_n 3, 1) := by decide +kernel
theorem dX7_dips_30 : decode cX7_dips 30 = .ok (.iload_n 3, 1) := by decide +kernel
theorem dX7_dips_31 : decode cX7_dips 31 = .ok (.ifCond .le 44, 3) := by decide +kernel
theorem dX7_dips_34 : decode cX7_dips 34 = .ok (.aload_n 0, 1) := by decide +kernel
theorem dX7_dips_35 : decode cX7_dips 35 = .ok (.aload_n 0, 1) := by decide +kernel
theorem dX7_dips_36 : decode cX7_dips 36 = .ok (.getfield 95, 3) := by decide +kernel
theorem dX7_dips_39 : decode cX7_dips 39 = .ok (.invokevirtual 268, 3) := by decide +kernel
theorem dX7_dips_42 : decode cX7_dips 42 = .ok (.aload_n 0, 1) := by decide +kernel
theorem dX7_dips_43 : decode cX7_dips 43 = .ok (.iload_n 1, 1) := by decide +kernel
theorem dX7_dips_44 : decode cX7_dips 44 = .ok (.iload_n 3, 1) := by decide +kernel
theorem dX7_dips_45 : decode cX7_dips 45 = .ok (.invokevirtual 300, 3) := by decide +kernel
theorem dX7_dips_48 : decode cX7_dips 48 = .ok (.aload_n 0, 1) := by decide +kernel
theorem dX7_dips_49 : decode cX7_dips 49 = .ok (.getfield 293, 3) := by decide +kernel
theorem dX7_dips_52 : decode cX7_dips 52 = .ok (.iload_n 1, 1) := by decide +kernel
theorem dX7_dips_53 : decode cX7_dips 53 = .ok (.if_icmp .ne 16, 3) := by decide +kernel
theorem dX7_dips_56 : decode cX7_dips 56 = .ok (.aload_n 0, 1) := by decide +kernel
theorem dX7_dips_57 : decode cX7_dips 57 = .ok (.getfield 47, 3) := by decide +kernel
theorem dX7_dips_60 : decode cX7_dips 60 = .ok (.bipush 10, 2) := by decide +kernel
theorem dX7_dips_62 : decode cX7_dips 62 = .ok (.iaload, 1) := by decide +kernel
theorem dX7_dips_63 : decode cX7_dips 63 = .ok (.iload_n 2, 1) := by decide +kernel
theorem dX7_dips_64 : decode cX7_dips 64 = .ok (.if_icmp .gt 5, 3) := by decide +kernel
theorem dX7_dips_67 : decode cX7_dips 67 = .ok (.iload_n 3, 1) := by decide +kernel
theorem dX7_dips_68 : decode cX7_dips 68 = .ok (.ireturn, 1) := by decide +kernel
theorem dX7_dips_69 : decode cX7_dips 69 = .ok (.iinc 3 (-1), 3) := by decide +kernel
theorem dX7_dips_72 : decode cX7_dips 72 = .ok (.goto (-42), 3) := by decide +kernel
theorem dX7_dips_75 : decode cX7_dips 75 = .ok (.iconst (-1), 1) := by decide +kernel
theorem dX7_dips_76 : decode cX7_dips 76 = .ok (.ireturn, 1) := by decide +kernel
theorem dX7_wick_0 : decode cX7_wick 0 = .ok (.iload_n 1, 1) := by decide +kernel
theorem dX7_wick_1 : decode cX7_wick 1 = .ok (.i2l, 1) := by decide +kernel
theorem dX7_wick_2 : decode cX7_wick 2 = .ok (.lconst 1, 1) := by decide +kernel
theorem dX7_wick_3 : decode cX7_wick 3 = .ok (.ldc2_w 296, 3) := by decide +kernel
theorem dX7_wick_6 : decode cX7_wick 6 = .ok (.invokestatic 75, 3) := by decide +kernel
theorem dX7_wick_9 : decode cX7_wick 9 = .ok (.ifCond .eq 15, 3) := by decide +kernel
theorem dX7_wick_12 : decode cX7_wick 12 = .ok (.iload_n 2, 1) := by decide +kernel
theorem dX7_wick_13 : decode cX7_wick 13 = .ok (.i2l, 1) := by decide +kernel
theorem dX7_wick_14 : decode cX7_wick 14 = .ok (.lconst 1, 1) := by decide +kernel
theorem dX7_wick_15 : decode cX7_wick 15 = .ok (.ldc2_w 291, 3) := by decide +kernel
theorem dX7_wick_18 : decode cX7_wick 18 = .ok (.invokestatic 75, 3) := by decide +kernel
theorem dX7_wick_21 : decode cX7_wick 21 = .ok (.ifCond .ne 6, 3) := by decide +kernel
theorem dX7_wick_24 : decode cX7_wick 24 = .ok (.bipush (-2), 2) := by decide +kernel
theorem dX7_wick_26 : decode cX7_wick 26 = .ok (.ireturn, 1) := by decide +kernel
theorem dX7_wick_27 : decode cX7_wick 27 = .ok (.iconst 0, 1) := by decide +kernel
theorem dX7_wick_28 : decode cX7_wick 28 = .ok (.istore_n 3, 1) := by decide +kernel
theorem dX7_wick_29 : decode cX7_wick 29 = .ok (.iconst (-1), 1) := by decide +kernel
theorem dX7_wick_30 : decode cX7_wick 30 = .ok (.istore 4, 2) := by decide +kernel
theorem dX7_wick_32 : decode cX7_wick 32 = .ok (.iconst 0, 1) := by decide +kernel
theorem dX7_wick_33 : decode cX7_wick 33 = .ok (.istore 5, 2) := by decide +kernel
theorem dX7_wick_35 : decode cX7_wick 35 = .ok (.iload 5, 2) := by decide +kernel
theorem dX7_wick_37 : decode cX7_wick 37 = .ok (.bipush 10, 2) := by decide +kernel
theorem dX7_wick_39 : decode cX7_wick 39 = .ok (.if_icmp .ge 50, 3) := by decide +kernel
theorem dX7_wick_42 : decode cX7_wick 42 = .ok (.aload_n 0, 1) := by decide +kernel
theorem dX7_wick_43 : decode cX7_wick 43 = .ok (.aload_n 0, 1) := by decide +kernel
theorem dX7_wick_44 : decode cX7_wick 44 = .ok (.getfield 95, 3) := by decide +kernel
theorem dX7_wick_47 : decode cX7_wick 47 = .ok (.invokevirtual 268, 3) := by decide +kernel
theorem dX7_wick_50 : decode cX7_wick 50 = .ok (.aload_n 0, 1) := by decide +kernel
theorem dX7_wick_51 : decode cX7_wick 51 = .ok (.getfield 47, 3) := by decide +kernel
theorem dX7_wick_54 : decode cX7_wick 54 = .ok (.bipush 13, 2) := by decide +kernel
theorem dX7_wick_56 : decode cX7_wick 56 = .ok (.iload 5, 2) := by decide +kernel
theorem dX7_wick_58 : decode cX7_wick 58 = .ok (.iastore, 1) := by decide +kernel
theorem dX7_wick_59 : decode cX7_wick 59 = .ok (.aload_n 0, 1) := by decide +kernel
theorem dX7_wick_60 : decode cX7_wick 60 = .ok (.iload_n 1, 1) := by decide +kernel
theorem dX7_wick_61 : decode cX7_wick 61 = .ok (.iload_n 2, 1) := by decide +kernel
theorem dX7_wick_62 : decode cX7_wick 62 = .ok (.invokevirtual 300, 3) := by decide +kernel
theorem dX7_wick_65 : decode cX7_wick 65 = .ok (.aload_n 0, 1) := by decide +kernel
theorem dX7_wick_66 : decode cX7_wick 66 = .ok (.getfield 293, 3) := by decide +kernel
theorem dX7_wick_69 : decode cX7_wick 69 = .ok (.iload 4, 2) := by decide +kernel
theorem dX7_wick_71 : decode cX7_wick 71 = .ok (.if_icmp .lt 12, 3) := by decide +kernel
theorem dX7_wick_74 : decode cX7_wick 74 = .ok (.iload 5, 2) := by decide +kernel
theorem dX7_wick_76 : decode cX7_wick 76 = .ok (.istore_n 3, 1) := by decide +kernel
theorem dX7_wick_77 : decode cX7_wick 77 = .ok (.aload_n 0, 1) := by decide +kernel
theorem dX7_wick_78 : decode cX7_wick 78 = .ok (.getfield 293, 3) := by decide +kernel
theorem dX7_wick_81 : decode cX7_wick 81 = .ok (.istore 4, 2) := by decide +kernel
theorem dX7_wick_83 : decode cX7_wick 83 = .ok (.iinc 5 1, 3) := by decide +kernel
theorem dX7_wick_86 : decode cX7_wick 86 = .ok (.goto (-51), 3) := by decide +kernel
theorem dX7_wick_89 : decode cX7_wick 89 = .ok (.iload_n 3, 1) := by decide +kernel
theorem dX7_wick_90 : decode cX7_wick 90 = .ok (.ireturn, 1) := by decide +kernel
theorem dX7_refuses_0 : decode cX7_refuses 0 = .ok (.iload_n 1, 1) := by decide +kernel
theorem dX7_refuses_1 : decode cX7_refuses 1 = .ok (.invokestatic 305, 3) := by decide +kernel
theorem dX7_refuses_4 : decode cX7_refuses 4 = .ok (.ifCond .ne 6, 3) := by decide +kernel
theorem dX7_refuses_7 : decode cX7_refuses 7 = .ok (.bipush (-2), 2) := by decide +kernel
theorem dX7_refuses_9 : decode cX7_refuses 9 = .ok (.ireturn, 1) := by decide +kernel
theorem dX7_refuses_10 : decode cX7_refuses 10 = .ok (.aload_n 0, 1) := by decide +kernel
theorem dX7_refuses_11 : decode cX7_refuses 11 = .ok (.getfield 56, 3) := by decide +kernel
theorem dX7_refuses_14 : decode cX7_refuses 14 = .ok (.iload_n 1, 1) := by decide +kernel
theorem dX7_refuses_15 : decode cX7_refuses 15 = .ok (.iaload, 1) := by decide +kernel
theorem dX7_refuses_16 : decode cX7_refuses 16 = .ok (.ifCond .ge 8, 3) := by decide +kernel
theorem dX7_refuses_19 : decode cX7_refuses 19 = .ok (.bipush (-11), 2) := by decide +kernel
theorem dX7_refuses_21 : decode cX7_refuses 21 = .ok (.goto 22, 3) := by decide +kernel
theorem dX7_refuses_24 : decode cX7_refuses 24 = .ok (.aload_n 0, 1) := by decide +kernel
theorem dX7_refuses_25 : decode cX7_refuses 25 = .ok (.getfield 59, 3) := by decide +kernel
theorem dX7_refuses_28 : decode cX7_refuses 28 = .ok (.iload_n 1, 1) := by decide +kernel
theorem dX7_refuses_29 : decode cX7_refuses 29 = .ok (.iaload, 1) := by decide +kernel
theorem dX7_refuses_30 : decode cX7_refuses 30 = .ok (.aload_n 0, 1) := by decide +kernel
theorem dX7_refuses_31 : decode cX7_refuses 31 = .ok (.getfield 95, 3) := by decide +kernel
theorem dX7_refuses_34 : decode cX7_refuses 34 = .ok (.if_icmp .eq 8, 3) := by decide +kernel
theorem dX7_refuses_37 : decode cX7_refuses 37 = .ok (.bipush (-2), 2) := by decide +kernel
theorem dX7_refuses_39 : decode cX7_refuses 39 = .ok (.goto 4, 3) := by decide +kernel
theorem dX7_refuses_42 : decode cX7_refuses 42 = .ok (.iconst 1, 1) := by decide +kernel
theorem dX7_refuses_43 : decode cX7_refuses 43 = .ok (.ireturn, 1) := by decide +kernel
theorem dX7_judge_0 : decode cX7_judge 0 = .ok (.aload_n 0, 1) := by decide +kernel
theorem dX7_judge_1 : decode cX7_judge 1 = .ok (.iload_n 1, 1) := by decide +kernel
theorem dX7_judge_2 : decode cX7_judge 2 = .ok (.invokevirtual 308, 3) := by decide +kernel
theorem dX7_judge_5 : decode cX7_judge 5 = .ok (.ifCond .ge 9, 3) := by decide +kernel
theorem dX7_judge_8 : decode cX7_judge 8 = .ok (.aload_n 0, 1) := by decide +kernel
theorem dX7_judge_9 : decode cX7_judge 9 = .ok (.iload_n 1, 1) := by decide +kernel
theorem dX7_judge_10 : decode cX7_judge 10 = .ok (.invokevirtual 308, 3) := by decide +kernel
theorem dX7_judge_13 : decode cX7_judge 13 = .ok (.ireturn, 1) := by decide +kernel
theorem dX7_judge_14 : decode cX7_judge 14 = .ok (.aload_n 0, 1) := by decide +kernel
theorem dX7_judge_15 : decode cX7_judge 15 = .ok (.invokevirtual 248, 3) := by decide +kernel
theorem dX7_judge_18 : decode cX7_judge 18 = .ok (.iconst 0, 1) := by decide +kernel
theorem dX7_judge_19 : decode cX7_judge 19 = .ok (.istore_n 2, 1) := by decide +kernel
theorem dX7_judge_20 : decode cX7_judge 20 = .ok (.iload_n 2, 1) := by decide +kernel
theorem dX7_judge_21 : decode cX7_judge 21 = .ok (.aload_n 0, 1) := by decide +kernel
theorem dX7_judge_22 : decode cX7_judge 22 = .ok (.getfield 95, 3) := by decide +kernel
theorem dX7_judge_25 : decode cX7_judge 25 = .ok (.if_icmp .ge 34, 3) := by decide +kernel
theorem dX7_judge_28 : decode cX7_judge 28 = .ok (.aload_n 0, 1) := by decide +kernel
theorem dX7_judge_29 : decode cX7_judge 29 = .ok (.iload_n 2, 1) := by decide +kernel
theorem dX7_judge_30 : decode cX7_judge 30 = .ok (.invokevirtual 251, 3) := by decide +kernel
theorem dX7_judge_33 : decode cX7_judge 33 = .ok (.aload_n 0, 1) := by decide +kernel
theorem dX7_judge_34 : decode cX7_judge 34 = .ok (.invokevirtual 260, 3) := by decide +kernel
theorem dX7_judge_37 : decode cX7_judge 37 = .ok (.aload_n 0, 1) := by decide +kernel
theorem dX7_judge_38 : decode cX7_judge 38 = .ok (.getfield 62, 3) := by decide +kernel
theorem dX7_judge_41 : decode cX7_judge 41 = .ok (.bipush 40, 2) := by decide +kernel
theorem dX7_judge_43 : decode cX7_judge 43 = .ok (.iload_n 1, 1) := by decide +kernel
theorem dX7_judge_44 : decode cX7_judge 44 = .ok (.imul, 1) := by decide +kernel
theorem dX7_judge_45 : decode cX7_judge 45 = .ok (.iload_n 2, 1) := by decide +kernel
theorem dX7_judge_46 : decode cX7_judge 46 = .ok (.iadd, 1) := by decide +kernel
theorem dX7_judge_47 : decode cX7_judge 47 = .ok (.iaload, 1) := by decide +kernel
theorem dX7_judge_48 : decode cX7_judge 48 = .ok (.if_icmp .eq 5, 3) := by decide +kernel
theorem dX7_judge_51 : decode cX7_judge 51 = .ok (.iload_n 2, 1) := by decide +kernel
theorem dX7_judge_52 : decode cX7_judge 52 = .ok (.ireturn, 1) := by decide +kernel
theorem dX7_judge_53 : decode cX7_judge 53 = .ok (.iinc 2 1, 3) := by decide +kernel
theorem dX7_judge_56 : decode cX7_judge 56 = .ok (.goto (-36), 3) := by decide +kernel
theorem dX7_judge_59 : decode cX7_judge 59 = .ok (.iconst (-1), 1) := by decide +kernel
theorem dX7_judge_60 : decode cX7_judge 60 = .ok (.ireturn, 1) := by decide +kernel
theorem dX7_film_0 : decode cX7_film 0 = .ok (.iload_n 1, 1) := by decide +kernel
theorem dX7_film_1 : decode cX7_film 1 = .ok (.invokestatic 305, 3) := by decide +kernel
theorem dX7_film_4 : decode cX7_film 4 = .ok (.ifCond .ne 6, 3) := by decide +kernel
theorem dX7_film_7 : decode cX7_film 7 = .ok (.bipush (-2), 2) := by decide +kernel
theorem dX7_film_9 : decode cX7_film 9 = .ok (.ireturn, 1) := by decide +kernel
theorem dX7_film_10 : decode cX7_film 10 = .ok (.aload_n 0, 1) := by decide +kernel
theorem dX7_film_11 : decode cX7_film 11 = .ok (.iload_n 1, 1) := by decide +kernel
theorem dX7_film_12 : decode cX7_film 12 = .ok (.iconst 2, 1) := by decide +kernel
theorem dX7_film_13 : decode cX7_film 13 = .ok (.aload_n 0, 1) := by decide +kernel
theorem dX7_film_14 : decode cX7_film 14 = .ok (.getfield 95, 3) := by decide +kernel
theorem dX7_film_17 : decode cX7_film 17 = .ok (.invokevirtual 311, 3) := by decide +kernel
theorem dX7_film_20 : decode cX7_film 20 = .ok (.istore_n 2, 1) := by decide +kernel
theorem dX7_film_21 : decode cX7_film 21 = .ok (.aload_n 0, 1) := by decide +kernel
theorem dX7_film_22 : decode cX7_film 22 = .ok (.invokevirtual 248, 3) := by decide +kernel
theorem dX7_film_25 : decode cX7_film 25 = .ok (.iconst 0, 1) := by decide +kernel
theorem dX7_film_26 : decode cX7_film 26 = .ok (.istore_n 3, 1) := by decide +kernel
theorem dX7_film_27 : decode cX7_film 27 = .ok (.iload_n 3, 1) := by decide +kernel
theorem dX7_film_28 : decode cX7_film 28 = .ok (.aload_n 0, 1) := by decide +kernel
theorem dX7_film_29 : decode cX7_film 29 = .ok (.getfield 95, 3) := by decide +kernel
theorem dX7_film_32 : decode cX7_film 32 = .ok (.if_icmp .ge 31, 3) := by decide +kernel
theorem dX7_film_35 : decode cX7_film 35 = .ok (.aload_n 0, 1) := by decide +kernel
theorem dX7_film_36 : decode cX7_film 36 = .ok (.iload_n 3, 1) := by decide +kernel
theorem dX7_film_37 : decode cX7_film 37 = .ok (.invokevirtual 251, 3) := by decide +kernel
theorem dX7_film_40 : decode cX7_film 40 = .ok (.aload_n 0, 1) := by decide +kernel
theorem dX7_film_41 : decode cX7_film 41 = .ok (.getfield 62, 3) := by decide +kernel
theorem dX7_film_44 : decode cX7_film 44 = .ok (.bipush 40, 2) := by decide +kernel
theorem dX7_film_46 : decode cX7_film 46 = .ok (.iload_n 1, 1) := by decide +kernel
theorem dX7_film_47 : decode cX7_film 47 = .ok (.imul, 1) := by decide +kernel
theorem dX7_film_48 : decode cX7_film 48 = .ok (.iload_n 3, 1) := by decide +kernel
theorem dX7_film_49 : decode cX7_film 49 = .ok (.iadd, 1) := by decide +kernel
theorem dX7_film_50 : decode cX7_film 50 = .ok (.aload_n 0, 1) := by decide +kernel
theorem dX7_film_51 : decode cX7_film 51 = .ok (.getfield 47, 3) := by decide +kernel
theorem dX7_film_54 : decode cX7_film 54 = .ok (.iconst 4, 1) := by decide +kernel
theorem dX7_film_55 : decode cX7_film 55 = .ok (.iaload, 1) := by decide +kernel
theorem dX7_film_56 : decode cX7_film 56 = .ok (.iastore, 1) := by decide +kernel
theorem dX7_film_57 : decode cX7_film 57 = .ok (.iinc 3 1, 3) := by decide +kernel
theorem dX7_film_60 : decode cX7_film 60 = .ok (.goto (-33), 3) := by decide +kernel
theorem dX7_film_63 : decode cX7_film 63 = .ok (.aload_n 0, 1) := by decide +kernel
theorem dX7_film_64 : decode cX7_film 64 = .ok (.getfield 95, 3) := by decide +kernel
theorem dX7_film_67 : decode cX7_film 67 = .ok (.ireturn, 1) := by decide +kernel
theorem dX7_isFilm_0 : decode cX7_isFilm 0 = .ok (.aload_n 0, 1) := by decide +kernel
theorem dX7_isFilm_1 : decode cX7_isFilm 1 = .ok (.invokevirtual 248, 3) := by decide +kernel
theorem dX7_isFilm_4 : decode cX7_isFilm 4 = .ok (.iconst 0, 1) := by decide +kernel
theorem dX7_isFilm_5 : decode cX7_isFilm 5 = .ok (.istore_n 2, 1) := by decide +kernel
theorem dX7_isFilm_6 : decode cX7_isFilm 6 = .ok (.iload_n 2, 1) := by decide +kernel
theorem dX7_isFilm_7 : decode cX7_isFilm 7 = .ok (.aload_n 0, 1) := by decide +kernel
theorem dX7_isFilm_8 : decode cX7_isFilm 8 = .ok (.getfield 95, 3) := by decide +kernel
theorem dX7_isFilm_11 : decode cX7_isFilm 11 = .ok (.if_icmp .ge 36, 3) := by decide +kernel
theorem dX7_isFilm_14 : decode cX7_isFilm 14 = .ok (.aload_n 0, 1) := by decide +kernel
theorem dX7_isFilm_15 : decode cX7_isFilm 15 = .ok (.iload_n 2, 1) := by decide +kernel
theorem dX7_isFilm_16 : decode cX7_isFilm 16 = .ok (.invokevirtual 251, 3) := by decide +kernel
theorem dX7_isFilm_19 : decode cX7_isFilm 19 = .ok (.aload_n 0, 1) := by decide +kernel
theorem dX7_isFilm_20 : decode cX7_isFilm 20 = .ok (.getfield 47, 3) := by decide +kernel
theorem dX7_isFilm_23 : decode cX7_isFilm 23 = .ok (.iconst 4, 1) := by decide +kernel
theorem dX7_isFilm_24 : decode cX7_isFilm 24 = .ok (.iaload, 1) := by decide +kernel
theorem dX7_isFilm_25 : decode cX7_isFilm 25 = .ok (.aload_n 0, 1) := by decide +kernel
theorem dX7_isFilm_26 : decode cX7_isFilm 26 = .ok (.getfield 62, 3) := by decide +kernel
theorem dX7_isFilm_29 : decode cX7_isFilm 29 = .ok (.bipush 40, 2) := by decide +kernel
theorem dX7_isFilm_31 : decode cX7_isFilm 31 = .ok (.iload_n 1, 1) := by decide +kernel
theorem dX7_isFilm_32 : decode cX7_isFilm 32 = .ok (.imul, 1) := by decide +kernel
theorem dX7_isFilm_33 : decode cX7_isFilm 33 = .ok (.iload_n 2, 1) := by decide +kernel
theorem dX7_isFilm_34 : decode cX7_isFilm 34 = .ok (.iadd, 1) := by decide +kernel
theorem dX7_isFilm_35 : decode cX7_isFilm 35 = .ok (.iaload, 1) := by decide +kernel
theorem dX7_isFilm_36 : decode cX7_isFilm 36 = .ok (.if_icmp .eq 5, 3) := by decide +kernel
theorem dX7_isFilm_39 : decode cX7_isFilm 39 = .ok (.iconst 0, 1) := by decide +kernel
theorem dX7_isFilm_40 : decode cX7_isFilm 40 = .ok (.ireturn, 1) := by decide +kernel
theorem dX7_isFilm_41 : decode cX7_isFilm 41 = .ok (.iinc 2 1, 3) := by decide +kernel
theorem dX7_isFilm_44 : decode cX7_isFilm 44 = .ok (.goto (-38), 3) := by decide +kernel
theorem dX7_isFilm_47 : decode cX7_isFilm 47 = .ok (.iconst 1, 1) := by decide +kernel
theorem dX7_isFilm_48 : decode cX7_isFilm 48 = .ok (.ireturn, 1) := by decide +kernel
theorem dX7_ages_0 : decode cX7_ages 0 = .ok (.aload_n 0, 1) := by decide +kernel
theorem dX7_ages_1 : decode cX7_ages 1 = .ok (.iload_n 1, 1) := by decide +kernel
theorem dX7_ages_2 : decode cX7_ages 2 = .ok (.invokevirtual 85, 3) := by decide +kernel
theorem dX7_ages_5 : decode cX7_ages 5 = .ok (.ifCond .eq 11, 3) := by decide +kernel
theorem dX7_ages_8 : decode cX7_ages 8 = .ok (.aload_n 0, 1) := by decide +kernel
theorem dX7_ages_9 : decode cX7_ages 9 = .ok (.iload_n 2, 1) := by decide +kernel
theorem dX7_ages_10 : decode cX7_ages 10 = .ok (.invokevirtual 308, 3) := by decide +kernel
theorem dX7_ages_13 : decode cX7_ages 13 = .ok (.ifCond .ge 7, 3) := by decide +kernel
theorem dX7_ages_16 : decode cX7_ages 16 = .ok (.ldc2_w 283, 3) := by decide +kernel
theorem dX7_ages_19 : decode cX7_ages 19 = .ok (.lreturn, 1) := by decide +kernel
theorem dX7_ages_20 : decode cX7_ages 20 = .ok (.aload_n 0, 1) := by decide +kernel
theorem dX7_ages_21 : decode cX7_ages 21 = .ok (.getfield 9, 3) := by decide +kernel
theorem dX7_ages_24 : decode cX7_ages 24 = .ok (.iconst 5, 1) := by decide +kernel
theorem dX7_ages_25 : decode cX7_ages 25 = .ok (.iload_n 1, 1) := by decide +kernel
theorem dX7_ages_26 : decode cX7_ages 26 = .ok (.imul, 1) := by decide +kernel
theorem dX7_ages_27 : decode cX7_ages 27 = .ok (.iaload, 1) := by decide +kernel
theorem dX7_ages_28 : decode cX7_ages 28 = .ok (.istore_n 3, 1) := by decide +kernel
theorem dX7_ages_29 : decode cX7_ages 29 = .ok (.lconst 0, 1) := by decide +kernel
theorem dX7_ages_30 : decode cX7_ages 30 = .ok (.lstore 4, 2) := by decide +kernel
theorem dX7_ages_32 : decode cX7_ages 32 = .ok (.iconst 1, 1) := by decide +kernel
theorem dX7_ages_33 : decode cX7_ages 33 = .ok (.istore 6, 2) := by decide +kernel
theorem dX7_ages_35 : decode cX7_ages 35 = .ok (.iload 6, 2) := by decide +kernel
theorem dX7_ages_37 : decode cX7_ages 37 = .ok (.bipush 60, 2) := by decide +kernel
theorem dX7_ages_39 : decode cX7_ages 39 = .ok (.if_icmp .gt 40, 3) := by decide +kernel
theorem dX7_ages_42 : decode cX7_ages 42 = .ok (.aload_n 0, 1) := by decide +kernel
theorem dX7_ages_43 : decode cX7_ages 43 = .ok (.getfield 9, 3) := by decide +kernel
theorem dX7_ages_46 : decode cX7_ages 46 = .ok (.iconst 5, 1) := by decide +kernel
theorem dX7_ages_47 : decode cX7_ages 47 = .ok (.iload_n 1, 1) := by decide +kernel
theorem dX7_ages_48 : decode cX7_ages 48 = .ok (.imul, 1) := by decide +kernel
theorem dX7_ages_49 : decode cX7_ages 49 = .ok (.iload 6, 2) := by decide +kernel
theorem dX7_ages_51 : decode cX7_ages 51 = .ok (.iastore, 1) := by decide +kernel
theorem dX7_ages_52 : decode cX7_ages 52 = .ok (.lload 4, 2) := by decide +kernel
theorem dX7_ages_54 : decode cX7_ages 54 = .ok (.aload_n 0, 1) := by decide +kernel
theorem dX7_ages_55 : decode cX7_ages 55 = .ok (.iload_n 2, 1) := by decide +kernel
theorem dX7_ages_56 : decode cX7_ages 56 = .ok (.invokevirtual 314, 3) := by decide +kernel
theorem dX7_ages_59 : decode cX7_ages 59 = .ok (.ifCond .eq 10, 3) := by decide +kernel
theorem dX7_ages_62 : decode cX7_ages 62 = .ok (.lconst 1, 1) := by decide +kernel
theorem dX7_ages_63 : decode cX7_ages 63 = .ok (.iload 6, 2) := by decide +kernel
theorem dX7_ages_65 : decode cX7_ages 65 = .ok (.lshl, 1) := by decide +kernel
theorem dX7_ages_66 : decode cX7_ages 66 = .ok (.goto 4, 3) := by decide +kernel
theorem dX7_ages_69 : decode cX7_ages 69 = .ok (.lconst 0, 1) := by decide +kernel
theorem dX7_ages_70 : decode cX7_ages 70 = .ok (.lor, 1) := by decide +kernel
theorem dX7_ages_71 : decode cX7_ages 71 = .ok (.lstore 4, 2) := by decide +kernel
theorem dX7_ages_73 : decode cX7_ages 73 = .ok (.iinc 6 1, 3) := by decide +kernel
theorem dX7_ages_76 : decode cX7_ages 76 = .ok (.goto (-41), 3) := by decide +kernel
theorem dX7_ages_79 : decode cX7_ages 79 = .ok (.aload_n 0, 1) := by decide +kernel
theorem dX7_ages_80 : decode cX7_ages 80 = .ok (.getfield 9, 3) := by decide +kernel
theorem dX7_ages_83 : decode cX7_ages 83 = .ok (.iconst 5, 1) := by decide +kernel
theorem dX7_ages_84 : decode cX7_ages 84 = .ok (.iload_n 1, 1) := by decide +kernel
theorem dX7_ages_85 : decode cX7_ages 85 = .ok (.imul, 1) := by decide +kernel
theorem dX7_ages_86 : decode cX7_ages 86 = .ok (.iload_n 3, 1) := by decide +kernel
theorem dX7_ages_87 : decode cX7_ages 87 = .ok (.iastore, 1) := by decide +kernel
theorem dX7_ages_88 : decode cX7_ages 88 = .ok (.lload 4, 2) := by decide +kernel
theorem dX7_ages_90 : decode cX7_ages 90 = .ok (.lreturn, 1) := by decide +kernel
theorem dX7_which_0 : decode cX7_which 0 = .ok (.aload_n 0, 1) := by decide +kernel
theorem dX7_which_1 : decode cX7_which 1 = .ok (.iload_n 1, 1) := by decide +kernel
theorem dX7_which_2 : decode cX7_which 2 = .ok (.invokevirtual 308, 3) := by decide +kernel
theorem dX7_which_5 : decode cX7_which 5 = .ok (.ifCond .ge 9, 3) := by decide +kernel
theorem dX7_which_8 : decode cX7_which 8 = .ok (.aload_n 0, 1) := by decide +kernel
theorem dX7_which_9 : decode cX7_which 9 = .ok (.iload_n 1, 1) := by decide +kernel
theorem dX7_which_10 : decode cX7_which 10 = .ok (.invokevirtual 308, 3) := by decide +kernel
theorem dX7_which_13 : decode cX7_which 13 = .ok (.ireturn, 1) := by decide +kernel
theorem dX7_which_14 : decode cX7_which 14 = .ok (.aload_n 0, 1) := by decide +kernel
theorem dX7_which_15 : decode cX7_which 15 = .ok (.getfield 98, 3) := by decide +kernel
theorem dX7_which_18 : decode cX7_which 18 = .ok (.istore_n 2, 1) := by decide +kernel
theorem dX7_which_19 : decode cX7_which 19 = .ok (.iconst 0, 1) := by decide +kernel
theorem dX7_which_20 : decode cX7_which 20 = .ok (.istore_n 3, 1) := by decide +kernel
theorem dX7_which_21 : decode cX7_which 21 = .ok (.iconst 0, 1) := by decide +kernel
theorem dX7_which_22 : decode cX7_which 22 = .ok (.istore 4, 2) := by decide +kernel
theorem dX7_which_24 : decode cX7_which 24 = .ok (.iload 4, 2) := by decide +kernel
theorem dX7_which_26 : decode cX7_which 26 = .ok (.aload_n 0, 1) := by decide +kernel
theorem dX7_which_27 : decode cX7_which 27 = .ok (.getfield 68, 3) := by decide +kernel
theorem dX7_which_30 : decode cX7_which 30 = .ok (.if_icmp .ge 34, 3) := by decide +kernel
theorem dX7_which_33 : decode cX7_which 33 = .ok (.aload_n 0, 1) := by decide +kernel
theorem dX7_which_34 : decode cX7_which 34 = .ok (.iload 4, 2) := by decide +kernel
theorem dX7_which_36 : decode cX7_which 36 = .ok (.putfield 98, 3) := by decide +kernel
theorem dX7_which_39 : decode cX7_which 39 = .ok (.iload_n 3, 1) := by decide +kernel
theorem dX7_which_40 : decode cX7_which 40 = .ok (.aload_n 0, 1) := by decide +kernel
theorem dX7_which_41 : decode cX7_which 41 = .ok (.iload_n 1, 1) := by decide +kernel
theorem dX7_which_42 : decode cX7_which 42 = .ok (.invokevirtual 314, 3) := by decide +kernel
theorem dX7_which_45 : decode cX7_which 45 = .ok (.ifCond .eq 10, 3) := by decide +kernel
theorem dX7_which_48 : decode cX7_which 48 = .ok (.iconst 1, 1) := by decide +kernel
theorem dX7_which_49 : decode cX7_which 49 = .ok (.iload 4, 2) := by decide +kernel
theorem dX7_which_51 : decode cX7_which 51 = .ok (.ishl, 1) := by decide +kernel
theorem dX7_which_52 : decode cX7_which 52 = .ok (.goto 4, 3) := by decide +kernel
theorem dX7_which_55 : decode cX7_which 55 = .ok (.iconst 0, 1) := by decide +kernel
theorem dX7_which_56 : decode cX7_which 56 = .ok (.ior, 1) := by decide +kernel
theorem dX7_which_57 : decode cX7_which 57 = .ok (.istore_n 3, 1) := by decide +kernel
theorem dX7_which_58 : decode cX7_which 58 = .ok (.iinc 4 1, 3) := by decide +kernel
theorem dX7_which_61 : decode cX7_which 61 = .ok (.goto (-37), 3) := by decide +kernel
theorem dX7_which_64 : decode cX7_which 64 = .ok (.aload_n 0, 1) := by decide +kernel
theorem dX7_which_65 : decode cX7_which 65 = .ok (.iload_n 2, 1) := by decide +kernel
theorem dX7_which_66 : decode cX7_which 66 = .ok (.putfield 98, 3) := by decide +kernel
theorem dX7_which_69 : decode cX7_which 69 = .ok (.iload_n 3, 1) := by decide +kernel
theorem dX7_which_70 : decode cX7_which 70 = .ok (.ireturn, 1) := by decide +kernel
theorem dX7_goesDrawn_0 : decode cX7_goesDrawn 0 = .ok (.aload_n 0, 1) := by decide +kernel
theorem dX7_goesDrawn_1 : decode cX7_goesDrawn 1 = .ok (.invokevirtual 248, 3) := by decide +kernel
theorem dX7_goesDrawn_4 : decode cX7_goesDrawn 4 = .ok (.aload_n 0, 1) := by decide +kernel
theorem dX7_goesDrawn_5 : decode cX7_goesDrawn 5 = .ok (.iconst 1, 1) := by decide +kernel
theorem dX7_goesDrawn_6 : decode cX7_goesDrawn 6 = .ok (.putfield 213, 3) := by decide +kernel
theorem dX7_goesDrawn_9 : decode cX7_goesDrawn 9 = .ok (.aload_n 0, 1) := by decide +kernel
theorem dX7_goesDrawn_10 : decode cX7_goesDrawn 10 = .ok (.iload_n 2, 1) := by decide +kernel
theorem dX7_goesDrawn_11 : decode cX7_goesDrawn 11 = .ok (.i2l, 1) := by decide +kernel
theorem dX7_goesDrawn_12 : decode cX7_goesDrawn 12 = .ok (.lconst 1, 1) := by decide +kernel
theorem dX7_goesDrawn_13 : decode cX7_goesDrawn 13 = .ok (.ladd, 1) := by decide +kernel
theorem dX7_goesDrawn_14 : decode cX7_goesDrawn 14 = .ok (.ldc2_w 220, 3) := by decide +kernel
theorem dX7_goesDrawn_17 : decode cX7_goesDrawn 17 = .ok (.lmul, 1) := by decide +kernel
theorem dX7_goesDrawn_18 : decode cX7_goesDrawn 18 = .ok (.ldc2_w 222, 3) := by decide +kernel
theorem dX7_goesDrawn_21 : decode cX7_goesDrawn 21 = .ok (.lrem, 1) := by decide +kernel
theorem dX7_goesDrawn_22 : decode cX7_goesDrawn 22 = .ok (.putfield 216, 3) := by decide +kernel
theorem dX7_goesDrawn_25 : decode cX7_goesDrawn 25 = .ok (.iconst 0, 1) := by decide +kernel
theorem dX7_goesDrawn_26 : decode cX7_goesDrawn 26 = .ok (.istore_n 3, 1) := by decide +kernel
theorem dX7_goesDrawn_27 : decode cX7_goesDrawn 27 = .ok (.iload_n 3, 1) := by decide +kernel
theorem dX7_goesDrawn_28 : decode cX7_goesDrawn 28 = .ok (.iload_n 1, 1) := by decide +kernel
theorem dX7_goesDrawn_29 : decode cX7_goesDrawn 29 = .ok (.if_icmp .ge 14, 3) := by decide +kernel
theorem dX7_goesDrawn_32 : decode cX7_goesDrawn 32 = .ok (.aload_n 0, 1) := by decide +kernel
theorem dX7_goesDrawn_33 : decode cX7_goesDrawn 33 = .ok (.iload_n 3, 1) := by decide +kernel
theorem dX7_goesDrawn_34 : decode cX7_goesDrawn 34 = .ok (.invokevirtual 251, 3) := by decide +kernel
theorem dX7_goesDrawn_37 : decode cX7_goesDrawn 37 = .ok (.iinc 3 1, 3) := by decide +kernel
theorem dX7_goesDrawn_40 : decode cX7_goesDrawn 40 = .ok (.goto (-13), 3) := by decide +kernel
theorem dX7_goesDrawn_43 : decode cX7_goesDrawn 43 = .ok (.return_, 1) := by decide +kernel
theorem dX7_drawn_0 : decode cX7_drawn 0 = .ok (.aload_n 0, 1) := by decide +kernel
theorem dX7_drawn_1 : decode cX7_drawn 1 = .ok (.iload_n 1, 1) := by decide +kernel
theorem dX7_drawn_2 : decode cX7_drawn 2 = .ok (.invokevirtual 263, 3) := by decide +kernel
theorem dX7_drawn_5 : decode cX7_drawn 5 = .ok (.ifCond .ne 6, 3) := by decide +kernel
theorem dX7_drawn_8 : decode cX7_drawn 8 = .ok (.bipush (-5), 2) := by decide +kernel
theorem dX7_drawn_10 : decode cX7_drawn 10 = .ok (.ireturn, 1) := by decide +kernel
theorem dX7_drawn_11 : decode cX7_drawn 11 = .ok (.iload_n 2, 1) := by decide +kernel
theorem dX7_drawn_12 : decode cX7_drawn 12 = .ok (.i2l, 1) := by decide +kernel
theorem dX7_drawn_13 : decode cX7_drawn 13 = .ok (.lconst 0, 1) := by decide +kernel
theorem dX7_drawn_14 : decode cX7_drawn 14 = .ok (.ldc2_w 317, 3) := by decide +kernel
theorem dX7_drawn_17 : decode cX7_drawn 17 = .ok (.invokestatic 75, 3) := by decide +kernel
theorem dX7_drawn_20 : decode cX7_drawn 20 = .ok (.ifCond .eq 15, 3) := by decide +kernel
theorem dX7_drawn_23 : decode cX7_drawn 23 = .ok (.iload_n 3, 1) := by decide +kernel
theorem dX7_drawn_24 : decode cX7_drawn 24 = .ok (.i2l, 1) := by decide +kernel
theorem dX7_drawn_25 : decode cX7_drawn 25 = .ok (.lconst 0, 1) := by decide +kernel
theorem dX7_drawn_26 : decode cX7_drawn 26 = .ok (.ldc2_w 266, 3) := by decide +kernel
theorem dX7_drawn_29 : decode cX7_drawn 29 = .ok (.invokestatic 75, 3) := by decide +kernel
theorem dX7_drawn_32 : decode cX7_drawn 32 = .ok (.ifCond .ne 6, 3) := by decide +kernel
theorem dX7_drawn_35 : decode cX7_drawn 35 = .ok (.bipush (-7), 2) := by decide +kernel
theorem dX7_drawn_37 : decode cX7_drawn 37 = .ok (.ireturn, 1) := by decide +kernel
theorem dX7_drawn_38 : decode cX7_drawn 38 = .ok (.aload_n 0, 1) := by decide +kernel
theorem dX7_drawn_39 : decode cX7_drawn 39 = .ok (.iload_n 1, 1) := by decide +kernel
theorem dX7_drawn_40 : decode cX7_drawn 40 = .ok (.iload_n 2, 1) := by decide +kernel
theorem dX7_drawn_41 : decode cX7_drawn 41 = .ok (.invokevirtual 319, 3) := by decide +kernel
theorem dX7_drawn_44 : decode cX7_drawn 44 = .ok (.aload_n 0, 1) := by decide +kernel
theorem dX7_drawn_45 : decode cX7_drawn 45 = .ok (.iload_n 3, 1) := by decide +kernel
theorem dX7_drawn_46 : decode cX7_drawn 46 = .ok (.invokevirtual 271, 3) := by decide +kernel
theorem dX7_drawn_49 : decode cX7_drawn 49 = .ok (.ireturn, 1) := by decide +kernel
theorem dX7_chance_0 : decode cX7_chance 0 = .ok (.iload_n 1, 1) := by decide +kernel
theorem dX7_chance_1 : decode cX7_chance 1 = .ok (.i2l, 1) := by decide +kernel
theorem dX7_chance_2 : decode cX7_chance 2 = .ok (.lconst 0, 1) := by decide +kernel
theorem dX7_chance_3 : decode cX7_chance 3 = .ok (.ldc2_w 317, 3) := by decide +kernel
theorem dX7_chance_6 : decode cX7_chance 6 = .ok (.invokestatic 75, 3) := by decide +kernel
theorem dX7_chance_9 : decode cX7_chance 9 = .ok (.ifCond .eq 25, 3) := by decide +kernel
theorem dX7_chance_12 : decode cX7_chance 12 = .ok (.iload_n 2, 1) := by decide +kernel
theorem dX7_chance_13 : decode cX7_chance 13 = .ok (.i2l, 1) := by decide +kernel
theorem dX7_chance_14 : decode cX7_chance 14 = .ok (.lconst 1, 1) := by decide +kernel
theorem dX7_chance_15 : decode cX7_chance 15 = .ok (.ldc2_w 289, 3) := by decide +kernel
theorem dX7_chance_18 : decode cX7_chance 18 = .ok (.invokestatic 75, 3) := by decide +kernel
theorem dX7_chance_21 : decode cX7_chance 21 = .ok (.ifCond .eq 13, 3) := by decide +kernel
theorem dX7_chance_24 : decode cX7_chance 24 = .ok (.iload_n 3, 1) := by decide +kernel
theorem dX7_chance_25 : decode cX7_chance 25 = .ok (.i2l, 1) := by decide +kernel
theorem dX7_chance_26 : decode cX7_chance 26 = .ok (.lconst 0, 1) := by decide +kernel
theorem dX7_chance_27 : decode cX7_chance 27 = .ok (.lconst 1, 1) := by decide +kernel
theorem dX7_chance_28 : decode cX7_chance 28 = .ok (.invokestatic 75, 3) := by decide +kernel
theorem dX7_chance_31 : decode cX7_chance 31 = .ok (.ifCond .ne 7, 3) := by decide +kernel
theorem dX7_chance_34 : decode cX7_chance 34 = .ok (.ldc2_w 283, 3) := by decide +kernel
theorem dX7_chance_37 : decode cX7_chance 37 = .ok (.lreturn, 1) := by decide +kernel
theorem dX7_chance_38 : decode cX7_chance 38 = .ok (.iconst 0, 1) := by decide +kernel
theorem dX7_chance_39 : decode cX7_chance 39 = .ok (.istore 4, 2) := by decide +kernel
theorem dX7_chance_41 : decode cX7_chance 41 = .ok (.iconst 0, 1) := by decide +kernel
theorem dX7_chance_42 : decode cX7_chance 42 = .ok (.istore 5, 2) := by decide +kernel
theorem dX7_chance_44 : decode cX7_chance 44 = .ok (.iload 5, 2) := by decide +kernel
theorem dX7_chance_46 : decode cX7_chance 46 = .ok (.iload_n 2, 1) := by decide +kernel
theorem dX7_chance_47 : decode cX7_chance 47 = .ok (.if_icmp .ge 54, 3) := by decide +kernel
theorem dX7_chance_50 : decode cX7_chance 50 = .ok (.aload_n 0, 1) := by decide +kernel
theorem dX7_chance_51 : decode cX7_chance 51 = .ok (.aload_n 0, 1) := by decide +kernel
theorem dX7_chance_52 : decode cX7_chance 52 = .ok (.getfield 95, 3) := by decide +kernel
theorem dX7_chance_55 : decode cX7_chance 55 = .ok (.iload_n 1, 1) := by decide +kernel
theorem dX7_chance_56 : decode cX7_chance 56 = .ok (.iload 5, 2) := by decide +kernel
theorem dX7_chance_58 : decode cX7_chance 58 = .ok (.iadd, 1) := by decide +kernel
theorem dX7_chance_59 : decode cX7_chance 59 = .ok (.ldc_w 322, 3) := by decide +kernel
theorem dX7_chance_62 : decode cX7_chance 62 = .ok (.if_icmp .le 9, 3) := by decide +kernel
theorem dX7_chance_65 : decode cX7_chance 65 = .ok (.ldc_w 322, 3) := by decide +kernel
theorem dX7_chance_68 : decode cX7_chance 68 = .ok (.goto 7, 3) := by decide +kernel
theorem dX7_chance_71 : decode cX7_chance 71 = .ok (.iload_n 1, 1) := by decide +kernel
theorem dX7_chance_72 : decode cX7_chance 72 = .ok (.iload 5, 2) := by decide +kernel
theorem dX7_chance_74 : decode cX7_chance 74 = .ok (.iadd, 1) := by decide +kernel
theorem dX7_chance_75 : decode cX7_chance 75 = .ok (.invokevirtual 319, 3) := by decide +kernel
theorem dX7_chance_78 : decode cX7_chance 78 = .ok (.iload 4, 2) := by decide +kernel
theorem dX7_chance_80 : decode cX7_chance 80 = .ok (.aload_n 0, 1) := by decide +kernel
theorem dX7_chance_81 : decode cX7_chance 81 = .ok (.invokevirtual 274, 3) := by decide +kernel
theorem dX7_chance_84 : decode cX7_chance 84 = .ok (.ifCond .eq 7, 3) := by decide +kernel
theorem dX7_chance_87 : decode cX7_chance 87 = .ok (.iconst 1, 1) := by decide +kernel
theorem dX7_chance_88 : decode cX7_chance 88 = .ok (.goto 4, 3) := by decide +kernel
theorem dX7_chance_91 : decode cX7_chance 91 = .ok (.iconst 0, 1) := by decide +kernel
theorem dX7_chance_92 : decode cX7_chance 92 = .ok (.iadd, 1) := by decide +kernel
theorem dX7_chance_93 : decode cX7_chance 93 = .ok (.istore 4, 2) := by decide +kernel
theorem dX7_chance_95 : decode cX7_chance 95 = .ok (.iinc 5 1, 3) := by decide +kernel
theorem dX7_chance_98 : decode cX7_chance 98 = .ok (.goto (-54), 3) := by decide +kernel
theorem dX7_chance_101 : decode cX7_chance 101 = .ok (.iload 4, 2) := by decide +kernel
theorem dX7_chance_103 : decode cX7_chance 103 = .ok (.i2l, 1) := by decide +kernel
theorem dX7_chance_104 : decode cX7_chance 104 = .ok (.iload_n 2, 1) := by decide +kernel
theorem dX7_chance_105 : decode cX7_chance 105 = .ok (.i2l, 1) := by decide +kernel
theorem dX7_chance_106 : decode cX7_chance 106 = .ok (.iload_n 3, 1) := by decide +kernel
theorem dX7_chance_107 : decode cX7_chance 107 = .ok (.invokestatic 285, 3) := by decide +kernel
theorem dX7_chance_110 : decode cX7_chance 110 = .ok (.lreturn, 1) := by decide +kernel
theorem dX7_image_0 : decode cX7_image 0 = .ok (.aload_n 0, 1) := by decide +kernel
theorem dX7_image_1 : decode cX7_image 1 = .ok (.iconst 1, 1) := by decide +kernel
theorem dX7_image_2 : decode cX7_image 2 = .ok (.putfield 323, 3) := by decide +kernel
theorem dX7_image_5 : decode cX7_image 5 = .ok (.aload_n 0, 1) := by decide +kernel
theorem dX7_image_6 : decode cX7_image 6 = .ok (.aload_n 0, 1) := by decide +kernel
theorem dX7_image_7 : decode cX7_image 7 = .ok (.getfield 72, 3) := by decide +kernel
theorem dX7_image_10 : decode cX7_image 10 = .ok (.putfield 326, 3) := by decide +kernel
theorem dX7_image_13 : decode cX7_image 13 = .ok (.aload_n 0, 1) := by decide +kernel
theorem dX7_image_14 : decode cX7_image 14 = .ok (.aload_n 0, 1) := by decide +kernel
theorem dX7_image_15 : decode cX7_image 15 = .ok (.getfield 98, 3) := by decide +kernel
theorem dX7_image_18 : decode cX7_image 18 = .ok (.putfield 329, 3) := by decide +kernel
theorem dX7_image_21 : decode cX7_image 21 = .ok (.iconst 0, 1) := by decide +kernel
theorem dX7_image_22 : decode cX7_image 22 = .ok (.istore_n 1, 1) := by decide +kernel
theorem dX7_image_23 : decode cX7_image 23 = .ok (.iload_n 1, 1) := by decide +kernel
theorem dX7_image_24 : decode cX7_image 24 = .ok (.bipush 20, 2) := by decide +kernel
theorem dX7_image_26 : decode cX7_image 26 = .ok (.if_icmp .ge 21, 3) := by decide +kernel
theorem dX7_image_29 : decode cX7_image 29 = .ok (.aload_n 0, 1) := by decide +kernel
theorem dX7_image_30 : decode cX7_image 30 = .ok (.getfield 50, 3) := by decide +kernel
theorem dX7_image_33 : decode cX7_image 33 = .ok (.iload_n 1, 1) := by decide +kernel
theorem dX7_image_34 : decode cX7_image 34 = .ok (.aload_n 0, 1) := by decide +kernel
theorem dX7_image_35 : decode cX7_image 35 = .ok (.getfield 9, 3) := by decide +kernel
theorem dX7_image_38 : decode cX7_image 38 = .ok (.iload_n 1, 1) := by decide +kernel
theorem dX7_image_39 : decode cX7_image 39 = .ok (.iaload, 1) := by decide +kernel
theorem dX7_image_40 : decode cX7_image 40 = .ok (.iastore, 1) := by decide +kernel
theorem dX7_image_41 : decode cX7_image 41 = .ok (.iinc 1 1, 3) := by decide +kernel
theorem dX7_image_44 : decode cX7_image 44 = .ok (.goto (-21), 3) := by decide +kernel
theorem dX7_image_47 : decode cX7_image 47 = .ok (.iconst 0, 1) := by decide +kernel
theorem dX7_image_48 : decode cX7_image 48 = .ok (.istore_n 1, 1) := by decide +kernel
theorem dX7_image_49 : decode cX7_image 49 = .ok (.iload_n 1, 1) := by decide +kernel
theorem dX7_image_50 : decode cX7_image 50 = .ok (.iconst 3, 1) := by decide +kernel
theorem dX7_image_51 : decode cX7_image 51 = .ok (.if_icmp .ge 21, 3) := by decide +kernel
theorem dX7_image_54 : decode cX7_image 54 = .ok (.aload_n 0, 1) := by decide +kernel
theorem dX7_image_55 : decode cX7_image 55 = .ok (.getfield 53, 3) := by decide +kernel
theorem dX7_image_58 : decode cX7_image 58 = .ok (.iload_n 1, 1) := by decide +kernel
theorem dX7_image_59 : decode cX7_image 59 = .ok (.aload_n 0, 1) := by decide +kernel
theorem dX7_image_60 : decode cX7_image 60 = .ok (.getfield 13, 3) := by decide +kernel
theorem dX7_image_63 : decode cX7_image 63 = .ok (.iload_n 1, 1) := by decide +kernel
theorem dX7_image_64 : decode cX7_image 64 = .ok (.iaload, 1) := by decide +kernel
theorem dX7_image_65 : decode cX7_image 65 = .ok (.iastore, 1) := by decide +kernel
theorem dX7_image_66 : decode cX7_image 66 = .ok (.iinc 1 1, 3) := by decide +kernel
theorem dX7_image_69 : decode cX7_image 69 = .ok (.goto (-20), 3) := by decide +kernel
theorem dX7_image_72 : decode cX7_image 72 = .ok (.aload_n 0, 1) := by decide +kernel
theorem dX7_image_73 : decode cX7_image 73 = .ok (.getfield 72, 3) := by decide +kernel
theorem dX7_image_76 : decode cX7_image 76 = .ok (.ireturn, 1) := by decide +kernel
theorem dX7_back_0 : decode cX7_back 0 = .ok (.aload_n 0, 1) := by decide +kernel
theorem dX7_back_1 : decode cX7_back 1 = .ok (.getfield 323, 3) := by decide +kernel
theorem dX7_back_4 : decode cX7_back 4 = .ok (.ifCond .ne 6, 3) := by decide +kernel
theorem dX7_back_7 : decode cX7_back 7 = .ok (.bipush (-3), 2) := by decide +kernel
theorem dX7_back_9 : decode cX7_back 9 = .ok (.ireturn, 1) := by decide +kernel
theorem dX7_back_10 : decode cX7_back 10 = .ok (.aload_n 0, 1) := by decide +kernel
theorem dX7_back_11 : decode cX7_back 11 = .ok (.aload_n 0, 1) := by decide +kernel
theorem dX7_back_12 : decode cX7_back 12 = .ok (.getfield 329, 3) := by decide +kernel
theorem dX7_back_15 : decode cX7_back 15 = .ok (.putfield 98, 3) := by decide +kernel
theorem dX7_back_18 : decode cX7_back 18 = .ok (.iconst 0, 1) := by decide +kernel
theorem dX7_back_19 : decode cX7_back 19 = .ok (.istore_n 1, 1) := by decide +kernel
theorem dX7_back_20 : decode cX7_back 20 = .ok (.iload_n 1, 1) := by decide +kernel
theorem dX7_back_21 : decode cX7_back 21 = .ok (.iconst 5, 1) := by decide +kernel
theorem dX7_back_22 : decode cX7_back 22 = .ok (.aload_n 0, 1) := by decide +kernel
theorem dX7_back_23 : decode cX7_back 23 = .ok (.getfield 326, 3) := by decide +kernel
theorem dX7_back_26 : decode cX7_back 26 = .ok (.imul, 1) := by decide +kernel
theorem dX7_back_27 : decode cX7_back 27 = .ok (.if_icmp .ge 21, 3) := by decide +kernel
theorem dX7_back_30 : decode cX7_back 30 = .ok (.aload_n 0, 1) := by decide +kernel
theorem dX7_back_31 : decode cX7_back 31 = .ok (.getfield 9, 3) := by decide +kernel
theorem dX7_back_34 : decode cX7_back 34 = .ok (.iload_n 1, 1) := by decide +kernel
theorem dX7_back_35 : decode cX7_back 35 = .ok (.aload_n 0, 1) := by decide +kernel
theorem dX7_back_36 : decode cX7_back 36 = .ok (.getfield 50, 3) := by decide +kernel
theorem dX7_back_39 : decode cX7_back 39 = .ok (.iload_n 1, 1) := by decide +kernel
theorem dX7_back_40 : decode cX7_back 40 = .ok (.iaload, 1) := by decide +kernel
theorem dX7_back_41 : decode cX7_back 41 = .ok (.iastore, 1) := by decide +kernel
theorem dX7_back_42 : decode cX7_back 42 = .ok (.iinc 1 1, 3) := by decide +kernel
theorem dX7_back_45 : decode cX7_back 45 = .ok (.goto (-25), 3) := by decide +kernel
theorem dX7_back_48 : decode cX7_back 48 = .ok (.iconst 0, 1) := by decide +kernel
theorem dX7_back_49 : decode cX7_back 49 = .ok (.istore_n 1, 1) := by decide +kernel
theorem dX7_back_50 : decode cX7_back 50 = .ok (.iload_n 1, 1) := by decide +kernel
theorem dX7_back_51 : decode cX7_back 51 = .ok (.iconst 3, 1) := by decide +kernel
theorem dX7_back_52 : decode cX7_back 52 = .ok (.if_icmp .ge 21, 3) := by decide +kernel
theorem dX7_back_55 : decode cX7_back 55 = .ok (.aload_n 0, 1) := by decide +kernel
theorem dX7_back_56 : decode cX7_back 56 = .ok (.getfield 13, 3) := by decide +kernel
theorem dX7_back_59 : decode cX7_back 59 = .ok (.iload_n 1, 1) := by decide +kernel
theorem dX7_back_60 : decode cX7_back 60 = .ok (.aload_n 0, 1) := by decide +kernel
theorem dX7_back_61 : decode cX7_back 61 = .ok (.getfield 53, 3) := by decide +kernel
theorem dX7_back_64 : decode cX7_back 64 = .ok (.iload_n 1, 1) := by decide +kernel
theorem dX7_back_65 : decode cX7_back 65 = .ok (.iaload, 1) := by decide +kernel
theorem dX7_back_66 : decode cX7_back 66 = .ok (.iastore, 1) := by decide +kernel
theorem dX7_back_67 : decode cX7_back 67 = .ok (.iinc 1 1, 3) := by decide +kernel
theorem dX7_back_70 : decode cX7_back 70 = .ok (.goto (-20), 3) := by decide +kernel
theorem dX7_back_73 : decode cX7_back 73 = .ok (.aload_n 0, 1) := by decide +kernel
theorem dX7_back_74 : decode cX7_back 74 = .ok (.getfield 72, 3) := by decide +kernel
theorem dX7_back_77 : decode cX7_back 77 = .ok (.ireturn, 1) := by decide +kernel
theorem dX7_isSheet_0 : decode cX7_isSheet 0 = .ok (.iload_n 0, 1) := by decide +kernel
theorem dX7_isSheet_1 : decode cX7_isSheet 1 = .ok (.i2l, 1) := by decide +kernel
theorem dX7_isSheet_2 : decode cX7_isSheet 2 = .ok (.lconst 0, 1) := by decide +kernel
theorem dX7_isSheet_3 : decode cX7_isSheet 3 = .ok (.ldc2_w 298, 3) := by decide +kernel
theorem dX7_isSheet_6 : decode cX7_isSheet 6 = .ok (.invokestatic 75, 3) := by decide +kernel
theorem dX7_isSheet_9 : decode cX7_isSheet 9 = .ok (.ireturn, 1) := by decide +kernel
theorem dX7_sheet_0 : decode cX7_sheet 0 = .ok (.iload_n 1, 1) := by decide +kernel
theorem dX7_sheet_1 : decode cX7_sheet 1 = .ok (.invokestatic 305, 3) := by decide +kernel
theorem dX7_sheet_4 : decode cX7_sheet 4 = .ok (.ifCond .eq 27, 3) := by decide +kernel
theorem dX7_sheet_7 : decode cX7_sheet 7 = .ok (.iload_n 2, 1) := by decide +kernel
theorem dX7_sheet_8 : decode cX7_sheet 8 = .ok (.i2l, 1) := by decide +kernel
theorem dX7_sheet_9 : decode cX7_sheet 9 = .ok (.ldc2_w 332, 3) := by decide +kernel
theorem dX7_sheet_12 : decode cX7_sheet 12 = .ok (.ldc2_w 91, 3) := by decide +kernel
theorem dX7_sheet_15 : decode cX7_sheet 15 = .ok (.invokestatic 75, 3) := by decide +kernel
theorem dX7_sheet_18 : decode cX7_sheet 18 = .ok (.ifCond .eq 13, 3) := by decide +kernel
theorem dX7_sheet_21 : decode cX7_sheet 21 = .ok (.iload_n 2, 1) := by decide +kernel
theorem dX7_sheet_22 : decode cX7_sheet 22 = .ok (.ifCond .lt 12, 3) := by decide +kernel
theorem dX7_sheet_25 : decode cX7_sheet 25 = .ok (.iload_n 3, 1) := by decide +kernel
theorem dX7_sheet_26 : decode cX7_sheet 26 = .ok (.bipush 40, 2) := by decide +kernel
theorem dX7_sheet_28 : decode cX7_sheet 28 = .ok (.if_icmp .le 6, 3) := by decide +kernel
theorem dX7_sheet_31 : decode cX7_sheet 31 = .ok (.bipush (-2), 2) := by decide +kernel
theorem dX7_sheet_33 : decode cX7_sheet 33 = .ok (.ireturn, 1) := by decide +kernel
theorem dX7_sheet_34 : decode cX7_sheet 34 = .ok (.iload_n 2, 1) := by decide +kernel
theorem dX7_sheet_35 : decode cX7_sheet 35 = .ok (.ifCond .lt 10, 3) := by decide +kernel
theorem dX7_sheet_38 : decode cX7_sheet 38 = .ok (.iload_n 3, 1) := by decide +kernel
theorem dX7_sheet_39 : decode cX7_sheet 39 = .ok (.ifCond .ge 6, 3) := by decide +kernel
theorem dX7_sheet_42 : decode cX7_sheet 42 = .ok (.bipush (-14), 2) := by decide +kernel
theorem dX7_sheet_44 : decode cX7_sheet 44 = .ok (.ireturn, 1) := by decide +kernel
theorem dX7_sheet_45 : decode cX7_sheet 45 = .ok (.aload_n 0, 1) := by decide +kernel
theorem dX7_sheet_46 : decode cX7_sheet 46 = .ok (.getfield 56, 3) := by decide +kernel
theorem dX7_sheet_49 : decode cX7_sheet 49 = .ok (.iload_n 1, 1) := by decide +kernel
theorem dX7_sheet_50 : decode cX7_sheet 50 = .ok (.iload_n 2, 1) := by decide +kernel
theorem dX7_sheet_51 : decode cX7_sheet 51 = .ok (.iastore, 1) := by decide +kernel
theorem dX7_sheet_52 : decode cX7_sheet 52 = .ok (.aload_n 0, 1) := by decide +kernel
theorem dX7_sheet_53 : decode cX7_sheet 53 = .ok (.getfield 59, 3) := by decide +kernel
theorem dX7_sheet_56 : decode cX7_sheet 56 = .ok (.iload_n 1, 1) := by decide +kernel
theorem dX7_sheet_57 : decode cX7_sheet 57 = .ok (.iload_n 2, 1) := by decide +kernel
theorem dX7_sheet_58 : decode cX7_sheet 58 = .ok (.ifCond .ge 7, 3) := by decide +kernel
theorem dX7_sheet_61 : decode cX7_sheet 61 = .ok (.iconst 0, 1) := by decide +kernel
theorem dX7_sheet_62 : decode cX7_sheet 62 = .ok (.goto 4, 3) := by decide +kernel
theorem dX7_sheet_65 : decode cX7_sheet 65 = .ok (.iload_n 3, 1) := by decide +kernel
theorem dX7_sheet_66 : decode cX7_sheet 66 = .ok (.iastore, 1) := by decide +kernel
theorem dX7_sheet_67 : decode cX7_sheet 67 = .ok (.bipush 40, 2) := by decide +kernel
theorem dX7_sheet_69 : decode cX7_sheet 69 = .ok (.iload_n 1, 1) := by decide +kernel
theorem dX7_sheet_70 : decode cX7_sheet 70 = .ok (.imul, 1) := by decide +kernel
theorem dX7_sheet_71 : decode cX7_sheet 71 = .ok (.istore 4, 2) := by decide +kernel
theorem dX7_sheet_73 : decode cX7_sheet 73 = .ok (.iload 4, 2) := by decide +kernel
theorem dX7_sheet_75 : decode cX7_sheet 75 = .ok (.bipush 40, 2) := by decide +kernel
theorem dX7_sheet_77 : decode cX7_sheet 77 = .ok (.iload_n 1, 1) := by decide +kernel
theorem dX7_sheet_78 : decode cX7_sheet 78 = .ok (.imul, 1) := by decide +kernel
theorem dX7_sheet_79 : decode cX7_sheet 79 = .ok (.bipush 40, 2) := by decide +kernel
theorem dX7_sheet_81 : decode cX7_sheet 81 = .ok (.iadd, 1) := by decide +kernel
theorem dX7_sheet_82 : decode cX7_sheet 82 = .ok (.if_icmp .ge 17, 3) := by decide +kernel
theorem dX7_sheet_85 : decode cX7_sheet 85 = .ok (.aload_n 0, 1) := by decide +kernel
theorem dX7_sheet_86 : decode cX7_sheet 86 = .ok (.getfield 62, 3) := by decide +kernel
theorem dX7_sheet_89 : decode cX7_sheet 89 = .ok (.iload 4, 2) := by decide +kernel
theorem dX7_sheet_91 : decode cX7_sheet 91 = .ok (.iconst 0, 1) := by decide +kernel
theorem dX7_sheet_92 : decode cX7_sheet 92 = .ok (.iastore, 1) := by decide +kernel
theorem dX7_sheet_93 : decode cX7_sheet 93 = .ok (.iinc 4 1, 3) := by decide +kernel
theorem dX7_sheet_96 : decode cX7_sheet 96 = .ok (.goto (-23), 3) := by decide +kernel
theorem dX7_sheet_99 : decode cX7_sheet 99 = .ok (.iconst 1, 1) := by decide +kernel
theorem dX7_sheet_100 : decode cX7_sheet 100 = .ok (.ireturn, 1) := by decide +kernel
theorem dX7_cell_0 : decode cX7_cell 0 = .ok (.iload_n 1, 1) := by decide +kernel
theorem dX7_cell_1 : decode cX7_cell 1 = .ok (.invokestatic 305, 3) := by decide +kernel
theorem dX7_cell_4 : decode cX7_cell 4 = .ok (.ifCond .ne 6, 3) := by decide +kernel
theorem dX7_cell_7 : decode cX7_cell 7 = .ok (.bipush (-2), 2) := by decide +kernel
theorem dX7_cell_9 : decode cX7_cell 9 = .ok (.ireturn, 1) := by decide +kernel
theorem dX7_cell_10 : decode cX7_cell 10 = .ok (.aload_n 0, 1) := by decide +kernel
theorem dX7_cell_11 : decode cX7_cell 11 = .ok (.getfield 56, 3) := by decide +kernel
theorem dX7_cell_14 : decode cX7_cell 14 = .ok (.iload_n 1, 1) := by decide +kernel
theorem dX7_cell_15 : decode cX7_cell 15 = .ok (.iaload, 1) := by decide +kernel
theorem dX7_cell_16 : decode cX7_cell 16 = .ok (.ifCond .ge 6, 3) := by decide +kernel
theorem dX7_cell_19 : decode cX7_cell 19 = .ok (.bipush (-11), 2) := by decide +kernel
theorem dX7_cell_21 : decode cX7_cell 21 = .ok (.ireturn, 1) := by decide +kernel
theorem dX7_cell_22 : decode cX7_cell 22 = .ok (.iload_n 2, 1) := by decide +kernel
theorem dX7_cell_23 : decode cX7_cell 23 = .ok (.i2l, 1) := by decide +kernel
theorem dX7_cell_24 : decode cX7_cell 24 = .ok (.lconst 0, 1) := by decide +kernel
theorem dX7_cell_25 : decode cX7_cell 25 = .ok (.aload_n 0, 1) := by decide +kernel
theorem dX7_cell_26 : decode cX7_cell 26 = .ok (.getfield 59, 3) := by decide +kernel
theorem dX7_cell_29 : decode cX7_cell 29 = .ok (.iload_n 1, 1) := by decide +kernel
theorem dX7_cell_30 : decode cX7_cell 30 = .ok (.iaload, 1) := by decide +kernel
theorem dX7_cell_31 : decode cX7_cell 31 = .ok (.iconst 1, 1) := by decide +kernel
theorem dX7_cell_32 : decode cX7_cell 32 = .ok (.isub, 1) := by decide +kernel
theorem dX7_cell_33 : decode cX7_cell 33 = .ok (.i2l, 1) := by decide +kernel
theorem dX7_cell_34 : decode cX7_cell 34 = .ok (.invokestatic 75, 3) := by decide +kernel
theorem dX7_cell_37 : decode cX7_cell 37 = .ok (.ifCond .ne 6, 3) := by decide +kernel
theorem dX7_cell_40 : decode cX7_cell 40 = .ok (.bipush (-12), 2) := by decide +kernel
theorem dX7_cell_42 : decode cX7_cell 42 = .ok (.ireturn, 1) := by decide +kernel
theorem dX7_cell_43 : decode cX7_cell 43 = .ok (.aload_n 0, 1) := by decide +kernel
theorem dX7_cell_44 : decode cX7_cell 44 = .ok (.getfield 62, 3) := by decide +kernel
theorem dX7_cell_47 : decode cX7_cell 47 = .ok (.bipush 40, 2) := by decide +kernel
theorem dX7_cell_49 : decode cX7_cell 49 = .ok (.iload_n 1, 1) := by decide +kernel
theorem dX7_cell_50 : decode cX7_cell 50 = .ok (.imul, 1) := by decide +kernel
theorem dX7_cell_51 : decode cX7_cell 51 = .ok (.iload_n 2, 1) := by decide +kernel
theorem dX7_cell_52 : decode cX7_cell 52 = .ok (.iadd, 1) := by decide +kernel
theorem dX7_cell_53 : decode cX7_cell 53 = .ok (.aload_n 0, 1) := by decide +kernel
theorem dX7_cell_54 : decode cX7_cell 54 = .ok (.getfield 56, 3) := by decide +kernel
theorem dX7_cell_57 : decode cX7_cell 57 = .ok (.iload_n 1, 1) := by decide +kernel
theorem dX7_cell_58 : decode cX7_cell 58 = .ok (.iaload, 1) := by decide +kernel
theorem dX7_cell_59 : decode cX7_cell 59 = .ok (.ifCond .ne 8, 3) := by decide +kernel
theorem dX7_cell_62 : decode cX7_cell 62 = .ok (.iload_n 3, 1) := by decide +kernel
theorem dX7_cell_63 : decode cX7_cell 63 = .ok (.i2b, 1) := by decide +kernel
theorem dX7_cell_64 : decode cX7_cell 64 = .ok (.goto 19, 3) := by decide +kernel
theorem dX7_cell_67 : decode cX7_cell 67 = .ok (.aload_n 0, 1) := by decide +kernel
theorem dX7_cell_68 : decode cX7_cell 68 = .ok (.getfield 56, 3) := by decide +kernel
theorem dX7_cell_71 : decode cX7_cell 71 = .ok (.iload_n 1, 1) := by decide +kernel
theorem dX7_cell_72 : decode cX7_cell 72 = .ok (.iaload, 1) := by decide +kernel
theorem dX7_cell_73 : decode cX7_cell 73 = .ok (.iconst 1, 1) := by decide +kernel
theorem dX7_cell_74 : decode cX7_cell 74 = .ok (.if_icmp .ne 8, 3) := by decide +kernel
theorem dX7_cell_77 : decode cX7_cell 77 = .ok (.iload_n 3, 1) := by decide +kernel
theorem dX7_cell_78 : decode cX7_cell 78 = .ok (.i2s, 1) := by decide +kernel
theorem dX7_cell_79 : decode cX7_cell 79 = .ok (.goto 4, 3) := by decide +kernel
theorem dX7_cell_82 : decode cX7_cell 82 = .ok (.iload_n 3, 1) := by decide +kernel
theorem dX7_cell_83 : decode cX7_cell 83 = .ok (.iastore, 1) := by decide +kernel
theorem dX7_cell_84 : decode cX7_cell 84 = .ok (.iconst 1, 1) := by decide +kernel
theorem dX7_cell_85 : decode cX7_cell 85 = .ok (.ireturn, 1) := by decide +kernel
theorem dX7_copy_0 : decode cX7_copy 0 = .ok (.iload_n 1, 1) := by decide +kernel
theorem dX7_copy_1 : decode cX7_copy 1 = .ok (.invokestatic 305, 3) := by decide +kernel
theorem dX7_copy_4 : decode cX7_copy 4 = .ok (.ifCond .eq 10, 3) := by decide +kernel
theorem dX7_copy_7 : decode cX7_copy 7 = .ok (.iload_n 3, 1) := by decide +kernel
theorem dX7_copy_8 : decode cX7_copy 8 = .ok (.invokestatic 305, 3) := by decide +kernel
theorem dX7_copy_11 : decode cX7_copy 11 = .ok (.ifCond .ne 6, 3) := by decide +kernel
theorem dX7_copy_14 : decode cX7_copy 14 = .ok (.bipush (-2), 2) := by decide +kernel
theorem dX7_copy_16 : decode cX7_copy 16 = .ok (.ireturn, 1) := by decide +kernel
theorem dX7_copy_17 : decode cX7_copy 17 = .ok (.aload_n 0, 1) := by decide +kernel
theorem dX7_copy_18 : decode cX7_copy 18 = .ok (.getfield 56, 3) := by decide +kernel
theorem dX7_copy_21 : decode cX7_copy 21 = .ok (.iload_n 1, 1) := by decide +kernel
theorem dX7_copy_22 : decode cX7_copy 22 = .ok (.iaload, 1) := by decide +kernel
theorem dX7_copy_23 : decode cX7_copy 23 = .ok (.ifCond .lt 12, 3) := by decide +kernel
theorem dX7_copy_26 : decode cX7_copy 26 = .ok (.aload_n 0, 1) := by decide +kernel
theorem dX7_copy_27 : decode cX7_copy 27 = .ok (.getfield 56, 3) := by decide +kernel
theorem dX7_copy_30 : decode cX7_copy 30 = .ok (.iload_n 3, 1) := by decide +kernel
theorem dX7_copy_31 : decode cX7_copy 31 = .ok (.iaload, 1) := by decide +kernel
theorem dX7_copy_32 : decode cX7_copy 32 = .ok (.ifCond .ge 6, 3) := by decide +kernel
theorem dX7_copy_35 : decode cX7_copy 35 = .ok (.bipush (-11), 2) := by decide +kernel
theorem dX7_copy_37 : decode cX7_copy 37 = .ok (.ireturn, 1) := by decide +kernel
theorem dX7_copy_38 : decode cX7_copy 38 = .ok (.aload_n 0, 1) := by decide +kernel
theorem dX7_copy_39 : decode cX7_copy 39 = .ok (.getfield 56, 3) := by decide +kernel
theorem dX7_copy_42 : decode cX7_copy 42 = .ok (.iload_n 1, 1) := by decide +kernel
theorem dX7_copy_43 : decode cX7_copy 43 = .ok (.iaload, 1) := by decide +kernel
theorem dX7_copy_44 : decode cX7_copy 44 = .ok (.aload_n 0, 1) := by decide +kernel
theorem dX7_copy_45 : decode cX7_copy 45 = .ok (.getfield 56, 3) := by decide +kernel
theorem dX7_copy_48 : decode cX7_copy 48 = .ok (.iload_n 3, 1) := by decide +kernel
theorem dX7_copy_49 : decode cX7_copy 49 = .ok (.iaload, 1) := by decide +kernel
theorem dX7_copy_50 : decode cX7_copy 50 = .ok (.if_icmp .eq 6, 3) := by decide +kernel
theorem dX7_copy_53 : decode cX7_copy 53 = .ok (.bipush (-13), 2) := by decide +kernel
theorem dX7_copy_55 : decode cX7_copy 55 = .ok (.ireturn, 1) := by decide +kernel
theorem dX7_copy_56 : decode cX7_copy 56 = .ok (.iload 5, 2) := by decide +kernel
theorem dX7_copy_58 : decode cX7_copy 58 = .ok (.ifCond .lt 39, 3) := by decide +kernel
theorem dX7_copy_61 : decode cX7_copy 61 = .ok (.iload_n 2, 1) := by decide +kernel
theorem dX7_copy_62 : decode cX7_copy 62 = .ok (.ifCond .lt 35, 3) := by decide +kernel
theorem dX7_copy_65 : decode cX7_copy 65 = .ok (.iload 4, 2) := by decide +kernel
theorem dX7_copy_67 : decode cX7_copy 67 = .ok (.ifCond .lt 30, 3) := by decide +kernel
theorem dX7_copy_70 : decode cX7_copy 70 = .ok (.iload_n 2, 1) := by decide +kernel
theorem dX7_copy_71 : decode cX7_copy 71 = .ok (.aload_n 0, 1) := by decide +kernel
theorem dX7_copy_72 : decode cX7_copy 72 = .ok (.getfield 59, 3) := by decide +kernel
theorem dX7_copy_75 : decode cX7_copy 75 = .ok (.iload_n 1, 1) := by decide +kernel
theorem dX7_copy_76 : decode cX7_copy 76 = .ok (.iaload, 1) := by decide +kernel
theorem dX7_copy_77 : decode cX7_copy 77 = .ok (.iload 5, 2) := by decide +kernel
theorem dX7_copy_79 : decode cX7_copy 79 = .ok (.isub, 1) := by decide +kernel
theorem dX7_copy_80 : decode cX7_copy 80 = .ok (.if_icmp .gt 17, 3) := by decide +kernel
theorem dX7_copy_83 : decode cX7_copy 83 = .ok (.iload 4, 2) := by decide +kernel
theorem dX7_copy_85 : decode cX7_copy 85 = .ok (.aload_n 0, 1) := by decide +kernel
theorem dX7_copy_86 : decode cX7_copy 86 = .ok (.getfield 59, 3) := by decide +kernel
theorem dX7_copy_89 : decode cX7_copy 89 = .ok (.iload_n 3, 1) := by decide +kernel
theorem dX7_copy_90 : decode cX7_copy 90 = .ok (.iaload, 1) := by decide +kernel
theorem dX7_copy_91 : decode cX7_copy 91 = .ok (.iload 5, 2) := by decide +kernel
theorem dX7_copy_93 : decode cX7_copy 93 = .ok (.isub, 1) := by decide +kernel
theorem dX7_copy_94 : decode cX7_copy 94 = .ok (.if_icmp .le 6, 3) := by decide +kernel
theorem dX7_copy_97 : decode cX7_copy 97 = .ok (.bipush (-12), 2) := by decide +kernel
theorem dX7_copy_99 : decode cX7_copy 99 = .ok (.ireturn, 1) := by decide +kernel
theorem dX7_copy_100 : decode cX7_copy 100 = .ok (.iconst 0, 1) := by decide +kernel
theorem dX7_copy_101 : decode cX7_copy 101 = .ok (.istore 6, 2) := by decide +kernel
theorem dX7_copy_103 : decode cX7_copy 103 = .ok (.iload 6, 2) := by decide +kernel
theorem dX7_copy_105 : decode cX7_copy 105 = .ok (.iload 5, 2) := by decide +kernel
theorem dX7_copy_107 : decode cX7_copy 107 = .ok (.if_icmp .ge 30, 3) := by decide +kernel
theorem dX7_copy_110 : decode cX7_copy 110 = .ok (.aload_n 0, 1) := by decide +kernel
theorem dX7_copy_111 : decode cX7_copy 111 = .ok (.getfield 65, 3) := by decide +kernel
theorem dX7_copy_114 : decode cX7_copy 114 = .ok (.iload 6, 2) := by decide +kernel
theorem dX7_copy_116 : decode cX7_copy 116 = .ok (.aload_n 0, 1) := by decide +kernel
theorem dX7_copy_117 : decode cX7_copy 117 = .ok (.getfield 62, 3) := by decide +kernel
theorem dX7_copy_120 : decode cX7_copy 120 = .ok (.bipush 40, 2) := by decide +kernel
theorem dX7_copy_122 : decode cX7_copy 122 = .ok (.iload_n 1, 1) := by decide +kernel
theorem dX7_copy_123 : decode cX7_copy 123 = .ok (.imul, 1) := by decide +kernel
theorem dX7_copy_124 : decode cX7_copy 124 = .ok (.iload_n 2, 1) := by decide +kernel
theorem dX7_copy_125 : decode cX7_copy 125 = .ok (.iadd, 1) := by decide +kernel
theorem dX7_copy_126 : decode cX7_copy 126 = .ok (.iload 6, 2) := by decide +kernel
theorem dX7_copy_128 : decode cX7_copy 128 = .ok (.iadd, 1) := by decide +kernel
theorem dX7_copy_129 : decode cX7_copy 129 = .ok (.iaload, 1) := by decide +kernel
theorem dX7_copy_130 : decode cX7_copy 130 = .ok (.iastore, 1) := by decide +kernel
theorem dX7_copy_131 : decode cX7_copy 131 = .ok (.iinc 6 1, 3) := by decide +kernel
theorem dX7_copy_134 : decode cX7_copy 134 = .ok (.goto (-31), 3) := by decide +kernel
theorem dX7_copy_137 : decode cX7_copy 137 = .ok (.iconst 0, 1) := by decide +kernel
theorem dX7_copy_138 : decode cX7_copy 138 = .ok (.istore 6, 2) := by decide +kernel
theorem dX7_copy_140 : decode cX7_copy 140 = .ok (.iload 6, 2) := by decide +kernel
theorem dX7_copy_142 : decode cX7_copy 142 = .ok (.iload 5, 2) := by decide +kernel
theorem dX7_copy_144 : decode cX7_copy 144 = .ok (.if_icmp .ge 31, 3) := by decide +kernel
theorem dX7_copy_147 : decode cX7_copy 147 = .ok (.aload_n 0, 1) := by decide +kernel
theorem dX7_copy_148 : decode cX7_copy 148 = .ok (.getfield 62, 3) := by decide +kernel
theorem dX7_copy_151 : decode cX7_copy 151 = .ok (.bipush 40, 2) := by decide +kernel
theorem dX7_copy_153 : decode cX7_copy 153 = .ok (.iload_n 3, 1) := by decide +kernel
theorem dX7_copy_154 : decode cX7_copy 154 = .ok (.imul, 1) := by decide +kernel
theorem dX7_copy_155 : decode cX7_copy 155 = .ok (.iload 4, 2) := by decide +kernel
theorem dX7_copy_157 : decode cX7_copy 157 = .ok (.iadd, 1) := by decide +kernel
theorem dX7_copy_158 : decode cX7_copy 158 = .ok (.iload 6, 2) := by decide +kernel
theorem dX7_copy_160 : decode cX7_copy 160 = .ok (.iadd, 1) := by decide +kernel
theorem dX7_copy_161 : decode cX7_copy 161 = .ok (.aload_n 0, 1) := by decide +kernel
theorem dX7_copy_162 : decode cX7_copy 162 = .ok (.getfield 65, 3) := by decide +kernel
theorem dX7_copy_165 : decode cX7_copy 165 = .ok (.iload 6, 2) := by decide +kernel
theorem dX7_copy_167 : decode cX7_copy 167 = .ok (.iaload, 1) := by decide +kernel
theorem dX7_copy_168 : decode cX7_copy 168 = .ok (.iastore, 1) := by decide +kernel
theorem dX7_copy_169 : decode cX7_copy 169 = .ok (.iinc 6 1, 3) := by decide +kernel
theorem dX7_copy_172 : decode cX7_copy 172 = .ok (.goto (-32), 3) := by decide +kernel
theorem dX7_copy_175 : decode cX7_copy 175 = .ok (.iload 5, 2) := by decide +kernel
theorem dX7_copy_177 : decode cX7_copy 177 = .ok (.ireturn, 1) := by decide +kernel
theorem dX7_actsBy_0 : decode cX7_actsBy 0 = .ok (.iload_n 1, 1) := by decide +kernel
theorem dX7_actsBy_1 : decode cX7_actsBy 1 = .ok (.invokestatic 305, 3) := by decide +kernel
theorem dX7_actsBy_4 : decode cX7_actsBy 4 = .ok (.ifCond .eq 28, 3) := by decide +kernel
theorem dX7_actsBy_7 : decode cX7_actsBy 7 = .ok (.iload_n 2, 1) := by decide +kernel
theorem dX7_actsBy_8 : decode cX7_actsBy 8 = .ok (.i2l, 1) := by decide +kernel
theorem dX7_actsBy_9 : decode cX7_actsBy 9 = .ok (.lconst 0, 1) := by decide +kernel
theorem dX7_actsBy_10 : decode cX7_actsBy 10 = .ok (.ldc2_w 91, 3) := by decide +kernel
theorem dX7_actsBy_13 : decode cX7_actsBy 13 = .ok (.invokestatic 75, 3) := by decide +kernel
theorem dX7_actsBy_16 : decode cX7_actsBy 16 = .ok (.ifCond .eq 16, 3) := by decide +kernel
theorem dX7_actsBy_19 : decode cX7_actsBy 19 = .ok (.iload 4, 2) := by decide +kernel
theorem dX7_actsBy_21 : decode cX7_actsBy 21 = .ok (.i2l, 1) := by decide +kernel
theorem dX7_actsBy_22 : decode cX7_actsBy 22 = .ok (.lconst 0, 1) := by decide +kernel
theorem dX7_actsBy_23 : decode cX7_actsBy 23 = .ok (.ldc2_w 334, 3) := by decide +kernel
theorem dX7_actsBy_26 : decode cX7_actsBy 26 = .ok (.invokestatic 75, 3) := by decide +kernel
theorem dX7_actsBy_29 : decode cX7_actsBy 29 = .ok (.ifCond .ne 6, 3) := by decide +kernel
theorem dX7_actsBy_32 : decode cX7_actsBy 32 = .ok (.bipush (-2), 2) := by decide +kernel
theorem dX7_actsBy_34 : decode cX7_actsBy 34 = .ok (.ireturn, 1) := by decide +kernel
theorem dX7_actsBy_35 : decode cX7_actsBy 35 = .ok (.aload_n 0, 1) := by decide +kernel
theorem dX7_actsBy_36 : decode cX7_actsBy 36 = .ok (.getfield 56, 3) := by decide +kernel
theorem dX7_actsBy_39 : decode cX7_actsBy 39 = .ok (.iload_n 1, 1) := by decide +kernel
theorem dX7_actsBy_40 : decode cX7_actsBy 40 = .ok (.iaload, 1) := by decide +kernel
theorem dX7_actsBy_41 : decode cX7_actsBy 41 = .ok (.ifCond .lt 16, 3) := by decide +kernel
theorem dX7_actsBy_44 : decode cX7_actsBy 44 = .ok (.aload_n 0, 1) := by decide +kernel
theorem dX7_actsBy_45 : decode cX7_actsBy 45 = .ok (.getfield 56, 3) := by decide +kernel
theorem dX7_actsBy_48 : decode cX7_actsBy 48 = .ok (.iload_n 1, 1) := by decide +kernel
theorem dX7_actsBy_49 : decode cX7_actsBy 49 = .ok (.iaload, 1) := by decide +kernel
theorem dX7_actsBy_50 : decode cX7_actsBy 50 = .ok (.iload_n 2, 1) := by decide +kernel
theorem dX7_actsBy_51 : decode cX7_actsBy 51 = .ok (.if_icmp .eq 6, 3) := by decide +kernel
theorem dX7_actsBy_54 : decode cX7_actsBy 54 = .ok (.bipush (-13), 2) := by decide +kernel
theorem dX7_actsBy_56 : decode cX7_actsBy 56 = .ok (.ireturn, 1) := by decide +kernel
theorem dX7_actsBy_57 : decode cX7_actsBy 57 = .ok (.aload_n 0, 1) := by decide +kernel
theorem dX7_actsBy_58 : decode cX7_actsBy 58 = .ok (.getfield 56, 3) := by decide +kernel
theorem dX7_actsBy_61 : decode cX7_actsBy 61 = .ok (.iload_n 1, 1) := by decide +kernel
theorem dX7_actsBy_62 : decode cX7_actsBy 62 = .ok (.iaload, 1) := by decide +kernel
theorem dX7_actsBy_63 : decode cX7_actsBy 63 = .ok (.ifCond .ge 6, 3) := by decide +kernel
theorem dX7_actsBy_66 : decode cX7_actsBy 66 = .ok (.bipush (-11), 2) := by decide +kernel
theorem dX7_actsBy_68 : decode cX7_actsBy 68 = .ok (.ireturn, 1) := by decide +kernel
theorem dX7_actsBy_69 : decode cX7_actsBy 69 = .ok (.iconst 0, 1) := by decide +kernel
theorem dX7_actsBy_70 : decode cX7_actsBy 70 = .ok (.istore 5, 2) := by decide +kernel
theorem dX7_actsBy_72 : decode cX7_actsBy 72 = .ok (.iconst 0, 1) := by decide +kernel
theorem dX7_actsBy_73 : decode cX7_actsBy 73 = .ok (.istore 6, 2) := by decide +kernel
theorem dX7_actsBy_75 : decode cX7_actsBy 75 = .ok (.iload 6, 2) := by decide +kernel
theorem dX7_actsBy_77 : decode cX7_actsBy 77 = .ok (.iload 4, 2) := by decide +kernel
theorem dX7_actsBy_79 : decode cX7_actsBy 79 = .ok (.if_icmp .ge 88, 3) := by decide +kernel
theorem dX7_actsBy_82 : decode cX7_actsBy 82 = .ok (.iload_n 3, 1) := by decide +kernel
theorem dX7_actsBy_83 : decode cX7_actsBy 83 = .ok (.ifCond .lt 20, 3) := by decide +kernel
theorem dX7_actsBy_86 : decode cX7_actsBy 86 = .ok (.iload_n 3, 1) := by decide +kernel
theorem dX7_actsBy_87 : decode cX7_actsBy 87 = .ok (.aload_n 0, 1) := by decide +kernel
theorem dX7_actsBy_88 : decode cX7_actsBy 88 = .ok (.getfield 59, 3) := by decide +kernel
theorem dX7_actsBy_91 : decode cX7_actsBy 91 = .ok (.iload_n 1, 1) := by decide +kernel
theorem dX7_actsBy_92 : decode cX7_actsBy 92 = .ok (.iaload, 1) := by decide +kernel
theorem dX7_actsBy_93 : decode cX7_actsBy 93 = .ok (.iconst 3, 1) := by decide +kernel
theorem dX7_actsBy_94 : decode cX7_actsBy 94 = .ok (.isub, 1) := by decide +kernel
theorem dX7_actsBy_95 : decode cX7_actsBy 95 = .ok (.iconst 3, 1) := by decide +kernel
theorem dX7_actsBy_96 : decode cX7_actsBy 96 = .ok (.iload 6, 2) := by decide +kernel
theorem dX7_actsBy_98 : decode cX7_actsBy 98 = .ok (.imul, 1) := by decide +kernel
theorem dX7_actsBy_99 : decode cX7_actsBy 99 = .ok (.isub, 1) := by decide +kernel
theorem dX7_actsBy_100 : decode cX7_actsBy 100 = .ok (.if_icmp .le 6, 3) := by decide +kernel
theorem dX7_actsBy_103 : decode cX7_actsBy 103 = .ok (.bipush (-12), 2) := by decide +kernel
theorem dX7_actsBy_105 : decode cX7_actsBy 105 = .ok (.ireturn, 1) := by decide +kernel
theorem dX7_actsBy_106 : decode cX7_actsBy 106 = .ok (.bipush 40, 2) := by decide +kernel
theorem dX7_actsBy_108 : decode cX7_actsBy 108 = .ok (.iload_n 1, 1) := by decide +kernel
theorem dX7_actsBy_109 : decode cX7_actsBy 109 = .ok (.imul, 1) := by decide +kernel
theorem dX7_actsBy_110 : decode cX7_actsBy 110 = .ok (.iload_n 3, 1) := by decide +kernel
theorem dX7_actsBy_111 : decode cX7_actsBy 111 = .ok (.iadd, 1) := by decide +kernel
theorem dX7_actsBy_112 : decode cX7_actsBy 112 = .ok (.iconst 3, 1) := by decide +kernel
theorem dX7_actsBy_113 : decode cX7_actsBy 113 = .ok (.iload 6, 2) := by decide +kernel
theorem dX7_actsBy_115 : decode cX7_actsBy 115 = .ok (.imul, 1) := by decide +kernel
theorem dX7_actsBy_116 : decode cX7_actsBy 116 = .ok (.iadd, 1) := by decide +kernel
theorem dX7_actsBy_117 : decode cX7_actsBy 117 = .ok (.istore 7, 2) := by decide +kernel
theorem dX7_actsBy_119 : decode cX7_actsBy 119 = .ok (.iload 5, 2) := by decide +kernel
theorem dX7_actsBy_121 : decode cX7_actsBy 121 = .ok (.aload_n 0, 1) := by decide +kernel
theorem dX7_actsBy_122 : decode cX7_actsBy 122 = .ok (.aload_n 0, 1) := by decide +kernel
theorem dX7_actsBy_123 : decode cX7_actsBy 123 = .ok (.getfield 62, 3) := by decide +kernel
theorem dX7_actsBy_126 : decode cX7_actsBy 126 = .ok (.iload 7, 2) := by decide +kernel
theorem dX7_actsBy_128 : decode cX7_actsBy 128 = .ok (.iaload, 1) := by decide +kernel
theorem dX7_actsBy_129 : decode cX7_actsBy 129 = .ok (.aload_n 0, 1) := by decide +kernel
theorem dX7_actsBy_130 : decode cX7_actsBy 130 = .ok (.getfield 62, 3) := by decide +kernel
theorem dX7_actsBy_133 : decode cX7_actsBy 133 = .ok (.iload 7, 2) := by decide +kernel
theorem dX7_actsBy_135 : decode cX7_actsBy 135 = .ok (.iconst 1, 1) := by decide +kernel
theorem dX7_actsBy_136 : decode cX7_actsBy 136 = .ok (.iadd, 1) := by decide +kernel
theorem dX7_actsBy_137 : decode cX7_actsBy 137 = .ok (.iaload, 1) := by decide +kernel
theorem dX7_actsBy_138 : decode cX7_actsBy 138 = .ok (.aload_n 0, 1) := by decide +kernel
theorem dX7_actsBy_139 : decode cX7_actsBy 139 = .ok (.getfield 62, 3) := by decide +kernel
theorem dX7_actsBy_142 : decode cX7_actsBy 142 = .ok (.iload 7, 2) := by decide +kernel
theorem dX7_actsBy_144 : decode cX7_actsBy 144 = .ok (.iconst 2, 1) := by decide +kernel
theorem dX7_actsBy_145 : decode cX7_actsBy 145 = .ok (.iadd, 1) := by decide +kernel
theorem dX7_actsBy_146 : decode cX7_actsBy 146 = .ok (.iaload, 1) := by decide +kernel
theorem dX7_actsBy_147 : decode cX7_actsBy 147 = .ok (.invokevirtual 336, 3) := by decide +kernel
theorem dX7_actsBy_150 : decode cX7_actsBy 150 = .ok (.ifCond .lt 7, 3) := by decide +kernel
theorem dX7_actsBy_153 : decode cX7_actsBy 153 = .ok (.iconst 1, 1) := by decide +kernel
theorem dX7_actsBy_154 : decode cX7_actsBy 154 = .ok (.goto 4, 3) := by decide +kernel
theorem dX7_actsBy_157 : decode cX7_actsBy 157 = .ok (.iconst 0, 1) := by decide +kernel
theorem dX7_actsBy_158 : decode cX7_actsBy 158 = .ok (.iadd, 1) := by decide +kernel
theorem dX7_actsBy_159 : decode cX7_actsBy 159 = .ok (.istore 5, 2) := by decide +kernel
theorem dX7_actsBy_161 : decode cX7_actsBy 161 = .ok (.iinc 6 1, 3) := by decide +kernel
theorem dX7_actsBy_164 : decode cX7_actsBy 164 = .ok (.goto (-89), 3) := by decide +kernel
theorem dX7_actsBy_167 : decode cX7_actsBy 167 = .ok (.iload 5, 2) := by decide +kernel
theorem dX7_actsBy_169 : decode cX7_actsBy 169 = .ok (.ireturn, 1) := by decide +kernel
theorem dX7_over_0 : decode cX7_over 0 = .ok (.iload_n 0, 1) := by decide +kernel
theorem dX7_over_1 : decode cX7_over 1 = .ok (.iconst 4, 1) := by decide +kernel
theorem dX7_over_2 : decode cX7_over 2 = .ok (.if_icmp .ne 7, 3) := by decide +kernel
theorem dX7_over_5 : decode cX7_over 5 = .ok (.iconst 1, 1) := by decide +kernel
theorem dX7_over_6 : decode cX7_over 6 = .ok (.goto 13, 3) := by decide +kernel
theorem dX7_over_9 : decode cX7_over 9 = .ok (.iload_n 0, 1) := by decide +kernel
theorem dX7_over_10 : decode cX7_over 10 = .ok (.iconst 5, 1) := by decide +kernel
theorem dX7_over_11 : decode cX7_over 11 = .ok (.if_icmp .ne 7, 3) := by decide +kernel
theorem dX7_over_14 : decode cX7_over 14 = .ok (.iconst 3, 1) := by decide +kernel
theorem dX7_over_15 : decode cX7_over 15 = .ok (.goto 4, 3) := by decide +kernel
theorem dX7_over_18 : decode cX7_over 18 = .ok (.iconst 0, 1) := by decide +kernel
theorem dX7_over_19 : decode cX7_over 19 = .ok (.ireturn, 1) := by decide +kernel
theorem dX7_takenAct_0 : decode cX7_takenAct 0 = .ok (.aload_n 0, 1) := by decide +kernel
theorem dX7_takenAct_1 : decode cX7_takenAct 1 = .ok (.iload_n 1, 1) := by decide +kernel
theorem dX7_takenAct_2 : decode cX7_takenAct 2 = .ok (.invokevirtual 207, 3) := by decide +kernel
theorem dX7_takenAct_5 : decode cX7_takenAct 5 = .ok (.ifCond .ne 6, 3) := by decide +kernel
theorem dX7_takenAct_8 : decode cX7_takenAct 8 = .ok (.bipush (-11), 2) := by decide +kernel
theorem dX7_takenAct_10 : decode cX7_takenAct 10 = .ok (.ireturn, 1) := by decide +kernel
theorem dX7_takenAct_11 : decode cX7_takenAct 11 = .ok (.aload_n 0, 1) := by decide +kernel
theorem dX7_takenAct_12 : decode cX7_takenAct 12 = .ok (.getfield 38, 3) := by decide +kernel
theorem dX7_takenAct_15 : decode cX7_takenAct 15 = .ok (.iload_n 1, 1) := by decide +kernel
theorem dX7_takenAct_16 : decode cX7_takenAct 16 = .ok (.iaload, 1) := by decide +kernel
theorem dX7_takenAct_17 : decode cX7_takenAct 17 = .ok (.istore_n 3, 1) := by decide +kernel
theorem dX7_takenAct_18 : decode cX7_takenAct 18 = .ok (.iload_n 3, 1) := by decide +kernel
theorem dX7_takenAct_19 : decode cX7_takenAct 19 = .ok (.iload_n 2, 1) := by decide +kernel
theorem dX7_takenAct_20 : decode cX7_takenAct 20 = .ok (.if_icmp .eq 15, 3) := by decide +kernel
theorem dX7_takenAct_23 : decode cX7_takenAct 23 = .ok (.iload_n 3, 1) := by decide +kernel
theorem dX7_takenAct_24 : decode cX7_takenAct 24 = .ok (.ifCond .le 11, 3) := by decide +kernel
theorem dX7_takenAct_27 : decode cX7_takenAct 27 = .ok (.iload_n 3, 1) := by decide +kernel
theorem dX7_takenAct_28 : decode cX7_takenAct 28 = .ok (.invokestatic 339, 3) := by decide +kernel
theorem dX7_takenAct_31 : decode cX7_takenAct 31 = .ok (.istore_n 3, 1) := by decide +kernel
theorem dX7_takenAct_32 : decode cX7_takenAct 32 = .ok (.goto (-14), 3) := by decide +kernel
theorem dX7_takenAct_35 : decode cX7_takenAct 35 = .ok (.iload_n 3, 1) := by decide +kernel
theorem dX7_takenAct_36 : decode cX7_takenAct 36 = .ok (.iload_n 2, 1) := by decide +kernel
theorem dX7_takenAct_37 : decode cX7_takenAct 37 = .ok (.if_icmp .ne 7, 3) := by decide +kernel
theorem dX7_takenAct_40 : decode cX7_takenAct 40 = .ok (.iload_n 1, 1) := by decide +kernel
theorem dX7_takenAct_41 : decode cX7_takenAct 41 = .ok (.goto 5, 3) := by decide +kernel
theorem dX7_takenAct_44 : decode cX7_takenAct 44 = .ok (.bipush (-13), 2) := by decide +kernel
theorem dX7_takenAct_46 : decode cX7_takenAct 46 = .ok (.ireturn, 1) := by decide +kernel
theorem dX7_taken_0 : decode cX7_taken 0 = .ok (.iload_n 2, 1) := by decide +kernel
theorem dX7_taken_1 : decode cX7_taken 1 = .ok (.i2l, 1) := by decide +kernel
theorem dX7_taken_2 : decode cX7_taken 2 = .ok (.lconst 0, 1) := by decide +kernel
theorem dX7_taken_3 : decode cX7_taken 3 = .ok (.ldc2_w 342, 3) := by decide +kernel
theorem dX7_taken_6 : decode cX7_taken 6 = .ok (.invokestatic 75, 3) := by decide +kernel
theorem dX7_taken_9 : decode cX7_taken 9 = .ok (.ifCond .ne 6, 3) := by decide +kernel
theorem dX7_taken_12 : decode cX7_taken 12 = .ok (.bipush (-2), 2) := by decide +kernel
theorem dX7_taken_14 : decode cX7_taken 14 = .ok (.ireturn, 1) := by decide +kernel
theorem dX7_taken_15 : decode cX7_taken 15 = .ok (.iload_n 1, 1) := by decide +kernel
theorem dX7_taken_16 : decode cX7_taken 16 = .ok (.i2l, 1) := by decide +kernel
theorem dX7_taken_17 : decode cX7_taken 17 = .ok (.lconst 0, 1) := by decide +kernel
theorem dX7_taken_18 : decode cX7_taken 18 = .ok (.ldc2_w 344, 3) := by decide +kernel
theorem dX7_taken_21 : decode cX7_taken 21 = .ok (.invokestatic 75, 3) := by decide +kernel
theorem dX7_taken_24 : decode cX7_taken 24 = .ok (.ifCond .ne 6, 3) := by decide +kernel
theorem dX7_taken_27 : decode cX7_taken 27 = .ok (.bipush (-12), 2) := by decide +kernel
theorem dX7_taken_29 : decode cX7_taken 29 = .ok (.ireturn, 1) := by decide +kernel
theorem dX7_taken_30 : decode cX7_taken 30 = .ok (.iload_n 1, 1) := by decide +kernel
theorem dX7_taken_31 : decode cX7_taken 31 = .ok (.iconst 4, 1) := by decide +kernel
theorem dX7_taken_32 : decode cX7_taken 32 = .ok (.if_icmp .ge 36, 3) := by decide +kernel
theorem dX7_taken_35 : decode cX7_taken 35 = .ok (.aload_n 0, 1) := by decide +kernel
theorem dX7_taken_36 : decode cX7_taken 36 = .ok (.iload_n 1, 1) := by decide +kernel
theorem dX7_taken_37 : decode cX7_taken 37 = .ok (.invokevirtual 85, 3) := by decide +kernel
theorem dX7_taken_40 : decode cX7_taken 40 = .ok (.ifCond .ne 8, 3) := by decide +kernel
theorem dX7_taken_43 : decode cX7_taken 43 = .ok (.bipush (-11), 2) := by decide +kernel
theorem dX7_taken_45 : decode cX7_taken 45 = .ok (.goto 22, 3) := by decide +kernel
theorem dX7_taken_48 : decode cX7_taken 48 = .ok (.iload_n 2, 1) := by decide +kernel
theorem dX7_taken_49 : decode cX7_taken 49 = .ok (.bipush 6, 2) := by decide +kernel
theorem dX7_taken_51 : decode cX7_taken 51 = .ok (.if_icmp .ne 14, 3) := by decide +kernel
theorem dX7_taken_54 : decode cX7_taken 54 = .ok (.aload_n 0, 1) := by decide +kernel
theorem dX7_taken_55 : decode cX7_taken 55 = .ok (.getfield 9, 3) := by decide +kernel
theorem dX7_taken_58 : decode cX7_taken 58 = .ok (.iconst 5, 1) := by decide +kernel
theorem dX7_taken_59 : decode cX7_taken 59 = .ok (.iload_n 1, 1) := by decide +kernel
theorem dX7_taken_60 : decode cX7_taken 60 = .ok (.imul, 1) := by decide +kernel
theorem dX7_taken_61 : decode cX7_taken 61 = .ok (.iaload, 1) := by decide +kernel
theorem dX7_taken_62 : decode cX7_taken 62 = .ok (.goto 5, 3) := by decide +kernel
theorem dX7_taken_65 : decode cX7_taken 65 = .ok (.bipush (-13), 2) := by decide +kernel
theorem dX7_taken_67 : decode cX7_taken 67 = .ok (.ireturn, 1) := by decide +kernel
theorem dX7_taken_68 : decode cX7_taken 68 = .ok (.aload_n 0, 1) := by decide +kernel
theorem dX7_taken_69 : decode cX7_taken 69 = .ok (.iload_n 1, 1) := by decide +kernel
theorem dX7_taken_70 : decode cX7_taken 70 = .ok (.iconst 4, 1) := by decide +kernel
theorem dX7_taken_71 : decode cX7_taken 71 = .ok (.isub, 1) := by decide +kernel
theorem dX7_taken_72 : decode cX7_taken 72 = .ok (.iload_n 2, 1) := by decide +kernel
theorem dX7_taken_73 : decode cX7_taken 73 = .ok (.invokevirtual 346, 3) := by decide +kernel
theorem dX7_taken_76 : decode cX7_taken 76 = .ok (.ireturn, 1) := by decide +kernel
theorem dL_law_0 : decode cL_law 0 = .ok (.new 7, 3) := by decide +kernel
theorem dL_law_3 : decode cL_law 3 = .ok (.dup, 1) := by decide +kernel
theorem dL_law_4 : decode cL_law 4 = .ok (.invokespecial 9, 3) := by decide +kernel
theorem dL_law_7 : decode cL_law 7 = .ok (.astore_n 1, 1) := by decide +kernel
theorem dL_law_8 : decode cL_law 8 = .ok (.new 10, 3) := by decide +kernel
theorem dL_law_11 : decode cL_law 11 = .ok (.dup, 1) := by decide +kernel
theorem dL_law_12 : decode cL_law 12 = .ok (.invokespecial 12, 3) := by decide +kernel
theorem dL_law_15 : decode cL_law 15 = .ok (.astore_n 2, 1) := by decide +kernel
theorem dL_law_16 : decode cL_law 16 = .ok (.iconst 0, 1) := by decide +kernel
theorem dL_law_17 : decode cL_law 17 = .ok (.istore_n 3, 1) := by decide +kernel
theorem dL_law_18 : decode cL_law 18 = .ok (.iload_n 3, 1) := by decide +kernel
theorem dL_law_19 : decode cL_law 19 = .ok (.aload_n 0, 1) := by decide +kernel
theorem dL_law_20 : decode cL_law 20 = .ok (.arraylength, 1) := by decide +kernel
theorem dL_law_21 : decode cL_law 21 = .ok (.bipush 7, 2) := by decide +kernel
theorem dL_law_23 : decode cL_law 23 = .ok (.isub, 1) := by decide +kernel
theorem dL_law_24 : decode cL_law 24 = .ok (.if_icmp .gt 1559, 3) := by decide +kernel
theorem dL_law_27 : decode cL_law 27 = .ok (.aload_n 0, 1) := by decide +kernel
theorem dL_law_28 : decode cL_law 28 = .ok (.iload_n 3, 1) := by decide +kernel
theorem dL_law_29 : decode cL_law 29 = .ok (.iaload, 1) := by decide +kernel
theorem dL_law_30 : decode cL_law 30 = .ok (.bipush 63, 2) := by decide +kernel
theorem dL_law_32 : decode cL_law 32 = .ok (.iand, 1) := by decide +kernel
theorem dL_law_33 : decode cL_law 33 = .ok (.tableswitch 1544 0 41 #[183, 246, 289, 322, 355, 378, 453, 466, 489, 532, 545, 578, 611, 634, 667, 680, 693, 706, 719, 753, 796, 819, 842, 875, 918, 951, 984, 1027, 1060, 1093, 1116, 1139, 1173, 1196, 1239, 1283, 1296, 1309, 1352, 1395, 1458, 1511], 183) := by decide +kernel
theorem dL_law_216 : decode cL_law 216 = .ok (.aload_n 1, 1) := by decide +kernel
theorem dL_law_217 : decode cL_law 217 = .ok (.aload_n 0, 1) := by decide +kernel
theorem dL_law_218 : decode cL_law 218 = .ok (.iload_n 3, 1) := by decide +kernel
theorem dL_law_219 : decode cL_law 219 = .ok (.iconst 1, 1) := by decide +kernel
theorem dL_law_220 : decode cL_law 220 = .ok (.iadd, 1) := by decide +kernel
theorem dL_law_221 : decode cL_law 221 = .ok (.iaload, 1) := by decide +kernel
theorem dL_law_222 : decode cL_law 222 = .ok (.aload_n 0, 1) := by decide +kernel
theorem dL_law_223 : decode cL_law 223 = .ok (.iload_n 3, 1) := by decide +kernel
theorem dL_law_224 : decode cL_law 224 = .ok (.iconst 2, 1) := by decide +kernel
theorem dL_law_225 : decode cL_law 225 = .ok (.iadd, 1) := by decide +kernel
theorem dL_law_226 : decode cL_law 226 = .ok (.iaload, 1) := by decide +kernel
theorem dL_law_227 : decode cL_law 227 = .ok (.aload_n 0, 1) := by decide +kernel
theorem dL_law_228 : decode cL_law 228 = .ok (.iload_n 3, 1) := by decide +kernel
theorem dL_law_229 : decode cL_law 229 = .ok (.iconst 3, 1) := by decide +kernel
theorem dL_law_230 : decode cL_law 230 = .ok (.iadd, 1) := by decide +kernel
theorem dL_law_231 : decode cL_law 231 = .ok (.iaload, 1) := by decide +kernel
theorem dL_law_232 : decode cL_law 232 = .ok (.aload_n 0, 1) := by decide +kernel
theorem dL_law_233 : decode cL_law 233 = .ok (.iload_n 3, 1) := by decide +kernel
theorem dL_law_234 : decode cL_law 234 = .ok (.iconst 4, 1) := by decide +kernel
theorem dL_law_235 : decode cL_law 235 = .ok (.iadd, 1) := by decide +kernel
theorem dL_law_236 : decode cL_law 236 = .ok (.iaload, 1) := by decide +kernel
theorem dL_law_237 : decode cL_law 237 = .ok (.aload_n 0, 1) := by decide +kernel
theorem dL_law_238 : decode cL_law 238 = .ok (.iload_n 3, 1) := by decide +kernel
theorem dL_law_239 : decode cL_law 239 = .ok (.iconst 5, 1) := by decide +kernel
theorem dL_law_240 : decode cL_law 240 = .ok (.iadd, 1) := by decide +kernel
theorem dL_law_241 : decode cL_law 241 = .ok (.iaload, 1) := by decide +kernel
theorem dL_law_242 : decode cL_law 242 = .ok (.invokevirtual 13, 3) := by decide +kernel
theorem dL_law_245 : decode cL_law 245 = .ok (.aload_n 2, 1) := by decide +kernel
theorem dL_law_246 : decode cL_law 246 = .ok (.aload_n 0, 1) := by decide +kernel
theorem dL_law_247 : decode cL_law 247 = .ok (.iload_n 3, 1) := by decide +kernel
theorem dL_law_248 : decode cL_law 248 = .ok (.iconst 1, 1) := by decide +kernel
theorem dL_law_249 : decode cL_law 249 = .ok (.iadd, 1) := by decide +kernel
theorem dL_law_250 : decode cL_law 250 = .ok (.iaload, 1) := by decide +kernel
theorem dL_law_251 : decode cL_law 251 = .ok (.aload_n 0, 1) := by decide +kernel
theorem dL_law_252 : decode cL_law 252 = .ok (.iload_n 3, 1) := by decide +kernel
theorem dL_law_253 : decode cL_law 253 = .ok (.iconst 2, 1) := by decide +kernel
theorem dL_law_254 : decode cL_law 254 = .ok (.iadd, 1) := by decide +kernel
theorem dL_law_255 : decode cL_law 255 = .ok (.iaload, 1) := by decide +kernel
theorem dL_law_256 : decode cL_law 256 = .ok (.aload_n 0, 1) := by decide +kernel
theorem dL_law_257 : decode cL_law 257 = .ok (.iload_n 3, 1) := by decide +kernel
theorem dL_law_258 : decode cL_law 258 = .ok (.iconst 3, 1) := by decide +kernel
theorem dL_law_259 : decode cL_law 259 = .ok (.iadd, 1) := by decide +kernel
theorem dL_law_260 : decode cL_law 260 = .ok (.iaload, 1) := by decide +kernel
theorem dL_law_261 : decode cL_law 261 = .ok (.aload_n 0, 1) := by decide +kernel
theorem dL_law_262 : decode cL_law 262 = .ok (.iload_n 3, 1) := by decide +kernel
theorem dL_law_263 : decode cL_law 263 = .ok (.iconst 4, 1) := by decide +kernel
theorem dL_law_264 : decode cL_law 264 = .ok (.iadd, 1) := by decide +kernel
theorem dL_law_265 : decode cL_law 265 = .ok (.iaload, 1) := by decide +kernel
theorem dL_law_266 : decode cL_law 266 = .ok (.aload_n 0, 1) := by decide +kernel
theorem dL_law_267 : decode cL_law 267 = .ok (.iload_n 3, 1) := by decide +kernel
theorem dL_law_268 : decode cL_law 268 = .ok (.iconst 5, 1) := by decide +kernel
theorem dL_law_269 : decode cL_law 269 = .ok (.iadd, 1) := by decide +kernel
theorem dL_law_270 : decode cL_law 270 = .ok (.iaload, 1) := by decide +kernel
theorem dL_law_271 : decode cL_law 271 = .ok (.invokevirtual 17, 3) := by decide +kernel
theorem dL_law_274 : decode cL_law 274 = .ok (.if_icmp .eq 1303, 3) := by decide +kernel
theorem dL_law_277 : decode cL_law 277 = .ok (.iconst 0, 1) := by decide +kernel
theorem dL_law_278 : decode cL_law 278 = .ok (.ireturn, 1) := by decide +kernel
theorem dL_law_279 : decode cL_law 279 = .ok (.aload_n 1, 1) := by decide +kernel
theorem dL_law_280 : decode cL_law 280 = .ok (.aload_n 0, 1) := by decide +kernel
theorem dL_law_281 : decode cL_law 281 = .ok (.iload_n 3, 1) := by decide +kernel
theorem dL_law_282 : decode cL_law 282 = .ok (.iconst 1, 1) := by decide +kernel
theorem dL_law_283 : decode cL_law 283 = .ok (.iadd, 1) := by decide +kernel
theorem dL_law_284 : decode cL_law 284 = .ok (.iaload, 1) := by decide +kernel
theorem dL_law_285 : decode cL_law 285 = .ok (.aload_n 0, 1) := by decide +kernel
theorem dL_law_286 : decode cL_law 286 = .ok (.iload_n 3, 1) := by decide +kernel
theorem dL_law_287 : decode cL_law 287 = .ok (.iconst 2, 1) := by decide +kernel
theorem dL_law_288 : decode cL_law 288 = .ok (.iadd, 1) := by decide +kernel
theorem dL_law_289 : decode cL_law 289 = .ok (.iaload, 1) := by decide +kernel
theorem dL_law_290 : decode cL_law 290 = .ok (.aload_n 0, 1) := by decide +kernel
theorem dL_law_291 : decode cL_law 291 = .ok (.iload_n 3, 1) := by decide +kernel
theorem dL_law_292 : decode cL_law 292 = .ok (.iconst 3, 1) := by decide +kernel
theorem dL_law_293 : decode cL_law 293 = .ok (.iadd, 1) := by decide +kernel
theorem dL_law_294 : decode cL_law 294 = .ok (.iaload, 1) := by decide +kernel
theorem dL_law_295 : decode cL_law 295 = .ok (.invokevirtual 18, 3) := by decide +kernel
theorem dL_law_298 : decode cL_law 298 = .ok (.aload_n 2, 1) := by decide +kernel
theorem dL_law_299 : decode cL_law 299 = .ok (.aload_n 0, 1) := by decide +kernel
theorem dL_law_300 : decode cL_law 300 = .ok (.iload_n 3, 1) := by decide +kernel
theorem dL_law_301 : decode cL_law 301 = .ok (.iconst 1, 1) := by decide +kernel
theorem dL_law_302 : decode cL_law 302 = .ok (.iadd, 1) := by decide +kernel
theorem dL_law_303 : decode cL_law 303 = .ok (.iaload, 1) := by decide +kernel
theorem dL_law_304 : decode cL_law 304 = .ok (.aload_n 0, 1) := by decide +kernel
theorem dL_law_305 : decode cL_law 305 = .ok (.iload_n 3, 1) := by decide +kernel
theorem dL_law_306 : decode cL_law 306 = .ok (.iconst 2, 1) := by decide +kernel
theorem dL_law_307 : decode cL_law 307 = .ok (.iadd, 1) := by decide +kernel
theorem dL_law_308 : decode cL_law 308 = .ok (.iaload, 1) := by decide +kernel
theorem dL_law_309 : decode cL_law 309 = .ok (.aload_n 0, 1) := by decide +kernel
theorem dL_law_310 : decode cL_law 310 = .ok (.iload_n 3, 1) := by decide +kernel
theorem dL_law_311 : decode cL_law 311 = .ok (.iconst 3, 1) := by decide +kernel
theorem dL_law_312 : decode cL_law 312 = .ok (.iadd, 1) := by decide +kernel
theorem dL_law_313 : decode cL_law 313 = .ok (.iaload, 1) := by decide +kernel
theorem dL_law_314 : decode cL_law 314 = .ok (.invokevirtual 22, 3) := by decide +kernel
theorem dL_law_317 : decode cL_law 317 = .ok (.if_icmp .eq 1260, 3) := by decide +kernel
theorem dL_law_320 : decode cL_law 320 = .ok (.iconst 0, 1) := by decide +kernel
theorem dL_law_321 : decode cL_law 321 = .ok (.ireturn, 1) := by decide +kernel
theorem dL_law_322 : decode cL_law 322 = .ok (.aload_n 1, 1) := by decide +kernel
theorem dL_law_323 : decode cL_law 323 = .ok (.aload_n 0, 1) := by decide +kernel
theorem dL_law_324 : decode cL_law 324 = .ok (.iload_n 3, 1) := by decide +kernel
theorem dL_law_325 : decode cL_law 325 = .ok (.iconst 1, 1) := by decide +kernel
theorem dL_law_326 : decode cL_law 326 = .ok (.iadd, 1) := by decide +kernel
theorem dL_law_327 : decode cL_law 327 = .ok (.iaload, 1) := by decide +kernel
theorem dL_law_328 : decode cL_law 328 = .ok (.aload_n 0, 1) := by decide +kernel
theorem dL_law_329 : decode cL_law 329 = .ok (.iload_n 3, 1) := by decide +kernel
theorem dL_law_330 : decode cL_law 330 = .ok (.iconst 2, 1) := by decide +kernel
theorem dL_law_331 : decode cL_law 331 = .ok (.iadd, 1) := by decide +kernel
theorem dL_law_332 : decode cL_law 332 = .ok (.iaload, 1) := by decide +kernel
theorem dL_law_333 : decode cL_law 333 = .ok (.invokevirtual 23, 3) := by decide +kernel
theorem dL_law_336 : decode cL_law 336 = .ok (.aload_n 2, 1) := by decide +kernel
theorem dL_law_337 : decode cL_law 337 = .ok (.aload_n 0, 1) := by decide +kernel
theorem dL_law_338 : decode cL_law 338 = .ok (.iload_n 3, 1) := by decide +kernel
theorem dL_law_339 : decode cL_law 339 = .ok (.iconst 1, 1) := by decide +kernel
theorem dL_law_340 : decode cL_law 340 = .ok (.iadd, 1) := by decide +kernel
theorem dL_law_341 : decode cL_law 341 = .ok (.iaload, 1) := by decide +kernel
theorem dL_law_342 : decode cL_law 342 = .ok (.aload_n 0, 1) := by decide +kernel
theorem dL_law_343 : decode cL_law 343 = .ok (.iload_n 3, 1) := by decide +kernel
theorem dL_law_344 : decode cL_law 344 = .ok (.iconst 2, 1) := by decide +kernel
theorem dL_law_345 : decode cL_law 345 = .ok (.iadd, 1) := by decide +kernel
theorem dL_law_346 : decode cL_law 346 = .ok (.iaload, 1) := by decide +kernel
theorem dL_law_347 : decode cL_law 347 = .ok (.invokevirtual 27, 3) := by decide +kernel
theorem dL_law_350 : decode cL_law 350 = .ok (.if_icmp .eq 1227, 3) := by decide +kernel
theorem dL_law_353 : decode cL_law 353 = .ok (.iconst 0, 1) := by decide +kernel
theorem dL_law_354 : decode cL_law 354 = .ok (.ireturn, 1) := by decide +kernel
theorem dL_law_355 : decode cL_law 355 = .ok (.aload_n 1, 1) := by decide +kernel
theorem dL_law_356 : decode cL_law 356 = .ok (.aload_n 0, 1) := by decide +kernel
theorem dL_law_357 : decode cL_law 357 = .ok (.iload_n 3, 1) := by decide +kernel
theorem dL_law_358 : decode cL_law 358 = .ok (.iconst 1, 1) := by decide +kernel
theorem dL_law_359 : decode cL_law 359 = .ok (.iadd, 1) := by decide +kernel
theorem dL_law_360 : decode cL_law 360 = .ok (.iaload, 1) := by decide +kernel
theorem dL_law_361 : decode cL_law 361 = .ok (.aload_n 0, 1) := by decide +kernel
theorem dL_law_362 : decode cL_law 362 = .ok (.iload_n 3, 1) := by decide +kernel
theorem dL_law_363 : decode cL_law 363 = .ok (.iconst 2, 1) := by decide +kernel
theorem dL_law_364 : decode cL_law 364 = .ok (.iadd, 1) := by decide +kernel
theorem dL_law_365 : decode cL_law 365 = .ok (.iaload, 1) := by decide +kernel
theorem dL_law_366 : decode cL_law 366 = .ok (.invokevirtual 28, 3) := by decide +kernel
theorem dL_law_369 : decode cL_law 369 = .ok (.aload_n 2, 1) := by decide +kernel
theorem dL_law_370 : decode cL_law 370 = .ok (.aload_n 0, 1) := by decide +kernel
theorem dL_law_371 : decode cL_law 371 = .ok (.iload_n 3, 1) := by decide +kernel
theorem dL_law_372 : decode cL_law 372 = .ok (.iconst 1, 1) := by decide +kernel
theorem dL_law_373 : decode cL_law 373 = .ok (.iadd, 1) := by decide +kernel
theorem dL_law_374 : decode cL_law 374 = .ok (.iaload, 1) := by decide +kernel
theorem dL_law_375 : decode cL_law 375 = .ok (.aload_n 0, 1) := by decide +kernel
theorem dL_law_376 : decode cL_law 376 = .ok (.iload_n 3, 1) := by decide +kernel
theorem dL_law_377 : decode cL_law 377 = .ok (.iconst 2, 1) := by decide +kernel
theorem dL_law_378 : decode cL_law 378 = .ok (.iadd, 1) := by decide +kernel
theorem dL_law_379 : decode cL_law 379 = .ok (.iaload, 1) := by decide +kernel
theorem dL_law_380 : decode cL_law 380 = .ok (.invokevirtual 31, 3) := by decide +kernel
theorem dL_law_383 : decode cL_law 383 = .ok (.if_icmp .eq 1194, 3) := by decide +kernel
theorem dL_law_386 : decode cL_law 386 = .ok (.iconst 0, 1) := by decide +kernel
theorem dL_law_387 : decode cL_law 387 = .ok (.ireturn, 1) := by decide +kernel
theorem dL_law_388 : decode cL_law 388 = .ok (.aload_n 1, 1) := by decide +kernel
theorem dL_law_389 : decode cL_law 389 = .ok (.aload_n 0, 1) := by decide +kernel
theorem dL_law_390 : decode cL_law 390 = .ok (.iload_n 3, 1) := by decide +kernel
theorem dL_law_391 : decode cL_law 391 = .ok (.iconst 1, 1) := by decide +kernel
theorem dL_law_392 : decode cL_law 392 = .ok (.iadd, 1) := by decide +kernel
theorem dL_law_393 : decode cL_law 393 = .ok (.iaload, 1) := by decide +kernel
theorem dL_law_394 : decode cL_law 394 = .ok (.invokevirtual 32, 3) := by decide +kernel
theorem dL_law_397 : decode cL_law 397 = .ok (.aload_n 2, 1) := by decide +kernel
theorem dL_law_398 : decode cL_law 398 = .ok (.aload_n 0, 1) := by decide +kernel
theorem dL_law_399 : decode cL_law 399 = .ok (.iload_n 3, 1) := by decide +kernel
theorem dL_law_400 : decode cL_law 400 = .ok (.iconst 1, 1) := by decide +kernel
theorem dL_law_401 : decode cL_law 401 = .ok (.iadd, 1) := by decide +kernel
theorem dL_law_402 : decode cL_law 402 = .ok (.iaload, 1) := by decide +kernel
theorem dL_law_403 : decode cL_law 403 = .ok (.invokevirtual 36, 3) := by decide +kernel
theorem dL_law_406 : decode cL_law 406 = .ok (.if_icmp .eq 1171, 3) := by decide +kernel
theorem dL_law_409 : decode cL_law 409 = .ok (.iconst 0, 1) := by decide +kernel
theorem dL_law_410 : decode cL_law 410 = .ok (.ireturn, 1) := by decide +kernel
theorem dL_law_411 : decode cL_law 411 = .ok (.aload_n 1, 1) := by decide +kernel
theorem dL_law_412 : decode cL_law 412 = .ok (.aload_n 0, 1) := by decide +kernel
theorem dL_law_413 : decode cL_law 413 = .ok (.iload_n 3, 1) := by decide +kernel
theorem dL_law_414 : decode cL_law 414 = .ok (.iconst 1, 1) := by decide +kernel
theorem dL_law_415 : decode cL_law 415 = .ok (.iadd, 1) := by decide +kernel
theorem dL_law_416 : decode cL_law 416 = .ok (.iaload, 1) := by decide +kernel
theorem dL_law_417 : decode cL_law 417 = .ok (.aload_n 0, 1) := by decide +kernel
theorem dL_law_418 : decode cL_law 418 = .ok (.iload_n 3, 1) := by decide +kernel
theorem dL_law_419 : decode cL_law 419 = .ok (.iconst 2, 1) := by decide +kernel
theorem dL_law_420 : decode cL_law 420 = .ok (.iadd, 1) := by decide +kernel
theorem dL_law_421 : decode cL_law 421 = .ok (.iaload, 1) := by decide +kernel
theorem dL_law_422 : decode cL_law 422 = .ok (.aload_n 0, 1) := by decide +kernel
theorem dL_law_423 : decode cL_law 423 = .ok (.iload_n 3, 1) := by decide +kernel
theorem dL_law_424 : decode cL_law 424 = .ok (.iconst 3, 1) := by decide +kernel
theorem dL_law_425 : decode cL_law 425 = .ok (.iadd, 1) := by decide +kernel
theorem dL_law_426 : decode cL_law 426 = .ok (.iaload, 1) := by decide +kernel
theorem dL_law_427 : decode cL_law 427 = .ok (.aload_n 0, 1) := by decide +kernel
theorem dL_law_428 : decode cL_law 428 = .ok (.iload_n 3, 1) := by decide +kernel
theorem dL_law_429 : decode cL_law 429 = .ok (.iconst 4, 1) := by decide +kernel
theorem dL_law_430 : decode cL_law 430 = .ok (.iadd, 1) := by decide +kernel
theorem dL_law_431 : decode cL_law 431 = .ok (.iaload, 1) := by decide +kernel
theorem dL_law_432 : decode cL_law 432 = .ok (.aload_n 0, 1) := by decide +kernel
theorem dL_law_433 : decode cL_law 433 = .ok (.iload_n 3, 1) := by decide +kernel
theorem dL_law_434 : decode cL_law 434 = .ok (.iconst 5, 1) := by decide +kernel
theorem dL_law_435 : decode cL_law 435 = .ok (.iadd, 1) := by decide +kernel
theorem dL_law_436 : decode cL_law 436 = .ok (.iaload, 1) := by decide +kernel
theorem dL_law_437 : decode cL_law 437 = .ok (.aload_n 0, 1) := by decide +kernel
theorem dL_law_438 : decode cL_law 438 = .ok (.iload_n 3, 1) := by decide +kernel
theorem dL_law_439 : decode cL_law 439 = .ok (.bipush 6, 2) := by decide +kernel
theorem dL_law_441 : decode cL_law 441 = .ok (.iadd, 1) := by decide +kernel
theorem dL_law_442 : decode cL_law 442 = .ok (.iaload, 1) := by decide +kernel
theorem dL_law_443 : decode cL_law 443 = .ok (.invokevirtual 37, 3) := by decide +kernel
theorem dL_law_446 : decode cL_law 446 = .ok (.aload_n 2, 1) := by decide +kernel
theorem dL_law_447 : decode cL_law 447 = .ok (.aload_n 0, 1) := by decide +kernel
theorem dL_law_448 : decode cL_law 448 = .ok (.iload_n 3, 1) := by decide +kernel
theorem dL_law_449 : decode cL_law 449 = .ok (.iconst 1, 1) := by decide +kernel
theorem dL_law_450 : decode cL_law 450 = .ok (.iadd, 1) := by decide +kernel
theorem dL_law_451 : decode cL_law 451 = .ok (.iaload, 1) := by decide +kernel
theorem dL_law_452 : decode cL_law 452 = .ok (.aload_n 0, 1) := by decide +kernel
theorem dL_law_453 : decode cL_law 453 = .ok (.iload_n 3, 1) := by decide +kernel
theorem dL_law_454 : decode cL_law 454 = .ok (.iconst 2, 1) := by decide +kernel
theorem dL_law_455 : decode cL_law 455 = .ok (.iadd, 1) := by decide +kernel
theorem dL_law_456 : decode cL_law 456 = .ok (.iaload, 1) := by decide +kernel
theorem dL_law_457 : decode cL_law 457 = .ok (.aload_n 0, 1) := by decide +kernel
theorem dL_law_458 : decode cL_law 458 = .ok (.iload_n 3, 1) := by decide +kernel
theorem dL_law_459 : decode cL_law 459 = .ok (.iconst 3, 1) := by decide +kernel
theorem dL_law_460 : decode cL_law 460 = .ok (.iadd, 1) := by decide +kernel
theorem dL_law_461 : decode cL_law 461 = .ok (.iaload, 1) := by decide +kernel
theorem dL_law_462 : decode cL_law 462 = .ok (.aload_n 0, 1) := by decide +kernel
theorem dL_law_463 : decode cL_law 463 = .ok (.iload_n 3, 1) := by decide +kernel
theorem dL_law_464 : decode cL_law 464 = .ok (.iconst 4, 1) := by decide +kernel
theorem dL_law_465 : decode cL_law 465 = .ok (.iadd, 1) := by decide +kernel
theorem dL_law_466 : decode cL_law 466 = .ok (.iaload, 1) := by decide +kernel
theorem dL_law_467 : decode cL_law 467 = .ok (.aload_n 0, 1) := by decide +kernel
theorem dL_law_468 : decode cL_law 468 = .ok (.iload_n 3, 1) := by decide +kernel
theorem dL_law_469 : decode cL_law 469 = .ok (.iconst 5, 1) := by decide +kernel
theorem dL_law_470 : decode cL_law 470 = .ok (.iadd, 1) := by decide +kernel
theorem dL_law_471 : decode cL_law 471 = .ok (.iaload, 1) := by decide +kernel
theorem dL_law_472 : decode cL_law 472 = .ok (.aload_n 0, 1) := by decide +kernel
theorem dL_law_473 : decode cL_law 473 = .ok (.iload_n 3, 1) := by decide +kernel
theorem dL_law_474 : decode cL_law 474 = .ok (.bipush 6, 2) := by decide +kernel
theorem dL_law_476 : decode cL_law 476 = .ok (.iadd, 1) := by decide +kernel
theorem dL_law_477 : decode cL_law 477 = .ok (.iaload, 1) := by decide +kernel
theorem dL_law_478 : decode cL_law 478 = .ok (.invokevirtual 41, 3) := by decide +kernel
theorem dL_law_481 : decode cL_law 481 = .ok (.if_icmp .eq 1096, 3) := by decide +kernel
theorem dL_law_484 : decode cL_law 484 = .ok (.iconst 0, 1) := by decide +kernel
theorem dL_law_485 : decode cL_law 485 = .ok (.ireturn, 1) := by decide +kernel
theorem dL_law_486 : decode cL_law 486 = .ok (.aload_n 1, 1) := by decide +kernel
theorem dL_law_487 : decode cL_law 487 = .ok (.invokevirtual 42, 3) := by decide +kernel
theorem dL_law_490 : decode cL_law 490 = .ok (.aload_n 2, 1) := by decide +kernel
theorem dL_law_491 : decode cL_law 491 = .ok (.invokevirtual 46, 3) := by decide +kernel
theorem dL_law_494 : decode cL_law 494 = .ok (.if_icmp .eq 1083, 3) := by decide +kernel
theorem dL_law_497 : decode cL_law 497 = .ok (.iconst 0, 1) := by decide +kernel
theorem dL_law_498 : decode cL_law 498 = .ok (.ireturn, 1) := by decide +kernel
theorem dL_law_499 : decode cL_law 499 = .ok (.aload_n 1, 1) := by decide +kernel
theorem dL_law_500 : decode cL_law 500 = .ok (.aload_n 0, 1) := by decide +kernel
theorem dL_law_501 : decode cL_law 501 = .ok (.iload_n 3, 1) := by decide +kernel
theorem dL_law_502 : decode cL_law 502 = .ok (.iconst 1, 1) := by decide +kernel
theorem dL_law_503 : decode cL_law 503 = .ok (.iadd, 1) := by decide +kernel
theorem dL_law_504 : decode cL_law 504 = .ok (.iaload, 1) := by decide +kernel
theorem dL_law_505 : decode cL_law 505 = .ok (.invokevirtual 47, 3) := by decide +kernel
theorem dL_law_508 : decode cL_law 508 = .ok (.aload_n 2, 1) := by decide +kernel
theorem dL_law_509 : decode cL_law 509 = .ok (.aload_n 0, 1) := by decide +kernel
theorem dL_law_510 : decode cL_law 510 = .ok (.iload_n 3, 1) := by decide +kernel
theorem dL_law_511 : decode cL_law 511 = .ok (.iconst 1, 1) := by decide +kernel
theorem dL_law_512 : decode cL_law 512 = .ok (.iadd, 1) := by decide +kernel
theorem dL_law_513 : decode cL_law 513 = .ok (.iaload, 1) := by decide +kernel
theorem dL_law_514 : decode cL_law 514 = .ok (.invokevirtual 50, 3) := by decide +kernel
theorem dL_law_517 : decode cL_law 517 = .ok (.if_icmp .eq 1060, 3) := by decide +kernel
theorem dL_law_520 : decode cL_law 520 = .ok (.iconst 0, 1) := by decide +kernel
theorem dL_law_521 : decode cL_law 521 = .ok (.ireturn, 1) := by decide +kernel
theorem dL_law_522 : decode cL_law 522 = .ok (.aload_n 1, 1) := by decide +kernel
theorem dL_law_523 : decode cL_law 523 = .ok (.aload_n 0, 1) := by decide +kernel
theorem dL_law_524 : decode cL_law 524 = .ok (.iload_n 3, 1) := by decide +kernel
theorem dL_law_525 : decode cL_law 525 = .ok (.iconst 1, 1) := by decide +kernel
theorem dL_law_526 : decode cL_law 526 = .ok (.iadd, 1) := by decide +kernel
theorem dL_law_527 : decode cL_law 527 = .ok (.iaload, 1) := by decide +kernel
theorem dL_law_528 : decode cL_law 528 = .ok (.aload_n 0, 1) := by decide +kernel
theorem dL_law_529 : decode cL_law 529 = .ok (.iload_n 3, 1) := by decide +kernel
theorem dL_law_530 : decode cL_law 530 = .ok (.iconst 2, 1) := by decide +kernel
theorem dL_law_531 : decode cL_law 531 = .ok (.iadd, 1) := by decide +kernel
theorem dL_law_532 : decode cL_law 532 = .ok (.iaload, 1) := by decide +kernel
theorem dL_law_533 : decode cL_law 533 = .ok (.aload_n 0, 1) := by decide +kernel
theorem dL_law_534 : decode cL_law 534 = .ok (.iload_n 3, 1) := by decide +kernel
theorem dL_law_535 : decode cL_law 535 = .ok (.iconst 3, 1) := by decide +kernel
theorem dL_law_536 : decode cL_law 536 = .ok (.iadd, 1) := by decide +kernel
theorem dL_law_537 : decode cL_law 537 = .ok (.iaload, 1) := by decide +kernel
theorem dL_law_538 : decode cL_law 538 = .ok (.invokevirtual 51, 3) := by decide +kernel
theorem dL_law_541 : decode cL_law 541 = .ok (.aload_n 2, 1) := by decide +kernel
theorem dL_law_542 : decode cL_law 542 = .ok (.aload_n 0, 1) := by decide +kernel
theorem dL_law_543 : decode cL_law 543 = .ok (.iload_n 3, 1) := by decide +kernel
theorem dL_law_544 : decode cL_law 544 = .ok (.iconst 1, 1) := by decide +kernel
theorem dL_law_545 : decode cL_law 545 = .ok (.iadd, 1) := by decide +kernel
theorem dL_law_546 : decode cL_law 546 = .ok (.iaload, 1) := by decide +kernel
theorem dL_law_547 : decode cL_law 547 = .ok (.aload_n 0, 1) := by decide +kernel
theorem dL_law_548 : decode cL_law 548 = .ok (.iload_n 3, 1) := by decide +kernel
theorem dL_law_549 : decode cL_law 549 = .ok (.iconst 2, 1) := by decide +kernel
theorem dL_law_550 : decode cL_law 550 = .ok (.iadd, 1) := by decide +kernel
theorem dL_law_551 : decode cL_law 551 = .ok (.iaload, 1) := by decide +kernel
theorem dL_law_552 : decode cL_law 552 = .ok (.aload_n 0, 1) := by decide +kernel
theorem dL_law_553 : decode cL_law 553 = .ok (.iload_n 3, 1) := by decide +kernel
theorem dL_law_554 : decode cL_law 554 = .ok (.iconst 3, 1) := by decide +kernel
theorem dL_law_555 : decode cL_law 555 = .ok (.iadd, 1) := by decide +kernel
theorem dL_law_556 : decode cL_law 556 = .ok (.iaload, 1) := by decide +kernel
theorem dL_law_557 : decode cL_law 557 = .ok (.invokevirtual 54, 3) := by decide +kernel
theorem dL_law_560 : decode cL_law 560 = .ok (.if_icmp .eq 1017, 3) := by decide +kernel
theorem dL_law_563 : decode cL_law 563 = .ok (.iconst 0, 1) := by decide +kernel
theorem dL_law_564 : decode cL_law 564 = .ok (.ireturn, 1) := by decide +kernel
theorem dL_law_565 : decode cL_law 565 = .ok (.aload_n 1, 1) := by decide +kernel
theorem dL_law_566 : decode cL_law 566 = .ok (.invokevirtual 55, 3) := by decide +kernel
theorem dL_law_569 : decode cL_law 569 = .ok (.aload_n 2, 1) := by decide +kernel
theorem dL_law_570 : decode cL_law 570 = .ok (.invokevirtual 58, 3) := by decide +kernel
theorem dL_law_573 : decode cL_law 573 = .ok (.if_icmp .eq 1004, 3) := by decide +kernel
theorem dL_law_576 : decode cL_law 576 = .ok (.iconst 0, 1) := by decide +kernel
theorem dL_law_577 : decode cL_law 577 = .ok (.ireturn, 1) := by decide +kernel
theorem dL_law_578 : decode cL_law 578 = .ok (.aload_n 1, 1) := by decide +kernel
theorem dL_law_579 : decode cL_law 579 = .ok (.aload_n 0, 1) := by decide +kernel
theorem dL_law_580 : decode cL_law 580 = .ok (.iload_n 3, 1) := by decide +kernel
theorem dL_law_581 : decode cL_law 581 = .ok (.iconst 1, 1) := by decide +kernel
theorem dL_law_582 : decode cL_law 582 = .ok (.iadd, 1) := by decide +kernel
theorem dL_law_583 : decode cL_law 583 = .ok (.iaload, 1) := by decide +kernel
theorem dL_law_584 : decode cL_law 584 = .ok (.aload_n 0, 1) := by decide +kernel
theorem dL_law_585 : decode cL_law 585 = .ok (.iload_n 3, 1) := by decide +kernel
theorem dL_law_586 : decode cL_law 586 = .ok (.iconst 2, 1) := by decide +kernel
theorem dL_law_587 : decode cL_law 587 = .ok (.iadd, 1) := by decide +kernel
theorem dL_law_588 : decode cL_law 588 = .ok (.iaload, 1) := by decide +kernel
theorem dL_law_589 : decode cL_law 589 = .ok (.invokevirtual 59, 3) := by decide +kernel
theorem dL_law_592 : decode cL_law 592 = .ok (.aload_n 2, 1) := by decide +kernel
theorem dL_law_593 : decode cL_law 593 = .ok (.aload_n 0, 1) := by decide +kernel
theorem dL_law_594 : decode cL_law 594 = .ok (.iload_n 3, 1) := by decide +kernel
theorem dL_law_595 : decode cL_law 595 = .ok (.iconst 1, 1) := by decide +kernel
theorem dL_law_596 : decode cL_law 596 = .ok (.iadd, 1) := by decide +kernel
theorem dL_law_597 : decode cL_law 597 = .ok (.iaload, 1) := by decide +kernel
theorem dL_law_598 : decode cL_law 598 = .ok (.aload_n 0, 1) := by decide +kernel
theorem dL_law_599 : decode cL_law 599 = .ok (.iload_n 3, 1) := by decide +kernel
theorem dL_law_600 : decode cL_law 600 = .ok (.iconst 2, 1) := by decide +kernel
theorem dL_law_601 : decode cL_law 601 = .ok (.iadd, 1) := by decide +kernel
theorem dL_law_602 : decode cL_law 602 = .ok (.iaload, 1) := by decide +kernel
theorem dL_law_603 : decode cL_law 603 = .ok (.invokevirtual 62, 3) := by decide +kernel
theorem dL_law_606 : decode cL_law 606 = .ok (.if_icmp .eq 971, 3) := by decide +kernel
theorem dL_law_609 : decode cL_law 609 = .ok (.iconst 0, 1) := by decide +kernel
theorem dL_law_610 : decode cL_law 610 = .ok (.ireturn, 1) := by decide +kernel
theorem dL_law_611 : decode cL_law 611 = .ok (.aload_n 1, 1) := by decide +kernel
theorem dL_law_612 : decode cL_law 612 = .ok (.aload_n 0, 1) := by decide +kernel
theorem dL_law_613 : decode cL_law 613 = .ok (.iload_n 3, 1) := by decide +kernel
theorem dL_law_614 : decode cL_law 614 = .ok (.iconst 1, 1) := by decide +kernel
theorem dL_law_615 : decode cL_law 615 = .ok (.iadd, 1) := by decide +kernel
theorem dL_law_616 : decode cL_law 616 = .ok (.iaload, 1) := by decide +kernel
theorem dL_law_617 : decode cL_law 617 = .ok (.aload_n 0, 1) := by decide +kernel
theorem dL_law_618 : decode cL_law 618 = .ok (.iload_n 3, 1) := by decide +kernel
theorem dL_law_619 : decode cL_law 619 = .ok (.iconst 2, 1) := by decide +kernel
theorem dL_law_620 : decode cL_law 620 = .ok (.iadd, 1) := by decide +kernel
theorem dL_law_621 : decode cL_law 621 = .ok (.iaload, 1) := by decide +kernel
theorem dL_law_622 : decode cL_law 622 = .ok (.invokevirtual 63, 3) := by decide +kernel
theorem dL_law_625 : decode cL_law 625 = .ok (.aload_n 2, 1) := by decide +kernel
theorem dL_law_626 : decode cL_law 626 = .ok (.aload_n 0, 1) := by decide +kernel
theorem dL_law_627 : decode cL_law 627 = .ok (.iload_n 3, 1) := by decide +kernel
theorem dL_law_628 : decode cL_law 628 = .ok (.iconst 1, 1) := by decide +kernel
theorem dL_law_629 : decode cL_law 629 = .ok (.iadd, 1) := by decide +kernel
theorem dL_law_630 : decode cL_law 630 = .ok (.iaload, 1) := by decide +kernel
theorem dL_law_631 : decode cL_law 631 = .ok (.aload_n 0, 1) := by decide +kernel
theorem dL_law_632 : decode cL_law 632 = .ok (.iload_n 3, 1) := by decide +kernel
theorem dL_law_633 : decode cL_law 633 = .ok (.iconst 2, 1) := by decide +kernel
theorem dL_law_634 : decode cL_law 634 = .ok (.iadd, 1) := by decide +kernel
theorem dL_law_635 : decode cL_law 635 = .ok (.iaload, 1) := by decide +kernel
theorem dL_law_636 : decode cL_law 636 = .ok (.invokevirtual 66, 3) := by decide +kernel
theorem dL_law_639 : decode cL_law 639 = .ok (.if_icmp .eq 938, 3) := by decide +kernel
theorem dL_law_642 : decode cL_law 642 = .ok (.iconst 0, 1) := by decide +kernel
theorem dL_law_643 : decode cL_law 643 = .ok (.ireturn, 1) := by decide +kernel
theorem dL_law_644 : decode cL_law 644 = .ok (.aload_n 1, 1) := by decide +kernel
theorem dL_law_645 : decode cL_law 645 = .ok (.aload_n 0, 1) := by decide +kernel
theorem dL_law_646 : decode cL_law 646 = .ok (.iload_n 3, 1) := by decide +kernel
theorem dL_law_647 : decode cL_law 647 = .ok (.iconst 1, 1) := by decide +kernel
theorem dL_law_648 : decode cL_law 648 = .ok (.iadd, 1) := by decide +kernel
theorem dL_law_649 : decode cL_law 649 = .ok (.iaload, 1) := by decide +kernel
theorem dL_law_650 : decode cL_law 650 = .ok (.invokevirtual 67, 3) := by decide +kernel
theorem dL_law_653 : decode cL_law 653 = .ok (.aload_n 2, 1) := by decide +kernel
theorem dL_law_654 : decode cL_law 654 = .ok (.aload_n 0, 1) := by decide +kernel
theorem dL_law_655 : decode cL_law 655 = .ok (.iload_n 3, 1) := by decide +kernel
theorem dL_law_656 : decode cL_law 656 = .ok (.iconst 1, 1) := by decide +kernel
theorem dL_law_657 : decode cL_law 657 = .ok (.iadd, 1) := by decide +kernel
theorem dL_law_658 : decode cL_law 658 = .ok (.iaload, 1) := by decide +kernel
theorem dL_law_659 : decode cL_law 659 = .ok (.invokevirtual 70, 3) := by decide +kernel
theorem dL_law_662 : decode cL_law 662 = .ok (.if_icmp .eq 915, 3) := by decide +kernel
theorem dL_law_665 : decode cL_law 665 = .ok (.iconst 0, 1) := by decide +kernel
theorem dL_law_666 : decode cL_law 666 = .ok (.ireturn, 1) := by decide +kernel
theorem dL_law_667 : decode cL_law 667 = .ok (.aload_n 1, 1) := by decide +kernel
theorem dL_law_668 : decode cL_law 668 = .ok (.aload_n 0, 1) := by decide +kernel
theorem dL_law_669 : decode cL_law 669 = .ok (.iload_n 3, 1) := by decide +kernel
theorem dL_law_670 : decode cL_law 670 = .ok (.iconst 1, 1) := by decide +kernel
theorem dL_law_671 : decode cL_law 671 = .ok (.iadd, 1) := by decide +kernel
theorem dL_law_672 : decode cL_law 672 = .ok (.iaload, 1) := by decide +kernel
theorem dL_law_673 : decode cL_law 673 = .ok (.aload_n 0, 1) := by decide +kernel
theorem dL_law_674 : decode cL_law 674 = .ok (.iload_n 3, 1) := by decide +kernel
theorem dL_law_675 : decode cL_law 675 = .ok (.iconst 2, 1) := by decide +kernel
theorem dL_law_676 : decode cL_law 676 = .ok (.iadd, 1) := by decide +kernel
theorem dL_law_677 : decode cL_law 677 = .ok (.iaload, 1) := by decide +kernel
theorem dL_law_678 : decode cL_law 678 = .ok (.invokevirtual 71, 3) := by decide +kernel
theorem dL_law_681 : decode cL_law 681 = .ok (.aload_n 2, 1) := by decide +kernel
theorem dL_law_682 : decode cL_law 682 = .ok (.aload_n 0, 1) := by decide +kernel
theorem dL_law_683 : decode cL_law 683 = .ok (.iload_n 3, 1) := by decide +kernel
theorem dL_law_684 : decode cL_law 684 = .ok (.iconst 1, 1) := by decide +kernel
theorem dL_law_685 : decode cL_law 685 = .ok (.iadd, 1) := by decide +kernel
theorem dL_law_686 : decode cL_law 686 = .ok (.iaload, 1) := by decide +kernel
theorem dL_law_687 : decode cL_law 687 = .ok (.aload_n 0, 1) := by decide +kernel
theorem dL_law_688 : decode cL_law 688 = .ok (.iload_n 3, 1) := by decide +kernel
theorem dL_law_689 : decode cL_law 689 = .ok (.iconst 2, 1) := by decide +kernel
theorem dL_law_690 : decode cL_law 690 = .ok (.iadd, 1) := by decide +kernel
theorem dL_law_691 : decode cL_law 691 = .ok (.iaload, 1) := by decide +kernel
theorem dL_law_692 : decode cL_law 692 = .ok (.invokevirtual 74, 3) := by decide +kernel
theorem dL_law_695 : decode cL_law 695 = .ok (.if_icmp .eq 882, 3) := by decide +kernel
theorem dL_law_698 : decode cL_law 698 = .ok (.iconst 0, 1) := by decide +kernel
theorem dL_law_699 : decode cL_law 699 = .ok (.ireturn, 1) := by decide +kernel
theorem dL_law_700 : decode cL_law 700 = .ok (.aload_n 1, 1) := by decide +kernel
theorem dL_law_701 : decode cL_law 701 = .ok (.invokevirtual 75, 3) := by decide +kernel
theorem dL_law_704 : decode cL_law 704 = .ok (.aload_n 2, 1) := by decide +kernel
theorem dL_law_705 : decode cL_law 705 = .ok (.invokevirtual 78, 3) := by decide +kernel
theorem dL_law_708 : decode cL_law 708 = .ok (.if_icmp .eq 869, 3) := by decide +kernel
theorem dL_law_711 : decode cL_law 711 = .ok (.iconst 0, 1) := by decide +kernel
theorem dL_law_712 : decode cL_law 712 = .ok (.ireturn, 1) := by decide +kernel
theorem dL_law_713 : decode cL_law 713 = .ok (.aload_n 1, 1) := by decide +kernel
theorem dL_law_714 : decode cL_law 714 = .ok (.invokevirtual 79, 3) := by decide +kernel
theorem dL_law_717 : decode cL_law 717 = .ok (.aload_n 2, 1) := by decide +kernel
theorem dL_law_718 : decode cL_law 718 = .ok (.invokevirtual 82, 3) := by decide +kernel
theorem dL_law_721 : decode cL_law 721 = .ok (.if_icmp .eq 856, 3) := by decide +kernel
theorem dL_law_724 : decode cL_law 724 = .ok (.iconst 0, 1) := by decide +kernel
theorem dL_law_725 : decode cL_law 725 = .ok (.ireturn, 1) := by decide +kernel
theorem dL_law_726 : decode cL_law 726 = .ok (.aload_n 1, 1) := by decide +kernel
theorem dL_law_727 : decode cL_law 727 = .ok (.invokevirtual 83, 3) := by decide +kernel
theorem dL_law_730 : decode cL_law 730 = .ok (.aload_n 2, 1) := by decide +kernel
theorem dL_law_731 : decode cL_law 731 = .ok (.invokevirtual 86, 3) := by decide +kernel
theorem dL_law_734 : decode cL_law 734 = .ok (.if_icmp .eq 843, 3) := by decide +kernel
theorem dL_law_737 : decode cL_law 737 = .ok (.iconst 0, 1) := by decide +kernel
theorem dL_law_738 : decode cL_law 738 = .ok (.ireturn, 1) := by decide +kernel
theorem dL_law_739 : decode cL_law 739 = .ok (.aload_n 1, 1) := by decide +kernel
theorem dL_law_740 : decode cL_law 740 = .ok (.invokevirtual 87, 3) := by decide +kernel
theorem dL_law_743 : decode cL_law 743 = .ok (.aload_n 2, 1) := by decide +kernel
theorem dL_law_744 : decode cL_law 744 = .ok (.invokevirtual 90, 3) := by decide +kernel
theorem dL_law_747 : decode cL_law 747 = .ok (.if_icmp .eq 830, 3) := by decide +kernel
theorem dL_law_750 : decode cL_law 750 = .ok (.iconst 0, 1) := by decide +kernel
theorem dL_law_751 : decode cL_law 751 = .ok (.ireturn, 1) := by decide +kernel
theorem dL_law_752 : decode cL_law 752 = .ok (.aload_n 1, 1) := by decide +kernel
theorem dL_law_753 : decode cL_law 753 = .ok (.aload_n 0, 1) := by decide +kernel
theorem dL_law_754 : decode cL_law 754 = .ok (.iload_n 3, 1) := by decide +kernel
theorem dL_law_755 : decode cL_law 755 = .ok (.iconst 1, 1) := by decide +kernel
theorem dL_law_756 : decode cL_law 756 = .ok (.iadd, 1) := by decide +kernel
theorem dL_law_757 : decode cL_law 757 = .ok (.iaload, 1) := by decide +kernel
theorem dL_law_758 : decode cL_law 758 = .ok (.aload_n 0, 1) := by decide +kernel
theorem dL_law_759 : decode cL_law 759 = .ok (.iload_n 3, 1) := by decide +kernel
theorem dL_law_760 : decode cL_law 760 = .ok (.iconst 2, 1) := by decide +kernel
theorem dL_law_761 : decode cL_law 761 = .ok (.iadd, 1) := by decide +kernel
theorem dL_law_762 : decode cL_law 762 = .ok (.iaload, 1) := by decide +kernel
theorem dL_law_763 : decode cL_law 763 = .ok (.invokevirtual 91, 3) := by decide +kernel
theorem dL_law_766 : decode cL_law 766 = .ok (.aload_n 2, 1) := by decide +kernel
theorem dL_law_767 : decode cL_law 767 = .ok (.aload_n 0, 1) := by decide +kernel
theorem dL_law_768 : decode cL_law 768 = .ok (.iload_n 3, 1) := by decide +kernel
theorem dL_law_769 : decode cL_law 769 = .ok (.iconst 1, 1) := by decide +kernel
theorem dL_law_770 : decode cL_law 770 = .ok (.iadd, 1) := by decide +kernel
theorem dL_law_771 : decode cL_law 771 = .ok (.iaload, 1) := by decide +kernel
theorem dL_law_772 : decode cL_law 772 = .ok (.aload_n 0, 1) := by decide +kernel
theorem dL_law_773 : decode cL_law 773 = .ok (.iload_n 3, 1) := by decide +kernel
theorem dL_law_774 : decode cL_law 774 = .ok (.iconst 2, 1) := by decide +kernel
theorem dL_law_775 : decode cL_law 775 = .ok (.iadd, 1) := by decide +kernel
theorem dL_law_776 : decode cL_law 776 = .ok (.iaload, 1) := by decide +kernel
theorem dL_law_777 : decode cL_law 777 = .ok (.invokevirtual 95, 3) := by decide +kernel
theorem dL_law_780 : decode cL_law 780 = .ok (.lcmp, 1) := by decide +kernel
theorem dL_law_781 : decode cL_law 781 = .ok (.ifCond .eq 796, 3) := by decide +kernel
theorem dL_law_784 : decode cL_law 784 = .ok (.iconst 0, 1) := by decide +kernel
theorem dL_law_785 : decode cL_law 785 = .ok (.ireturn, 1) := by decide +kernel
theorem dL_law_786 : decode cL_law 786 = .ok (.aload_n 1, 1) := by decide +kernel
theorem dL_law_787 : decode cL_law 787 = .ok (.aload_n 0, 1) := by decide +kernel
theorem dL_law_788 : decode cL_law 788 = .ok (.iload_n 3, 1) := by decide +kernel
theorem dL_law_789 : decode cL_law 789 = .ok (.iconst 1, 1) := by decide +kernel
theorem dL_law_790 : decode cL_law 790 = .ok (.iadd, 1) := by decide +kernel
theorem dL_law_791 : decode cL_law 791 = .ok (.iaload, 1) := by decide +kernel
theorem dL_law_792 : decode cL_law 792 = .ok (.aload_n 0, 1) := by decide +kernel
theorem dL_law_793 : decode cL_law 793 = .ok (.iload_n 3, 1) := by decide +kernel
theorem dL_law_794 : decode cL_law 794 = .ok (.iconst 2, 1) := by decide +kernel
theorem dL_law_795 : decode cL_law 795 = .ok (.iadd, 1) := by decide +kernel
theorem dL_law_796 : decode cL_law 796 = .ok (.iaload, 1) := by decide +kernel
theorem dL_law_797 : decode cL_law 797 = .ok (.aload_n 0, 1) := by decide +kernel
theorem dL_law_798 : decode cL_law 798 = .ok (.iload_n 3, 1) := by decide +kernel
theorem dL_law_799 : decode cL_law 799 = .ok (.iconst 3, 1) := by decide +kernel
theorem dL_law_800 : decode cL_law 800 = .ok (.iadd, 1) := by decide +kernel
theorem dL_law_801 : decode cL_law 801 = .ok (.iaload, 1) := by decide +kernel
theorem dL_law_802 : decode cL_law 802 = .ok (.invokevirtual 96, 3) := by decide +kernel
theorem dL_law_805 : decode cL_law 805 = .ok (.aload_n 2, 1) := by decide +kernel
theorem dL_law_806 : decode cL_law 806 = .ok (.aload_n 0, 1) := by decide +kernel
theorem dL_law_807 : decode cL_law 807 = .ok (.iload_n 3, 1) := by decide +kernel
theorem dL_law_808 : decode cL_law 808 = .ok (.iconst 1, 1) := by decide +kernel
theorem dL_law_809 : decode cL_law 809 = .ok (.iadd, 1) := by decide +kernel
theorem dL_law_810 : decode cL_law 810 = .ok (.iaload, 1) := by decide +kernel
theorem dL_law_811 : decode cL_law 811 = .ok (.aload_n 0, 1) := by decide +kernel
theorem dL_law_812 : decode cL_law 812 = .ok (.iload_n 3, 1) := by decide +kernel
theorem dL_law_813 : decode cL_law 813 = .ok (.iconst 2, 1) := by decide +kernel
theorem dL_law_814 : decode cL_law 814 = .ok (.iadd, 1) := by decide +kernel
theorem dL_law_815 : decode cL_law 815 = .ok (.iaload, 1) := by decide +kernel
theorem dL_law_816 : decode cL_law 816 = .ok (.aload_n 0, 1) := by decide +kernel
theorem dL_law_817 : decode cL_law 817 = .ok (.iload_n 3, 1) := by decide +kernel
theorem dL_law_818 : decode cL_law 818 = .ok (.iconst 3, 1) := by decide +kernel
theorem dL_law_819 : decode cL_law 819 = .ok (.iadd, 1) := by decide +kernel
theorem dL_law_820 : decode cL_law 820 = .ok (.iaload, 1) := by decide +kernel
theorem dL_law_821 : decode cL_law 821 = .ok (.invokevirtual 99, 3) := by decide +kernel
theorem dL_law_824 : decode cL_law 824 = .ok (.if_icmp .eq 753, 3) := by decide +kernel
theorem dL_law_827 : decode cL_law 827 = .ok (.iconst 0, 1) := by decide +kernel
theorem dL_law_828 : decode cL_law 828 = .ok (.ireturn, 1) := by decide +kernel
theorem dL_law_829 : decode cL_law 829 = .ok (.aload_n 1, 1) := by decide +kernel
theorem dL_law_830 : decode cL_law 830 = .ok (.aload_n 0, 1) := by decide +kernel
theorem dL_law_831 : decode cL_law 831 = .ok (.iload_n 3, 1) := by decide +kernel
theorem dL_law_832 : decode cL_law 832 = .ok (.iconst 1, 1) := by decide +kernel
theorem dL_law_833 : decode cL_law 833 = .ok (.iadd, 1) := by decide +kernel
theorem dL_law_834 : decode cL_law 834 = .ok (.iaload, 1) := by decide +kernel
theorem dL_law_835 : decode cL_law 835 = .ok (.invokevirtual 100, 3) := by decide +kernel
theorem dL_law_838 : decode cL_law 838 = .ok (.aload_n 2, 1) := by decide +kernel
theorem dL_law_839 : decode cL_law 839 = .ok (.aload_n 0, 1) := by decide +kernel
theorem dL_law_840 : decode cL_law 840 = .ok (.iload_n 3, 1) := by decide +kernel
theorem dL_law_841 : decode cL_law 841 = .ok (.iconst 1, 1) := by decide +kernel
theorem dL_law_842 : decode cL_law 842 = .ok (.iadd, 1) := by decide +kernel
theorem dL_law_843 : decode cL_law 843 = .ok (.iaload, 1) := by decide +kernel
theorem dL_law_844 : decode cL_law 844 = .ok (.invokevirtual 103, 3) := by decide +kernel
theorem dL_law_847 : decode cL_law 847 = .ok (.if_icmp .eq 730, 3) := by decide +kernel
theorem dL_law_850 : decode cL_law 850 = .ok (.iconst 0, 1) := by decide +kernel
theorem dL_law_851 : decode cL_law 851 = .ok (.ireturn, 1) := by decide +kernel
theorem dL_law_852 : decode cL_law 852 = .ok (.aload_n 1, 1) := by decide +kernel
theorem dL_law_853 : decode cL_law 853 = .ok (.aload_n 0, 1) := by decide +kernel
theorem dL_law_854 : decode cL_law 854 = .ok (.iload_n 3, 1) := by decide +kernel
theorem dL_law_855 : decode cL_law 855 = .ok (.iconst 1, 1) := by decide +kernel
theorem dL_law_856 : decode cL_law 856 = .ok (.iadd, 1) := by decide +kernel
theorem dL_law_857 : decode cL_law 857 = .ok (.iaload, 1) := by decide +kernel
theorem dL_law_858 : decode cL_law 858 = .ok (.invokevirtual 104, 3) := by decide +kernel
theorem dL_law_861 : decode cL_law 861 = .ok (.aload_n 2, 1) := by decide +kernel
theorem dL_law_862 : decode cL_law 862 = .ok (.aload_n 0, 1) := by decide +kernel
theorem dL_law_863 : decode cL_law 863 = .ok (.iload_n 3, 1) := by decide +kernel
theorem dL_law_864 : decode cL_law 864 = .ok (.iconst 1, 1) := by decide +kernel
theorem dL_law_865 : decode cL_law 865 = .ok (.iadd, 1) := by decide +kernel
theorem dL_law_866 : decode cL_law 866 = .ok (.iaload, 1) := by decide +kernel
theorem dL_law_867 : decode cL_law 867 = .ok (.invokevirtual 107, 3) := by decide +kernel
theorem dL_law_870 : decode cL_law 870 = .ok (.if_icmp .eq 707, 3) := by decide +kernel
theorem dL_law_873 : decode cL_law 873 = .ok (.iconst 0, 1) := by decide +kernel
theorem dL_law_874 : decode cL_law 874 = .ok (.ireturn, 1) := by decide +kernel
theorem dL_law_875 : decode cL_law 875 = .ok (.aload_n 1, 1) := by decide +kernel
theorem dL_law_876 : decode cL_law 876 = .ok (.aload_n 0, 1) := by decide +kernel
theorem dL_law_877 : decode cL_law 877 = .ok (.iload_n 3, 1) := by decide +kernel
theorem dL_law_878 : decode cL_law 878 = .ok (.iconst 1, 1) := by decide +kernel
theorem dL_law_879 : decode cL_law 879 = .ok (.iadd, 1) := by decide +kernel
theorem dL_law_880 : decode cL_law 880 = .ok (.iaload, 1) := by decide +kernel
theorem dL_law_881 : decode cL_law 881 = .ok (.aload_n 0, 1) := by decide +kernel
theorem dL_law_882 : decode cL_law 882 = .ok (.iload_n 3, 1) := by decide +kernel
theorem dL_law_883 : decode cL_law 883 = .ok (.iconst 2, 1) := by decide +kernel
theorem dL_law_884 : decode cL_law 884 = .ok (.iadd, 1) := by decide +kernel
theorem dL_law_885 : decode cL_law 885 = .ok (.iaload, 1) := by decide +kernel
theorem dL_law_886 : decode cL_law 886 = .ok (.invokevirtual 108, 3) := by decide +kernel
theorem dL_law_889 : decode cL_law 889 = .ok (.aload_n 2, 1) := by decide +kernel
theorem dL_law_890 : decode cL_law 890 = .ok (.aload_n 0, 1) := by decide +kernel
theorem dL_law_891 : decode cL_law 891 = .ok (.iload_n 3, 1) := by decide +kernel
theorem dL_law_892 : decode cL_law 892 = .ok (.iconst 1, 1) := by decide +kernel
theorem dL_law_893 : decode cL_law 893 = .ok (.iadd, 1) := by decide +kernel
theorem dL_law_894 : decode cL_law 894 = .ok (.iaload, 1) := by decide +kernel
theorem dL_law_895 : decode cL_law 895 = .ok (.aload_n 0, 1) := by decide +kernel
theorem dL_law_896 : decode cL_law 896 = .ok (.iload_n 3, 1) := by decide +kernel
theorem dL_law_897 : decode cL_law 897 = .ok (.iconst 2, 1) := by decide +kernel
theorem dL_law_898 : decode cL_law 898 = .ok (.iadd, 1) := by decide +kernel
theorem dL_law_899 : decode cL_law 899 = .ok (.iaload, 1) := by decide +kernel
theorem dL_law_900 : decode cL_law 900 = .ok (.invokevirtual 111, 3) := by decide +kernel
theorem dL_law_903 : decode cL_law 903 = .ok (.if_icmp .eq 674, 3) := by decide +kernel
theorem dL_law_906 : decode cL_law 906 = .ok (.iconst 0, 1) := by decide +kernel
theorem dL_law_907 : decode cL_law 907 = .ok (.ireturn, 1) := by decide +kernel
theorem dL_law_908 : decode cL_law 908 = .ok (.aload_n 1, 1) := by decide +kernel
theorem dL_law_909 : decode cL_law 909 = .ok (.aload_n 0, 1) := by decide +kernel
theorem dL_law_910 : decode cL_law 910 = .ok (.iload_n 3, 1) := by decide +kernel
theorem dL_law_911 : decode cL_law 911 = .ok (.iconst 1, 1) := by decide +kernel
theorem dL_law_912 : decode cL_law 912 = .ok (.iadd, 1) := by decide +kernel
theorem dL_law_913 : decode cL_law 913 = .ok (.iaload, 1) := by decide +kernel
theorem dL_law_914 : decode cL_law 914 = .ok (.aload_n 0, 1) := by decide +kernel
theorem dL_law_915 : decode cL_law 915 = .ok (.iload_n 3, 1) := by decide +kernel
theorem dL_law_916 : decode cL_law 916 = .ok (.iconst 2, 1) := by decide +kernel
theorem dL_law_917 : decode cL_law 917 = .ok (.iadd, 1) := by decide +kernel
theorem dL_law_918 : decode cL_law 918 = .ok (.iaload, 1) := by decide +kernel
theorem dL_law_919 : decode cL_law 919 = .ok (.aload_n 0, 1) := by decide +kernel
theorem dL_law_920 : decode cL_law 920 = .ok (.iload_n 3, 1) := by decide +kernel
theorem dL_law_921 : decode cL_law 921 = .ok (.iconst 3, 1) := by decide +kernel
theorem dL_law_922 : decode cL_law 922 = .ok (.iadd, 1) := by decide +kernel
theorem dL_law_923 : decode cL_law 923 = .ok (.iaload, 1) := by decide +kernel
theorem dL_law_924 : decode cL_law 924 = .ok (.invokevirtual 112, 3) := by decide +kernel
theorem dL_law_927 : decode cL_law 927 = .ok (.aload_n 2, 1) := by decide +kernel
theorem dL_law_928 : decode cL_law 928 = .ok (.aload_n 0, 1) := by decide +kernel
theorem dL_law_929 : decode cL_law 929 = .ok (.iload_n 3, 1) := by decide +kernel
theorem dL_law_930 : decode cL_law 930 = .ok (.iconst 1, 1) := by decide +kernel
theorem dL_law_931 : decode cL_law 931 = .ok (.iadd, 1) := by decide +kernel
theorem dL_law_932 : decode cL_law 932 = .ok (.iaload, 1) := by decide +kernel
theorem dL_law_933 : decode cL_law 933 = .ok (.aload_n 0, 1) := by decide +kernel
theorem dL_law_934 : decode cL_law 934 = .ok (.iload_n 3, 1) := by decide +kernel
theorem dL_law_935 : decode cL_law 935 = .ok (.iconst 2, 1) := by decide +kernel
theorem dL_law_936 : decode cL_law 936 = .ok (.iadd, 1) := by decide +kernel
theorem dL_law_937 : decode cL_law 937 = .ok (.iaload, 1) := by decide +kernel
theorem dL_law_938 : decode cL_law 938 = .ok (.aload_n 0, 1) := by decide +kernel
theorem dL_law_939 : decode cL_law 939 = .ok (.iload_n 3, 1) := by decide +kernel
theorem dL_law_940 : decode cL_law 940 = .ok (.iconst 3, 1) := by decide +kernel
theorem dL_law_941 : decode cL_law 941 = .ok (.iadd, 1) := by decide +kernel
theorem dL_law_942 : decode cL_law 942 = .ok (.iaload, 1) := by decide +kernel
theorem dL_law_943 : decode cL_law 943 = .ok (.invokevirtual 115, 3) := by decide +kernel
theorem dL_law_946 : decode cL_law 946 = .ok (.if_icmp .eq 631, 3) := by decide +kernel
theorem dL_law_949 : decode cL_law 949 = .ok (.iconst 0, 1) := by decide +kernel
theorem dL_law_950 : decode cL_law 950 = .ok (.ireturn, 1) := by decide +kernel
theorem dL_law_951 : decode cL_law 951 = .ok (.aload_n 1, 1) := by decide +kernel
theorem dL_law_952 : decode cL_law 952 = .ok (.aload_n 0, 1) := by decide +kernel
theorem dL_law_953 : decode cL_law 953 = .ok (.iload_n 3, 1) := by decide +kernel
theorem dL_law_954 : decode cL_law 954 = .ok (.iconst 1, 1) := by decide +kernel
theorem dL_law_955 : decode cL_law 955 = .ok (.iadd, 1) := by decide +kernel
theorem dL_law_956 : decode cL_law 956 = .ok (.iaload, 1) := by decide +kernel
theorem dL_law_957 : decode cL_law 957 = .ok (.aload_n 0, 1) := by decide +kernel
theorem dL_law_958 : decode cL_law 958 = .ok (.iload_n 3, 1) := by decide +kernel
theorem dL_law_959 : decode cL_law 959 = .ok (.iconst 2, 1) := by decide +kernel
theorem dL_law_960 : decode cL_law 960 = .ok (.iadd, 1) := by decide +kernel
theorem dL_law_961 : decode cL_law 961 = .ok (.iaload, 1) := by decide +kernel
theorem dL_law_962 : decode cL_law 962 = .ok (.invokevirtual 116, 3) := by decide +kernel
theorem dL_law_965 : decode cL_law 965 = .ok (.aload_n 2, 1) := by decide +kernel
theorem dL_law_966 : decode cL_law 966 = .ok (.aload_n 0, 1) := by decide +kernel
theorem dL_law_967 : decode cL_law 967 = .ok (.iload_n 3, 1) := by decide +kernel
theorem dL_law_968 : decode cL_law 968 = .ok (.iconst 1, 1) := by decide +kernel
theorem dL_law_969 : decode cL_law 969 = .ok (.iadd, 1) := by decide +kernel
theorem dL_law_970 : decode cL_law 970 = .ok (.iaload, 1) := by decide +kernel
theorem dL_law_971 : decode cL_law 971 = .ok (.aload_n 0, 1) := by decide +kernel
theorem dL_law_972 : decode cL_law 972 = .ok (.iload_n 3, 1) := by decide +kernel
theorem dL_law_973 : decode cL_law 973 = .ok (.iconst 2, 1) := by decide +kernel
theorem dL_law_974 : decode cL_law 974 = .ok (.iadd, 1) := by decide +kernel
theorem dL_law_975 : decode cL_law 975 = .ok (.iaload, 1) := by decide +kernel
theorem dL_law_976 : decode cL_law 976 = .ok (.invokevirtual 119, 3) := by decide +kernel
theorem dL_law_979 : decode cL_law 979 = .ok (.if_icmp .eq 598, 3) := by decide +kernel
theorem dL_law_982 : decode cL_law 982 = .ok (.iconst 0, 1) := by decide +kernel
theorem dL_law_983 : decode cL_law 983 = .ok (.ireturn, 1) := by decide +kernel
theorem dL_law_984 : decode cL_law 984 = .ok (.aload_n 1, 1) := by decide +kernel
theorem dL_law_985 : decode cL_law 985 = .ok (.aload_n 0, 1) := by decide +kernel
theorem dL_law_986 : decode cL_law 986 = .ok (.iload_n 3, 1) := by decide +kernel
theorem dL_law_987 : decode cL_law 987 = .ok (.iconst 1, 1) := by decide +kernel
theorem dL_law_988 : decode cL_law 988 = .ok (.iadd, 1) := by decide +kernel
theorem dL_law_989 : decode cL_law 989 = .ok (.iaload, 1) := by decide +kernel
theorem dL_law_990 : decode cL_law 990 = .ok (.aload_n 0, 1) := by decide +kernel
theorem dL_law_991 : decode cL_law 991 = .ok (.iload_n 3, 1) := by decide +kernel
theorem dL_law_992 : decode cL_law 992 = .ok (.iconst 2, 1) := by decide +kernel
theorem dL_law_993 : decode cL_law 993 = .ok (.iadd, 1) := by decide +kernel
theorem dL_law_994 : decode cL_law 994 = .ok (.iaload, 1) := by decide +kernel
theorem dL_law_995 : decode cL_law 995 = .ok (.invokevirtual 120, 3) := by decide +kernel
theorem dL_law_998 : decode cL_law 998 = .ok (.aload_n 2, 1) := by decide +kernel
theorem dL_law_999 : decode cL_law 999 = .ok (.aload_n 0, 1) := by decide +kernel
theorem dL_law_1000 : decode cL_law 1000 = .ok (.iload_n 3, 1) := by decide +kernel
theorem dL_law_1001 : decode cL_law 1001 = .ok (.iconst 1, 1) := by decide +kernel
theorem dL_law_1002 : decode cL_law 1002 = .ok (.iadd, 1) := by decide +kernel
theorem dL_law_1003 : decode cL_law 1003 = .ok (.iaload, 1) := by decide +kernel
theorem dL_law_1004 : decode cL_law 1004 = .ok (.aload_n 0, 1) := by decide +kernel
theorem dL_law_1005 : decode cL_law 1005 = .ok (.iload_n 3, 1) := by decide +kernel
theorem dL_law_1006 : decode cL_law 1006 = .ok (.iconst 2, 1) := by decide +kernel
theorem dL_law_1007 : decode cL_law 1007 = .ok (.iadd, 1) := by decide +kernel
theorem dL_law_1008 : decode cL_law 1008 = .ok (.iaload, 1) := by decide +kernel
theorem dL_law_1009 : decode cL_law 1009 = .ok (.invokevirtual 123, 3) := by decide +kernel
theorem dL_law_1012 : decode cL_law 1012 = .ok (.if_icmp .eq 565, 3) := by decide +kernel
theorem dL_law_1015 : decode cL_law 1015 = .ok (.iconst 0, 1) := by decide +kernel
theorem dL_law_1016 : decode cL_law 1016 = .ok (.ireturn, 1) := by decide +kernel
theorem dL_law_1017 : decode cL_law 1017 = .ok (.aload_n 1, 1) := by decide +kernel
theorem dL_law_1018 : decode cL_law 1018 = .ok (.aload_n 0, 1) := by decide +kernel
theorem dL_law_1019 : decode cL_law 1019 = .ok (.iload_n 3, 1) := by decide +kernel
theorem dL_law_1020 : decode cL_law 1020 = .ok (.iconst 1, 1) := by decide +kernel
theorem dL_law_1021 : decode cL_law 1021 = .ok (.iadd, 1) := by decide +kernel
theorem dL_law_1022 : decode cL_law 1022 = .ok (.iaload, 1) := by decide +kernel
theorem dL_law_1023 : decode cL_law 1023 = .ok (.aload_n 0, 1) := by decide +kernel
theorem dL_law_1024 : decode cL_law 1024 = .ok (.iload_n 3, 1) := by decide +kernel
theorem dL_law_1025 : decode cL_law 1025 = .ok (.iconst 2, 1) := by decide +kernel
theorem dL_law_1026 : decode cL_law 1026 = .ok (.iadd, 1) := by decide +kernel
theorem dL_law_1027 : decode cL_law 1027 = .ok (.iaload, 1) := by decide +kernel
theorem dL_law_1028 : decode cL_law 1028 = .ok (.aload_n 0, 1) := by decide +kernel
theorem dL_law_1029 : decode cL_law 1029 = .ok (.iload_n 3, 1) := by decide +kernel
theorem dL_law_1030 : decode cL_law 1030 = .ok (.iconst 3, 1) := by decide +kernel
theorem dL_law_1031 : decode cL_law 1031 = .ok (.iadd, 1) := by decide +kernel
theorem dL_law_1032 : decode cL_law 1032 = .ok (.iaload, 1) := by decide +kernel
theorem dL_law_1033 : decode cL_law 1033 = .ok (.invokevirtual 124, 3) := by decide +kernel
theorem dL_law_1036 : decode cL_law 1036 = .ok (.aload_n 2, 1) := by decide +kernel
theorem dL_law_1037 : decode cL_law 1037 = .ok (.aload_n 0, 1) := by decide +kernel
theorem dL_law_1038 : decode cL_law 1038 = .ok (.iload_n 3, 1) := by decide +kernel
theorem dL_law_1039 : decode cL_law 1039 = .ok (.iconst 1, 1) := by decide +kernel
theorem dL_law_1040 : decode cL_law 1040 = .ok (.iadd, 1) := by decide +kernel
theorem dL_law_1041 : decode cL_law 1041 = .ok (.iaload, 1) := by decide +kernel
theorem dL_law_1042 : decode cL_law 1042 = .ok (.aload_n 0, 1) := by decide +kernel
theorem dL_law_1043 : decode cL_law 1043 = .ok (.iload_n 3, 1) := by decide +kernel
theorem dL_law_1044 : decode cL_law 1044 = .ok (.iconst 2, 1) := by decide +kernel
theorem dL_law_1045 : decode cL_law 1045 = .ok (.iadd, 1) := by decide +kernel
theorem dL_law_1046 : decode cL_law 1046 = .ok (.iaload, 1) := by decide +kernel
theorem dL_law_1047 : decode cL_law 1047 = .ok (.aload_n 0, 1) := by decide +kernel
theorem dL_law_1048 : decode cL_law 1048 = .ok (.iload_n 3, 1) := by decide +kernel
theorem dL_law_1049 : decode cL_law 1049 = .ok (.iconst 3, 1) := by decide +kernel
theorem dL_law_1050 : decode cL_law 1050 = .ok (.iadd, 1) := by decide +kernel
theorem dL_law_1051 : decode cL_law 1051 = .ok (.iaload, 1) := by decide +kernel
theorem dL_law_1052 : decode cL_law 1052 = .ok (.invokevirtual 127, 3) := by decide +kernel
theorem dL_law_1055 : decode cL_law 1055 = .ok (.if_icmp .eq 522, 3) := by decide +kernel
theorem dL_law_1058 : decode cL_law 1058 = .ok (.iconst 0, 1) := by decide +kernel
theorem dL_law_1059 : decode cL_law 1059 = .ok (.ireturn, 1) := by decide +kernel
theorem dL_law_1060 : decode cL_law 1060 = .ok (.aload_n 1, 1) := by decide +kernel
theorem dL_law_1061 : decode cL_law 1061 = .ok (.aload_n 0, 1) := by decide +kernel
theorem dL_law_1062 : decode cL_law 1062 = .ok (.iload_n 3, 1) := by decide +kernel
theorem dL_law_1063 : decode cL_law 1063 = .ok (.iconst 1, 1) := by decide +kernel
theorem dL_law_1064 : decode cL_law 1064 = .ok (.iadd, 1) := by decide +kernel
theorem dL_law_1065 : decode cL_law 1065 = .ok (.iaload, 1) := by decide +kernel
theorem dL_law_1066 : decode cL_law 1066 = .ok (.aload_n 0, 1) := by decide +kernel
theorem dL_law_1067 : decode cL_law 1067 = .ok (.iload_n 3, 1) := by decide +kernel
theorem dL_law_1068 : decode cL_law 1068 = .ok (.iconst 2, 1) := by decide +kernel
theorem dL_law_1069 : decode cL_law 1069 = .ok (.iadd, 1) := by decide +kernel
theorem dL_law_1070 : decode cL_law 1070 = .ok (.iaload, 1) := by decide +kernel
theorem dL_law_1071 : decode cL_law 1071 = .ok (.invokevirtual 128, 3) := by decide +kernel
theorem dL_law_1074 : decode cL_law 1074 = .ok (.aload_n 2, 1) := by decide +kernel
theorem dL_law_1075 : decode cL_law 1075 = .ok (.aload_n 0, 1) := by decide +kernel
theorem dL_law_1076 : decode cL_law 1076 = .ok (.iload_n 3, 1) := by decide +kernel
theorem dL_law_1077 : decode cL_law 1077 = .ok (.iconst 1, 1) := by decide +kernel
theorem dL_law_1078 : decode cL_law 1078 = .ok (.iadd, 1) := by decide +kernel
theorem dL_law_1079 : decode cL_law 1079 = .ok (.iaload, 1) := by decide +kernel
theorem dL_law_1080 : decode cL_law 1080 = .ok (.aload_n 0, 1) := by decide +kernel
theorem dL_law_1081 : decode cL_law 1081 = .ok (.iload_n 3, 1) := by decide +kernel
theorem dL_law_1082 : decode cL_law 1082 = .ok (.iconst 2, 1) := by decide +kernel
theorem dL_law_1083 : decode cL_law 1083 = .ok (.iadd, 1) := by decide +kernel
theorem dL_law_1084 : decode cL_law 1084 = .ok (.iaload, 1) := by decide +kernel
theorem dL_law_1085 : decode cL_law 1085 = .ok (.invokevirtual 131, 3) := by decide +kernel
theorem dL_law_1088 : decode cL_law 1088 = .ok (.if_icmp .eq 489, 3) := by decide +kernel
theorem dL_law_1091 : decode cL_law 1091 = .ok (.iconst 0, 1) := by decide +kernel
theorem dL_law_1092 : decode cL_law 1092 = .ok (.ireturn, 1) := by decide +kernel
theorem dL_law_1093 : decode cL_law 1093 = .ok (.aload_n 1, 1) := by decide +kernel
theorem dL_law_1094 : decode cL_law 1094 = .ok (.aload_n 0, 1) := by decide +kernel
theorem dL_law_1095 : decode cL_law 1095 = .ok (.iload_n 3, 1) := by decide +kernel
theorem dL_law_1096 : decode cL_law 1096 = .ok (.iconst 1, 1) := by decide +kernel
theorem dL_law_1097 : decode cL_law 1097 = .ok (.iadd, 1) := by decide +kernel
theorem dL_law_1098 : decode cL_law 1098 = .ok (.iaload, 1) := by decide +kernel
theorem dL_law_1099 : decode cL_law 1099 = .ok (.aload_n 0, 1) := by decide +kernel
theorem dL_law_1100 : decode cL_law 1100 = .ok (.iload_n 3, 1) := by decide +kernel
theorem dL_law_1101 : decode cL_law 1101 = .ok (.iconst 2, 1) := by decide +kernel
theorem dL_law_1102 : decode cL_law 1102 = .ok (.iadd, 1) := by decide +kernel
theorem dL_law_1103 : decode cL_law 1103 = .ok (.iaload, 1) := by decide +kernel
theorem dL_law_1104 : decode cL_law 1104 = .ok (.invokevirtual 132, 3) := by decide +kernel
theorem dL_law_1107 : decode cL_law 1107 = .ok (.aload_n 2, 1) := by decide +kernel
theorem dL_law_1108 : decode cL_law 1108 = .ok (.aload_n 0, 1) := by decide +kernel
theorem dL_law_1109 : decode cL_law 1109 = .ok (.iload_n 3, 1) := by decide +kernel
theorem dL_law_1110 : decode cL_law 1110 = .ok (.iconst 1, 1) := by decide +kernel
theorem dL_law_1111 : decode cL_law 1111 = .ok (.iadd, 1) := by decide +kernel
theorem dL_law_1112 : decode cL_law 1112 = .ok (.iaload, 1) := by decide +kernel
theorem dL_law_1113 : decode cL_law 1113 = .ok (.aload_n 0, 1) := by decide +kernel
theorem dL_law_1114 : decode cL_law 1114 = .ok (.iload_n 3, 1) := by decide +kernel
theorem dL_law_1115 : decode cL_law 1115 = .ok (.iconst 2, 1) := by decide +kernel
theorem dL_law_1116 : decode cL_law 1116 = .ok (.iadd, 1) := by decide +kernel
theorem dL_law_1117 : decode cL_law 1117 = .ok (.iaload, 1) := by decide +kernel
theorem dL_law_1118 : decode cL_law 1118 = .ok (.invokevirtual 135, 3) := by decide +kernel
theorem dL_law_1121 : decode cL_law 1121 = .ok (.if_icmp .eq 456, 3) := by decide +kernel
theorem dL_law_1124 : decode cL_law 1124 = .ok (.iconst 0, 1) := by decide +kernel
theorem dL_law_1125 : decode cL_law 1125 = .ok (.ireturn, 1) := by decide +kernel
theorem dL_law_1126 : decode cL_law 1126 = .ok (.aload_n 1, 1) := by decide +kernel
theorem dL_law_1127 : decode cL_law 1127 = .ok (.aload_n 0, 1) := by decide +kernel
theorem dL_law_1128 : decode cL_law 1128 = .ok (.iload_n 3, 1) := by decide +kernel
theorem dL_law_1129 : decode cL_law 1129 = .ok (.iconst 1, 1) := by decide +kernel
theorem dL_law_1130 : decode cL_law 1130 = .ok (.iadd, 1) := by decide +kernel
theorem dL_law_1131 : decode cL_law 1131 = .ok (.iaload, 1) := by decide +kernel
theorem dL_law_1132 : decode cL_law 1132 = .ok (.invokevirtual 136, 3) := by decide +kernel
theorem dL_law_1135 : decode cL_law 1135 = .ok (.aload_n 2, 1) := by decide +kernel
theorem dL_law_1136 : decode cL_law 1136 = .ok (.aload_n 0, 1) := by decide +kernel
theorem dL_law_1137 : decode cL_law 1137 = .ok (.iload_n 3, 1) := by decide +kernel
theorem dL_law_1138 : decode cL_law 1138 = .ok (.iconst 1, 1) := by decide +kernel
theorem dL_law_1139 : decode cL_law 1139 = .ok (.iadd, 1) := by decide +kernel
theorem dL_law_1140 : decode cL_law 1140 = .ok (.iaload, 1) := by decide +kernel
theorem dL_law_1141 : decode cL_law 1141 = .ok (.invokevirtual 139, 3) := by decide +kernel
theorem dL_law_1144 : decode cL_law 1144 = .ok (.if_icmp .eq 433, 3) := by decide +kernel
theorem dL_law_1147 : decode cL_law 1147 = .ok (.iconst 0, 1) := by decide +kernel
theorem dL_law_1148 : decode cL_law 1148 = .ok (.ireturn, 1) := by decide +kernel
theorem dL_law_1149 : decode cL_law 1149 = .ok (.aload_n 1, 1) := by decide +kernel
theorem dL_law_1150 : decode cL_law 1150 = .ok (.aload_n 0, 1) := by decide +kernel
theorem dL_law_1151 : decode cL_law 1151 = .ok (.iload_n 3, 1) := by decide +kernel
theorem dL_law_1152 : decode cL_law 1152 = .ok (.iconst 1, 1) := by decide +kernel
theorem dL_law_1153 : decode cL_law 1153 = .ok (.iadd, 1) := by decide +kernel
theorem dL_law_1154 : decode cL_law 1154 = .ok (.iaload, 1) := by decide +kernel
theorem dL_law_1155 : decode cL_law 1155 = .ok (.invokevirtual 140, 3) := by decide +kernel
theorem dL_law_1158 : decode cL_law 1158 = .ok (.aload_n 2, 1) := by decide +kernel
theorem dL_law_1159 : decode cL_law 1159 = .ok (.aload_n 0, 1) := by decide +kernel
theorem dL_law_1160 : decode cL_law 1160 = .ok (.iload_n 3, 1) := by decide +kernel
theorem dL_law_1161 : decode cL_law 1161 = .ok (.iconst 1, 1) := by decide +kernel
theorem dL_law_1162 : decode cL_law 1162 = .ok (.iadd, 1) := by decide +kernel
theorem dL_law_1163 : decode cL_law 1163 = .ok (.iaload, 1) := by decide +kernel
theorem dL_law_1164 : decode cL_law 1164 = .ok (.invokevirtual 143, 3) := by decide +kernel
theorem dL_law_1167 : decode cL_law 1167 = .ok (.if_icmp .eq 410, 3) := by decide +kernel
theorem dL_law_1170 : decode cL_law 1170 = .ok (.iconst 0, 1) := by decide +kernel
theorem dL_law_1171 : decode cL_law 1171 = .ok (.ireturn, 1) := by decide +kernel
theorem dL_law_1172 : decode cL_law 1172 = .ok (.aload_n 1, 1) := by decide +kernel
theorem dL_law_1173 : decode cL_law 1173 = .ok (.aload_n 0, 1) := by decide +kernel
theorem dL_law_1174 : decode cL_law 1174 = .ok (.iload_n 3, 1) := by decide +kernel
theorem dL_law_1175 : decode cL_law 1175 = .ok (.iconst 1, 1) := by decide +kernel
theorem dL_law_1176 : decode cL_law 1176 = .ok (.iadd, 1) := by decide +kernel
theorem dL_law_1177 : decode cL_law 1177 = .ok (.iaload, 1) := by decide +kernel
theorem dL_law_1178 : decode cL_law 1178 = .ok (.aload_n 0, 1) := by decide +kernel
theorem dL_law_1179 : decode cL_law 1179 = .ok (.iload_n 3, 1) := by decide +kernel
theorem dL_law_1180 : decode cL_law 1180 = .ok (.iconst 2, 1) := by decide +kernel
theorem dL_law_1181 : decode cL_law 1181 = .ok (.iadd, 1) := by decide +kernel
theorem dL_law_1182 : decode cL_law 1182 = .ok (.iaload, 1) := by decide +kernel
theorem dL_law_1183 : decode cL_law 1183 = .ok (.invokevirtual 144, 3) := by decide +kernel
theorem dL_law_1186 : decode cL_law 1186 = .ok (.aload_n 2, 1) := by decide +kernel
theorem dL_law_1187 : decode cL_law 1187 = .ok (.aload_n 0, 1) := by decide +kernel
theorem dL_law_1188 : decode cL_law 1188 = .ok (.iload_n 3, 1) := by decide +kernel
theorem dL_law_1189 : decode cL_law 1189 = .ok (.iconst 1, 1) := by decide +kernel
theorem dL_law_1190 : decode cL_law 1190 = .ok (.iadd, 1) := by decide +kernel
theorem dL_law_1191 : decode cL_law 1191 = .ok (.iaload, 1) := by decide +kernel
theorem dL_law_1192 : decode cL_law 1192 = .ok (.aload_n 0, 1) := by decide +kernel
theorem dL_law_1193 : decode cL_law 1193 = .ok (.iload_n 3, 1) := by decide +kernel
theorem dL_law_1194 : decode cL_law 1194 = .ok (.iconst 2, 1) := by decide +kernel
theorem dL_law_1195 : decode cL_law 1195 = .ok (.iadd, 1) := by decide +kernel
theorem dL_law_1196 : decode cL_law 1196 = .ok (.iaload, 1) := by decide +kernel
theorem dL_law_1197 : decode cL_law 1197 = .ok (.invokevirtual 147, 3) := by decide +kernel
theorem dL_law_1200 : decode cL_law 1200 = .ok (.lcmp, 1) := by decide +kernel
theorem dL_law_1201 : decode cL_law 1201 = .ok (.ifCond .eq 376, 3) := by decide +kernel
theorem dL_law_1204 : decode cL_law 1204 = .ok (.iconst 0, 1) := by decide +kernel
theorem dL_law_1205 : decode cL_law 1205 = .ok (.ireturn, 1) := by decide +kernel
theorem dL_law_1206 : decode cL_law 1206 = .ok (.aload_n 1, 1) := by decide +kernel
theorem dL_law_1207 : decode cL_law 1207 = .ok (.aload_n 0, 1) := by decide +kernel
theorem dL_law_1208 : decode cL_law 1208 = .ok (.iload_n 3, 1) := by decide +kernel
theorem dL_law_1209 : decode cL_law 1209 = .ok (.iconst 1, 1) := by decide +kernel
theorem dL_law_1210 : decode cL_law 1210 = .ok (.iadd, 1) := by decide +kernel
theorem dL_law_1211 : decode cL_law 1211 = .ok (.iaload, 1) := by decide +kernel
theorem dL_law_1212 : decode cL_law 1212 = .ok (.invokevirtual 148, 3) := by decide +kernel
theorem dL_law_1215 : decode cL_law 1215 = .ok (.aload_n 2, 1) := by decide +kernel
theorem dL_law_1216 : decode cL_law 1216 = .ok (.aload_n 0, 1) := by decide +kernel
theorem dL_law_1217 : decode cL_law 1217 = .ok (.iload_n 3, 1) := by decide +kernel
theorem dL_law_1218 : decode cL_law 1218 = .ok (.iconst 1, 1) := by decide +kernel
theorem dL_law_1219 : decode cL_law 1219 = .ok (.iadd, 1) := by decide +kernel
theorem dL_law_1220 : decode cL_law 1220 = .ok (.iaload, 1) := by decide +kernel
theorem dL_law_1221 : decode cL_law 1221 = .ok (.invokevirtual 151, 3) := by decide +kernel
theorem dL_law_1224 : decode cL_law 1224 = .ok (.if_icmp .eq 353, 3) := by decide +kernel
theorem dL_law_1227 : decode cL_law 1227 = .ok (.iconst 0, 1) := by decide +kernel
theorem dL_law_1228 : decode cL_law 1228 = .ok (.ireturn, 1) := by decide +kernel
theorem dL_law_1229 : decode cL_law 1229 = .ok (.aload_n 1, 1) := by decide +kernel
theorem dL_law_1230 : decode cL_law 1230 = .ok (.aload_n 0, 1) := by decide +kernel
theorem dL_law_1231 : decode cL_law 1231 = .ok (.iload_n 3, 1) := by decide +kernel
theorem dL_law_1232 : decode cL_law 1232 = .ok (.iconst 1, 1) := by decide +kernel
theorem dL_law_1233 : decode cL_law 1233 = .ok (.iadd, 1) := by decide +kernel
theorem dL_law_1234 : decode cL_law 1234 = .ok (.iaload, 1) := by decide +kernel
theorem dL_law_1235 : decode cL_law 1235 = .ok (.aload_n 0, 1) := by decide +kernel
theorem dL_law_1236 : decode cL_law 1236 = .ok (.iload_n 3, 1) := by decide +kernel
theorem dL_law_1237 : decode cL_law 1237 = .ok (.iconst 2, 1) := by decide +kernel
theorem dL_law_1238 : decode cL_law 1238 = .ok (.iadd, 1) := by decide +kernel
theorem dL_law_1239 : decode cL_law 1239 = .ok (.iaload, 1) := by decide +kernel
theorem dL_law_1240 : decode cL_law 1240 = .ok (.aload_n 0, 1) := by decide +kernel
theorem dL_law_1241 : decode cL_law 1241 = .ok (.iload_n 3, 1) := by decide +kernel
theorem dL_law_1242 : decode cL_law 1242 = .ok (.iconst 3, 1) := by decide +kernel
theorem dL_law_1243 : decode cL_law 1243 = .ok (.iadd, 1) := by decide +kernel
theorem dL_law_1244 : decode cL_law 1244 = .ok (.iaload, 1) := by decide +kernel
theorem dL_law_1245 : decode cL_law 1245 = .ok (.invokevirtual 152, 3) := by decide +kernel
theorem dL_law_1248 : decode cL_law 1248 = .ok (.aload_n 2, 1) := by decide +kernel
theorem dL_law_1249 : decode cL_law 1249 = .ok (.aload_n 0, 1) := by decide +kernel
theorem dL_law_1250 : decode cL_law 1250 = .ok (.iload_n 3, 1) := by decide +kernel
theorem dL_law_1251 : decode cL_law 1251 = .ok (.iconst 1, 1) := by decide +kernel
theorem dL_law_1252 : decode cL_law 1252 = .ok (.iadd, 1) := by decide +kernel
theorem dL_law_1253 : decode cL_law 1253 = .ok (.iaload, 1) := by decide +kernel
theorem dL_law_1254 : decode cL_law 1254 = .ok (.aload_n 0, 1) := by decide +kernel
theorem dL_law_1255 : decode cL_law 1255 = .ok (.iload_n 3, 1) := by decide +kernel
theorem dL_law_1256 : decode cL_law 1256 = .ok (.iconst 2, 1) := by decide +kernel
theorem dL_law_1257 : decode cL_law 1257 = .ok (.iadd, 1) := by decide +kernel
theorem dL_law_1258 : decode cL_law 1258 = .ok (.iaload, 1) := by decide +kernel
theorem dL_law_1259 : decode cL_law 1259 = .ok (.aload_n 0, 1) := by decide +kernel
theorem dL_law_1260 : decode cL_law 1260 = .ok (.iload_n 3, 1) := by decide +kernel
theorem dL_law_1261 : decode cL_law 1261 = .ok (.iconst 3, 1) := by decide +kernel
theorem dL_law_1262 : decode cL_law 1262 = .ok (.iadd, 1) := by decide +kernel
theorem dL_law_1263 : decode cL_law 1263 = .ok (.iaload, 1) := by decide +kernel
theorem dL_law_1264 : decode cL_law 1264 = .ok (.invokevirtual 155, 3) := by decide +kernel
theorem dL_law_1267 : decode cL_law 1267 = .ok (.if_icmp .eq 310, 3) := by decide +kernel
theorem dL_law_1270 : decode cL_law 1270 = .ok (.iconst 0, 1) := by decide +kernel
theorem dL_law_1271 : decode cL_law 1271 = .ok (.ireturn, 1) := by decide +kernel
theorem dL_law_1272 : decode cL_law 1272 = .ok (.aload_n 1, 1) := by decide +kernel
theorem dL_law_1273 : decode cL_law 1273 = .ok (.aload_n 0, 1) := by decide +kernel
theorem dL_law_1274 : decode cL_law 1274 = .ok (.iload_n 3, 1) := by decide +kernel
theorem dL_law_1275 : decode cL_law 1275 = .ok (.iconst 1, 1) := by decide +kernel
theorem dL_law_1276 : decode cL_law 1276 = .ok (.iadd, 1) := by decide +kernel
theorem dL_law_1277 : decode cL_law 1277 = .ok (.iaload, 1) := by decide +kernel
theorem dL_law_1278 : decode cL_law 1278 = .ok (.aload_n 0, 1) := by decide +kernel
theorem dL_law_1279 : decode cL_law 1279 = .ok (.iload_n 3, 1) := by decide +kernel
theorem dL_law_1280 : decode cL_law 1280 = .ok (.iconst 2, 1) := by decide +kernel
theorem dL_law_1281 : decode cL_law 1281 = .ok (.iadd, 1) := by decide +kernel
theorem dL_law_1282 : decode cL_law 1282 = .ok (.iaload, 1) := by decide +kernel
theorem dL_law_1283 : decode cL_law 1283 = .ok (.aload_n 0, 1) := by decide +kernel
theorem dL_law_1284 : decode cL_law 1284 = .ok (.iload_n 3, 1) := by decide +kernel
theorem dL_law_1285 : decode cL_law 1285 = .ok (.iconst 3, 1) := by decide +kernel
theorem dL_law_1286 : decode cL_law 1286 = .ok (.iadd, 1) := by decide +kernel
theorem dL_law_1287 : decode cL_law 1287 = .ok (.iaload, 1) := by decide +kernel
theorem dL_law_1288 : decode cL_law 1288 = .ok (.invokevirtual 156, 3) := by decide +kernel
theorem dL_law_1291 : decode cL_law 1291 = .ok (.aload_n 2, 1) := by decide +kernel
theorem dL_law_1292 : decode cL_law 1292 = .ok (.aload_n 0, 1) := by decide +kernel
theorem dL_law_1293 : decode cL_law 1293 = .ok (.iload_n 3, 1) := by decide +kernel
theorem dL_law_1294 : decode cL_law 1294 = .ok (.iconst 1, 1) := by decide +kernel
theorem dL_law_1295 : decode cL_law 1295 = .ok (.iadd, 1) := by decide +kernel
theorem dL_law_1296 : decode cL_law 1296 = .ok (.iaload, 1) := by decide +kernel
theorem dL_law_1297 : decode cL_law 1297 = .ok (.aload_n 0, 1) := by decide +kernel
theorem dL_law_1298 : decode cL_law 1298 = .ok (.iload_n 3, 1) := by decide +kernel
theorem dL_law_1299 : decode cL_law 1299 = .ok (.iconst 2, 1) := by decide +kernel
theorem dL_law_1300 : decode cL_law 1300 = .ok (.iadd, 1) := by decide +kernel
theorem dL_law_1301 : decode cL_law 1301 = .ok (.iaload, 1) := by decide +kernel
theorem dL_law_1302 : decode cL_law 1302 = .ok (.aload_n 0, 1) := by decide +kernel
theorem dL_law_1303 : decode cL_law 1303 = .ok (.iload_n 3, 1) := by decide +kernel
theorem dL_law_1304 : decode cL_law 1304 = .ok (.iconst 3, 1) := by decide +kernel
theorem dL_law_1305 : decode cL_law 1305 = .ok (.iadd, 1) := by decide +kernel
theorem dL_law_1306 : decode cL_law 1306 = .ok (.iaload, 1) := by decide +kernel
theorem dL_law_1307 : decode cL_law 1307 = .ok (.invokevirtual 160, 3) := by decide +kernel
theorem dL_law_1310 : decode cL_law 1310 = .ok (.lcmp, 1) := by decide +kernel
theorem dL_law_1311 : decode cL_law 1311 = .ok (.ifCond .eq 266, 3) := by decide +kernel
theorem dL_law_1314 : decode cL_law 1314 = .ok (.iconst 0, 1) := by decide +kernel
theorem dL_law_1315 : decode cL_law 1315 = .ok (.ireturn, 1) := by decide +kernel
theorem dL_law_1316 : decode cL_law 1316 = .ok (.aload_n 1, 1) := by decide +kernel
theorem dL_law_1317 : decode cL_law 1317 = .ok (.invokevirtual 161, 3) := by decide +kernel
theorem dL_law_1320 : decode cL_law 1320 = .ok (.aload_n 2, 1) := by decide +kernel
theorem dL_law_1321 : decode cL_law 1321 = .ok (.invokevirtual 164, 3) := by decide +kernel
theorem dL_law_1324 : decode cL_law 1324 = .ok (.if_icmp .eq 253, 3) := by decide +kernel
theorem dL_law_1327 : decode cL_law 1327 = .ok (.iconst 0, 1) := by decide +kernel
theorem dL_law_1328 : decode cL_law 1328 = .ok (.ireturn, 1) := by decide +kernel
theorem dL_law_1329 : decode cL_law 1329 = .ok (.aload_n 1, 1) := by decide +kernel
theorem dL_law_1330 : decode cL_law 1330 = .ok (.invokevirtual 165, 3) := by decide +kernel
theorem dL_law_1333 : decode cL_law 1333 = .ok (.aload_n 2, 1) := by decide +kernel
theorem dL_law_1334 : decode cL_law 1334 = .ok (.invokevirtual 168, 3) := by decide +kernel
theorem dL_law_1337 : decode cL_law 1337 = .ok (.if_icmp .eq 240, 3) := by decide +kernel
theorem dL_law_1340 : decode cL_law 1340 = .ok (.iconst 0, 1) := by decide +kernel
theorem dL_law_1341 : decode cL_law 1341 = .ok (.ireturn, 1) := by decide +kernel
theorem dL_law_1342 : decode cL_law 1342 = .ok (.aload_n 1, 1) := by decide +kernel
theorem dL_law_1343 : decode cL_law 1343 = .ok (.aload_n 0, 1) := by decide +kernel
theorem dL_law_1344 : decode cL_law 1344 = .ok (.iload_n 3, 1) := by decide +kernel
theorem dL_law_1345 : decode cL_law 1345 = .ok (.iconst 1, 1) := by decide +kernel
theorem dL_law_1346 : decode cL_law 1346 = .ok (.iadd, 1) := by decide +kernel
theorem dL_law_1347 : decode cL_law 1347 = .ok (.iaload, 1) := by decide +kernel
theorem dL_law_1348 : decode cL_law 1348 = .ok (.aload_n 0, 1) := by decide +kernel
theorem dL_law_1349 : decode cL_law 1349 = .ok (.iload_n 3, 1) := by decide +kernel
theorem dL_law_1350 : decode cL_law 1350 = .ok (.iconst 2, 1) := by decide +kernel
theorem dL_law_1351 : decode cL_law 1351 = .ok (.iadd, 1) := by decide +kernel
theorem dL_law_1352 : decode cL_law 1352 = .ok (.iaload, 1) := by decide +kernel
theorem dL_law_1353 : decode cL_law 1353 = .ok (.aload_n 0, 1) := by decide +kernel
theorem dL_law_1354 : decode cL_law 1354 = .ok (.iload_n 3, 1) := by decide +kernel
theorem dL_law_1355 : decode cL_law 1355 = .ok (.iconst 3, 1) := by decide +kernel
theorem dL_law_1356 : decode cL_law 1356 = .ok (.iadd, 1) := by decide +kernel
theorem dL_law_1357 : decode cL_law 1357 = .ok (.iaload, 1) := by decide +kernel
theorem dL_law_1358 : decode cL_law 1358 = .ok (.invokevirtual 169, 3) := by decide +kernel
theorem dL_law_1361 : decode cL_law 1361 = .ok (.aload_n 2, 1) := by decide +kernel
theorem dL_law_1362 : decode cL_law 1362 = .ok (.aload_n 0, 1) := by decide +kernel
theorem dL_law_1363 : decode cL_law 1363 = .ok (.iload_n 3, 1) := by decide +kernel
theorem dL_law_1364 : decode cL_law 1364 = .ok (.iconst 1, 1) := by decide +kernel
theorem dL_law_1365 : decode cL_law 1365 = .ok (.iadd, 1) := by decide +kernel
theorem dL_law_1366 : decode cL_law 1366 = .ok (.iaload, 1) := by decide +kernel
theorem dL_law_1367 : decode cL_law 1367 = .ok (.aload_n 0, 1) := by decide +kernel
theorem dL_law_1368 : decode cL_law 1368 = .ok (.iload_n 3, 1) := by decide +kernel
theorem dL_law_1369 : decode cL_law 1369 = .ok (.iconst 2, 1) := by decide +kernel
theorem dL_law_1370 : decode cL_law 1370 = .ok (.iadd, 1) := by decide +kernel
theorem dL_law_1371 : decode cL_law 1371 = .ok (.iaload, 1) := by decide +kernel
theorem dL_law_1372 : decode cL_law 1372 = .ok (.aload_n 0, 1) := by decide +kernel
theorem dL_law_1373 : decode cL_law 1373 = .ok (.iload_n 3, 1) := by decide +kernel
theorem dL_law_1374 : decode cL_law 1374 = .ok (.iconst 3, 1) := by decide +kernel
theorem dL_law_1375 : decode cL_law 1375 = .ok (.iadd, 1) := by decide +kernel
theorem dL_law_1376 : decode cL_law 1376 = .ok (.iaload, 1) := by decide +kernel
theorem dL_law_1377 : decode cL_law 1377 = .ok (.invokevirtual 172, 3) := by decide +kernel
theorem dL_law_1380 : decode cL_law 1380 = .ok (.if_icmp .eq 197, 3) := by decide +kernel
theorem dL_law_1383 : decode cL_law 1383 = .ok (.iconst 0, 1) := by decide +kernel
theorem dL_law_1384 : decode cL_law 1384 = .ok (.ireturn, 1) := by decide +kernel
theorem dL_law_1385 : decode cL_law 1385 = .ok (.aload_n 1, 1) := by decide +kernel
theorem dL_law_1386 : decode cL_law 1386 = .ok (.aload_n 0, 1) := by decide +kernel
theorem dL_law_1387 : decode cL_law 1387 = .ok (.iload_n 3, 1) := by decide +kernel
theorem dL_law_1388 : decode cL_law 1388 = .ok (.iconst 1, 1) := by decide +kernel
theorem dL_law_1389 : decode cL_law 1389 = .ok (.iadd, 1) := by decide +kernel
theorem dL_law_1390 : decode cL_law 1390 = .ok (.iaload, 1) := by decide +kernel
theorem dL_law_1391 : decode cL_law 1391 = .ok (.aload_n 0, 1) := by decide +kernel
theorem dL_law_1392 : decode cL_law 1392 = .ok (.iload_n 3, 1) := by decide +kernel
theorem dL_law_1393 : decode cL_law 1393 = .ok (.iconst 2, 1) := by decide +kernel
theorem dL_law_1394 : decode cL_law 1394 = .ok (.iadd, 1) := by decide +kernel
theorem dL_law_1395 : decode cL_law 1395 = .ok (.iaload, 1) := by decide +kernel
theorem dL_law_1396 : decode cL_law 1396 = .ok (.aload_n 0, 1) := by decide +kernel
theorem dL_law_1397 : decode cL_law 1397 = .ok (.iload_n 3, 1) := by decide +kernel
theorem dL_law_1398 : decode cL_law 1398 = .ok (.iconst 3, 1) := by decide +kernel
theorem dL_law_1399 : decode cL_law 1399 = .ok (.iadd, 1) := by decide +kernel
theorem dL_law_1400 : decode cL_law 1400 = .ok (.iaload, 1) := by decide +kernel
theorem dL_law_1401 : decode cL_law 1401 = .ok (.invokevirtual 173, 3) := by decide +kernel
theorem dL_law_1404 : decode cL_law 1404 = .ok (.aload_n 2, 1) := by decide +kernel
theorem dL_law_1405 : decode cL_law 1405 = .ok (.aload_n 0, 1) := by decide +kernel
theorem dL_law_1406 : decode cL_law 1406 = .ok (.iload_n 3, 1) := by decide +kernel
theorem dL_law_1407 : decode cL_law 1407 = .ok (.iconst 1, 1) := by decide +kernel
theorem dL_law_1408 : decode cL_law 1408 = .ok (.iadd, 1) := by decide +kernel
theorem dL_law_1409 : decode cL_law 1409 = .ok (.iaload, 1) := by decide +kernel
theorem dL_law_1410 : decode cL_law 1410 = .ok (.aload_n 0, 1) := by decide +kernel
theorem dL_law_1411 : decode cL_law 1411 = .ok (.iload_n 3, 1) := by decide +kernel
theorem dL_law_1412 : decode cL_law 1412 = .ok (.iconst 2, 1) := by decide +kernel
theorem dL_law_1413 : decode cL_law 1413 = .ok (.iadd, 1) := by decide +kernel
theorem dL_law_1414 : decode cL_law 1414 = .ok (.iaload, 1) := by decide +kernel
theorem dL_law_1415 : decode cL_law 1415 = .ok (.aload_n 0, 1) := by decide +kernel
theorem dL_law_1416 : decode cL_law 1416 = .ok (.iload_n 3, 1) := by decide +kernel
theorem dL_law_1417 : decode cL_law 1417 = .ok (.iconst 3, 1) := by decide +kernel
theorem dL_law_1418 : decode cL_law 1418 = .ok (.iadd, 1) := by decide +kernel
theorem dL_law_1419 : decode cL_law 1419 = .ok (.iaload, 1) := by decide +kernel
theorem dL_law_1420 : decode cL_law 1420 = .ok (.invokevirtual 176, 3) := by decide +kernel
theorem dL_law_1423 : decode cL_law 1423 = .ok (.if_icmp .eq 154, 3) := by decide +kernel
theorem dL_law_1426 : decode cL_law 1426 = .ok (.iconst 0, 1) := by decide +kernel
theorem dL_law_1427 : decode cL_law 1427 = .ok (.ireturn, 1) := by decide +kernel
theorem dL_law_1428 : decode cL_law 1428 = .ok (.aload_n 1, 1) := by decide +kernel
theorem dL_law_1429 : decode cL_law 1429 = .ok (.aload_n 0, 1) := by decide +kernel
theorem dL_law_1430 : decode cL_law 1430 = .ok (.iload_n 3, 1) := by decide +kernel
theorem dL_law_1431 : decode cL_law 1431 = .ok (.iconst 1, 1) := by decide +kernel
theorem dL_law_1432 : decode cL_law 1432 = .ok (.iadd, 1) := by decide +kernel
theorem dL_law_1433 : decode cL_law 1433 = .ok (.iaload, 1) := by decide +kernel
theorem dL_law_1434 : decode cL_law 1434 = .ok (.aload_n 0, 1) := by decide +kernel
theorem dL_law_1435 : decode cL_law 1435 = .ok (.iload_n 3, 1) := by decide +kernel
theorem dL_law_1436 : decode cL_law 1436 = .ok (.iconst 2, 1) := by decide +kernel
theorem dL_law_1437 : decode cL_law 1437 = .ok (.iadd, 1) := by decide +kernel
theorem dL_law_1438 : decode cL_law 1438 = .ok (.iaload, 1) := by decide +kernel
theorem dL_law_1439 : decode cL_law 1439 = .ok (.aload_n 0, 1) := by decide +kernel
theorem dL_law_1440 : decode cL_law 1440 = .ok (.iload_n 3, 1) := by decide +kernel
theorem dL_law_1441 : decode cL_law 1441 = .ok (.iconst 3, 1) := by decide +kernel
theorem dL_law_1442 : decode cL_law 1442 = .ok (.iadd, 1) := by decide +kernel
theorem dL_law_1443 : decode cL_law 1443 = .ok (.iaload, 1) := by decide +kernel
theorem dL_law_1444 : decode cL_law 1444 = .ok (.aload_n 0, 1) := by decide +kernel
theorem dL_law_1445 : decode cL_law 1445 = .ok (.iload_n 3, 1) := by decide +kernel
theorem dL_law_1446 : decode cL_law 1446 = .ok (.iconst 4, 1) := by decide +kernel
theorem dL_law_1447 : decode cL_law 1447 = .ok (.iadd, 1) := by decide +kernel
theorem dL_law_1448 : decode cL_law 1448 = .ok (.iaload, 1) := by decide +kernel
theorem dL_law_1449 : decode cL_law 1449 = .ok (.aload_n 0, 1) := by decide +kernel
theorem dL_law_1450 : decode cL_law 1450 = .ok (.iload_n 3, 1) := by decide +kernel
theorem dL_law_1451 : decode cL_law 1451 = .ok (.iconst 5, 1) := by decide +kernel
theorem dL_law_1452 : decode cL_law 1452 = .ok (.iadd, 1) := by decide +kernel
theorem dL_law_1453 : decode cL_law 1453 = .ok (.iaload, 1) := by decide +kernel
theorem dL_law_1454 : decode cL_law 1454 = .ok (.invokevirtual 177, 3) := by decide +kernel
theorem dL_law_1457 : decode cL_law 1457 = .ok (.aload_n 2, 1) := by decide +kernel
theorem dL_law_1458 : decode cL_law 1458 = .ok (.aload_n 0, 1) := by decide +kernel
theorem dL_law_1459 : decode cL_law 1459 = .ok (.iload_n 3, 1) := by decide +kernel
theorem dL_law_1460 : decode cL_law 1460 = .ok (.iconst 1, 1) := by decide +kernel
theorem dL_law_1461 : decode cL_law 1461 = .ok (.iadd, 1) := by decide +kernel
theorem dL_law_1462 : decode cL_law 1462 = .ok (.iaload, 1) := by decide +kernel
theorem dL_law_1463 : decode cL_law 1463 = .ok (.aload_n 0, 1) := by decide +kernel
theorem dL_law_1464 : decode cL_law 1464 = .ok (.iload_n 3, 1) := by decide +kernel
theorem dL_law_1465 : decode cL_law 1465 = .ok (.iconst 2, 1) := by decide +kernel
theorem dL_law_1466 : decode cL_law 1466 = .ok (.iadd, 1) := by decide +kernel
theorem dL_law_1467 : decode cL_law 1467 = .ok (.iaload, 1) := by decide +kernel
theorem dL_law_1468 : decode cL_law 1468 = .ok (.aload_n 0, 1) := by decide +kernel
theorem dL_law_1469 : decode cL_law 1469 = .ok (.iload_n 3, 1) := by decide +kernel
theorem dL_law_1470 : decode cL_law 1470 = .ok (.iconst 3, 1) := by decide +kernel
theorem dL_law_1471 : decode cL_law 1471 = .ok (.iadd, 1) := by decide +kernel
theorem dL_law_1472 : decode cL_law 1472 = .ok (.iaload, 1) := by decide +kernel
theorem dL_law_1473 : decode cL_law 1473 = .ok (.aload_n 0, 1) := by decide +kernel
theorem dL_law_1474 : decode cL_law 1474 = .ok (.iload_n 3, 1) := by decide +kernel
theorem dL_law_1475 : decode cL_law 1475 = .ok (.iconst 4, 1) := by decide +kernel
theorem dL_law_1476 : decode cL_law 1476 = .ok (.iadd, 1) := by decide +kernel
theorem dL_law_1477 : decode cL_law 1477 = .ok (.iaload, 1) := by decide +kernel
theorem dL_law_1478 : decode cL_law 1478 = .ok (.aload_n 0, 1) := by decide +kernel
theorem dL_law_1479 : decode cL_law 1479 = .ok (.iload_n 3, 1) := by decide +kernel
theorem dL_law_1480 : decode cL_law 1480 = .ok (.iconst 5, 1) := by decide +kernel
theorem dL_law_1481 : decode cL_law 1481 = .ok (.iadd, 1) := by decide +kernel
theorem dL_law_1482 : decode cL_law 1482 = .ok (.iaload, 1) := by decide +kernel
theorem dL_law_1483 : decode cL_law 1483 = .ok (.invokevirtual 180, 3) := by decide +kernel
theorem dL_law_1486 : decode cL_law 1486 = .ok (.if_icmp .eq 91, 3) := by decide +kernel
theorem dL_law_1489 : decode cL_law 1489 = .ok (.iconst 0, 1) := by decide +kernel
theorem dL_law_1490 : decode cL_law 1490 = .ok (.ireturn, 1) := by decide +kernel
theorem dL_law_1491 : decode cL_law 1491 = .ok (.aload_n 1, 1) := by decide +kernel
theorem dL_law_1492 : decode cL_law 1492 = .ok (.aload_n 0, 1) := by decide +kernel
theorem dL_law_1493 : decode cL_law 1493 = .ok (.iload_n 3, 1) := by decide +kernel
theorem dL_law_1494 : decode cL_law 1494 = .ok (.iconst 1, 1) := by decide +kernel
theorem dL_law_1495 : decode cL_law 1495 = .ok (.iadd, 1) := by decide +kernel
theorem dL_law_1496 : decode cL_law 1496 = .ok (.iaload, 1) := by decide +kernel
theorem dL_law_1497 : decode cL_law 1497 = .ok (.aload_n 0, 1) := by decide +kernel
theorem dL_law_1498 : decode cL_law 1498 = .ok (.iload_n 3, 1) := by decide +kernel
theorem dL_law_1499 : decode cL_law 1499 = .ok (.iconst 2, 1) := by decide +kernel
theorem dL_law_1500 : decode cL_law 1500 = .ok (.iadd, 1) := by decide +kernel
theorem dL_law_1501 : decode cL_law 1501 = .ok (.iaload, 1) := by decide +kernel
theorem dL_law_1502 : decode cL_law 1502 = .ok (.aload_n 0, 1) := by decide +kernel
theorem dL_law_1503 : decode cL_law 1503 = .ok (.iload_n 3, 1) := by decide +kernel
theorem dL_law_1504 : decode cL_law 1504 = .ok (.iconst 3, 1) := by decide +kernel
theorem dL_law_1505 : decode cL_law 1505 = .ok (.iadd, 1) := by decide +kernel
theorem dL_law_1506 : decode cL_law 1506 = .ok (.iaload, 1) := by decide +kernel
theorem dL_law_1507 : decode cL_law 1507 = .ok (.aload_n 0, 1) := by decide +kernel
theorem dL_law_1508 : decode cL_law 1508 = .ok (.iload_n 3, 1) := by decide +kernel
theorem dL_law_1509 : decode cL_law 1509 = .ok (.iconst 4, 1) := by decide +kernel
theorem dL_law_1510 : decode cL_law 1510 = .ok (.iadd, 1) := by decide +kernel
theorem dL_law_1511 : decode cL_law 1511 = .ok (.iaload, 1) := by decide +kernel
theorem dL_law_1512 : decode cL_law 1512 = .ok (.invokevirtual 181, 3) := by decide +kernel
theorem dL_law_1515 : decode cL_law 1515 = .ok (.aload_n 2, 1) := by decide +kernel
theorem dL_law_1516 : decode cL_law 1516 = .ok (.aload_n 0, 1) := by decide +kernel
theorem dL_law_1517 : decode cL_law 1517 = .ok (.iload_n 3, 1) := by decide +kernel
theorem dL_law_1518 : decode cL_law 1518 = .ok (.iconst 1, 1) := by decide +kernel
theorem dL_law_1519 : decode cL_law 1519 = .ok (.iadd, 1) := by decide +kernel
theorem dL_law_1520 : decode cL_law 1520 = .ok (.iaload, 1) := by decide +kernel
theorem dL_law_1521 : decode cL_law 1521 = .ok (.aload_n 0, 1) := by decide +kernel
theorem dL_law_1522 : decode cL_law 1522 = .ok (.iload_n 3, 1) := by decide +kernel
theorem dL_law_1523 : decode cL_law 1523 = .ok (.iconst 2, 1) := by decide +kernel
theorem dL_law_1524 : decode cL_law 1524 = .ok (.iadd, 1) := by decide +kernel
theorem dL_law_1525 : decode cL_law 1525 = .ok (.iaload, 1) := by decide +kernel
theorem dL_law_1526 : decode cL_law 1526 = .ok (.aload_n 0, 1) := by decide +kernel
theorem dL_law_1527 : decode cL_law 1527 = .ok (.iload_n 3, 1) := by decide +kernel
theorem dL_law_1528 : decode cL_law 1528 = .ok (.iconst 3, 1) := by decide +kernel
theorem dL_law_1529 : decode cL_law 1529 = .ok (.iadd, 1) := by decide +kernel
theorem dL_law_1530 : decode cL_law 1530 = .ok (.iaload, 1) := by decide +kernel
theorem dL_law_1531 : decode cL_law 1531 = .ok (.aload_n 0, 1) := by decide +kernel
theorem dL_law_1532 : decode cL_law 1532 = .ok (.iload_n 3, 1) := by decide +kernel
theorem dL_law_1533 : decode cL_law 1533 = .ok (.iconst 4, 1) := by decide +kernel
theorem dL_law_1534 : decode cL_law 1534 = .ok (.iadd, 1) := by decide +kernel
theorem dL_law_1535 : decode cL_law 1535 = .ok (.iaload, 1) := by decide +kernel
theorem dL_law_1536 : decode cL_law 1536 = .ok (.invokevirtual 185, 3) := by decide +kernel
theorem dL_law_1539 : decode cL_law 1539 = .ok (.if_icmp .eq 38, 3) := by decide +kernel
theorem dL_law_1542 : decode cL_law 1542 = .ok (.iconst 0, 1) := by decide +kernel
theorem dL_law_1543 : decode cL_law 1543 = .ok (.ireturn, 1) := by decide +kernel
theorem dL_law_1544 : decode cL_law 1544 = .ok (.aload_n 1, 1) := by decide +kernel
theorem dL_law_1545 : decode cL_law 1545 = .ok (.aload_n 0, 1) := by decide +kernel
theorem dL_law_1546 : decode cL_law 1546 = .ok (.iload_n 3, 1) := by decide +kernel
theorem dL_law_1547 : decode cL_law 1547 = .ok (.iconst 1, 1) := by decide +kernel
theorem dL_law_1548 : decode cL_law 1548 = .ok (.iadd, 1) := by decide +kernel
theorem dL_law_1549 : decode cL_law 1549 = .ok (.iaload, 1) := by decide +kernel
theorem dL_law_1550 : decode cL_law 1550 = .ok (.aload_n 0, 1) := by decide +kernel
theorem dL_law_1551 : decode cL_law 1551 = .ok (.iload_n 3, 1) := by decide +kernel
theorem dL_law_1552 : decode cL_law 1552 = .ok (.iconst 2, 1) := by decide +kernel
theorem dL_law_1553 : decode cL_law 1553 = .ok (.iadd, 1) := by decide +kernel
theorem dL_law_1554 : decode cL_law 1554 = .ok (.iaload, 1) := by decide +kernel
theorem dL_law_1555 : decode cL_law 1555 = .ok (.invokevirtual 186, 3) := by decide +kernel
theorem dL_law_1558 : decode cL_law 1558 = .ok (.aload_n 2, 1) := by decide +kernel
theorem dL_law_1559 : decode cL_law 1559 = .ok (.aload_n 0, 1) := by decide +kernel
theorem dL_law_1560 : decode cL_law 1560 = .ok (.iload_n 3, 1) := by decide +kernel
theorem dL_law_1561 : decode cL_law 1561 = .ok (.iconst 1, 1) := by decide +kernel
theorem dL_law_1562 : decode cL_law 1562 = .ok (.iadd, 1) := by decide +kernel
theorem dL_law_1563 : decode cL_law 1563 = .ok (.iaload, 1) := by decide +kernel
theorem dL_law_1564 : decode cL_law 1564 = .ok (.aload_n 0, 1) := by decide +kernel
theorem dL_law_1565 : decode cL_law 1565 = .ok (.iload_n 3, 1) := by decide +kernel
theorem dL_law_1566 : decode cL_law 1566 = .ok (.iconst 2, 1) := by decide +kernel
theorem dL_law_1567 : decode cL_law 1567 = .ok (.iadd, 1) := by decide +kernel
theorem dL_law_1568 : decode cL_law 1568 = .ok (.iaload, 1) := by decide +kernel
theorem dL_law_1569 : decode cL_law 1569 = .ok (.invokevirtual 189, 3) := by decide +kernel
theorem dL_law_1572 : decode cL_law 1572 = .ok (.if_icmp .eq 5, 3) := by decide +kernel
theorem dL_law_1575 : decode cL_law 1575 = .ok (.iconst 0, 1) := by decide +kernel
theorem dL_law_1576 : decode cL_law 1576 = .ok (.ireturn, 1) := by decide +kernel
theorem dL_law_1577 : decode cL_law 1577 = .ok (.iinc 3 7, 3) := by decide +kernel
theorem dL_law_1580 : decode cL_law 1580 = .ok (.goto (-1562), 3) := by decide +kernel
theorem dL_law_1583 : decode cL_law 1583 = .ok (.iconst 1, 1) := by decide +kernel
theorem dL_law_1584 : decode cL_law 1584 = .ok (.ireturn, 1) := by decide +kernel
