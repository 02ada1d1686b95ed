theorem dX5_init_0 : decode cX5_init 0 = .ok (.aload_n 0, 1) := by decide +kernel
theorem dX5_init_1 : decode cX5_init 1 = .ok (.invokespecial 1, 3) := by decide +kernel
theorem dX5_init_4 : decode cX5_init 4 = .ok (.aload_n 0, 1) := by decide +kernel
theorem dX5_init_5 : decode cX5_init 5 = .ok (.iconst 2, 1) := by decide +kernel
theorem dX5_init_6 : decode cX5_init 6 = .ok (.bipush 24, 2) := by decide +kernel
theorem dX5_init_8 : decode cX5_init 8 = .ok (.multianewarray 9 2, 4) := by decide +kernel
theorem dX5_init_12 : decode cX5_init 12 = .ok (.putfield 11, 3) := by decide +kernel
theorem dX5_init_15 : decode cX5_init 15 = .ok (.aload_n 0, 1) := by decide +kernel
theorem dX5_init_16 : decode cX5_init 16 = .ok (.iconst 2, 1) := by decide +kernel
theorem dX5_init_17 : decode cX5_init 17 = .ok (.bipush 24, 2) := by decide +kernel
theorem dX5_init_19 : decode cX5_init 19 = .ok (.multianewarray 9 2, 4) := by decide +kernel
theorem dX5_init_23 : decode cX5_init 23 = .ok (.putfield 14, 3) := by decide +kernel
theorem dX5_init_26 : decode cX5_init 26 = .ok (.aload_n 0, 1) := by decide +kernel
theorem dX5_init_27 : decode cX5_init 27 = .ok (.iconst 2, 1) := by decide +kernel
theorem dX5_init_28 : decode cX5_init 28 = .ok (.newarray .int, 2) := by decide +kernel
theorem dX5_init_30 : decode cX5_init 30 = .ok (.putfield 17, 3) := by decide +kernel
theorem dX5_init_33 : decode cX5_init 33 = .ok (.aload_n 0, 1) := by decide +kernel
theorem dX5_init_34 : decode cX5_init 34 = .ok (.iconst 2, 1) := by decide +kernel
theorem dX5_init_35 : decode cX5_init 35 = .ok (.bipush 24, 2) := by decide +kernel
theorem dX5_init_37 : decode cX5_init 37 = .ok (.multianewarray 9 2, 4) := by decide +kernel
theorem dX5_init_41 : decode cX5_init 41 = .ok (.putfield 21, 3) := by decide +kernel
theorem dX5_init_44 : decode cX5_init 44 = .ok (.aload_n 0, 1) := by decide +kernel
theorem dX5_init_45 : decode cX5_init 45 = .ok (.iconst 2, 1) := by decide +kernel
theorem dX5_init_46 : decode cX5_init 46 = .ok (.bipush 24, 2) := by decide +kernel
theorem dX5_init_48 : decode cX5_init 48 = .ok (.multianewarray 9 2, 4) := by decide +kernel
theorem dX5_init_52 : decode cX5_init 52 = .ok (.putfield 24, 3) := by decide +kernel
theorem dX5_init_55 : decode cX5_init 55 = .ok (.aload_n 0, 1) := by decide +kernel
theorem dX5_init_56 : decode cX5_init 56 = .ok (.iconst 2, 1) := by decide +kernel
theorem dX5_init_57 : decode cX5_init 57 = .ok (.bipush 24, 2) := by decide +kernel
theorem dX5_init_59 : decode cX5_init 59 = .ok (.multianewarray 9 2, 4) := by decide +kernel
theorem dX5_init_63 : decode cX5_init 63 = .ok (.putfield 27, 3) := by decide +kernel
theorem dX5_init_66 : decode cX5_init 66 = .ok (.aload_n 0, 1) := by decide +kernel
theorem dX5_init_67 : decode cX5_init 67 = .ok (.iconst 2, 1) := by decide +kernel
theorem dX5_init_68 : decode cX5_init 68 = .ok (.newarray .int, 2) := by decide +kernel
theorem dX5_init_70 : decode cX5_init 70 = .ok (.putfield 30, 3) := by decide +kernel
theorem dX5_init_73 : decode cX5_init 73 = .ok (.aload_n 0, 1) := by decide +kernel
theorem dX5_init_74 : decode cX5_init 74 = .ok (.bipush 16, 2) := by decide +kernel
theorem dX5_init_76 : decode cX5_init 76 = .ok (.newarray .int, 2) := by decide +kernel
theorem dX5_init_78 : decode cX5_init 78 = .ok (.putfield 33, 3) := by decide +kernel
theorem dX5_init_81 : decode cX5_init 81 = .ok (.aload_n 0, 1) := by decide +kernel
theorem dX5_init_82 : decode cX5_init 82 = .ok (.bipush 16, 2) := by decide +kernel
theorem dX5_init_84 : decode cX5_init 84 = .ok (.newarray .int, 2) := by decide +kernel
theorem dX5_init_86 : decode cX5_init 86 = .ok (.putfield 36, 3) := by decide +kernel
theorem dX5_init_89 : decode cX5_init 89 = .ok (.aload_n 0, 1) := by decide +kernel
theorem dX5_init_90 : decode cX5_init 90 = .ok (.bipush 16, 2) := by decide +kernel
theorem dX5_init_92 : decode cX5_init 92 = .ok (.newarray .int, 2) := by decide +kernel
theorem dX5_init_94 : decode cX5_init 94 = .ok (.putfield 39, 3) := by decide +kernel
theorem dX5_init_97 : decode cX5_init 97 = .ok (.aload_n 0, 1) := by decide +kernel
theorem dX5_init_98 : decode cX5_init 98 = .ok (.bipush 16, 2) := by decide +kernel
theorem dX5_init_100 : decode cX5_init 100 = .ok (.newarray .int, 2) := by decide +kernel
theorem dX5_init_102 : decode cX5_init 102 = .ok (.putfield 42, 3) := by decide +kernel
theorem dX5_init_105 : decode cX5_init 105 = .ok (.aload_n 0, 1) := by decide +kernel
theorem dX5_init_106 : decode cX5_init 106 = .ok (.bipush 16, 2) := by decide +kernel
theorem dX5_init_108 : decode cX5_init 108 = .ok (.newarray .boolean, 2) := by decide +kernel
theorem dX5_init_110 : decode cX5_init 110 = .ok (.putfield 45, 3) := by decide +kernel
theorem dX5_init_113 : decode cX5_init 113 = .ok (.aload_n 0, 1) := by decide +kernel
theorem dX5_init_114 : decode cX5_init 114 = .ok (.bipush 12, 2) := by decide +kernel
theorem dX5_init_116 : decode cX5_init 116 = .ok (.newarray .char, 2) := by decide +kernel
theorem dX5_init_118 : decode cX5_init 118 = .ok (.dup, 1) := by decide +kernel
theorem dX5_init_119 : decode cX5_init 119 = .ok (.iconst 0, 1) := by decide +kernel
theorem dX5_init_120 : decode cX5_init 120 = .ok (.bipush 108, 2) := by decide +kernel
theorem dX5_init_122 : decode cX5_init 122 = .ok (.castore, 1) := by decide +kernel
theorem dX5_init_123 : decode cX5_init 123 = .ok (.dup, 1) := by decide +kernel
theorem dX5_init_124 : decode cX5_init 124 = .ok (.iconst 1, 1) := by decide +kernel
theorem dX5_init_125 : decode cX5_init 125 = .ok (.bipush 108, 2) := by decide +kernel
theorem dX5_init_127 : decode cX5_init 127 = .ok (.castore, 1) := by decide +kernel
theorem dX5_init_128 : decode cX5_init 128 = .ok (.dup, 1) := by decide +kernel
theorem dX5_init_129 : decode cX5_init 129 = .ok (.iconst 2, 1) := by decide +kernel
theorem dX5_init_130 : decode cX5_init 130 = .ok (.bipush 109, 2) := by decide +kernel
theorem dX5_init_132 : decode cX5_init 132 = .ok (.castore, 1) := by decide +kernel
theorem dX5_init_133 : decode cX5_init 133 = .ok (.dup, 1) := by decide +kernel
theorem dX5_init_134 : decode cX5_init 134 = .ok (.iconst 3, 1) := by decide +kernel
theorem dX5_init_135 : decode cX5_init 135 = .ok (.bipush 109, 2) := by decide +kernel
theorem dX5_init_137 : decode cX5_init 137 = .ok (.castore, 1) := by decide +kernel
theorem dX5_init_138 : decode cX5_init 138 = .ok (.dup, 1) := by decide +kernel
theorem dX5_init_139 : decode cX5_init 139 = .ok (.iconst 4, 1) := by decide +kernel
theorem dX5_init_140 : decode cX5_init 140 = .ok (.bipush 45, 2) := by decide +kernel
theorem dX5_init_142 : decode cX5_init 142 = .ok (.castore, 1) := by decide +kernel
theorem dX5_init_143 : decode cX5_init 143 = .ok (.dup, 1) := by decide +kernel
theorem dX5_init_144 : decode cX5_init 144 = .ok (.iconst 5, 1) := by decide +kernel
theorem dX5_init_145 : decode cX5_init 145 = .ok (.bipush 45, 2) := by decide +kernel
theorem dX5_init_147 : decode cX5_init 147 = .ok (.castore, 1) := by decide +kernel
theorem dX5_init_148 : decode cX5_init 148 = .ok (.dup, 1) := by decide +kernel
theorem dX5_init_149 : decode cX5_init 149 = .ok (.bipush 6, 2) := by decide +kernel
theorem dX5_init_151 : decode cX5_init 151 = .ok (.bipush 45, 2) := by decide +kernel
theorem dX5_init_153 : decode cX5_init 153 = .ok (.castore, 1) := by decide +kernel
theorem dX5_init_154 : decode cX5_init 154 = .ok (.dup, 1) := by decide +kernel
theorem dX5_init_155 : decode cX5_init 155 = .ok (.bipush 7, 2) := by decide +kernel
theorem dX5_init_157 : decode cX5_init 157 = .ok (.bipush 45, 2) := by decide +kernel
theorem dX5_init_159 : decode cX5_init 159 = .ok (.castore, 1) := by decide +kernel
theorem dX5_init_160 : decode cX5_init 160 = .ok (.dup, 1) := by decide +kernel
theorem dX5_init_161 : decode cX5_init 161 = .ok (.bipush 8, 2) := by decide +kernel
theorem dX5_init_163 : decode cX5_init 163 = .ok (.bipush 45, 2) := by decide +kernel
theorem dX5_init_165 : decode cX5_init 165 = .ok (.castore, 1) := by decide +kernel
theorem dX5_init_166 : decode cX5_init 166 = .ok (.dup, 1) := by decide +kernel
theorem dX5_init_167 : decode cX5_init 167 = .ok (.bipush 9, 2) := by decide +kernel
theorem dX5_init_169 : decode cX5_init 169 = .ok (.bipush 45, 2) := by decide +kernel
theorem dX5_init_171 : decode cX5_init 171 = .ok (.castore, 1) := by decide +kernel
theorem dX5_init_172 : decode cX5_init 172 = .ok (.dup, 1) := by decide +kernel
theorem dX5_init_173 : decode cX5_init 173 = .ok (.bipush 10, 2) := by decide +kernel
theorem dX5_init_175 : decode cX5_init 175 = .ok (.bipush 45, 2) := by decide +kernel
theorem dX5_init_177 : decode cX5_init 177 = .ok (.castore, 1) := by decide +kernel
theorem dX5_init_178 : decode cX5_init 178 = .ok (.dup, 1) := by decide +kernel
theorem dX5_init_179 : decode cX5_init 179 = .ok (.bipush 11, 2) := by decide +kernel
theorem dX5_init_181 : decode cX5_init 181 = .ok (.bipush 45, 2) := by decide +kernel
theorem dX5_init_183 : decode cX5_init 183 = .ok (.castore, 1) := by decide +kernel
theorem dX5_init_184 : decode cX5_init 184 = .ok (.putfield 49, 3) := by decide +kernel
theorem dX5_init_187 : decode cX5_init 187 = .ok (.aload_n 0, 1) := by decide +kernel
theorem dX5_init_188 : decode cX5_init 188 = .ok (.bipush 12, 2) := by decide +kernel
theorem dX5_init_190 : decode cX5_init 190 = .ok (.newarray .int, 2) := by decide +kernel
theorem dX5_init_192 : decode cX5_init 192 = .ok (.dup, 1) := by decide +kernel
theorem dX5_init_193 : decode cX5_init 193 = .ok (.iconst 0, 1) := by decide +kernel
theorem dX5_init_194 : decode cX5_init 194 = .ok (.iconst 0, 1) := by decide +kernel
theorem dX5_init_195 : decode cX5_init 195 = .ok (.iastore, 1) := by decide +kernel
theorem dX5_init_196 : decode cX5_init 196 = .ok (.dup, 1) := by decide +kernel
theorem dX5_init_197 : decode cX5_init 197 = .ok (.iconst 1, 1) := by decide +kernel
theorem dX5_init_198 : decode cX5_init 198 = .ok (.iconst 1, 1) := by decide +kernel
theorem dX5_init_199 : decode cX5_init 199 = .ok (.iastore, 1) := by decide +kernel
theorem dX5_init_200 : decode cX5_init 200 = .ok (.dup, 1) := by decide +kernel
theorem dX5_init_201 : decode cX5_init 201 = .ok (.iconst 2, 1) := by decide +kernel
theorem dX5_init_202 : decode cX5_init 202 = .ok (.iconst 0, 1) := by decide +kernel
theorem dX5_init_203 : decode cX5_init 203 = .ok (.iastore, 1) := by decide +kernel
theorem dX5_init_204 : decode cX5_init 204 = .ok (.dup, 1) := by decide +kernel
theorem dX5_init_205 : decode cX5_init 205 = .ok (.iconst 3, 1) := by decide +kernel
theorem dX5_init_206 : decode cX5_init 206 = .ok (.iconst 1, 1) := by decide +kernel
theorem dX5_init_207 : decode cX5_init 207 = .ok (.iastore, 1) := by decide +kernel
theorem dX5_init_208 : decode cX5_init 208 = .ok (.dup, 1) := by decide +kernel
theorem dX5_init_209 : decode cX5_init 209 = .ok (.iconst 4, 1) := by decide +kernel
theorem dX5_init_210 : decode cX5_init 210 = .ok (.iconst 0, 1) := by decide +kernel
theorem dX5_init_211 : decode cX5_init 211 = .ok (.iastore, 1) := by decide +kernel
theorem dX5_init_212 : decode cX5_init 212 = .ok (.dup, 1) := by decide +kernel
theorem dX5_init_213 : decode cX5_init 213 = .ok (.iconst 5, 1) := by decide +kernel
theorem dX5_init_214 : decode cX5_init 214 = .ok (.iconst 0, 1) := by decide +kernel
theorem dX5_init_215 : decode cX5_init 215 = .ok (.iastore, 1) := by decide +kernel
theorem dX5_init_216 : decode cX5_init 216 = .ok (.dup, 1) := by decide +kernel
theorem dX5_init_217 : decode cX5_init 217 = .ok (.bipush 6, 2) := by decide +kernel
theorem dX5_init_219 : decode cX5_init 219 = .ok (.iconst 0, 1) := by decide +kernel
theorem dX5_init_220 : decode cX5_init 220 = .ok (.iastore, 1) := by decide +kernel
theorem dX5_init_221 : decode cX5_init 221 = .ok (.dup, 1) := by decide +kernel
theorem dX5_init_222 : decode cX5_init 222 = .ok (.bipush 7, 2) := by decide +kernel
theorem dX5_init_224 : decode cX5_init 224 = .ok (.iconst 0, 1) := by decide +kernel
theorem dX5_init_225 : decode cX5_init 225 = .ok (.iastore, 1) := by decide +kernel
theorem dX5_init_226 : decode cX5_init 226 = .ok (.dup, 1) := by decide +kernel
theorem dX5_init_227 : decode cX5_init 227 = .ok (.bipush 8, 2) := by decide +kernel
theorem dX5_init_229 : decode cX5_init 229 = .ok (.iconst 0, 1) := by decide +kernel
theorem dX5_init_230 : decode cX5_init 230 = .ok (.iastore, 1) := by decide +kernel
theorem dX5_init_231 : decode cX5_init 231 = .ok (.dup, 1) := by decide +kernel
theorem dX5_init_232 : decode cX5_init 232 = .ok (.bipush 9, 2) := by decide +kernel
theorem dX5_init_234 : decode cX5_init 234 = .ok (.iconst 0, 1) := by decide +kernel
theorem dX5_init_235 : decode cX5_init 235 = .ok (.iastore, 1) := by decide +kernel
theorem dX5_init_236 : decode cX5_init 236 = .ok (.dup, 1) := by decide +kernel
theorem dX5_init_237 : decode cX5_init 237 = .ok (.bipush 10, 2) := by decide +kernel
theorem dX5_init_239 : decode cX5_init 239 = .ok (.iconst 0, 1) := by decide +kernel
theorem dX5_init_240 : decode cX5_init 240 = .ok (.iastore, 1) := by decide +kernel
theorem dX5_init_241 : decode cX5_init 241 = .ok (.dup, 1) := by decide +kernel
theorem dX5_init_242 : decode cX5_init 242 = .ok (.bipush 11, 2) := by decide +kernel
theorem dX5_init_244 : decode cX5_init 244 = .ok (.iconst 0, 1) := by decide +kernel
theorem dX5_init_245 : decode cX5_init 245 = .ok (.iastore, 1) := by decide +kernel
theorem dX5_init_246 : decode cX5_init 246 = .ok (.putfield 53, 3) := by decide +kernel
theorem dX5_init_249 : decode cX5_init 249 = .ok (.aload_n 0, 1) := by decide +kernel
theorem dX5_init_250 : decode cX5_init 250 = .ok (.bipush 12, 2) := by decide +kernel
theorem dX5_init_252 : decode cX5_init 252 = .ok (.newarray .int, 2) := by decide +kernel
theorem dX5_init_254 : decode cX5_init 254 = .ok (.putfield 56, 3) := by decide +kernel
theorem dX5_init_257 : decode cX5_init 257 = .ok (.aload_n 0, 1) := by decide +kernel
theorem dX5_init_258 : decode cX5_init 258 = .ok (.bipush 12, 2) := by decide +kernel
theorem dX5_init_260 : decode cX5_init 260 = .ok (.newarray .int, 2) := by decide +kernel
theorem dX5_init_262 : decode cX5_init 262 = .ok (.putfield 59, 3) := by decide +kernel
theorem dX5_init_265 : decode cX5_init 265 = .ok (.aload_n 0, 1) := by decide +kernel
theorem dX5_init_266 : decode cX5_init 266 = .ok (.bipush 12, 2) := by decide +kernel
theorem dX5_init_268 : decode cX5_init 268 = .ok (.newarray .int, 2) := by decide +kernel
theorem dX5_init_270 : decode cX5_init 270 = .ok (.putfield 62, 3) := by decide +kernel
theorem dX5_init_273 : decode cX5_init 273 = .ok (.aload_n 0, 1) := by decide +kernel
theorem dX5_init_274 : decode cX5_init 274 = .ok (.bipush 12, 2) := by decide +kernel
theorem dX5_init_276 : decode cX5_init 276 = .ok (.newarray .boolean, 2) := by decide +kernel
theorem dX5_init_278 : decode cX5_init 278 = .ok (.putfield 65, 3) := by decide +kernel
theorem dX5_init_281 : decode cX5_init 281 = .ok (.aload_n 0, 1) := by decide +kernel
theorem dX5_init_282 : decode cX5_init 282 = .ok (.bipush 72, 2) := by decide +kernel
theorem dX5_init_284 : decode cX5_init 284 = .ok (.newarray .int, 2) := by decide +kernel
theorem dX5_init_286 : decode cX5_init 286 = .ok (.putfield 68, 3) := by decide +kernel
theorem dX5_init_289 : decode cX5_init 289 = .ok (.aload_n 0, 1) := by decide +kernel
theorem dX5_init_290 : decode cX5_init 290 = .ok (.bipush 72, 2) := by decide +kernel
theorem dX5_init_292 : decode cX5_init 292 = .ok (.newarray .int, 2) := by decide +kernel
theorem dX5_init_294 : decode cX5_init 294 = .ok (.putfield 71, 3) := by decide +kernel
theorem dX5_init_297 : decode cX5_init 297 = .ok (.iconst 0, 1) := by decide +kernel
theorem dX5_init_298 : decode cX5_init 298 = .ok (.istore_n 1, 1) := by decide +kernel
theorem dX5_init_299 : decode cX5_init 299 = .ok (.iload_n 1, 1) := by decide +kernel
theorem dX5_init_300 : decode cX5_init 300 = .ok (.bipush 12, 2) := by decide +kernel
theorem dX5_init_302 : decode cX5_init 302 = .ok (.if_icmp .ge 16, 3) := by decide +kernel
theorem dX5_init_305 : decode cX5_init 305 = .ok (.aload_n 0, 1) := by decide +kernel
theorem dX5_init_306 : decode cX5_init 306 = .ok (.getfield 56, 3) := by decide +kernel
theorem dX5_init_309 : decode cX5_init 309 = .ok (.iload_n 1, 1) := by decide +kernel
theorem dX5_init_310 : decode cX5_init 310 = .ok (.iconst (-1), 1) := by decide +kernel
theorem dX5_init_311 : decode cX5_init 311 = .ok (.iastore, 1) := by decide +kernel
theorem dX5_init_312 : decode cX5_init 312 = .ok (.iinc 1 1, 3) := by decide +kernel
theorem dX5_init_315 : decode cX5_init 315 = .ok (.goto (-16), 3) := by decide +kernel
theorem dX5_init_318 : decode cX5_init 318 = .ok (.return_, 1) := by decide +kernel
theorem dX5_thrown_0 : decode cX5_thrown 0 = .ok (.aload_n 0, 1) := by decide +kernel
theorem dX5_thrown_1 : decode cX5_thrown 1 = .ok (.getfield 74, 3) := by decide +kernel
theorem dX5_thrown_4 : decode cX5_thrown 4 = .ok (.ireturn, 1) := by decide +kernel
theorem dX5_fails_0 : decode cX5_fails 0 = .ok (.aload_n 0, 1) := by decide +kernel
theorem dX5_fails_1 : decode cX5_fails 1 = .ok (.iload_n 1, 1) := by decide +kernel
theorem dX5_fails_2 : decode cX5_fails 2 = .ok (.ifCond .eq 7, 3) := by decide +kernel
theorem dX5_fails_5 : decode cX5_fails 5 = .ok (.iconst 1, 1) := by decide +kernel
theorem dX5_fails_6 : decode cX5_fails 6 = .ok (.goto 38, 3) := by decide +kernel
theorem dX5_fails_9 : decode cX5_fails 9 = .ok (.iload_n 2, 1) := by decide +kernel
theorem dX5_fails_10 : decode cX5_fails 10 = .ok (.ifCond .eq 7, 3) := by decide +kernel
theorem dX5_fails_13 : decode cX5_fails 13 = .ok (.iconst 2, 1) := by decide +kernel
theorem dX5_fails_14 : decode cX5_fails 14 = .ok (.goto 30, 3) := by decide +kernel
theorem dX5_fails_17 : decode cX5_fails 17 = .ok (.iload_n 3, 1) := by decide +kernel
theorem dX5_fails_18 : decode cX5_fails 18 = .ok (.ifCond .eq 7, 3) := by decide +kernel
theorem dX5_fails_21 : decode cX5_fails 21 = .ok (.iconst 3, 1) := by decide +kernel
theorem dX5_fails_22 : decode cX5_fails 22 = .ok (.goto 22, 3) := by decide +kernel
theorem dX5_fails_25 : decode cX5_fails 25 = .ok (.iload 4, 2) := by decide +kernel
theorem dX5_fails_27 : decode cX5_fails 27 = .ok (.ifCond .eq 7, 3) := by decide +kernel
theorem dX5_fails_30 : decode cX5_fails 30 = .ok (.iconst 4, 1) := by decide +kernel
theorem dX5_fails_31 : decode cX5_fails 31 = .ok (.goto 13, 3) := by decide +kernel
theorem dX5_fails_34 : decode cX5_fails 34 = .ok (.iload 5, 2) := by decide +kernel
theorem dX5_fails_36 : decode cX5_fails 36 = .ok (.ifCond .eq 7, 3) := by decide +kernel
theorem dX5_fails_39 : decode cX5_fails 39 = .ok (.iconst 5, 1) := by decide +kernel
theorem dX5_fails_40 : decode cX5_fails 40 = .ok (.goto 4, 3) := by decide +kernel
theorem dX5_fails_43 : decode cX5_fails 43 = .ok (.iconst 0, 1) := by decide +kernel
theorem dX5_fails_44 : decode cX5_fails 44 = .ok (.putfield 74, 3) := by decide +kernel
theorem dX5_fails_47 : decode cX5_fails 47 = .ok (.aload_n 0, 1) := by decide +kernel
theorem dX5_fails_48 : decode cX5_fails 48 = .ok (.getfield 74, 3) := by decide +kernel
theorem dX5_fails_51 : decode cX5_fails 51 = .ok (.ifCond .le 7, 3) := by decide +kernel
theorem dX5_fails_54 : decode cX5_fails 54 = .ok (.iconst 1, 1) := by decide +kernel
theorem dX5_fails_55 : decode cX5_fails 55 = .ok (.goto 4, 3) := by decide +kernel
theorem dX5_fails_58 : decode cX5_fails 58 = .ok (.iconst 0, 1) := by decide +kernel
theorem dX5_fails_59 : decode cX5_fails 59 = .ok (.ireturn, 1) := by decide +kernel
theorem dX5_in_0 : decode cX5_in 0 = .ok (.iload_n 0, 1) := by decide +kernel
theorem dX5_in_1 : decode cX5_in 1 = .ok (.iload_n 1, 1) := by decide +kernel
theorem dX5_in_2 : decode cX5_in 2 = .ok (.if_icmp .lt 12, 3) := by decide +kernel
theorem dX5_in_5 : decode cX5_in 5 = .ok (.iload_n 0, 1) := by decide +kernel
theorem dX5_in_6 : decode cX5_in 6 = .ok (.iload_n 2, 1) := by decide +kernel
theorem dX5_in_7 : decode cX5_in 7 = .ok (.if_icmp .gt 7, 3) := by decide +kernel
theorem dX5_in_10 : decode cX5_in 10 = .ok (.iconst 1, 1) := by decide +kernel
theorem dX5_in_11 : decode cX5_in 11 = .ok (.goto 4, 3) := by decide +kernel
theorem dX5_in_14 : decode cX5_in 14 = .ok (.iconst 0, 1) := by decide +kernel
theorem dX5_in_15 : decode cX5_in 15 = .ok (.ireturn, 1) := by decide +kernel
theorem dX5_isSlot_0 : decode cX5_isSlot 0 = .ok (.iload_n 0, 1) := by decide +kernel
theorem dX5_isSlot_1 : decode cX5_isSlot 1 = .ok (.iconst 0, 1) := by decide +kernel
theorem dX5_isSlot_2 : decode cX5_isSlot 2 = .ok (.bipush 11, 2) := by decide +kernel
theorem dX5_isSlot_4 : decode cX5_isSlot 4 = .ok (.invokestatic 78, 3) := by decide +kernel
theorem dX5_isSlot_7 : decode cX5_isSlot 7 = .ok (.ireturn, 1) := by decide +kernel
theorem dX5_isPane_0 : decode cX5_isPane 0 = .ok (.iload_n 0, 1) := by decide +kernel
theorem dX5_isPane_1 : decode cX5_isPane 1 = .ok (.iconst 4, 1) := by decide +kernel
theorem dX5_isPane_2 : decode cX5_isPane 2 = .ok (.bipush 11, 2) := by decide +kernel
theorem dX5_isPane_4 : decode cX5_isPane 4 = .ok (.invokestatic 78, 3) := by decide +kernel
theorem dX5_isPane_7 : decode cX5_isPane 7 = .ok (.ireturn, 1) := by decide +kernel
theorem dX5_isThing_0 : decode cX5_isThing 0 = .ok (.iload_n 0, 1) := by decide +kernel
theorem dX5_isThing_1 : decode cX5_isThing 1 = .ok (.sipush (-999), 3) := by decide +kernel
theorem dX5_isThing_4 : decode cX5_isThing 4 = .ok (.sipush 999, 3) := by decide +kernel
theorem dX5_isThing_7 : decode cX5_isThing 7 = .ok (.invokestatic 78, 3) := by decide +kernel
theorem dX5_isThing_10 : decode cX5_isThing 10 = .ok (.ifCond .eq 17, 3) := by decide +kernel
theorem dX5_isThing_13 : decode cX5_isThing 13 = .ok (.iload_n 1, 1) := by decide +kernel
theorem dX5_isThing_14 : decode cX5_isThing 14 = .ok (.iconst 0, 1) := by decide +kernel
theorem dX5_isThing_15 : decode cX5_isThing 15 = .ok (.bipush 99, 2) := by decide +kernel
theorem dX5_isThing_17 : decode cX5_isThing 17 = .ok (.invokestatic 78, 3) := by decide +kernel
theorem dX5_isThing_20 : decode cX5_isThing 20 = .ok (.ifCond .eq 7, 3) := by decide +kernel
theorem dX5_isThing_23 : decode cX5_isThing 23 = .ok (.iconst 1, 1) := by decide +kernel
theorem dX5_isThing_24 : decode cX5_isThing 24 = .ok (.goto 4, 3) := by decide +kernel
theorem dX5_isThing_27 : decode cX5_isThing 27 = .ok (.iconst 0, 1) := by decide +kernel
theorem dX5_isThing_28 : decode cX5_isThing 28 = .ok (.ireturn, 1) := by decide +kernel
theorem dX5_isOf_0 : decode cX5_isOf 0 = .ok (.iload_n 1, 1) := by decide +kernel
theorem dX5_isOf_1 : decode cX5_isOf 1 = .ok (.invokestatic 82, 3) := by decide +kernel
theorem dX5_isOf_4 : decode cX5_isOf 4 = .ok (.ifCond .eq 20, 3) := by decide +kernel
theorem dX5_isOf_7 : decode cX5_isOf 7 = .ok (.aload_n 2, 1) := by decide +kernel
theorem dX5_isOf_8 : decode cX5_isOf 8 = .ok (.aload_n 0, 1) := by decide +kernel
theorem dX5_isOf_9 : decode cX5_isOf 9 = .ok (.getfield 49, 3) := by decide +kernel
theorem dX5_isOf_12 : decode cX5_isOf 12 = .ok (.iload_n 1, 1) := by decide +kernel
theorem dX5_isOf_13 : decode cX5_isOf 13 = .ok (.caload, 1) := by decide +kernel
theorem dX5_isOf_14 : decode cX5_isOf 14 = .ok (.invokevirtual 86, 3) := by decide +kernel
theorem dX5_isOf_17 : decode cX5_isOf 17 = .ok (.ifCond .lt 7, 3) := by decide +kernel
theorem dX5_isOf_20 : decode cX5_isOf 20 = .ok (.iconst 1, 1) := by decide +kernel
theorem dX5_isOf_21 : decode cX5_isOf 21 = .ok (.goto 4, 3) := by decide +kernel
theorem dX5_isOf_24 : decode cX5_isOf 24 = .ok (.iconst 0, 1) := by decide +kernel
theorem dX5_isOf_25 : decode cX5_isOf 25 = .ok (.ireturn, 1) := by decide +kernel
theorem dX5_isList_0 : decode cX5_isList 0 = .ok (.aload_n 0, 1) := by decide +kernel
theorem dX5_isList_1 : decode cX5_isList 1 = .ok (.iload_n 1, 1) := by decide +kernel
theorem dX5_isList_2 : decode cX5_isList 2 = .ok (.ldc 92, 2) := by decide +kernel
theorem dX5_isList_4 : decode cX5_isList 4 = .ok (.invokevirtual 94, 3) := by decide +kernel
theorem dX5_isList_7 : decode cX5_isList 7 = .ok (.ireturn, 1) := by decide +kernel
theorem dX5_isRow_0 : decode cX5_isRow 0 = .ok (.aload_n 0, 1) := by decide +kernel
theorem dX5_isRow_1 : decode cX5_isRow 1 = .ok (.iload_n 1, 1) := by decide +kernel
theorem dX5_isRow_2 : decode cX5_isRow 2 = .ok (.ldc 98, 2) := by decide +kernel
theorem dX5_isRow_4 : decode cX5_isRow 4 = .ok (.invokevirtual 94, 3) := by decide +kernel
theorem dX5_isRow_7 : decode cX5_isRow 7 = .ok (.ireturn, 1) := by decide +kernel
theorem dX5_isMap_0 : decode cX5_isMap 0 = .ok (.aload_n 0, 1) := by decide +kernel
theorem dX5_isMap_1 : decode cX5_isMap 1 = .ok (.iload_n 1, 1) := by decide +kernel
theorem dX5_isMap_2 : decode cX5_isMap 2 = .ok (.ldc 100, 2) := by decide +kernel
theorem dX5_isMap_4 : decode cX5_isMap 4 = .ok (.invokevirtual 94, 3) := by decide +kernel
theorem dX5_isMap_7 : decode cX5_isMap 7 = .ok (.ireturn, 1) := by decide +kernel
theorem dX5_isKeys_0 : decode cX5_isKeys 0 = .ok (.aload_n 0, 1) := by decide +kernel
theorem dX5_isKeys_1 : decode cX5_isKeys 1 = .ok (.iload_n 1, 1) := by decide +kernel
theorem dX5_isKeys_2 : decode cX5_isKeys 2 = .ok (.ldc 102, 2) := by decide +kernel
theorem dX5_isKeys_4 : decode cX5_isKeys 4 = .ok (.invokevirtual 94, 3) := by decide +kernel
theorem dX5_isKeys_7 : decode cX5_isKeys 7 = .ok (.ireturn, 1) := by decide +kernel
theorem dX5_canChange_0 : decode cX5_canChange 0 = .ok (.aload_n 0, 1) := by decide +kernel
theorem dX5_canChange_1 : decode cX5_canChange 1 = .ok (.iload_n 1, 1) := by decide +kernel
theorem dX5_canChange_2 : decode cX5_canChange 2 = .ok (.ldc 104, 2) := by decide +kernel
theorem dX5_canChange_4 : decode cX5_canChange 4 = .ok (.invokevirtual 94, 3) := by decide +kernel
theorem dX5_canChange_7 : decode cX5_canChange 7 = .ok (.ifCond .eq 16, 3) := by decide +kernel
theorem dX5_canChange_10 : decode cX5_canChange 10 = .ok (.aload_n 0, 1) := by decide +kernel
theorem dX5_canChange_11 : decode cX5_canChange 11 = .ok (.getfield 65, 3) := by decide +kernel
theorem dX5_canChange_14 : decode cX5_canChange 14 = .ok (.iload_n 1, 1) := by decide +kernel
theorem dX5_canChange_15 : decode cX5_canChange 15 = .ok (.baload, 1) := by decide +kernel
theorem dX5_canChange_16 : decode cX5_canChange 16 = .ok (.ifCond .ne 7, 3) := by decide +kernel
theorem dX5_canChange_19 : decode cX5_canChange 19 = .ok (.iconst 1, 1) := by decide +kernel
theorem dX5_canChange_20 : decode cX5_canChange 20 = .ok (.goto 4, 3) := by decide +kernel
theorem dX5_canChange_23 : decode cX5_canChange 23 = .ok (.iconst 0, 1) := by decide +kernel
theorem dX5_canChange_24 : decode cX5_canChange 24 = .ok (.ireturn, 1) := by decide +kernel
theorem dX5_many_0 : decode cX5_many 0 = .ok (.aload_n 0, 1) := by decide +kernel
theorem dX5_many_1 : decode cX5_many 1 = .ok (.getfield 49, 3) := by decide +kernel
theorem dX5_many_4 : decode cX5_many 4 = .ok (.iload_n 1, 1) := by decide +kernel
theorem dX5_many_5 : decode cX5_many 5 = .ok (.caload, 1) := by decide +kernel
theorem dX5_many_6 : decode cX5_many 6 = .ok (.istore_n 2, 1) := by decide +kernel
theorem dX5_many_7 : decode cX5_many 7 = .ok (.iload_n 2, 1) := by decide +kernel
theorem dX5_many_8 : decode cX5_many 8 = .ok (.bipush 108, 2) := by decide +kernel
theorem dX5_many_10 : decode cX5_many 10 = .ok (.if_icmp .eq 15, 3) := by decide +kernel
theorem dX5_many_13 : decode cX5_many 13 = .ok (.iload_n 2, 1) := by decide +kernel
theorem dX5_many_14 : decode cX5_many 14 = .ok (.bipush 112, 2) := by decide +kernel
theorem dX5_many_16 : decode cX5_many 16 = .ok (.if_icmp .eq 9, 3) := by decide +kernel
theorem dX5_many_19 : decode cX5_many 19 = .ok (.iload_n 2, 1) := by decide +kernel
theorem dX5_many_20 : decode cX5_many 20 = .ok (.bipush 102, 2) := by decide +kernel
theorem dX5_many_22 : decode cX5_many 22 = .ok (.if_icmp .ne 39, 3) := by decide +kernel
theorem dX5_many_25 : decode cX5_many 25 = .ok (.aload_n 0, 1) := by decide +kernel
theorem dX5_many_26 : decode cX5_many 26 = .ok (.getfield 56, 3) := by decide +kernel
theorem dX5_many_29 : decode cX5_many 29 = .ok (.iload_n 1, 1) := by decide +kernel
theorem dX5_many_30 : decode cX5_many 30 = .ok (.iaload, 1) := by decide +kernel
theorem dX5_many_31 : decode cX5_many 31 = .ok (.iconst (-1), 1) := by decide +kernel
theorem dX5_many_32 : decode cX5_many 32 = .ok (.if_icmp .ne 17, 3) := by decide +kernel
theorem dX5_many_35 : decode cX5_many 35 = .ok (.aload_n 0, 1) := by decide +kernel
theorem dX5_many_36 : decode cX5_many 36 = .ok (.getfield 17, 3) := by decide +kernel
theorem dX5_many_39 : decode cX5_many 39 = .ok (.aload_n 0, 1) := by decide +kernel
theorem dX5_many_40 : decode cX5_many 40 = .ok (.getfield 53, 3) := by decide +kernel
theorem dX5_many_43 : decode cX5_many 43 = .ok (.iload_n 1, 1) := by decide +kernel
theorem dX5_many_44 : decode cX5_many 44 = .ok (.iaload, 1) := by decide +kernel
theorem dX5_many_45 : decode cX5_many 45 = .ok (.iaload, 1) := by decide +kernel
theorem dX5_many_46 : decode cX5_many 46 = .ok (.goto 14, 3) := by decide +kernel
theorem dX5_many_49 : decode cX5_many 49 = .ok (.aload_n 0, 1) := by decide +kernel
theorem dX5_many_50 : decode cX5_many 50 = .ok (.getfield 42, 3) := by decide +kernel
theorem dX5_many_53 : decode cX5_many 53 = .ok (.aload_n 0, 1) := by decide +kernel
theorem dX5_many_54 : decode cX5_many 54 = .ok (.getfield 56, 3) := by decide +kernel
theorem dX5_many_57 : decode cX5_many 57 = .ok (.iload_n 1, 1) := by decide +kernel
theorem dX5_many_58 : decode cX5_many 58 = .ok (.iaload, 1) := by decide +kernel
theorem dX5_many_59 : decode cX5_many 59 = .ok (.iaload, 1) := by decide +kernel
theorem dX5_many_60 : decode cX5_many 60 = .ok (.ireturn, 1) := by decide +kernel
theorem dX5_many_61 : decode cX5_many 61 = .ok (.iload_n 2, 1) := by decide +kernel
theorem dX5_many_62 : decode cX5_many 62 = .ok (.bipush 99, 2) := by decide +kernel
theorem dX5_many_64 : decode cX5_many 64 = .ok (.if_icmp .ne 12, 3) := by decide +kernel
theorem dX5_many_67 : decode cX5_many 67 = .ok (.aload_n 0, 1) := by decide +kernel
theorem dX5_many_68 : decode cX5_many 68 = .ok (.getfield 53, 3) := by decide +kernel
theorem dX5_many_71 : decode cX5_many 71 = .ok (.iload_n 1, 1) := by decide +kernel
theorem dX5_many_72 : decode cX5_many 72 = .ok (.iaload, 1) := by decide +kernel
theorem dX5_many_73 : decode cX5_many 73 = .ok (.goto 40, 3) := by decide +kernel
theorem dX5_many_76 : decode cX5_many 76 = .ok (.iload_n 2, 1) := by decide +kernel
theorem dX5_many_77 : decode cX5_many 77 = .ok (.bipush 97, 2) := by decide +kernel
theorem dX5_many_79 : decode cX5_many 79 = .ok (.if_icmp .ne 7, 3) := by decide +kernel
theorem dX5_many_82 : decode cX5_many 82 = .ok (.iconst 1, 1) := by decide +kernel
theorem dX5_many_83 : decode cX5_many 83 = .ok (.goto 30, 3) := by decide +kernel
theorem dX5_many_86 : decode cX5_many 86 = .ok (.iload_n 2, 1) := by decide +kernel
theorem dX5_many_87 : decode cX5_many 87 = .ok (.bipush 101, 2) := by decide +kernel
theorem dX5_many_89 : decode cX5_many 89 = .ok (.if_icmp .eq 9, 3) := by decide +kernel
theorem dX5_many_92 : decode cX5_many 92 = .ok (.iload_n 2, 1) := by decide +kernel
theorem dX5_many_93 : decode cX5_many 93 = .ok (.bipush 45, 2) := by decide +kernel
theorem dX5_many_95 : decode cX5_many 95 = .ok (.if_icmp .ne 7, 3) := by decide +kernel
theorem dX5_many_98 : decode cX5_many 98 = .ok (.iconst 0, 1) := by decide +kernel
theorem dX5_many_99 : decode cX5_many 99 = .ok (.goto 14, 3) := by decide +kernel
theorem dX5_many_102 : decode cX5_many 102 = .ok (.aload_n 0, 1) := by decide +kernel
theorem dX5_many_103 : decode cX5_many 103 = .ok (.getfield 30, 3) := by decide +kernel
theorem dX5_many_106 : decode cX5_many 106 = .ok (.aload_n 0, 1) := by decide +kernel
theorem dX5_many_107 : decode cX5_many 107 = .ok (.getfield 53, 3) := by decide +kernel
theorem dX5_many_110 : decode cX5_many 110 = .ok (.iload_n 1, 1) := by decide +kernel
theorem dX5_many_111 : decode cX5_many 111 = .ok (.iaload, 1) := by decide +kernel
theorem dX5_many_112 : decode cX5_many 112 = .ok (.iaload, 1) := by decide +kernel
theorem dX5_many_113 : decode cX5_many 113 = .ok (.ireturn, 1) := by decide +kernel
theorem dX5_begin_0 : decode cX5_begin 0 = .ok (.aload_n 0, 1) := by decide +kernel
theorem dX5_begin_1 : decode cX5_begin 1 = .ok (.getfield 56, 3) := by decide +kernel
theorem dX5_begin_4 : decode cX5_begin 4 = .ok (.iload_n 1, 1) := by decide +kernel
theorem dX5_begin_5 : decode cX5_begin 5 = .ok (.iaload, 1) := by decide +kernel
theorem dX5_begin_6 : decode cX5_begin 6 = .ok (.iconst (-1), 1) := by decide +kernel
theorem dX5_begin_7 : decode cX5_begin 7 = .ok (.if_icmp .ne 7, 3) := by decide +kernel
theorem dX5_begin_10 : decode cX5_begin 10 = .ok (.iconst 0, 1) := by decide +kernel
theorem dX5_begin_11 : decode cX5_begin 11 = .ok (.goto 14, 3) := by decide +kernel
theorem dX5_begin_14 : decode cX5_begin 14 = .ok (.aload_n 0, 1) := by decide +kernel
theorem dX5_begin_15 : decode cX5_begin 15 = .ok (.getfield 39, 3) := by decide +kernel
theorem dX5_begin_18 : decode cX5_begin 18 = .ok (.aload_n 0, 1) := by decide +kernel
theorem dX5_begin_19 : decode cX5_begin 19 = .ok (.getfield 56, 3) := by decide +kernel
theorem dX5_begin_22 : decode cX5_begin 22 = .ok (.iload_n 1, 1) := by decide +kernel
theorem dX5_begin_23 : decode cX5_begin 23 = .ok (.iaload, 1) := by decide +kernel
theorem dX5_begin_24 : decode cX5_begin 24 = .ok (.iaload, 1) := by decide +kernel
theorem dX5_begin_25 : decode cX5_begin 25 = .ok (.ireturn, 1) := by decide +kernel
theorem dX5_key_0 : decode cX5_key 0 = .ok (.aload_n 0, 1) := by decide +kernel
theorem dX5_key_1 : decode cX5_key 1 = .ok (.getfield 49, 3) := by decide +kernel
theorem dX5_key_4 : decode cX5_key 4 = .ok (.iload_n 1, 1) := by decide +kernel
theorem dX5_key_5 : decode cX5_key 5 = .ok (.caload, 1) := by decide +kernel
theorem dX5_key_6 : decode cX5_key 6 = .ok (.istore_n 3, 1) := by decide +kernel
theorem dX5_key_7 : decode cX5_key 7 = .ok (.iload_n 3, 1) := by decide +kernel
theorem dX5_key_8 : decode cX5_key 8 = .ok (.bipush 108, 2) := by decide +kernel
theorem dX5_key_10 : decode cX5_key 10 = .ok (.if_icmp .eq 15, 3) := by decide +kernel
theorem dX5_key_13 : decode cX5_key 13 = .ok (.iload_n 3, 1) := by decide +kernel
theorem dX5_key_14 : decode cX5_key 14 = .ok (.bipush 112, 2) := by decide +kernel
theorem dX5_key_16 : decode cX5_key 16 = .ok (.if_icmp .eq 9, 3) := by decide +kernel
theorem dX5_key_19 : decode cX5_key 19 = .ok (.iload_n 3, 1) := by decide +kernel
theorem dX5_key_20 : decode cX5_key 20 = .ok (.bipush 102, 2) := by decide +kernel
theorem dX5_key_22 : decode cX5_key 22 = .ok (.if_icmp .ne 23, 3) := by decide +kernel
theorem dX5_key_25 : decode cX5_key 25 = .ok (.aload_n 0, 1) := by decide +kernel
theorem dX5_key_26 : decode cX5_key 26 = .ok (.getfield 11, 3) := by decide +kernel
theorem dX5_key_29 : decode cX5_key 29 = .ok (.aload_n 0, 1) := by decide +kernel
theorem dX5_key_30 : decode cX5_key 30 = .ok (.getfield 53, 3) := by decide +kernel
theorem dX5_key_33 : decode cX5_key 33 = .ok (.iload_n 1, 1) := by decide +kernel
theorem dX5_key_34 : decode cX5_key 34 = .ok (.iaload, 1) := by decide +kernel
theorem dX5_key_35 : decode cX5_key 35 = .ok (.aaload, 1) := by decide +kernel
theorem dX5_key_36 : decode cX5_key 36 = .ok (.aload_n 0, 1) := by decide +kernel
theorem dX5_key_37 : decode cX5_key 37 = .ok (.iload_n 1, 1) := by decide +kernel
theorem dX5_key_38 : decode cX5_key 38 = .ok (.invokevirtual 106, 3) := by decide +kernel
theorem dX5_key_41 : decode cX5_key 41 = .ok (.iload_n 2, 1) := by decide +kernel
theorem dX5_key_42 : decode cX5_key 42 = .ok (.iadd, 1) := by decide +kernel
theorem dX5_key_43 : decode cX5_key 43 = .ok (.iaload, 1) := by decide +kernel
theorem dX5_key_44 : decode cX5_key 44 = .ok (.ireturn, 1) := by decide +kernel
theorem dX5_key_45 : decode cX5_key 45 = .ok (.iload_n 3, 1) := by decide +kernel
theorem dX5_key_46 : decode cX5_key 46 = .ok (.bipush 99, 2) := by decide +kernel
theorem dX5_key_48 : decode cX5_key 48 = .ok (.if_icmp .eq 9, 3) := by decide +kernel
theorem dX5_key_51 : decode cX5_key 51 = .ok (.iload_n 3, 1) := by decide +kernel
theorem dX5_key_52 : decode cX5_key 52 = .ok (.bipush 97, 2) := by decide +kernel
theorem dX5_key_54 : decode cX5_key 54 = .ok (.if_icmp .ne 12, 3) := by decide +kernel
theorem dX5_key_57 : decode cX5_key 57 = .ok (.aload_n 0, 1) := by decide +kernel
theorem dX5_key_58 : decode cX5_key 58 = .ok (.getfield 59, 3) := by decide +kernel
theorem dX5_key_61 : decode cX5_key 61 = .ok (.iload_n 1, 1) := by decide +kernel
theorem dX5_key_62 : decode cX5_key 62 = .ok (.iaload, 1) := by decide +kernel
theorem dX5_key_63 : decode cX5_key 63 = .ok (.goto 16, 3) := by decide +kernel
theorem dX5_key_66 : decode cX5_key 66 = .ok (.aload_n 0, 1) := by decide +kernel
theorem dX5_key_67 : decode cX5_key 67 = .ok (.getfield 24, 3) := by decide +kernel
theorem dX5_key_70 : decode cX5_key 70 = .ok (.aload_n 0, 1) := by decide +kernel
theorem dX5_key_71 : decode cX5_key 71 = .ok (.getfield 53, 3) := by decide +kernel
theorem dX5_key_74 : decode cX5_key 74 = .ok (.iload_n 1, 1) := by decide +kernel
theorem dX5_key_75 : decode cX5_key 75 = .ok (.iaload, 1) := by decide +kernel
theorem dX5_key_76 : decode cX5_key 76 = .ok (.aaload, 1) := by decide +kernel
theorem dX5_key_77 : decode cX5_key 77 = .ok (.iload_n 2, 1) := by decide +kernel
theorem dX5_key_78 : decode cX5_key 78 = .ok (.iaload, 1) := by decide +kernel
theorem dX5_key_79 : decode cX5_key 79 = .ok (.ireturn, 1) := by decide +kernel
theorem dX5_mark_0 : decode cX5_mark 0 = .ok (.aload_n 0, 1) := by decide +kernel
theorem dX5_mark_1 : decode cX5_mark 1 = .ok (.getfield 49, 3) := by decide +kernel
theorem dX5_mark_4 : decode cX5_mark 4 = .ok (.iload_n 1, 1) := by decide +kernel
theorem dX5_mark_5 : decode cX5_mark 5 = .ok (.caload, 1) := by decide +kernel
theorem dX5_mark_6 : decode cX5_mark 6 = .ok (.istore_n 3, 1) := by decide +kernel
theorem dX5_mark_7 : decode cX5_mark 7 = .ok (.iload_n 3, 1) := by decide +kernel
theorem dX5_mark_8 : decode cX5_mark 8 = .ok (.bipush 108, 2) := by decide +kernel
theorem dX5_mark_10 : decode cX5_mark 10 = .ok (.if_icmp .eq 15, 3) := by decide +kernel
theorem dX5_mark_13 : decode cX5_mark 13 = .ok (.iload_n 3, 1) := by decide +kernel
theorem dX5_mark_14 : decode cX5_mark 14 = .ok (.bipush 112, 2) := by decide +kernel
theorem dX5_mark_16 : decode cX5_mark 16 = .ok (.if_icmp .eq 9, 3) := by decide +kernel
theorem dX5_mark_19 : decode cX5_mark 19 = .ok (.iload_n 3, 1) := by decide +kernel
theorem dX5_mark_20 : decode cX5_mark 20 = .ok (.bipush 102, 2) := by decide +kernel
theorem dX5_mark_22 : decode cX5_mark 22 = .ok (.if_icmp .ne 23, 3) := by decide +kernel
theorem dX5_mark_25 : decode cX5_mark 25 = .ok (.aload_n 0, 1) := by decide +kernel
theorem dX5_mark_26 : decode cX5_mark 26 = .ok (.getfield 14, 3) := by decide +kernel
theorem dX5_mark_29 : decode cX5_mark 29 = .ok (.aload_n 0, 1) := by decide +kernel
theorem dX5_mark_30 : decode cX5_mark 30 = .ok (.getfield 53, 3) := by decide +kernel
theorem dX5_mark_33 : decode cX5_mark 33 = .ok (.iload_n 1, 1) := by decide +kernel
theorem dX5_mark_34 : decode cX5_mark 34 = .ok (.iaload, 1) := by decide +kernel
theorem dX5_mark_35 : decode cX5_mark 35 = .ok (.aaload, 1) := by decide +kernel
theorem dX5_mark_36 : decode cX5_mark 36 = .ok (.aload_n 0, 1) := by decide +kernel
theorem dX5_mark_37 : decode cX5_mark 37 = .ok (.iload_n 1, 1) := by decide +kernel
theorem dX5_mark_38 : decode cX5_mark 38 = .ok (.invokevirtual 106, 3) := by decide +kernel
theorem dX5_mark_41 : decode cX5_mark 41 = .ok (.iload_n 2, 1) := by decide +kernel
theorem dX5_mark_42 : decode cX5_mark 42 = .ok (.iadd, 1) := by decide +kernel
theorem dX5_mark_43 : decode cX5_mark 43 = .ok (.iaload, 1) := by decide +kernel
theorem dX5_mark_44 : decode cX5_mark 44 = .ok (.ireturn, 1) := by decide +kernel
theorem dX5_mark_45 : decode cX5_mark 45 = .ok (.iload_n 3, 1) := by decide +kernel
theorem dX5_mark_46 : decode cX5_mark 46 = .ok (.bipush 99, 2) := by decide +kernel
theorem dX5_mark_48 : decode cX5_mark 48 = .ok (.if_icmp .eq 9, 3) := by decide +kernel
theorem dX5_mark_51 : decode cX5_mark 51 = .ok (.iload_n 3, 1) := by decide +kernel
theorem dX5_mark_52 : decode cX5_mark 52 = .ok (.bipush 97, 2) := by decide +kernel
theorem dX5_mark_54 : decode cX5_mark 54 = .ok (.if_icmp .ne 12, 3) := by decide +kernel
theorem dX5_mark_57 : decode cX5_mark 57 = .ok (.aload_n 0, 1) := by decide +kernel
theorem dX5_mark_58 : decode cX5_mark 58 = .ok (.getfield 62, 3) := by decide +kernel
theorem dX5_mark_61 : decode cX5_mark 61 = .ok (.iload_n 1, 1) := by decide +kernel
theorem dX5_mark_62 : decode cX5_mark 62 = .ok (.iaload, 1) := by decide +kernel
theorem dX5_mark_63 : decode cX5_mark 63 = .ok (.goto 16, 3) := by decide +kernel
theorem dX5_mark_66 : decode cX5_mark 66 = .ok (.aload_n 0, 1) := by decide +kernel
theorem dX5_mark_67 : decode cX5_mark 67 = .ok (.getfield 27, 3) := by decide +kernel
theorem dX5_mark_70 : decode cX5_mark 70 = .ok (.aload_n 0, 1) := by decide +kernel
theorem dX5_mark_71 : decode cX5_mark 71 = .ok (.getfield 53, 3) := by decide +kernel
theorem dX5_mark_74 : decode cX5_mark 74 = .ok (.iload_n 1, 1) := by decide +kernel
theorem dX5_mark_75 : decode cX5_mark 75 = .ok (.iaload, 1) := by decide +kernel
theorem dX5_mark_76 : decode cX5_mark 76 = .ok (.aaload, 1) := by decide +kernel
theorem dX5_mark_77 : decode cX5_mark 77 = .ok (.iload_n 2, 1) := by decide +kernel
theorem dX5_mark_78 : decode cX5_mark 78 = .ok (.iaload, 1) := by decide +kernel
theorem dX5_mark_79 : decode cX5_mark 79 = .ok (.ireturn, 1) := by decide +kernel
theorem dX5_hashAt_0 : decode cX5_hashAt 0 = .ok (.bipush 31, 2) := by decide +kernel
theorem dX5_hashAt_2 : decode cX5_hashAt 2 = .ok (.aload_n 0, 1) := by decide +kernel
theorem dX5_hashAt_3 : decode cX5_hashAt 3 = .ok (.iload_n 1, 1) := by decide +kernel
theorem dX5_hashAt_4 : decode cX5_hashAt 4 = .ok (.iload_n 2, 1) := by decide +kernel
theorem dX5_hashAt_5 : decode cX5_hashAt 5 = .ok (.invokevirtual 109, 3) := by decide +kernel
theorem dX5_hashAt_8 : decode cX5_hashAt 8 = .ok (.imul, 1) := by decide +kernel
theorem dX5_hashAt_9 : decode cX5_hashAt 9 = .ok (.aload_n 0, 1) := by decide +kernel
theorem dX5_hashAt_10 : decode cX5_hashAt 10 = .ok (.iload_n 1, 1) := by decide +kernel
theorem dX5_hashAt_11 : decode cX5_hashAt 11 = .ok (.iload_n 2, 1) := by decide +kernel
theorem dX5_hashAt_12 : decode cX5_hashAt 12 = .ok (.invokevirtual 113, 3) := by decide +kernel
theorem dX5_hashAt_15 : decode cX5_hashAt 15 = .ok (.iadd, 1) := by decide +kernel
theorem dX5_hashAt_16 : decode cX5_hashAt 16 = .ok (.ireturn, 1) := by decide +kernel
theorem dX5_isAlike_0 : decode cX5_isAlike 0 = .ok (.aload_n 0, 1) := by decide +kernel
theorem dX5_isAlike_1 : decode cX5_isAlike 1 = .ok (.iload_n 1, 1) := by decide +kernel
theorem dX5_isAlike_2 : decode cX5_isAlike 2 = .ok (.iload_n 2, 1) := by decide +kernel
theorem dX5_isAlike_3 : decode cX5_isAlike 3 = .ok (.invokevirtual 109, 3) := by decide +kernel
theorem dX5_isAlike_6 : decode cX5_isAlike 6 = .ok (.iload_n 3, 1) := by decide +kernel
theorem dX5_isAlike_7 : decode cX5_isAlike 7 = .ok (.if_icmp .ne 18, 3) := by decide +kernel
theorem dX5_isAlike_10 : decode cX5_isAlike 10 = .ok (.aload_n 0, 1) := by decide +kernel
theorem dX5_isAlike_11 : decode cX5_isAlike 11 = .ok (.iload_n 1, 1) := by decide +kernel
theorem dX5_isAlike_12 : decode cX5_isAlike 12 = .ok (.iload_n 2, 1) := by decide +kernel
theorem dX5_isAlike_13 : decode cX5_isAlike 13 = .ok (.invokevirtual 113, 3) := by decide +kernel
theorem dX5_isAlike_16 : decode cX5_isAlike 16 = .ok (.iload 4, 2) := by decide +kernel
theorem dX5_isAlike_18 : decode cX5_isAlike 18 = .ok (.if_icmp .ne 7, 3) := by decide +kernel
theorem dX5_isAlike_21 : decode cX5_isAlike 21 = .ok (.iconst 1, 1) := by decide +kernel
theorem dX5_isAlike_22 : decode cX5_isAlike 22 = .ok (.goto 4, 3) := by decide +kernel
theorem dX5_isAlike_25 : decode cX5_isAlike 25 = .ok (.iconst 0, 1) := by decide +kernel
theorem dX5_isAlike_26 : decode cX5_isAlike 26 = .ok (.ireturn, 1) := by decide +kernel
theorem dX5_has_0 : decode cX5_has 0 = .ok (.iconst 0, 1) := by decide +kernel
theorem dX5_has_1 : decode cX5_has 1 = .ok (.istore 4, 2) := by decide +kernel
theorem dX5_has_3 : decode cX5_has 3 = .ok (.iconst 0, 1) := by decide +kernel
theorem dX5_has_4 : decode cX5_has 4 = .ok (.istore 5, 2) := by decide +kernel
theorem dX5_has_6 : decode cX5_has 6 = .ok (.iload 5, 2) := by decide +kernel
theorem dX5_has_8 : decode cX5_has 8 = .ok (.aload_n 0, 1) := by decide +kernel
theorem dX5_has_9 : decode cX5_has 9 = .ok (.iload_n 1, 1) := by decide +kernel
theorem dX5_has_10 : decode cX5_has 10 = .ok (.invokevirtual 116, 3) := by decide +kernel
theorem dX5_has_13 : decode cX5_has 13 = .ok (.if_icmp .ge 33, 3) := by decide +kernel
theorem dX5_has_16 : decode cX5_has 16 = .ok (.iload 4, 2) := by decide +kernel
theorem dX5_has_18 : decode cX5_has 18 = .ok (.ifCond .ne 15, 3) := by decide +kernel
theorem dX5_has_21 : decode cX5_has 21 = .ok (.aload_n 0, 1) := by decide +kernel
theorem dX5_has_22 : decode cX5_has 22 = .ok (.iload_n 1, 1) := by decide +kernel
theorem dX5_has_23 : decode cX5_has 23 = .ok (.iload 5, 2) := by decide +kernel
theorem dX5_has_25 : decode cX5_has 25 = .ok (.iload_n 2, 1) := by decide +kernel
theorem dX5_has_26 : decode cX5_has 26 = .ok (.iload_n 3, 1) := by decide +kernel
theorem dX5_has_27 : decode cX5_has 27 = .ok (.invokevirtual 119, 3) := by decide +kernel
theorem dX5_has_30 : decode cX5_has 30 = .ok (.ifCond .eq 7, 3) := by decide +kernel
theorem dX5_has_33 : decode cX5_has 33 = .ok (.iconst 1, 1) := by decide +kernel
theorem dX5_has_34 : decode cX5_has 34 = .ok (.goto 4, 3) := by decide +kernel
theorem dX5_has_37 : decode cX5_has 37 = .ok (.iconst 0, 1) := by decide +kernel
theorem dX5_has_38 : decode cX5_has 38 = .ok (.istore 4, 2) := by decide +kernel
theorem dX5_has_40 : decode cX5_has 40 = .ok (.iinc 5 1, 3) := by decide +kernel
theorem dX5_has_43 : decode cX5_has 43 = .ok (.goto (-37), 3) := by decide +kernel
theorem dX5_has_46 : decode cX5_has 46 = .ok (.iload 4, 2) := by decide +kernel
theorem dX5_has_48 : decode cX5_has 48 = .ok (.ireturn, 1) := by decide +kernel
theorem dX5_holds_0 : decode cX5_holds 0 = .ok (.aload_n 0, 1) := by decide +kernel
theorem dX5_holds_1 : decode cX5_holds 1 = .ok (.getfield 49, 3) := by decide +kernel
theorem dX5_holds_4 : decode cX5_holds 4 = .ok (.iload_n 1, 1) := by decide +kernel
theorem dX5_holds_5 : decode cX5_holds 5 = .ok (.iload_n 2, 1) := by decide +kernel
theorem dX5_holds_6 : decode cX5_holds 6 = .ok (.castore, 1) := by decide +kernel
theorem dX5_holds_7 : decode cX5_holds 7 = .ok (.aload_n 0, 1) := by decide +kernel
theorem dX5_holds_8 : decode cX5_holds 8 = .ok (.getfield 53, 3) := by decide +kernel
theorem dX5_holds_11 : decode cX5_holds 11 = .ok (.iload_n 1, 1) := by decide +kernel
theorem dX5_holds_12 : decode cX5_holds 12 = .ok (.iload_n 3, 1) := by decide +kernel
theorem dX5_holds_13 : decode cX5_holds 13 = .ok (.iastore, 1) := by decide +kernel
theorem dX5_holds_14 : decode cX5_holds 14 = .ok (.aload_n 0, 1) := by decide +kernel
theorem dX5_holds_15 : decode cX5_holds 15 = .ok (.getfield 56, 3) := by decide +kernel
theorem dX5_holds_18 : decode cX5_holds 18 = .ok (.iload_n 1, 1) := by decide +kernel
theorem dX5_holds_19 : decode cX5_holds 19 = .ok (.iload 4, 2) := by decide +kernel
theorem dX5_holds_21 : decode cX5_holds 21 = .ok (.iastore, 1) := by decide +kernel
theorem dX5_holds_22 : decode cX5_holds 22 = .ok (.aload_n 0, 1) := by decide +kernel
theorem dX5_holds_23 : decode cX5_holds 23 = .ok (.getfield 65, 3) := by decide +kernel
theorem dX5_holds_26 : decode cX5_holds 26 = .ok (.iload_n 1, 1) := by decide +kernel
theorem dX5_holds_27 : decode cX5_holds 27 = .ok (.iconst 0, 1) := by decide +kernel
theorem dX5_holds_28 : decode cX5_holds 28 = .ok (.bastore, 1) := by decide +kernel
theorem dX5_holds_29 : decode cX5_holds 29 = .ok (.return_, 1) := by decide +kernel
theorem dX5_longer_0 : decode cX5_longer 0 = .ok (.iconst 2, 1) := by decide +kernel
theorem dX5_longer_1 : decode cX5_longer 1 = .ok (.aload_n 0, 1) := by decide +kernel
theorem dX5_longer_2 : decode cX5_longer 2 = .ok (.getfield 123, 3) := by decide +kernel
theorem dX5_longer_5 : decode cX5_longer 5 = .ok (.imul, 1) := by decide +kernel
theorem dX5_longer_6 : decode cX5_longer 6 = .ok (.newarray .int, 2) := by decide +kernel
theorem dX5_longer_8 : decode cX5_longer 8 = .ok (.astore_n 2, 1) := by decide +kernel
theorem dX5_longer_9 : decode cX5_longer 9 = .ok (.iconst 0, 1) := by decide +kernel
theorem dX5_longer_10 : decode cX5_longer 10 = .ok (.istore_n 3, 1) := by decide +kernel
theorem dX5_longer_11 : decode cX5_longer 11 = .ok (.iload_n 3, 1) := by decide +kernel
theorem dX5_longer_12 : decode cX5_longer 12 = .ok (.aload_n 0, 1) := by decide +kernel
theorem dX5_longer_13 : decode cX5_longer 13 = .ok (.getfield 123, 3) := by decide +kernel
theorem dX5_longer_16 : decode cX5_longer 16 = .ok (.if_icmp .ge 15, 3) := by decide +kernel
theorem dX5_longer_19 : decode cX5_longer 19 = .ok (.aload_n 2, 1) := by decide +kernel
theorem dX5_longer_20 : decode cX5_longer 20 = .ok (.iload_n 3, 1) := by decide +kernel
theorem dX5_longer_21 : decode cX5_longer 21 = .ok (.aload_n 1, 1) := by decide +kernel
theorem dX5_longer_22 : decode cX5_longer 22 = .ok (.iload_n 3, 1) := by decide +kernel
theorem dX5_longer_23 : decode cX5_longer 23 = .ok (.iaload, 1) := by decide +kernel
theorem dX5_longer_24 : decode cX5_longer 24 = .ok (.iastore, 1) := by decide +kernel
theorem dX5_longer_25 : decode cX5_longer 25 = .ok (.iinc 3 1, 3) := by decide +kernel
theorem dX5_longer_28 : decode cX5_longer 28 = .ok (.goto (-17), 3) := by decide +kernel
theorem dX5_longer_31 : decode cX5_longer 31 = .ok (.aload_n 2, 1) := by decide +kernel
theorem dX5_longer_32 : decode cX5_longer 32 = .ok (.areturn, 1) := by decide +kernel
theorem dX5_grows_0 : decode cX5_grows 0 = .ok (.aload_n 0, 1) := by decide +kernel
theorem dX5_grows_1 : decode cX5_grows 1 = .ok (.aload_n 0, 1) := by decide +kernel
theorem dX5_grows_2 : decode cX5_grows 2 = .ok (.aload_n 0, 1) := by decide +kernel
theorem dX5_grows_3 : decode cX5_grows 3 = .ok (.getfield 33, 3) := by decide +kernel
theorem dX5_grows_6 : decode cX5_grows 6 = .ok (.invokevirtual 126, 3) := by decide +kernel
theorem dX5_grows_9 : decode cX5_grows 9 = .ok (.putfield 33, 3) := by decide +kernel
theorem dX5_grows_12 : decode cX5_grows 12 = .ok (.aload_n 0, 1) := by decide +kernel
theorem dX5_grows_13 : decode cX5_grows 13 = .ok (.aload_n 0, 1) := by decide +kernel
theorem dX5_grows_14 : decode cX5_grows 14 = .ok (.aload_n 0, 1) := by decide +kernel
theorem dX5_grows_15 : decode cX5_grows 15 = .ok (.getfield 36, 3) := by decide +kernel
theorem dX5_grows_18 : decode cX5_grows 18 = .ok (.invokevirtual 126, 3) := by decide +kernel
theorem dX5_grows_21 : decode cX5_grows 21 = .ok (.putfield 36, 3) := by decide +kernel
theorem dX5_grows_24 : decode cX5_grows 24 = .ok (.aload_n 0, 1) := by decide +kernel
theorem dX5_grows_25 : decode cX5_grows 25 = .ok (.aload_n 0, 1) := by decide +kernel
theorem dX5_grows_26 : decode cX5_grows 26 = .ok (.aload_n 0, 1) := by decide +kernel
theorem dX5_grows_27 : decode cX5_grows 27 = .ok (.getfield 39, 3) := by decide +kernel
theorem dX5_grows_30 : decode cX5_grows 30 = .ok (.invokevirtual 126, 3) := by decide +kernel
theorem dX5_grows_33 : decode cX5_grows 33 = .ok (.putfield 39, 3) := by decide +kernel
theorem dX5_grows_36 : decode cX5_grows 36 = .ok (.aload_n 0, 1) := by decide +kernel
theorem dX5_grows_37 : decode cX5_grows 37 = .ok (.aload_n 0, 1) := by decide +kernel
theorem dX5_grows_38 : decode cX5_grows 38 = .ok (.aload_n 0, 1) := by decide +kernel
theorem dX5_grows_39 : decode cX5_grows 39 = .ok (.getfield 42, 3) := by decide +kernel
theorem dX5_grows_42 : decode cX5_grows 42 = .ok (.invokevirtual 126, 3) := by decide +kernel
theorem dX5_grows_45 : decode cX5_grows 45 = .ok (.putfield 42, 3) := by decide +kernel
theorem dX5_grows_48 : decode cX5_grows 48 = .ok (.aload_n 0, 1) := by decide +kernel
theorem dX5_grows_49 : decode cX5_grows 49 = .ok (.getfield 45, 3) := by decide +kernel
theorem dX5_grows_52 : decode cX5_grows 52 = .ok (.astore_n 1, 1) := by decide +kernel
theorem dX5_grows_53 : decode cX5_grows 53 = .ok (.aload_n 0, 1) := by decide +kernel
theorem dX5_grows_54 : decode cX5_grows 54 = .ok (.iconst 2, 1) := by decide +kernel
theorem dX5_grows_55 : decode cX5_grows 55 = .ok (.aload_n 0, 1) := by decide +kernel
theorem dX5_grows_56 : decode cX5_grows 56 = .ok (.getfield 123, 3) := by decide +kernel
theorem dX5_grows_59 : decode cX5_grows 59 = .ok (.imul, 1) := by decide +kernel
theorem dX5_grows_60 : decode cX5_grows 60 = .ok (.newarray .boolean, 2) := by decide +kernel
theorem dX5_grows_62 : decode cX5_grows 62 = .ok (.putfield 45, 3) := by decide +kernel
theorem dX5_grows_65 : decode cX5_grows 65 = .ok (.iconst 0, 1) := by decide +kernel
theorem dX5_grows_66 : decode cX5_grows 66 = .ok (.istore_n 2, 1) := by decide +kernel
theorem dX5_grows_67 : decode cX5_grows 67 = .ok (.iload_n 2, 1) := by decide +kernel
theorem dX5_grows_68 : decode cX5_grows 68 = .ok (.aload_n 0, 1) := by decide +kernel
theorem dX5_grows_69 : decode cX5_grows 69 = .ok (.getfield 123, 3) := by decide +kernel
theorem dX5_grows_72 : decode cX5_grows 72 = .ok (.if_icmp .ge 18, 3) := by decide +kernel
theorem dX5_grows_75 : decode cX5_grows 75 = .ok (.aload_n 0, 1) := by decide +kernel
theorem dX5_grows_76 : decode cX5_grows 76 = .ok (.getfield 45, 3) := by decide +kernel
theorem dX5_grows_79 : decode cX5_grows 79 = .ok (.iload_n 2, 1) := by decide +kernel
theorem dX5_grows_80 : decode cX5_grows 80 = .ok (.aload_n 1, 1) := by decide +kernel
theorem dX5_grows_81 : decode cX5_grows 81 = .ok (.iload_n 2, 1) := by decide +kernel
theorem dX5_grows_82 : decode cX5_grows 82 = .ok (.baload, 1) := by decide +kernel
theorem dX5_grows_83 : decode cX5_grows 83 = .ok (.bastore, 1) := by decide +kernel
theorem dX5_grows_84 : decode cX5_grows 84 = .ok (.iinc 2 1, 3) := by decide +kernel
theorem dX5_grows_87 : decode cX5_grows 87 = .ok (.goto (-20), 3) := by decide +kernel
theorem dX5_grows_90 : decode cX5_grows 90 = .ok (.return_, 1) := by decide +kernel
theorem dX5_part_0 : decode cX5_part 0 = .ok (.iload_n 1, 1) := by decide +kernel
theorem dX5_part_1 : decode cX5_part 1 = .ok (.invokestatic 130, 3) := by decide +kernel
theorem dX5_part_4 : decode cX5_part 4 = .ok (.ifCond .eq 14, 3) := by decide +kernel
theorem dX5_part_7 : decode cX5_part 7 = .ok (.iload_n 2, 1) := by decide +kernel
theorem dX5_part_8 : decode cX5_part 8 = .ok (.invokestatic 82, 3) := by decide +kernel
theorem dX5_part_11 : decode cX5_part 11 = .ok (.ifCond .eq 7, 3) := by decide +kernel
theorem dX5_part_14 : decode cX5_part 14 = .ok (.iconst 1, 1) := by decide +kernel
theorem dX5_part_15 : decode cX5_part 15 = .ok (.goto 4, 3) := by decide +kernel
theorem dX5_part_18 : decode cX5_part 18 = .ok (.iconst 0, 1) := by decide +kernel
theorem dX5_part_19 : decode cX5_part 19 = .ok (.istore 5, 2) := by decide +kernel
theorem dX5_part_21 : decode cX5_part 21 = .ok (.iload 5, 2) := by decide +kernel
theorem dX5_part_23 : decode cX5_part 23 = .ok (.ifCond .eq 17, 3) := by decide +kernel
theorem dX5_part_26 : decode cX5_part 26 = .ok (.aload_n 0, 1) := by decide +kernel
theorem dX5_part_27 : decode cX5_part 27 = .ok (.iload_n 2, 1) := by decide +kernel
theorem dX5_part_28 : decode cX5_part 28 = .ok (.ldc 133, 2) := by decide +kernel
theorem dX5_part_30 : decode cX5_part 30 = .ok (.invokevirtual 94, 3) := by decide +kernel
theorem dX5_part_33 : decode cX5_part 33 = .ok (.ifCond .eq 7, 3) := by decide +kernel
theorem dX5_part_36 : decode cX5_part 36 = .ok (.iconst 1, 1) := by decide +kernel
theorem dX5_part_37 : decode cX5_part 37 = .ok (.goto 4, 3) := by decide +kernel
theorem dX5_part_40 : decode cX5_part 40 = .ok (.iconst 0, 1) := by decide +kernel
theorem dX5_part_41 : decode cX5_part 41 = .ok (.istore 6, 2) := by decide +kernel
theorem dX5_part_43 : decode cX5_part 43 = .ok (.aload_n 0, 1) := by decide +kernel
theorem dX5_part_44 : decode cX5_part 44 = .ok (.iload 5, 2) := by decide +kernel
theorem dX5_part_46 : decode cX5_part 46 = .ok (.ifCond .ne 7, 3) := by decide +kernel
theorem dX5_part_49 : decode cX5_part 49 = .ok (.iconst 1, 1) := by decide +kernel
theorem dX5_part_50 : decode cX5_part 50 = .ok (.goto 4, 3) := by decide +kernel
theorem dX5_part_53 : decode cX5_part 53 = .ok (.iconst 0, 1) := by decide +kernel
theorem dX5_part_54 : decode cX5_part 54 = .ok (.iload 6, 2) := by decide +kernel
theorem dX5_part_56 : decode cX5_part 56 = .ok (.ifCond .ne 7, 3) := by decide +kernel
theorem dX5_part_59 : decode cX5_part 59 = .ok (.iconst 1, 1) := by decide +kernel
theorem dX5_part_60 : decode cX5_part 60 = .ok (.goto 4, 3) := by decide +kernel
theorem dX5_part_63 : decode cX5_part 63 = .ok (.iconst 0, 1) := by decide +kernel
theorem dX5_part_64 : decode cX5_part 64 = .ok (.iload 6, 2) := by decide +kernel
theorem dX5_part_66 : decode cX5_part 66 = .ok (.ifCond .eq 27, 3) := by decide +kernel
theorem dX5_part_69 : decode cX5_part 69 = .ok (.iload_n 3, 1) := by decide +kernel
theorem dX5_part_70 : decode cX5_part 70 = .ok (.ifCond .lt 19, 3) := by decide +kernel
theorem dX5_part_73 : decode cX5_part 73 = .ok (.iload_n 3, 1) := by decide +kernel
theorem dX5_part_74 : decode cX5_part 74 = .ok (.iload 4, 2) := by decide +kernel
theorem dX5_part_76 : decode cX5_part 76 = .ok (.if_icmp .gt 13, 3) := by decide +kernel
theorem dX5_part_79 : decode cX5_part 79 = .ok (.iload 4, 2) := by decide +kernel
theorem dX5_part_81 : decode cX5_part 81 = .ok (.aload_n 0, 1) := by decide +kernel
theorem dX5_part_82 : decode cX5_part 82 = .ok (.iload_n 2, 1) := by decide +kernel
theorem dX5_part_83 : decode cX5_part 83 = .ok (.invokevirtual 116, 3) := by decide +kernel
theorem dX5_part_86 : decode cX5_part 86 = .ok (.if_icmp .le 7, 3) := by decide +kernel
theorem dX5_part_89 : decode cX5_part 89 = .ok (.iconst 1, 1) := by decide +kernel
theorem dX5_part_90 : decode cX5_part 90 = .ok (.goto 4, 3) := by decide +kernel
theorem dX5_part_93 : decode cX5_part 93 = .ok (.iconst 0, 1) := by decide +kernel
theorem dX5_part_94 : decode cX5_part 94 = .ok (.iconst 0, 1) := by decide +kernel
theorem dX5_part_95 : decode cX5_part 95 = .ok (.iconst 0, 1) := by decide +kernel
theorem dX5_part_96 : decode cX5_part 96 = .ok (.invokevirtual 135, 3) := by decide +kernel
theorem dX5_part_99 : decode cX5_part 99 = .ok (.ifCond .eq 5, 3) := by decide +kernel
theorem dX5_part_102 : decode cX5_part 102 = .ok (.iconst 0, 1) := by decide +kernel
theorem dX5_part_103 : decode cX5_part 103 = .ok (.ireturn, 1) := by decide +kernel
theorem dX5_part_104 : decode cX5_part 104 = .ok (.aload_n 0, 1) := by decide +kernel
theorem dX5_part_105 : decode cX5_part 105 = .ok (.getfield 123, 3) := by decide +kernel
theorem dX5_part_108 : decode cX5_part 108 = .ok (.aload_n 0, 1) := by decide +kernel
theorem dX5_part_109 : decode cX5_part 109 = .ok (.getfield 33, 3) := by decide +kernel
theorem dX5_part_112 : decode cX5_part 112 = .ok (.arraylength, 1) := by decide +kernel
theorem dX5_part_113 : decode cX5_part 113 = .ok (.if_icmp .ne 7, 3) := by decide +kernel
theorem dX5_part_116 : decode cX5_part 116 = .ok (.aload_n 0, 1) := by decide +kernel
theorem dX5_part_117 : decode cX5_part 117 = .ok (.invokevirtual 139, 3) := by decide +kernel
theorem dX5_part_120 : decode cX5_part 120 = .ok (.aload_n 0, 1) := by decide +kernel
theorem dX5_part_121 : decode cX5_part 121 = .ok (.getfield 33, 3) := by decide +kernel
theorem dX5_part_124 : decode cX5_part 124 = .ok (.aload_n 0, 1) := by decide +kernel
theorem dX5_part_125 : decode cX5_part 125 = .ok (.getfield 123, 3) := by decide +kernel
theorem dX5_part_128 : decode cX5_part 128 = .ok (.aload_n 0, 1) := by decide +kernel
theorem dX5_part_129 : decode cX5_part 129 = .ok (.getfield 53, 3) := by decide +kernel
theorem dX5_part_132 : decode cX5_part 132 = .ok (.iload_n 2, 1) := by decide +kernel
theorem dX5_part_133 : decode cX5_part 133 = .ok (.iaload, 1) := by decide +kernel
theorem dX5_part_134 : decode cX5_part 134 = .ok (.iastore, 1) := by decide +kernel
theorem dX5_part_135 : decode cX5_part 135 = .ok (.aload_n 0, 1) := by decide +kernel
theorem dX5_part_136 : decode cX5_part 136 = .ok (.getfield 36, 3) := by decide +kernel
theorem dX5_part_139 : decode cX5_part 139 = .ok (.aload_n 0, 1) := by decide +kernel
theorem dX5_part_140 : decode cX5_part 140 = .ok (.getfield 123, 3) := by decide +kernel
theorem dX5_part_143 : decode cX5_part 143 = .ok (.aload_n 0, 1) := by decide +kernel
theorem dX5_part_144 : decode cX5_part 144 = .ok (.getfield 56, 3) := by decide +kernel
theorem dX5_part_147 : decode cX5_part 147 = .ok (.iload_n 2, 1) := by decide +kernel
theorem dX5_part_148 : decode cX5_part 148 = .ok (.iaload, 1) := by decide +kernel
theorem dX5_part_149 : decode cX5_part 149 = .ok (.iastore, 1) := by decide +kernel
theorem dX5_part_150 : decode cX5_part 150 = .ok (.aload_n 0, 1) := by decide +kernel
theorem dX5_part_151 : decode cX5_part 151 = .ok (.getfield 39, 3) := by decide +kernel
theorem dX5_part_154 : decode cX5_part 154 = .ok (.aload_n 0, 1) := by decide +kernel
theorem dX5_part_155 : decode cX5_part 155 = .ok (.getfield 123, 3) := by decide +kernel
theorem dX5_part_158 : decode cX5_part 158 = .ok (.aload_n 0, 1) := by decide +kernel
theorem dX5_part_159 : decode cX5_part 159 = .ok (.iload_n 2, 1) := by decide +kernel
theorem dX5_part_160 : decode cX5_part 160 = .ok (.invokevirtual 106, 3) := by decide +kernel
theorem dX5_part_163 : decode cX5_part 163 = .ok (.iload_n 3, 1) := by decide +kernel
theorem dX5_part_164 : decode cX5_part 164 = .ok (.iadd, 1) := by decide +kernel
theorem dX5_part_165 : decode cX5_part 165 = .ok (.iastore, 1) := by decide +kernel
theorem dX5_part_166 : decode cX5_part 166 = .ok (.aload_n 0, 1) := by decide +kernel
theorem dX5_part_167 : decode cX5_part 167 = .ok (.getfield 42, 3) := by decide +kernel
theorem dX5_part_170 : decode cX5_part 170 = .ok (.aload_n 0, 1) := by decide +kernel
theorem dX5_part_171 : decode cX5_part 171 = .ok (.getfield 123, 3) := by decide +kernel
theorem dX5_part_174 : decode cX5_part 174 = .ok (.iload 4, 2) := by decide +kernel
theorem dX5_part_176 : decode cX5_part 176 = .ok (.iload_n 3, 1) := by decide +kernel
theorem dX5_part_177 : decode cX5_part 177 = .ok (.isub, 1) := by decide +kernel
theorem dX5_part_178 : decode cX5_part 178 = .ok (.iastore, 1) := by decide +kernel
theorem dX5_part_179 : decode cX5_part 179 = .ok (.aload_n 0, 1) := by decide +kernel
theorem dX5_part_180 : decode cX5_part 180 = .ok (.dup, 1) := by decide +kernel
theorem dX5_part_181 : decode cX5_part 181 = .ok (.getfield 123, 3) := by decide +kernel
theorem dX5_part_184 : decode cX5_part 184 = .ok (.iconst 1, 1) := by decide +kernel
theorem dX5_part_185 : decode cX5_part 185 = .ok (.iadd, 1) := by decide +kernel
theorem dX5_part_186 : decode cX5_part 186 = .ok (.putfield 123, 3) := by decide +kernel
theorem dX5_part_189 : decode cX5_part 189 = .ok (.aload_n 0, 1) := by decide +kernel
theorem dX5_part_190 : decode cX5_part 190 = .ok (.iload_n 1, 1) := by decide +kernel
theorem dX5_part_191 : decode cX5_part 191 = .ok (.bipush 112, 2) := by decide +kernel
theorem dX5_part_193 : decode cX5_part 193 = .ok (.aload_n 0, 1) := by decide +kernel
theorem dX5_part_194 : decode cX5_part 194 = .ok (.getfield 53, 3) := by decide +kernel
theorem dX5_part_197 : decode cX5_part 197 = .ok (.iload_n 2, 1) := by decide +kernel
theorem dX5_part_198 : decode cX5_part 198 = .ok (.iaload, 1) := by decide +kernel
theorem dX5_part_199 : decode cX5_part 199 = .ok (.aload_n 0, 1) := by decide +kernel
theorem dX5_part_200 : decode cX5_part 200 = .ok (.getfield 123, 3) := by decide +kernel
theorem dX5_part_203 : decode cX5_part 203 = .ok (.iconst 1, 1) := by decide +kernel
theorem dX5_part_204 : decode cX5_part 204 = .ok (.isub, 1) := by decide +kernel
theorem dX5_part_205 : decode cX5_part 205 = .ok (.invokevirtual 142, 3) := by decide +kernel
theorem dX5_part_208 : decode cX5_part 208 = .ok (.iload 4, 2) := by decide +kernel
theorem dX5_part_210 : decode cX5_part 210 = .ok (.iload_n 3, 1) := by decide +kernel
theorem dX5_part_211 : decode cX5_part 211 = .ok (.isub, 1) := by decide +kernel
theorem dX5_part_212 : decode cX5_part 212 = .ok (.ireturn, 1) := by decide +kernel
theorem dX5_fixed_0 : decode cX5_fixed 0 = .ok (.iload_n 1, 1) := by decide +kernel
theorem dX5_fixed_1 : decode cX5_fixed 1 = .ok (.invokestatic 130, 3) := by decide +kernel
theorem dX5_fixed_4 : decode cX5_fixed 4 = .ok (.ifCond .eq 14, 3) := by decide +kernel
theorem dX5_fixed_7 : decode cX5_fixed 7 = .ok (.iload_n 2, 1) := by decide +kernel
theorem dX5_fixed_8 : decode cX5_fixed 8 = .ok (.invokestatic 82, 3) := by decide +kernel
theorem dX5_fixed_11 : decode cX5_fixed 11 = .ok (.ifCond .eq 7, 3) := by decide +kernel
theorem dX5_fixed_14 : decode cX5_fixed 14 = .ok (.iconst 1, 1) := by decide +kernel
theorem dX5_fixed_15 : decode cX5_fixed 15 = .ok (.goto 4, 3) := by decide +kernel
theorem dX5_fixed_18 : decode cX5_fixed 18 = .ok (.iconst 0, 1) := by decide +kernel
theorem dX5_fixed_19 : decode cX5_fixed 19 = .ok (.istore_n 3, 1) := by decide +kernel
theorem dX5_fixed_20 : decode cX5_fixed 20 = .ok (.aload_n 0, 1) := by decide +kernel
theorem dX5_fixed_21 : decode cX5_fixed 21 = .ok (.iload_n 3, 1) := by decide +kernel
theorem dX5_fixed_22 : decode cX5_fixed 22 = .ok (.ifCond .ne 7, 3) := by decide +kernel
theorem dX5_fixed_25 : decode cX5_fixed 25 = .ok (.iconst 1, 1) := by decide +kernel
theorem dX5_fixed_26 : decode cX5_fixed 26 = .ok (.goto 4, 3) := by decide +kernel
theorem dX5_fixed_29 : decode cX5_fixed 29 = .ok (.iconst 0, 1) := by decide +kernel
theorem dX5_fixed_30 : decode cX5_fixed 30 = .ok (.iload_n 3, 1) := by decide +kernel
theorem dX5_fixed_31 : decode cX5_fixed 31 = .ok (.ifCond .eq 17, 3) := by decide +kernel
theorem dX5_fixed_34 : decode cX5_fixed 34 = .ok (.aload_n 0, 1) := by decide +kernel
theorem dX5_fixed_35 : decode cX5_fixed 35 = .ok (.iload_n 2, 1) := by decide +kernel
theorem dX5_fixed_36 : decode cX5_fixed 36 = .ok (.ldc 146, 2) := by decide +kernel
theorem dX5_fixed_38 : decode cX5_fixed 38 = .ok (.invokevirtual 94, 3) := by decide +kernel
theorem dX5_fixed_41 : decode cX5_fixed 41 = .ok (.ifCond .ne 7, 3) := by decide +kernel
theorem dX5_fixed_44 : decode cX5_fixed 44 = .ok (.iconst 1, 1) := by decide +kernel
theorem dX5_fixed_45 : decode cX5_fixed 45 = .ok (.goto 4, 3) := by decide +kernel
theorem dX5_fixed_48 : decode cX5_fixed 48 = .ok (.iconst 0, 1) := by decide +kernel
theorem dX5_fixed_49 : decode cX5_fixed 49 = .ok (.iconst 0, 1) := by decide +kernel
theorem dX5_fixed_50 : decode cX5_fixed 50 = .ok (.iconst 0, 1) := by decide +kernel
theorem dX5_fixed_51 : decode cX5_fixed 51 = .ok (.iconst 0, 1) := by decide +kernel
theorem dX5_fixed_52 : decode cX5_fixed 52 = .ok (.invokevirtual 135, 3) := by decide +kernel
theorem dX5_fixed_55 : decode cX5_fixed 55 = .ok (.ifCond .eq 5, 3) := by decide +kernel
theorem dX5_fixed_58 : decode cX5_fixed 58 = .ok (.iconst 0, 1) := by decide +kernel
theorem dX5_fixed_59 : decode cX5_fixed 59 = .ok (.ireturn, 1) := by decide +kernel
theorem dX5_fixed_60 : decode cX5_fixed 60 = .ok (.aload_n 0, 1) := by decide +kernel
theorem dX5_fixed_61 : decode cX5_fixed 61 = .ok (.iload_n 1, 1) := by decide +kernel
theorem dX5_fixed_62 : decode cX5_fixed 62 = .ok (.aload_n 0, 1) := by decide +kernel
theorem dX5_fixed_63 : decode cX5_fixed 63 = .ok (.getfield 49, 3) := by decide +kernel
theorem dX5_fixed_66 : decode cX5_fixed 66 = .ok (.iload_n 2, 1) := by decide +kernel
theorem dX5_fixed_67 : decode cX5_fixed 67 = .ok (.caload, 1) := by decide +kernel
theorem dX5_fixed_68 : decode cX5_fixed 68 = .ok (.bipush 109, 2) := by decide +kernel
theorem dX5_fixed_70 : decode cX5_fixed 70 = .ok (.if_icmp .ne 8, 3) := by decide +kernel
theorem dX5_fixed_73 : decode cX5_fixed 73 = .ok (.bipush 70, 2) := by decide +kernel
theorem dX5_fixed_75 : decode cX5_fixed 75 = .ok (.goto 5, 3) := by decide +kernel
theorem dX5_fixed_78 : decode cX5_fixed 78 = .ok (.bipush 102, 2) := by decide +kernel
theorem dX5_fixed_80 : decode cX5_fixed 80 = .ok (.aload_n 0, 1) := by decide +kernel
theorem dX5_fixed_81 : decode cX5_fixed 81 = .ok (.getfield 53, 3) := by decide +kernel
theorem dX5_fixed_84 : decode cX5_fixed 84 = .ok (.iload_n 2, 1) := by decide +kernel
theorem dX5_fixed_85 : decode cX5_fixed 85 = .ok (.iaload, 1) := by decide +kernel
theorem dX5_fixed_86 : decode cX5_fixed 86 = .ok (.aload_n 0, 1) := by decide +kernel
theorem dX5_fixed_87 : decode cX5_fixed 87 = .ok (.getfield 56, 3) := by decide +kernel
theorem dX5_fixed_90 : decode cX5_fixed 90 = .ok (.iload_n 2, 1) := by decide +kernel
theorem dX5_fixed_91 : decode cX5_fixed 91 = .ok (.iaload, 1) := by decide +kernel
theorem dX5_fixed_92 : decode cX5_fixed 92 = .ok (.invokevirtual 142, 3) := by decide +kernel
theorem dX5_fixed_95 : decode cX5_fixed 95 = .ok (.aload_n 0, 1) := by decide +kernel
theorem dX5_fixed_96 : decode cX5_fixed 96 = .ok (.getfield 65, 3) := by decide +kernel
theorem dX5_fixed_99 : decode cX5_fixed 99 = .ok (.iload_n 1, 1) := by decide +kernel
theorem dX5_fixed_100 : decode cX5_fixed 100 = .ok (.iconst 1, 1) := by decide +kernel
theorem dX5_fixed_101 : decode cX5_fixed 101 = .ok (.bastore, 1) := by decide +kernel
theorem dX5_fixed_102 : decode cX5_fixed 102 = .ok (.aload_n 0, 1) := by decide +kernel
theorem dX5_fixed_103 : decode cX5_fixed 103 = .ok (.iload_n 1, 1) := by decide +kernel
theorem dX5_fixed_104 : decode cX5_fixed 104 = .ok (.invokevirtual 116, 3) := by decide +kernel
theorem dX5_fixed_107 : decode cX5_fixed 107 = .ok (.ireturn, 1) := by decide +kernel
theorem dX5_copies_0 : decode cX5_copies 0 = .ok (.aload_n 0, 1) := by decide +kernel
theorem dX5_copies_1 : decode cX5_copies 1 = .ok (.iload_n 1, 1) := by decide +kernel
theorem dX5_copies_2 : decode cX5_copies 2 = .ok (.invokestatic 130, 3) := by decide +kernel
theorem dX5_copies_5 : decode cX5_copies 5 = .ok (.ifCond .ne 7, 3) := by decide +kernel
theorem dX5_copies_8 : decode cX5_copies 8 = .ok (.iconst 1, 1) := by decide +kernel
theorem dX5_copies_9 : decode cX5_copies 9 = .ok (.goto 4, 3) := by decide +kernel
theorem dX5_copies_12 : decode cX5_copies 12 = .ok (.iconst 0, 1) := by decide +kernel
theorem dX5_copies_13 : decode cX5_copies 13 = .ok (.iload_n 2, 1) := by decide +kernel
theorem dX5_copies_14 : decode cX5_copies 14 = .ok (.iconst 0, 1) := by decide +kernel
theorem dX5_copies_15 : decode cX5_copies 15 = .ok (.bipush 24, 2) := by decide +kernel
theorem dX5_copies_17 : decode cX5_copies 17 = .ok (.invokestatic 78, 3) := by decide +kernel
theorem dX5_copies_20 : decode cX5_copies 20 = .ok (.ifCond .eq 12, 3) := by decide +kernel
theorem dX5_copies_23 : decode cX5_copies 23 = .ok (.iload_n 3, 1) := by decide +kernel
theorem dX5_copies_24 : decode cX5_copies 24 = .ok (.iload 4, 2) := by decide +kernel
theorem dX5_copies_26 : decode cX5_copies 26 = .ok (.invokestatic 148, 3) := by decide +kernel
theorem dX5_copies_29 : decode cX5_copies 29 = .ok (.ifCond .ne 7, 3) := by decide +kernel
theorem dX5_copies_32 : decode cX5_copies 32 = .ok (.iconst 1, 1) := by decide +kernel
theorem dX5_copies_33 : decode cX5_copies 33 = .ok (.goto 4, 3) := by decide +kernel
theorem dX5_copies_36 : decode cX5_copies 36 = .ok (.iconst 0, 1) := by decide +kernel
theorem dX5_copies_37 : decode cX5_copies 37 = .ok (.iconst 0, 1) := by decide +kernel
theorem dX5_copies_38 : decode cX5_copies 38 = .ok (.iconst 0, 1) := by decide +kernel
theorem dX5_copies_39 : decode cX5_copies 39 = .ok (.iconst 0, 1) := by decide +kernel
theorem dX5_copies_40 : decode cX5_copies 40 = .ok (.invokevirtual 135, 3) := by decide +kernel
theorem dX5_copies_43 : decode cX5_copies 43 = .ok (.ifCond .eq 5, 3) := by decide +kernel
theorem dX5_copies_46 : decode cX5_copies 46 = .ok (.iconst 0, 1) := by decide +kernel
theorem dX5_copies_47 : decode cX5_copies 47 = .ok (.ireturn, 1) := by decide +kernel
theorem dX5_copies_48 : decode cX5_copies 48 = .ok (.aload_n 0, 1) := by decide +kernel
theorem dX5_copies_49 : decode cX5_copies 49 = .ok (.iload_n 1, 1) := by decide +kernel
theorem dX5_copies_50 : decode cX5_copies 50 = .ok (.bipush 99, 2) := by decide +kernel
theorem dX5_copies_52 : decode cX5_copies 52 = .ok (.iload_n 2, 1) := by decide +kernel
theorem dX5_copies_53 : decode cX5_copies 53 = .ok (.iconst (-1), 1) := by decide +kernel
theorem dX5_copies_54 : decode cX5_copies 54 = .ok (.invokevirtual 142, 3) := by decide +kernel
theorem dX5_copies_57 : decode cX5_copies 57 = .ok (.aload_n 0, 1) := by decide +kernel
theorem dX5_copies_58 : decode cX5_copies 58 = .ok (.getfield 59, 3) := by decide +kernel
theorem dX5_copies_61 : decode cX5_copies 61 = .ok (.iload_n 1, 1) := by decide +kernel
theorem dX5_copies_62 : decode cX5_copies 62 = .ok (.iload_n 3, 1) := by decide +kernel
theorem dX5_copies_63 : decode cX5_copies 63 = .ok (.iastore, 1) := by decide +kernel
theorem dX5_copies_64 : decode cX5_copies 64 = .ok (.aload_n 0, 1) := by decide +kernel
theorem dX5_copies_65 : decode cX5_copies 65 = .ok (.getfield 62, 3) := by decide +kernel
theorem dX5_copies_68 : decode cX5_copies 68 = .ok (.iload_n 1, 1) := by decide +kernel
theorem dX5_copies_69 : decode cX5_copies 69 = .ok (.iload 4, 2) := by decide +kernel
theorem dX5_copies_71 : decode cX5_copies 71 = .ok (.iastore, 1) := by decide +kernel
theorem dX5_copies_72 : decode cX5_copies 72 = .ok (.iload_n 2, 1) := by decide +kernel
theorem dX5_copies_73 : decode cX5_copies 73 = .ok (.ireturn, 1) := by decide +kernel
theorem dX5_alone_0 : decode cX5_alone 0 = .ok (.aload_n 0, 1) := by decide +kernel
theorem dX5_alone_1 : decode cX5_alone 1 = .ok (.iload_n 1, 1) := by decide +kernel
theorem dX5_alone_2 : decode cX5_alone 2 = .ok (.invokestatic 130, 3) := by decide +kernel
theorem dX5_alone_5 : decode cX5_alone 5 = .ok (.ifCond .ne 7, 3) := by decide +kernel
theorem dX5_alone_8 : decode cX5_alone 8 = .ok (.iconst 1, 1) := by decide +kernel
theorem dX5_alone_9 : decode cX5_alone 9 = .ok (.goto 4, 3) := by decide +kernel
theorem dX5_alone_12 : decode cX5_alone 12 = .ok (.iconst 0, 1) := by decide +kernel
theorem dX5_alone_13 : decode cX5_alone 13 = .ok (.iload_n 2, 1) := by decide +kernel
theorem dX5_alone_14 : decode cX5_alone 14 = .ok (.iload_n 3, 1) := by decide +kernel
theorem dX5_alone_15 : decode cX5_alone 15 = .ok (.invokestatic 148, 3) := by decide +kernel
theorem dX5_alone_18 : decode cX5_alone 18 = .ok (.ifCond .ne 7, 3) := by decide +kernel
theorem dX5_alone_21 : decode cX5_alone 21 = .ok (.iconst 1, 1) := by decide +kernel
theorem dX5_alone_22 : decode cX5_alone 22 = .ok (.goto 4, 3) := by decide +kernel
theorem dX5_alone_25 : decode cX5_alone 25 = .ok (.iconst 0, 1) := by decide +kernel
theorem dX5_alone_26 : decode cX5_alone 26 = .ok (.iconst 0, 1) := by decide +kernel
theorem dX5_alone_27 : decode cX5_alone 27 = .ok (.iconst 0, 1) := by decide +kernel
theorem dX5_alone_28 : decode cX5_alone 28 = .ok (.iconst 0, 1) := by decide +kernel
theorem dX5_alone_29 : decode cX5_alone 29 = .ok (.invokevirtual 135, 3) := by decide +kernel
theorem dX5_alone_32 : decode cX5_alone 32 = .ok (.ifCond .eq 5, 3) := by decide +kernel
theorem dX5_alone_35 : decode cX5_alone 35 = .ok (.iconst 0, 1) := by decide +kernel
theorem dX5_alone_36 : decode cX5_alone 36 = .ok (.ireturn, 1) := by decide +kernel
theorem dX5_alone_37 : decode cX5_alone 37 = .ok (.aload_n 0, 1) := by decide +kernel
theorem dX5_alone_38 : decode cX5_alone 38 = .ok (.iload_n 1, 1) := by decide +kernel
theorem dX5_alone_39 : decode cX5_alone 39 = .ok (.bipush 97, 2) := by decide +kernel
theorem dX5_alone_41 : decode cX5_alone 41 = .ok (.iconst 0, 1) := by decide +kernel
theorem dX5_alone_42 : decode cX5_alone 42 = .ok (.iconst (-1), 1) := by decide +kernel
theorem dX5_alone_43 : decode cX5_alone 43 = .ok (.invokevirtual 142, 3) := by decide +kernel
theorem dX5_alone_46 : decode cX5_alone 46 = .ok (.aload_n 0, 1) := by decide +kernel
theorem dX5_alone_47 : decode cX5_alone 47 = .ok (.getfield 59, 3) := by decide +kernel
theorem dX5_alone_50 : decode cX5_alone 50 = .ok (.iload_n 1, 1) := by decide +kernel
theorem dX5_alone_51 : decode cX5_alone 51 = .ok (.iload_n 2, 1) := by decide +kernel
theorem dX5_alone_52 : decode cX5_alone 52 = .ok (.iastore, 1) := by decide +kernel
theorem dX5_alone_53 : decode cX5_alone 53 = .ok (.aload_n 0, 1) := by decide +kernel
theorem dX5_alone_54 : decode cX5_alone 54 = .ok (.getfield 62, 3) := by decide +kernel
theorem dX5_alone_57 : decode cX5_alone 57 = .ok (.iload_n 1, 1) := by decide +kernel
theorem dX5_alone_58 : decode cX5_alone 58 = .ok (.iload_n 3, 1) := by decide +kernel
theorem dX5_alone_59 : decode cX5_alone 59 = .ok (.iastore, 1) := by decide +kernel
theorem dX5_alone_60 : decode cX5_alone 60 = .ok (.bipush 31, 2) := by decide +kernel
theorem dX5_alone_62 : decode cX5_alone 62 = .ok (.bipush 31, 2) := by decide +kernel
theorem dX5_alone_64 : decode cX5_alone 64 = .ok (.iload_n 2, 1) := by decide +kernel
theorem dX5_alone_65 : decode cX5_alone 65 = .ok (.imul, 1) := by decide +kernel
theorem dX5_alone_66 : decode cX5_alone 66 = .ok (.iadd, 1) := by decide +kernel
theorem dX5_alone_67 : decode cX5_alone 67 = .ok (.iload_n 3, 1) := by decide +kernel
theorem dX5_alone_68 : decode cX5_alone 68 = .ok (.iadd, 1) := by decide +kernel
theorem dX5_alone_69 : decode cX5_alone 69 = .ok (.ireturn, 1) := by decide +kernel
theorem dX5_held_0 : decode cX5_held 0 = .ok (.iconst 0, 1) := by decide +kernel
theorem dX5_held_1 : decode cX5_held 1 = .ok (.istore_n 1, 1) := by decide +kernel
theorem dX5_held_2 : decode cX5_held 2 = .ok (.iconst 4, 1) := by decide +kernel
theorem dX5_held_3 : decode cX5_held 3 = .ok (.istore_n 2, 1) := by decide +kernel
theorem dX5_held_4 : decode cX5_held 4 = .ok (.iload_n 2, 1) := by decide +kernel
theorem dX5_held_5 : decode cX5_held 5 = .ok (.bipush 12, 2) := by decide +kernel
theorem dX5_held_7 : decode cX5_held 7 = .ok (.if_icmp .ge 28, 3) := by decide +kernel
theorem dX5_held_10 : decode cX5_held 10 = .ok (.iload_n 1, 1) := by decide +kernel
theorem dX5_held_11 : decode cX5_held 11 = .ok (.aload_n 0, 1) := by decide +kernel
theorem dX5_held_12 : decode cX5_held 12 = .ok (.getfield 49, 3) := by decide +kernel
theorem dX5_held_15 : decode cX5_held 15 = .ok (.iload_n 2, 1) := by decide +kernel
theorem dX5_held_16 : decode cX5_held 16 = .ok (.caload, 1) := by decide +kernel
theorem dX5_held_17 : decode cX5_held 17 = .ok (.bipush 45, 2) := by decide +kernel
theorem dX5_held_19 : decode cX5_held 19 = .ok (.if_icmp .ne 7, 3) := by decide +kernel
theorem dX5_held_22 : decode cX5_held 22 = .ok (.iconst 0, 1) := by decide +kernel
theorem dX5_held_23 : decode cX5_held 23 = .ok (.goto 4, 3) := by decide +kernel
theorem dX5_held_26 : decode cX5_held 26 = .ok (.iconst 1, 1) := by decide +kernel
theorem dX5_held_27 : decode cX5_held 27 = .ok (.iadd, 1) := by decide +kernel
theorem dX5_held_28 : decode cX5_held 28 = .ok (.istore_n 1, 1) := by decide +kernel
theorem dX5_held_29 : decode cX5_held 29 = .ok (.iinc 2 1, 3) := by decide +kernel
theorem dX5_held_32 : decode cX5_held 32 = .ok (.goto (-28), 3) := by decide +kernel
theorem dX5_held_35 : decode cX5_held 35 = .ok (.iload_n 1, 1) := by decide +kernel
theorem dX5_held_36 : decode cX5_held 36 = .ok (.ireturn, 1) := by decide +kernel
theorem dX5_none_0 : decode cX5_none 0 = .ok (.aload_n 0, 1) := by decide +kernel
theorem dX5_none_1 : decode cX5_none 1 = .ok (.iload_n 1, 1) := by decide +kernel
theorem dX5_none_2 : decode cX5_none 2 = .ok (.invokestatic 130, 3) := by decide +kernel
theorem dX5_none_5 : decode cX5_none 5 = .ok (.ifCond .ne 7, 3) := by decide +kernel
theorem dX5_none_8 : decode cX5_none 8 = .ok (.iconst 1, 1) := by decide +kernel
theorem dX5_none_9 : decode cX5_none 9 = .ok (.goto 4, 3) := by decide +kernel
theorem dX5_none_12 : decode cX5_none 12 = .ok (.iconst 0, 1) := by decide +kernel
theorem dX5_none_13 : decode cX5_none 13 = .ok (.iconst 0, 1) := by decide +kernel
theorem dX5_none_14 : decode cX5_none 14 = .ok (.iconst 0, 1) := by decide +kernel
theorem dX5_none_15 : decode cX5_none 15 = .ok (.iconst 0, 1) := by decide +kernel
theorem dX5_none_16 : decode cX5_none 16 = .ok (.iconst 0, 1) := by decide +kernel
theorem dX5_none_17 : decode cX5_none 17 = .ok (.invokevirtual 135, 3) := by decide +kernel
theorem dX5_none_20 : decode cX5_none 20 = .ok (.ifCond .eq 5, 3) := by decide +kernel
theorem dX5_none_23 : decode cX5_none 23 = .ok (.iconst 0, 1) := by decide +kernel
theorem dX5_none_24 : decode cX5_none 24 = .ok (.ireturn, 1) := by decide +kernel
theorem dX5_none_25 : decode cX5_none 25 = .ok (.aload_n 0, 1) := by decide +kernel
theorem dX5_none_26 : decode cX5_none 26 = .ok (.iload_n 1, 1) := by decide +kernel
theorem dX5_none_27 : decode cX5_none 27 = .ok (.bipush 101, 2) := by decide +kernel
theorem dX5_none_29 : decode cX5_none 29 = .ok (.iconst 0, 1) := by decide +kernel
theorem dX5_none_30 : decode cX5_none 30 = .ok (.iconst (-1), 1) := by decide +kernel
theorem dX5_none_31 : decode cX5_none 31 = .ok (.invokevirtual 142, 3) := by decide +kernel
theorem dX5_none_34 : decode cX5_none 34 = .ok (.aload_n 0, 1) := by decide +kernel
theorem dX5_none_35 : decode cX5_none 35 = .ok (.invokevirtual 152, 3) := by decide +kernel
theorem dX5_none_38 : decode cX5_none 38 = .ok (.ireturn, 1) := by decide +kernel
theorem dX5_looks_0 : decode cX5_looks 0 = .ok (.iload_n 1, 1) := by decide +kernel
theorem dX5_looks_1 : decode cX5_looks 1 = .ok (.invokestatic 130, 3) := by decide +kernel
theorem dX5_looks_4 : decode cX5_looks 4 = .ok (.ifCond .eq 14, 3) := by decide +kernel
theorem dX5_looks_7 : decode cX5_looks 7 = .ok (.iload_n 2, 1) := by decide +kernel
theorem dX5_looks_8 : decode cX5_looks 8 = .ok (.invokestatic 82, 3) := by decide +kernel
theorem dX5_looks_11 : decode cX5_looks 11 = .ok (.ifCond .eq 7, 3) := by decide +kernel
theorem dX5_looks_14 : decode cX5_looks 14 = .ok (.iconst 1, 1) := by decide +kernel
theorem dX5_looks_15 : decode cX5_looks 15 = .ok (.goto 4, 3) := by decide +kernel
theorem dX5_looks_18 : decode cX5_looks 18 = .ok (.iconst 0, 1) := by decide +kernel
theorem dX5_looks_19 : decode cX5_looks 19 = .ok (.istore 4, 2) := by decide +kernel
theorem dX5_looks_21 : decode cX5_looks 21 = .ok (.aload_n 0, 1) := by decide +kernel
theorem dX5_looks_22 : decode cX5_looks 22 = .ok (.iload 4, 2) := by decide +kernel
theorem dX5_looks_24 : decode cX5_looks 24 = .ok (.ifCond .ne 7, 3) := by decide +kernel
theorem dX5_looks_27 : decode cX5_looks 27 = .ok (.iconst 1, 1) := by decide +kernel
theorem dX5_looks_28 : decode cX5_looks 28 = .ok (.goto 4, 3) := by decide +kernel
theorem dX5_looks_31 : decode cX5_looks 31 = .ok (.iconst 0, 1) := by decide +kernel
theorem dX5_looks_32 : decode cX5_looks 32 = .ok (.iload 4, 2) := by decide +kernel
theorem dX5_looks_34 : decode cX5_looks 34 = .ok (.ifCond .eq 15, 3) := by decide +kernel
theorem dX5_looks_37 : decode cX5_looks 37 = .ok (.aload_n 0, 1) := by decide +kernel
theorem dX5_looks_38 : decode cX5_looks 38 = .ok (.iload_n 2, 1) := by decide +kernel
theorem dX5_looks_39 : decode cX5_looks 39 = .ok (.invokevirtual 156, 3) := by decide +kernel
theorem dX5_looks_42 : decode cX5_looks 42 = .ok (.ifCond .ne 7, 3) := by decide +kernel
theorem dX5_looks_45 : decode cX5_looks 45 = .ok (.iconst 1, 1) := by decide +kernel
theorem dX5_looks_46 : decode cX5_looks 46 = .ok (.goto 4, 3) := by decide +kernel
theorem dX5_looks_49 : decode cX5_looks 49 = .ok (.iconst 0, 1) := by decide +kernel
theorem dX5_looks_50 : decode cX5_looks 50 = .ok (.iconst 0, 1) := by decide +kernel
theorem dX5_looks_51 : decode cX5_looks 51 = .ok (.iconst 0, 1) := by decide +kernel
theorem dX5_looks_52 : decode cX5_looks 52 = .ok (.iconst 0, 1) := by decide +kernel
theorem dX5_looks_53 : decode cX5_looks 53 = .ok (.invokevirtual 135, 3) := by decide +kernel
theorem dX5_looks_56 : decode cX5_looks 56 = .ok (.ifCond .eq 5, 3) := by decide +kernel
theorem dX5_looks_59 : decode cX5_looks 59 = .ok (.iconst 0, 1) := by decide +kernel
theorem dX5_looks_60 : decode cX5_looks 60 = .ok (.ireturn, 1) := by decide +kernel
theorem dX5_looks_61 : decode cX5_looks 61 = .ok (.aload_n 0, 1) := by decide +kernel
theorem dX5_looks_62 : decode cX5_looks 62 = .ok (.getfield 65, 3) := by decide +kernel
theorem dX5_looks_65 : decode cX5_looks 65 = .ok (.iload_n 2, 1) := by decide +kernel
theorem dX5_looks_66 : decode cX5_looks 66 = .ok (.baload, 1) := by decide +kernel
theorem dX5_looks_67 : decode cX5_looks 67 = .ok (.istore 5, 2) := by decide +kernel
theorem dX5_looks_69 : decode cX5_looks 69 = .ok (.aload_n 0, 1) := by decide +kernel
theorem dX5_looks_70 : decode cX5_looks 70 = .ok (.iload_n 1, 1) := by decide +kernel
theorem dX5_looks_71 : decode cX5_looks 71 = .ok (.iload_n 3, 1) := by decide +kernel
theorem dX5_looks_72 : decode cX5_looks 72 = .ok (.aload_n 0, 1) := by decide +kernel
theorem dX5_looks_73 : decode cX5_looks 73 = .ok (.getfield 53, 3) := by decide +kernel
theorem dX5_looks_76 : decode cX5_looks 76 = .ok (.iload_n 2, 1) := by decide +kernel
theorem dX5_looks_77 : decode cX5_looks 77 = .ok (.iaload, 1) := by decide +kernel
theorem dX5_looks_78 : decode cX5_looks 78 = .ok (.iconst (-1), 1) := by decide +kernel
theorem dX5_looks_79 : decode cX5_looks 79 = .ok (.invokevirtual 142, 3) := by decide +kernel
theorem dX5_looks_82 : decode cX5_looks 82 = .ok (.aload_n 0, 1) := by decide +kernel
theorem dX5_looks_83 : decode cX5_looks 83 = .ok (.getfield 65, 3) := by decide +kernel
theorem dX5_looks_86 : decode cX5_looks 86 = .ok (.iload_n 1, 1) := by decide +kernel
theorem dX5_looks_87 : decode cX5_looks 87 = .ok (.iload 5, 2) := by decide +kernel
theorem dX5_looks_89 : decode cX5_looks 89 = .ok (.bastore, 1) := by decide +kernel
theorem dX5_looks_90 : decode cX5_looks 90 = .ok (.aload_n 0, 1) := by decide +kernel
theorem dX5_looks_91 : decode cX5_looks 91 = .ok (.iload_n 1, 1) := by decide +kernel
theorem dX5_looks_92 : decode cX5_looks 92 = .ok (.invokevirtual 116, 3) := by decide +kernel
theorem dX5_looks_95 : decode cX5_looks 95 = .ok (.ireturn, 1) := by decide +kernel
theorem dX5_keys_0 : decode cX5_keys 0 = .ok (.aload_n 0, 1) := by decide +kernel
theorem dX5_keys_1 : decode cX5_keys 1 = .ok (.iload_n 1, 1) := by decide +kernel
theorem dX5_keys_2 : decode cX5_keys 2 = .ok (.iload_n 2, 1) := by decide +kernel
theorem dX5_keys_3 : decode cX5_keys 3 = .ok (.bipush 107, 2) := by decide +kernel
theorem dX5_keys_5 : decode cX5_keys 5 = .ok (.invokevirtual 159, 3) := by decide +kernel
theorem dX5_keys_8 : decode cX5_keys 8 = .ok (.ireturn, 1) := by decide +kernel
theorem dX5_values_0 : decode cX5_values 0 = .ok (.aload_n 0, 1) := by decide +kernel
theorem dX5_values_1 : decode cX5_values 1 = .ok (.iload_n 1, 1) := by decide +kernel
theorem dX5_values_2 : decode cX5_values 2 = .ok (.iload_n 2, 1) := by decide +kernel
theorem dX5_values_3 : decode cX5_values 3 = .ok (.bipush 118, 2) := by decide +kernel
theorem dX5_values_5 : decode cX5_values 5 = .ok (.invokevirtual 159, 3) := by decide +kernel
theorem dX5_values_8 : decode cX5_values 8 = .ok (.ireturn, 1) := by decide +kernel
theorem dX5_kind_0 : decode cX5_kind 0 = .ok (.aload_n 0, 1) := by decide +kernel
theorem dX5_kind_1 : decode cX5_kind 1 = .ok (.iload_n 1, 1) := by decide +kernel
theorem dX5_kind_2 : decode cX5_kind 2 = .ok (.invokestatic 82, 3) := by decide +kernel
theorem dX5_kind_5 : decode cX5_kind 5 = .ok (.ifCond .ne 7, 3) := by decide +kernel
theorem dX5_kind_8 : decode cX5_kind 8 = .ok (.iconst 1, 1) := by decide +kernel
theorem dX5_kind_9 : decode cX5_kind 9 = .ok (.goto 4, 3) := by decide +kernel
theorem dX5_kind_12 : decode cX5_kind 12 = .ok (.iconst 0, 1) := by decide +kernel
theorem dX5_kind_13 : decode cX5_kind 13 = .ok (.iconst 0, 1) := by decide +kernel
theorem dX5_kind_14 : decode cX5_kind 14 = .ok (.iconst 0, 1) := by decide +kernel
theorem dX5_kind_15 : decode cX5_kind 15 = .ok (.iconst 0, 1) := by decide +kernel
theorem dX5_kind_16 : decode cX5_kind 16 = .ok (.iconst 0, 1) := by decide +kernel
theorem dX5_kind_17 : decode cX5_kind 17 = .ok (.invokevirtual 135, 3) := by decide +kernel
theorem dX5_kind_20 : decode cX5_kind 20 = .ok (.ifCond .eq 8, 3) := by decide +kernel
theorem dX5_kind_23 : decode cX5_kind 23 = .ok (.bipush 45, 2) := by decide +kernel
theorem dX5_kind_25 : decode cX5_kind 25 = .ok (.goto 9, 3) := by decide +kernel
theorem dX5_kind_28 : decode cX5_kind 28 = .ok (.aload_n 0, 1) := by decide +kernel
theorem dX5_kind_29 : decode cX5_kind 29 = .ok (.getfield 49, 3) := by decide +kernel
theorem dX5_kind_32 : decode cX5_kind 32 = .ok (.iload_n 1, 1) := by decide +kernel
theorem dX5_kind_33 : decode cX5_kind 33 = .ok (.caload, 1) := by decide +kernel
theorem dX5_kind_34 : decode cX5_kind 34 = .ok (.ireturn, 1) := by decide +kernel
theorem dX5_letsGo_0 : decode cX5_letsGo 0 = .ok (.aload_n 0, 1) := by decide +kernel
theorem dX5_letsGo_1 : decode cX5_letsGo 1 = .ok (.getfield 123, 3) := by decide +kernel
theorem dX5_letsGo_4 : decode cX5_letsGo 4 = .ok (.newarray .boolean, 2) := by decide +kernel
theorem dX5_letsGo_6 : decode cX5_letsGo 6 = .ok (.astore_n 3, 1) := by decide +kernel
theorem dX5_letsGo_7 : decode cX5_letsGo 7 = .ok (.iload_n 2, 1) := by decide +kernel
theorem dX5_letsGo_8 : decode cX5_letsGo 8 = .ok (.istore 4, 2) := by decide +kernel
theorem dX5_letsGo_10 : decode cX5_letsGo 10 = .ok (.iload 4, 2) := by decide +kernel
theorem dX5_letsGo_12 : decode cX5_letsGo 12 = .ok (.iconst (-1), 1) := by decide +kernel
theorem dX5_letsGo_13 : decode cX5_letsGo 13 = .ok (.if_icmp .eq 20, 3) := by decide +kernel
theorem dX5_letsGo_16 : decode cX5_letsGo 16 = .ok (.aload_n 3, 1) := by decide +kernel
theorem dX5_letsGo_17 : decode cX5_letsGo 17 = .ok (.iload 4, 2) := by decide +kernel
theorem dX5_letsGo_19 : decode cX5_letsGo 19 = .ok (.iconst 1, 1) := by decide +kernel
theorem dX5_letsGo_20 : decode cX5_letsGo 20 = .ok (.bastore, 1) := by decide +kernel
theorem dX5_letsGo_21 : decode cX5_letsGo 21 = .ok (.aload_n 0, 1) := by decide +kernel
theorem dX5_letsGo_22 : decode cX5_letsGo 22 = .ok (.getfield 36, 3) := by decide +kernel
theorem dX5_letsGo_25 : decode cX5_letsGo 25 = .ok (.iload 4, 2) := by decide +kernel
theorem dX5_letsGo_27 : decode cX5_letsGo 27 = .ok (.iaload, 1) := by decide +kernel
theorem dX5_letsGo_28 : decode cX5_letsGo 28 = .ok (.istore 4, 2) := by decide +kernel
theorem dX5_letsGo_30 : decode cX5_letsGo 30 = .ok (.goto (-20), 3) := by decide +kernel
theorem dX5_letsGo_33 : decode cX5_letsGo 33 = .ok (.iconst 0, 1) := by decide +kernel
theorem dX5_letsGo_34 : decode cX5_letsGo 34 = .ok (.istore 4, 2) := by decide +kernel
theorem dX5_letsGo_36 : decode cX5_letsGo 36 = .ok (.iload 4, 2) := by decide +kernel
theorem dX5_letsGo_38 : decode cX5_letsGo 38 = .ok (.aload_n 0, 1) := by decide +kernel
theorem dX5_letsGo_39 : decode cX5_letsGo 39 = .ok (.getfield 123, 3) := by decide +kernel
theorem dX5_letsGo_42 : decode cX5_letsGo 42 = .ok (.if_icmp .ge 49, 3) := by decide +kernel
theorem dX5_letsGo_45 : decode cX5_letsGo 45 = .ok (.aload_n 0, 1) := by decide +kernel
theorem dX5_letsGo_46 : decode cX5_letsGo 46 = .ok (.getfield 45, 3) := by decide +kernel
theorem dX5_letsGo_49 : decode cX5_letsGo 49 = .ok (.iload 4, 2) := by decide +kernel
theorem dX5_letsGo_51 : decode cX5_letsGo 51 = .ok (.aload_n 0, 1) := by decide +kernel
theorem dX5_letsGo_52 : decode cX5_letsGo 52 = .ok (.getfield 45, 3) := by decide +kernel
theorem dX5_letsGo_55 : decode cX5_letsGo 55 = .ok (.iload 4, 2) := by decide +kernel
theorem dX5_letsGo_57 : decode cX5_letsGo 57 = .ok (.baload, 1) := by decide +kernel
theorem dX5_letsGo_58 : decode cX5_letsGo 58 = .ok (.ifCond .ne 21, 3) := by decide +kernel
theorem dX5_letsGo_61 : decode cX5_letsGo 61 = .ok (.aload_n 0, 1) := by decide +kernel
theorem dX5_letsGo_62 : decode cX5_letsGo 62 = .ok (.getfield 33, 3) := by decide +kernel
theorem dX5_letsGo_65 : decode cX5_letsGo 65 = .ok (.iload 4, 2) := by decide +kernel
theorem dX5_letsGo_67 : decode cX5_letsGo 67 = .ok (.iaload, 1) := by decide +kernel
theorem dX5_letsGo_68 : decode cX5_letsGo 68 = .ok (.iload_n 1, 1) := by decide +kernel
theorem dX5_letsGo_69 : decode cX5_letsGo 69 = .ok (.if_icmp .ne 14, 3) := by decide +kernel
theorem dX5_letsGo_72 : decode cX5_letsGo 72 = .ok (.aload_n 3, 1) := by decide +kernel
theorem dX5_letsGo_73 : decode cX5_letsGo 73 = .ok (.iload 4, 2) := by decide +kernel
theorem dX5_letsGo_75 : decode cX5_letsGo 75 = .ok (.baload, 1) := by decide +kernel
theorem dX5_letsGo_76 : decode cX5_letsGo 76 = .ok (.ifCond .ne 7, 3) := by decide +kernel
theorem dX5_letsGo_79 : decode cX5_letsGo 79 = .ok (.iconst 1, 1) := by decide +kernel
theorem dX5_letsGo_80 : decode cX5_letsGo 80 = .ok (.goto 4, 3) := by decide +kernel
theorem dX5_letsGo_83 : decode cX5_letsGo 83 = .ok (.iconst 0, 1) := by decide +kernel
theorem dX5_letsGo_84 : decode cX5_letsGo 84 = .ok (.bastore, 1) := by decide +kernel
theorem dX5_letsGo_85 : decode cX5_letsGo 85 = .ok (.iinc 4 1, 3) := by decide +kernel
theorem dX5_letsGo_88 : decode cX5_letsGo 88 = .ok (.goto (-52), 3) := by decide +kernel
theorem dX5_letsGo_91 : decode cX5_letsGo 91 = .ok (.iconst 4, 1) := by decide +kernel
theorem dX5_letsGo_92 : decode cX5_letsGo 92 = .ok (.istore 4, 2) := by decide +kernel
theorem dX5_letsGo_94 : decode cX5_letsGo 94 = .ok (.iload 4, 2) := by decide +kernel
theorem dX5_letsGo_96 : decode cX5_letsGo 96 = .ok (.bipush 12, 2) := by decide +kernel
theorem dX5_letsGo_98 : decode cX5_letsGo 98 = .ok (.if_icmp .ge 69, 3) := by decide +kernel
theorem dX5_letsGo_101 : decode cX5_letsGo 101 = .ok (.aload_n 0, 1) := by decide +kernel
theorem dX5_letsGo_102 : decode cX5_letsGo 102 = .ok (.getfield 49, 3) := by decide +kernel
theorem dX5_letsGo_105 : decode cX5_letsGo 105 = .ok (.iload 4, 2) := by decide +kernel
theorem dX5_letsGo_107 : decode cX5_letsGo 107 = .ok (.caload, 1) := by decide +kernel
theorem dX5_letsGo_108 : decode cX5_letsGo 108 = .ok (.bipush 112, 2) := by decide +kernel
theorem dX5_letsGo_110 : decode cX5_letsGo 110 = .ok (.if_icmp .eq 15, 3) := by decide +kernel
theorem dX5_letsGo_113 : decode cX5_letsGo 113 = .ok (.aload_n 0, 1) := by decide +kernel
theorem dX5_letsGo_114 : decode cX5_letsGo 114 = .ok (.getfield 49, 3) := by decide +kernel
theorem dX5_letsGo_117 : decode cX5_letsGo 117 = .ok (.iload 4, 2) := by decide +kernel
theorem dX5_letsGo_119 : decode cX5_letsGo 119 = .ok (.caload, 1) := by decide +kernel
theorem dX5_letsGo_120 : decode cX5_letsGo 120 = .ok (.bipush 102, 2) := by decide +kernel
theorem dX5_letsGo_122 : decode cX5_letsGo 122 = .ok (.if_icmp .ne 39, 3) := by decide +kernel
theorem dX5_letsGo_125 : decode cX5_letsGo 125 = .ok (.aload_n 0, 1) := by decide +kernel
theorem dX5_letsGo_126 : decode cX5_letsGo 126 = .ok (.getfield 56, 3) := by decide +kernel
theorem dX5_letsGo_129 : decode cX5_letsGo 129 = .ok (.iload 4, 2) := by decide +kernel
theorem dX5_letsGo_131 : decode cX5_letsGo 131 = .ok (.iaload, 1) := by decide +kernel
theorem dX5_letsGo_132 : decode cX5_letsGo 132 = .ok (.iconst (-1), 1) := by decide +kernel
theorem dX5_letsGo_133 : decode cX5_letsGo 133 = .ok (.if_icmp .eq 28, 3) := by decide +kernel
theorem dX5_letsGo_136 : decode cX5_letsGo 136 = .ok (.aload_n 0, 1) := by decide +kernel
theorem dX5_letsGo_137 : decode cX5_letsGo 137 = .ok (.getfield 45, 3) := by decide +kernel
theorem dX5_letsGo_140 : decode cX5_letsGo 140 = .ok (.aload_n 0, 1) := by decide +kernel
theorem dX5_letsGo_141 : decode cX5_letsGo 141 = .ok (.getfield 56, 3) := by decide +kernel
theorem dX5_letsGo_144 : decode cX5_letsGo 144 = .ok (.iload 4, 2) := by decide +kernel
theorem dX5_letsGo_146 : decode cX5_letsGo 146 = .ok (.iaload, 1) := by decide +kernel
theorem dX5_letsGo_147 : decode cX5_letsGo 147 = .ok (.baload, 1) := by decide +kernel
theorem dX5_letsGo_148 : decode cX5_letsGo 148 = .ok (.ifCond .eq 13, 3) := by decide +kernel
theorem dX5_letsGo_151 : decode cX5_letsGo 151 = .ok (.aload_n 0, 1) := by decide +kernel
theorem dX5_letsGo_152 : decode cX5_letsGo 152 = .ok (.iload 4, 2) := by decide +kernel
theorem dX5_letsGo_154 : decode cX5_letsGo 154 = .ok (.bipush 45, 2) := by decide +kernel
theorem dX5_letsGo_156 : decode cX5_letsGo 156 = .ok (.iconst 0, 1) := by decide +kernel
theorem dX5_letsGo_157 : decode cX5_letsGo 157 = .ok (.iconst (-1), 1) := by decide +kernel
theorem dX5_letsGo_158 : decode cX5_letsGo 158 = .ok (.invokevirtual 142, 3) := by decide +kernel
theorem dX5_letsGo_161 : decode cX5_letsGo 161 = .ok (.iinc 4 1, 3) := by decide +kernel
theorem dX5_letsGo_164 : decode cX5_letsGo 164 = .ok (.goto (-70), 3) := by decide +kernel
theorem dX5_letsGo_167 : decode cX5_letsGo 167 = .ok (.return_, 1) := by decide +kernel
theorem dX5_becomes_0 : decode cX5_becomes 0 = .ok (.aload_n 0, 1) := by decide +kernel
theorem dX5_becomes_1 : decode cX5_becomes 1 = .ok (.getfield 53, 3) := by decide +kernel
theorem dX5_becomes_4 : decode cX5_becomes 4 = .ok (.iload_n 1, 1) := by decide +kernel
theorem dX5_becomes_5 : decode cX5_becomes 5 = .ok (.iaload, 1) := by decide +kernel
theorem dX5_becomes_6 : decode cX5_becomes 6 = .ok (.istore 5, 2) := by decide +kernel
theorem dX5_becomes_8 : decode cX5_becomes 8 = .ok (.aload_n 0, 1) := by decide +kernel
theorem dX5_becomes_9 : decode cX5_becomes 9 = .ok (.iload_n 1, 1) := by decide +kernel
theorem dX5_becomes_10 : decode cX5_becomes 10 = .ok (.invokevirtual 106, 3) := by decide +kernel
theorem dX5_becomes_13 : decode cX5_becomes 13 = .ok (.istore 6, 2) := by decide +kernel
theorem dX5_becomes_15 : decode cX5_becomes 15 = .ok (.iload 4, 2) := by decide +kernel
theorem dX5_becomes_17 : decode cX5_becomes 17 = .ok (.aload_n 0, 1) := by decide +kernel
theorem dX5_becomes_18 : decode cX5_becomes 18 = .ok (.iload_n 1, 1) := by decide +kernel
theorem dX5_becomes_19 : decode cX5_becomes 19 = .ok (.invokevirtual 116, 3) := by decide +kernel
theorem dX5_becomes_22 : decode cX5_becomes 22 = .ok (.isub, 1) := by decide +kernel
theorem dX5_becomes_23 : decode cX5_becomes 23 = .ok (.istore 7, 2) := by decide +kernel
theorem dX5_becomes_25 : decode cX5_becomes 25 = .ok (.aload_n 0, 1) := by decide +kernel
theorem dX5_becomes_26 : decode cX5_becomes 26 = .ok (.getfield 17, 3) := by decide +kernel
theorem dX5_becomes_29 : decode cX5_becomes 29 = .ok (.iload 5, 2) := by decide +kernel
theorem dX5_becomes_31 : decode cX5_becomes 31 = .ok (.iaload, 1) := by decide +kernel
theorem dX5_becomes_32 : decode cX5_becomes 32 = .ok (.iload 6, 2) := by decide +kernel
theorem dX5_becomes_34 : decode cX5_becomes 34 = .ok (.isub, 1) := by decide +kernel
theorem dX5_becomes_35 : decode cX5_becomes 35 = .ok (.aload_n 0, 1) := by decide +kernel
theorem dX5_becomes_36 : decode cX5_becomes 36 = .ok (.iload_n 1, 1) := by decide +kernel
theorem dX5_becomes_37 : decode cX5_becomes 37 = .ok (.invokevirtual 116, 3) := by decide +kernel
theorem dX5_becomes_40 : decode cX5_becomes 40 = .ok (.isub, 1) := by decide +kernel
theorem dX5_becomes_41 : decode cX5_becomes 41 = .ok (.istore 8, 2) := by decide +kernel
theorem dX5_becomes_43 : decode cX5_becomes 43 = .ok (.iload 8, 2) := by decide +kernel
theorem dX5_becomes_45 : decode cX5_becomes 45 = .ok (.newarray .int, 2) := by decide +kernel
theorem dX5_becomes_47 : decode cX5_becomes 47 = .ok (.astore 9, 2) := by decide +kernel
theorem dX5_becomes_49 : decode cX5_becomes 49 = .ok (.iload 8, 2) := by decide +kernel
theorem dX5_becomes_51 : decode cX5_becomes 51 = .ok (.newarray .int, 2) := by decide +kernel
theorem dX5_becomes_53 : decode cX5_becomes 53 = .ok (.astore 10, 2) := by decide +kernel
theorem dX5_becomes_55 : decode cX5_becomes 55 = .ok (.iconst 0, 1) := by decide +kernel
theorem dX5_becomes_56 : decode cX5_becomes 56 = .ok (.istore 11, 2) := by decide +kernel
theorem dX5_becomes_58 : decode cX5_becomes 58 = .ok (.iload 11, 2) := by decide +kernel
theorem dX5_becomes_60 : decode cX5_becomes 60 = .ok (.iload 8, 2) := by decide +kernel
theorem dX5_becomes_62 : decode cX5_becomes 62 = .ok (.if_icmp .ge 57, 3) := by decide +kernel
theorem dX5_becomes_65 : decode cX5_becomes 65 = .ok (.aload 9, 2) := by decide +kernel
theorem dX5_becomes_67 : decode cX5_becomes 67 = .ok (.iload 11, 2) := by decide +kernel
theorem dX5_becomes_69 : decode cX5_becomes 69 = .ok (.aload_n 0, 1) := by decide +kernel
theorem dX5_becomes_70 : decode cX5_becomes 70 = .ok (.getfield 11, 3) := by decide +kernel
theorem dX5_becomes_73 : decode cX5_becomes 73 = .ok (.iload 5, 2) := by decide +kernel
theorem dX5_becomes_75 : decode cX5_becomes 75 = .ok (.aaload, 1) := by decide +kernel
theorem dX5_becomes_76 : decode cX5_becomes 76 = .ok (.iload 6, 2) := by decide +kernel
theorem dX5_becomes_78 : decode cX5_becomes 78 = .ok (.aload_n 0, 1) := by decide +kernel
theorem dX5_becomes_79 : decode cX5_becomes 79 = .ok (.iload_n 1, 1) := by decide +kernel
theorem dX5_becomes_80 : decode cX5_becomes 80 = .ok (.invokevirtual 116, 3) := by decide +kernel
theorem dX5_becomes_83 : decode cX5_becomes 83 = .ok (.iadd, 1) := by decide +kernel
theorem dX5_becomes_84 : decode cX5_becomes 84 = .ok (.iload 11, 2) := by decide +kernel
theorem dX5_becomes_86 : decode cX5_becomes 86 = .ok (.iadd, 1) := by decide +kernel
theorem dX5_becomes_87 : decode cX5_becomes 87 = .ok (.iaload, 1) := by decide +kernel
theorem dX5_becomes_88 : decode cX5_becomes 88 = .ok (.iastore, 1) := by decide +kernel
theorem dX5_becomes_89 : decode cX5_becomes 89 = .ok (.aload 10, 2) := by decide +kernel
theorem dX5_becomes_91 : decode cX5_becomes 91 = .ok (.iload 11, 2) := by decide +kernel
theorem dX5_becomes_93 : decode cX5_becomes 93 = .ok (.aload_n 0, 1) := by decide +kernel
theorem dX5_becomes_94 : decode cX5_becomes 94 = .ok (.getfield 14, 3) := by decide +kernel
theorem dX5_becomes_97 : decode cX5_becomes 97 = .ok (.iload 5, 2) := by decide +kernel
theorem dX5_becomes_99 : decode cX5_becomes 99 = .ok (.aaload, 1) := by decide +kernel
theorem dX5_becomes_100 : decode cX5_becomes 100 = .ok (.iload 6, 2) := by decide +kernel
theorem dX5_becomes_102 : decode cX5_becomes 102 = .ok (.aload_n 0, 1) := by decide +kernel
theorem dX5_becomes_103 : decode cX5_becomes 103 = .ok (.iload_n 1, 1) := by decide +kernel
theorem dX5_becomes_104 : decode cX5_becomes 104 = .ok (.invokevirtual 116, 3) := by decide +kernel
theorem dX5_becomes_107 : decode cX5_becomes 107 = .ok (.iadd, 1) := by decide +kernel
theorem dX5_becomes_108 : decode cX5_becomes 108 = .ok (.iload 11, 2) := by decide +kernel
theorem dX5_becomes_110 : decode cX5_becomes 110 = .ok (.iadd, 1) := by decide +kernel
theorem dX5_becomes_111 : decode cX5_becomes 111 = .ok (.iaload, 1) := by decide +kernel
theorem dX5_becomes_112 : decode cX5_becomes 112 = .ok (.iastore, 1) := by decide +kernel
theorem dX5_becomes_113 : decode cX5_becomes 113 = .ok (.iinc 11 1, 3) := by decide +kernel
theorem dX5_becomes_116 : decode cX5_becomes 116 = .ok (.goto (-58), 3) := by decide +kernel
theorem dX5_becomes_119 : decode cX5_becomes 119 = .ok (.iconst 0, 1) := by decide +kernel
theorem dX5_becomes_120 : decode cX5_becomes 120 = .ok (.istore 11, 2) := by decide +kernel
theorem dX5_becomes_122 : decode cX5_becomes 122 = .ok (.iload 11, 2) := by decide +kernel
theorem dX5_becomes_124 : decode cX5_becomes 124 = .ok (.iload 4, 2) := by decide +kernel
theorem dX5_becomes_126 : decode cX5_becomes 126 = .ok (.if_icmp .ge 43, 3) := by decide +kernel
theorem dX5_becomes_129 : decode cX5_becomes 129 = .ok (.aload_n 0, 1) := by decide +kernel
theorem dX5_becomes_130 : decode cX5_becomes 130 = .ok (.getfield 11, 3) := by decide +kernel
theorem dX5_becomes_133 : decode cX5_becomes 133 = .ok (.iload 5, 2) := by decide +kernel
theorem dX5_becomes_135 : decode cX5_becomes 135 = .ok (.aaload, 1) := by decide +kernel
theorem dX5_becomes_136 : decode cX5_becomes 136 = .ok (.iload 6, 2) := by decide +kernel
theorem dX5_becomes_138 : decode cX5_becomes 138 = .ok (.iload 11, 2) := by decide +kernel
theorem dX5_becomes_140 : decode cX5_becomes 140 = .ok (.iadd, 1) := by decide +kernel
theorem dX5_becomes_141 : decode cX5_becomes 141 = .ok (.aload_n 2, 1) := by decide +kernel
theorem dX5_becomes_142 : decode cX5_becomes 142 = .ok (.iload 11, 2) := by decide +kernel
theorem dX5_becomes_144 : decode cX5_becomes 144 = .ok (.iaload, 1) := by decide +kernel
theorem dX5_becomes_145 : decode cX5_becomes 145 = .ok (.iastore, 1) := by decide +kernel
theorem dX5_becomes_146 : decode cX5_becomes 146 = .ok (.aload_n 0, 1) := by decide +kernel
theorem dX5_becomes_147 : decode cX5_becomes 147 = .ok (.getfield 14, 3) := by decide +kernel
theorem dX5_becomes_150 : decode cX5_becomes 150 = .ok (.iload 5, 2) := by decide +kernel
theorem dX5_becomes_152 : decode cX5_becomes 152 = .ok (.aaload, 1) := by decide +kernel
theorem dX5_becomes_153 : decode cX5_becomes 153 = .ok (.iload 6, 2) := by decide +kernel
theorem dX5_becomes_155 : decode cX5_becomes 155 = .ok (.iload 11, 2) := by decide +kernel
theorem dX5_becomes_157 : decode cX5_becomes 157 = .ok (.iadd, 1) := by decide +kernel
theorem dX5_becomes_158 : decode cX5_becomes 158 = .ok (.aload_n 3, 1) := by decide +kernel
theorem dX5_becomes_159 : decode cX5_becomes 159 = .ok (.iload 11, 2) := by decide +kernel
theorem dX5_becomes_161 : decode cX5_becomes 161 = .ok (.iaload, 1) := by decide +kernel
theorem dX5_becomes_162 : decode cX5_becomes 162 = .ok (.iastore, 1) := by decide +kernel
theorem dX5_becomes_163 : decode cX5_becomes 163 = .ok (.iinc 11 1, 3) := by decide +kernel
theorem dX5_becomes_166 : decode cX5_becomes 166 = .ok (.goto (-44), 3) := by decide +kernel
theorem dX5_becomes_169 : decode cX5_becomes 169 = .ok (.iconst 0, 1) := by decide +kernel
theorem dX5_becomes_170 : decode cX5_becomes 170 = .ok (.istore 11, 2) := by decide +kernel
theorem dX5_becomes_172 : decode cX5_becomes 172 = .ok (.iload 11, 2) := by decide +kernel
theorem dX5_becomes_174 : decode cX5_becomes 174 = .ok (.iload 8, 2) := by decide +kernel
theorem dX5_becomes_176 : decode cX5_becomes 176 = .ok (.if_icmp .ge 51, 3) := by decide +kernel
theorem dX5_becomes_179 : decode cX5_becomes 179 = .ok (.aload_n 0, 1) := by decide +kernel
theorem dX5_becomes_180 : decode cX5_becomes 180 = .ok (.getfield 11, 3) := by decide +kernel
theorem dX5_becomes_183 : decode cX5_becomes 183 = .ok (.iload 5, 2) := by decide +kernel
theorem dX5_becomes_185 : decode cX5_becomes 185 = .ok (.aaload, 1) := by decide +kernel
theorem dX5_becomes_186 : decode cX5_becomes 186 = .ok (.iload 6, 2) := by decide +kernel
theorem dX5_becomes_188 : decode cX5_becomes 188 = .ok (.iload 4, 2) := by decide +kernel
theorem dX5_becomes_190 : decode cX5_becomes 190 = .ok (.iadd, 1) := by decide +kernel
theorem dX5_becomes_191 : decode cX5_becomes 191 = .ok (.iload 11, 2) := by decide +kernel
theorem dX5_becomes_193 : decode cX5_becomes 193 = .ok (.iadd, 1) := by decide +kernel
theorem dX5_becomes_194 : decode cX5_becomes 194 = .ok (.aload 9, 2) := by decide +kernel
theorem dX5_becomes_196 : decode cX5_becomes 196 = .ok (.iload 11, 2) := by decide +kernel
theorem dX5_becomes_198 : decode cX5_becomes 198 = .ok (.iaload, 1) := by decide +kernel
theorem dX5_becomes_199 : decode cX5_becomes 199 = .ok (.iastore, 1) := by decide +kernel
theorem dX5_becomes_200 : decode cX5_becomes 200 = .ok (.aload_n 0, 1) := by decide +kernel
theorem dX5_becomes_201 : decode cX5_becomes 201 = .ok (.getfield 14, 3) := by decide +kernel
theorem dX5_becomes_204 : decode cX5_becomes 204 = .ok (.iload 5, 2) := by decide +kernel
theorem dX5_becomes_206 : decode cX5_becomes 206 = .ok (.aaload, 1) := by decide +kernel
theorem dX5_becomes_207 : decode cX5_becomes 207 = .ok (.iload 6, 2) := by decide +kernel
theorem dX5_becomes_209 : decode cX5_becomes 209 = .ok (.iload 4, 2) := by decide +kernel
theorem dX5_becomes_211 : decode cX5_becomes 211 = .ok (.iadd, 1) := by decide +kernel
theorem dX5_becomes_212 : decode cX5_becomes 212 = .ok (.iload 11, 2) := by decide +kernel
theorem dX5_becomes_214 : decode cX5_becomes 214 = .ok (.iadd, 1) := by decide +kernel
theorem dX5_becomes_215 : decode cX5_becomes 215 = .ok (.aload 10, 2) := by decide +kernel
theorem dX5_becomes_217 : decode cX5_becomes 217 = .ok (.iload 11, 2) := by decide +kernel
theorem dX5_becomes_219 : decode cX5_becomes 219 = .ok (.iaload, 1) := by decide +kernel
theorem dX5_becomes_220 : decode cX5_becomes 220 = .ok (.iastore, 1) := by decide +kernel
theorem dX5_becomes_221 : decode cX5_becomes 221 = .ok (.iinc 11 1, 3) := by decide +kernel
theorem dX5_becomes_224 : decode cX5_becomes 224 = .ok (.goto (-52), 3) := by decide +kernel
theorem dX5_becomes_227 : decode cX5_becomes 227 = .ok (.aload_n 0, 1) := by decide +kernel
theorem dX5_becomes_228 : decode cX5_becomes 228 = .ok (.getfield 17, 3) := by decide +kernel
theorem dX5_becomes_231 : decode cX5_becomes 231 = .ok (.iload 5, 2) := by decide +kernel
theorem dX5_becomes_233 : decode cX5_becomes 233 = .ok (.dup2, 1) := by decide +kernel
theorem dX5_becomes_234 : decode cX5_becomes 234 = .ok (.iaload, 1) := by decide +kernel
theorem dX5_becomes_235 : decode cX5_becomes 235 = .ok (.iload 7, 2) := by decide +kernel
theorem dX5_becomes_237 : decode cX5_becomes 237 = .ok (.iadd, 1) := by decide +kernel
theorem dX5_becomes_238 : decode cX5_becomes 238 = .ok (.iastore, 1) := by decide +kernel
theorem dX5_becomes_239 : decode cX5_becomes 239 = .ok (.aload_n 0, 1) := by decide +kernel
theorem dX5_becomes_240 : decode cX5_becomes 240 = .ok (.getfield 56, 3) := by decide +kernel
theorem dX5_becomes_243 : decode cX5_becomes 243 = .ok (.iload_n 1, 1) := by decide +kernel
theorem dX5_becomes_244 : decode cX5_becomes 244 = .ok (.iaload, 1) := by decide +kernel
theorem dX5_becomes_245 : decode cX5_becomes 245 = .ok (.istore 11, 2) := by decide +kernel
theorem dX5_becomes_247 : decode cX5_becomes 247 = .ok (.iload 11, 2) := by decide +kernel
theorem dX5_becomes_249 : decode cX5_becomes 249 = .ok (.iconst (-1), 1) := by decide +kernel
theorem dX5_becomes_250 : decode cX5_becomes 250 = .ok (.if_icmp .eq 27, 3) := by decide +kernel
theorem dX5_becomes_253 : decode cX5_becomes 253 = .ok (.aload_n 0, 1) := by decide +kernel
theorem dX5_becomes_254 : decode cX5_becomes 254 = .ok (.getfield 42, 3) := by decide +kernel
theorem dX5_becomes_257 : decode cX5_becomes 257 = .ok (.iload 11, 2) := by decide +kernel
theorem dX5_becomes_259 : decode cX5_becomes 259 = .ok (.dup2, 1) := by decide +kernel
theorem dX5_becomes_260 : decode cX5_becomes 260 = .ok (.iaload, 1) := by decide +kernel
theorem dX5_becomes_261 : decode cX5_becomes 261 = .ok (.iload 7, 2) := by decide +kernel
theorem dX5_becomes_263 : decode cX5_becomes 263 = .ok (.iadd, 1) := by decide +kernel
theorem dX5_becomes_264 : decode cX5_becomes 264 = .ok (.iastore, 1) := by decide +kernel
theorem dX5_becomes_265 : decode cX5_becomes 265 = .ok (.aload_n 0, 1) := by decide +kernel
theorem dX5_becomes_266 : decode cX5_becomes 266 = .ok (.getfield 36, 3) := by decide +kernel
theorem dX5_becomes_269 : decode cX5_becomes 269 = .ok (.iload 11, 2) := by decide +kernel
theorem dX5_becomes_271 : decode cX5_becomes 271 = .ok (.iaload, 1) := by decide +kernel
theorem dX5_becomes_272 : decode cX5_becomes 272 = .ok (.istore 11, 2) := by decide +kernel
theorem dX5_becomes_274 : decode cX5_becomes 274 = .ok (.goto (-27), 3) := by decide +kernel
theorem dX5_becomes_277 : decode cX5_becomes 277 = .ok (.iload 7, 2) := by decide +kernel
theorem dX5_becomes_279 : decode cX5_becomes 279 = .ok (.ifCond .eq 15, 3) := by decide +kernel
theorem dX5_becomes_282 : decode cX5_becomes 282 = .ok (.aload_n 0, 1) := by decide +kernel
theorem dX5_becomes_283 : decode cX5_becomes 283 = .ok (.iload 5, 2) := by decide +kernel
theorem dX5_becomes_285 : decode cX5_becomes 285 = .ok (.aload_n 0, 1) := by decide +kernel
theorem dX5_becomes_286 : decode cX5_becomes 286 = .ok (.getfield 56, 3) := by decide +kernel
theorem dX5_becomes_289 : decode cX5_becomes 289 = .ok (.iload_n 1, 1) := by decide +kernel
theorem dX5_becomes_290 : decode cX5_becomes 290 = .ok (.iaload, 1) := by decide +kernel
theorem dX5_becomes_291 : decode cX5_becomes 291 = .ok (.invokevirtual 163, 3) := by decide +kernel
theorem dX5_becomes_294 : decode cX5_becomes 294 = .ok (.return_, 1) := by decide +kernel
theorem dX5_lays_0 : decode cX5_lays 0 = .ok (.aload_n 0, 1) := by decide +kernel
theorem dX5_lays_1 : decode cX5_lays 1 = .ok (.getfield 68, 3) := by decide +kernel
theorem dX5_lays_4 : decode cX5_lays 4 = .ok (.aload_n 0, 1) := by decide +kernel
theorem dX5_lays_5 : decode cX5_lays 5 = .ok (.getfield 167, 3) := by decide +kernel
theorem dX5_lays_8 : decode cX5_lays 8 = .ok (.iload_n 1, 1) := by decide +kernel
theorem dX5_lays_9 : decode cX5_lays 9 = .ok (.iastore, 1) := by decide +kernel
theorem dX5_lays_10 : decode cX5_lays 10 = .ok (.aload_n 0, 1) := by decide +kernel
theorem dX5_lays_11 : decode cX5_lays 11 = .ok (.getfield 71, 3) := by decide +kernel
theorem dX5_lays_14 : decode cX5_lays 14 = .ok (.aload_n 0, 1) := by decide +kernel
theorem dX5_lays_15 : decode cX5_lays 15 = .ok (.getfield 167, 3) := by decide +kernel
theorem dX5_lays_18 : decode cX5_lays 18 = .ok (.iload_n 2, 1) := by decide +kernel
theorem dX5_lays_19 : decode cX5_lays 19 = .ok (.iastore, 1) := by decide +kernel
theorem dX5_lays_20 : decode cX5_lays 20 = .ok (.aload_n 0, 1) := by decide +kernel
theorem dX5_lays_21 : decode cX5_lays 21 = .ok (.dup, 1) := by decide +kernel
theorem dX5_lays_22 : decode cX5_lays 22 = .ok (.getfield 167, 3) := by decide +kernel
theorem dX5_lays_25 : decode cX5_lays 25 = .ok (.iconst 1, 1) := by decide +kernel
theorem dX5_lays_26 : decode cX5_lays 26 = .ok (.iadd, 1) := by decide +kernel
theorem dX5_lays_27 : decode cX5_lays 27 = .ok (.putfield 167, 3) := by decide +kernel
theorem dX5_lays_30 : decode cX5_lays 30 = .ok (.return_, 1) := by decide +kernel
theorem dX5_isPlace_0 : decode cX5_isPlace 0 = .ok (.iload_n 2, 1) := by decide +kernel
theorem dX5_isPlace_1 : decode cX5_isPlace 1 = .ok (.iconst 0, 1) := by decide +kernel
theorem dX5_isPlace_2 : decode cX5_isPlace 2 = .ok (.aload_n 0, 1) := by decide +kernel
theorem dX5_isPlace_3 : decode cX5_isPlace 3 = .ok (.iload_n 1, 1) := by decide +kernel
theorem dX5_isPlace_4 : decode cX5_isPlace 4 = .ok (.invokevirtual 116, 3) := by decide +kernel
theorem dX5_isPlace_7 : decode cX5_isPlace 7 = .ok (.iconst 1, 1) := by decide +kernel
theorem dX5_isPlace_8 : decode cX5_isPlace 8 = .ok (.isub, 1) := by decide +kernel
theorem dX5_isPlace_9 : decode cX5_isPlace 9 = .ok (.iload_n 3, 1) := by decide +kernel
theorem dX5_isPlace_10 : decode cX5_isPlace 10 = .ok (.iadd, 1) := by decide +kernel
theorem dX5_isPlace_11 : decode cX5_isPlace 11 = .ok (.invokestatic 78, 3) := by decide +kernel
theorem dX5_isPlace_14 : decode cX5_isPlace 14 = .ok (.ireturn, 1) := by decide +kernel
theorem dX5_hasRoom_0 : decode cX5_hasRoom 0 = .ok (.aload_n 0, 1) := by decide +kernel
theorem dX5_hasRoom_1 : decode cX5_hasRoom 1 = .ok (.getfield 17, 3) := by decide +kernel
theorem dX5_hasRoom_4 : decode cX5_hasRoom 4 = .ok (.aload_n 0, 1) := by decide +kernel
theorem dX5_hasRoom_5 : decode cX5_hasRoom 5 = .ok (.getfield 53, 3) := by decide +kernel
theorem dX5_hasRoom_8 : decode cX5_hasRoom 8 = .ok (.iload_n 1, 1) := by decide +kernel
theorem dX5_hasRoom_9 : decode cX5_hasRoom 9 = .ok (.iaload, 1) := by decide +kernel
theorem dX5_hasRoom_10 : decode cX5_hasRoom 10 = .ok (.iaload, 1) := by decide +kernel
theorem dX5_hasRoom_11 : decode cX5_hasRoom 11 = .ok (.iload_n 2, 1) := by decide +kernel
theorem dX5_hasRoom_12 : decode cX5_hasRoom 12 = .ok (.iadd, 1) := by decide +kernel
theorem dX5_hasRoom_13 : decode cX5_hasRoom 13 = .ok (.bipush 24, 2) := by decide +kernel
theorem dX5_hasRoom_15 : decode cX5_hasRoom 15 = .ok (.if_icmp .gt 7, 3) := by decide +kernel
theorem dX5_hasRoom_18 : decode cX5_hasRoom 18 = .ok (.iconst 1, 1) := by decide +kernel
theorem dX5_hasRoom_19 : decode cX5_hasRoom 19 = .ok (.goto 4, 3) := by decide +kernel
theorem dX5_hasRoom_22 : decode cX5_hasRoom 22 = .ok (.iconst 0, 1) := by decide +kernel
theorem dX5_hasRoom_23 : decode cX5_hasRoom 23 = .ok (.ireturn, 1) := by decide +kernel
theorem dX5_put_0 : decode cX5_put 0 = .ok (.aload_n 0, 1) := by decide +kernel
theorem dX5_put_1 : decode cX5_put 1 = .ok (.iload_n 1, 1) := by decide +kernel
theorem dX5_put_2 : decode cX5_put 2 = .ok (.invokevirtual 170, 3) := by decide +kernel
theorem dX5_put_5 : decode cX5_put 5 = .ok (.istore 5, 2) := by decide +kernel
theorem dX5_put_7 : decode cX5_put 7 = .ok (.iload 5, 2) := by decide +kernel
theorem dX5_put_9 : decode cX5_put 9 = .ok (.ifCond .eq 15, 3) := by decide +kernel
theorem dX5_put_12 : decode cX5_put 12 = .ok (.aload_n 0, 1) := by decide +kernel
theorem dX5_put_13 : decode cX5_put 13 = .ok (.iload_n 1, 1) := by decide +kernel
theorem dX5_put_14 : decode cX5_put 14 = .ok (.invokevirtual 173, 3) := by decide +kernel
theorem dX5_put_17 : decode cX5_put 17 = .ok (.ifCond .eq 7, 3) := by decide +kernel
theorem dX5_put_20 : decode cX5_put 20 = .ok (.iconst 1, 1) := by decide +kernel
theorem dX5_put_21 : decode cX5_put 21 = .ok (.goto 4, 3) := by decide +kernel
theorem dX5_put_24 : decode cX5_put 24 = .ok (.iconst 0, 1) := by decide +kernel
theorem dX5_put_25 : decode cX5_put 25 = .ok (.istore 6, 2) := by decide +kernel
theorem dX5_put_27 : decode cX5_put 27 = .ok (.aload_n 0, 1) := by decide +kernel
theorem dX5_put_28 : decode cX5_put 28 = .ok (.iload_n 1, 1) := by decide +kernel
theorem dX5_put_29 : decode cX5_put 29 = .ok (.invokestatic 82, 3) := by decide +kernel
theorem dX5_put_32 : decode cX5_put 32 = .ok (.ifCond .ne 7, 3) := by decide +kernel
theorem dX5_put_35 : decode cX5_put 35 = .ok (.iconst 1, 1) := by decide +kernel
theorem dX5_put_36 : decode cX5_put 36 = .ok (.goto 4, 3) := by decide +kernel
theorem dX5_put_39 : decode cX5_put 39 = .ok (.iconst 0, 1) := by decide +kernel
theorem dX5_put_40 : decode cX5_put 40 = .ok (.iload 5, 2) := by decide +kernel
theorem dX5_put_42 : decode cX5_put 42 = .ok (.ifCond .ne 7, 3) := by decide +kernel
theorem dX5_put_45 : decode cX5_put 45 = .ok (.iconst 1, 1) := by decide +kernel
theorem dX5_put_46 : decode cX5_put 46 = .ok (.goto 4, 3) := by decide +kernel
theorem dX5_put_49 : decode cX5_put 49 = .ok (.iconst 0, 1) := by decide +kernel
theorem dX5_put_50 : decode cX5_put 50 = .ok (.iload 6, 2) := by decide +kernel
theorem dX5_put_52 : decode cX5_put 52 = .ok (.ifCond .ne 7, 3) := by decide +kernel
theorem dX5_put_55 : decode cX5_put 55 = .ok (.iconst 1, 1) := by decide +kernel
theorem dX5_put_56 : decode cX5_put 56 = .ok (.goto 4, 3) := by decide +kernel
theorem dX5_put_59 : decode cX5_put 59 = .ok (.iconst 0, 1) := by decide +kernel
theorem dX5_put_60 : decode cX5_put 60 = .ok (.iload 6, 2) := by decide +kernel
theorem dX5_put_62 : decode cX5_put 62 = .ok (.ifCond .eq 26, 3) := by decide +kernel
theorem dX5_put_65 : decode cX5_put 65 = .ok (.aload_n 0, 1) := by decide +kernel
theorem dX5_put_66 : decode cX5_put 66 = .ok (.iload_n 1, 1) := by decide +kernel
theorem dX5_put_67 : decode cX5_put 67 = .ok (.iload_n 2, 1) := by decide +kernel
theorem dX5_put_68 : decode cX5_put 68 = .ok (.iconst 1, 1) := by decide +kernel
theorem dX5_put_69 : decode cX5_put 69 = .ok (.invokevirtual 176, 3) := by decide +kernel
theorem dX5_put_72 : decode cX5_put 72 = .ok (.ifCond .eq 12, 3) := by decide +kernel
theorem dX5_put_75 : decode cX5_put 75 = .ok (.iload_n 3, 1) := by decide +kernel
theorem dX5_put_76 : decode cX5_put 76 = .ok (.iload 4, 2) := by decide +kernel
theorem dX5_put_78 : decode cX5_put 78 = .ok (.invokestatic 148, 3) := by decide +kernel
theorem dX5_put_81 : decode cX5_put 81 = .ok (.ifCond .ne 7, 3) := by decide +kernel
theorem dX5_put_84 : decode cX5_put 84 = .ok (.iconst 1, 1) := by decide +kernel
theorem dX5_put_85 : decode cX5_put 85 = .ok (.goto 4, 3) := by decide +kernel
theorem dX5_put_88 : decode cX5_put 88 = .ok (.iconst 0, 1) := by decide +kernel
theorem dX5_put_89 : decode cX5_put 89 = .ok (.iload 6, 2) := by decide +kernel
theorem dX5_put_91 : decode cX5_put 91 = .ok (.ifCond .eq 16, 3) := by decide +kernel
theorem dX5_put_94 : decode cX5_put 94 = .ok (.aload_n 0, 1) := by decide +kernel
theorem dX5_put_95 : decode cX5_put 95 = .ok (.iload_n 1, 1) := by decide +kernel
theorem dX5_put_96 : decode cX5_put 96 = .ok (.iconst 1, 1) := by decide +kernel
theorem dX5_put_97 : decode cX5_put 97 = .ok (.invokevirtual 179, 3) := by decide +kernel
theorem dX5_put_100 : decode cX5_put 100 = .ok (.ifCond .ne 7, 3) := by decide +kernel
theorem dX5_put_103 : decode cX5_put 103 = .ok (.iconst 1, 1) := by decide +kernel
theorem dX5_put_104 : decode cX5_put 104 = .ok (.goto 4, 3) := by decide +kernel
theorem dX5_put_107 : decode cX5_put 107 = .ok (.iconst 0, 1) := by decide +kernel
theorem dX5_put_108 : decode cX5_put 108 = .ok (.invokevirtual 135, 3) := by decide +kernel
theorem dX5_put_111 : decode cX5_put 111 = .ok (.ifCond .eq 5, 3) := by decide +kernel
theorem dX5_put_114 : decode cX5_put 114 = .ok (.iconst 0, 1) := by decide +kernel
theorem dX5_put_115 : decode cX5_put 115 = .ok (.ireturn, 1) := by decide +kernel
theorem dX5_put_116 : decode cX5_put 116 = .ok (.aload_n 0, 1) := by decide +kernel
theorem dX5_put_117 : decode cX5_put 117 = .ok (.iconst 0, 1) := by decide +kernel
theorem dX5_put_118 : decode cX5_put 118 = .ok (.putfield 167, 3) := by decide +kernel
theorem dX5_put_121 : decode cX5_put 121 = .ok (.iconst 0, 1) := by decide +kernel
theorem dX5_put_122 : decode cX5_put 122 = .ok (.istore 7, 2) := by decide +kernel
theorem dX5_put_124 : decode cX5_put 124 = .ok (.iload 7, 2) := by decide +kernel
theorem dX5_put_126 : decode cX5_put 126 = .ok (.aload_n 0, 1) := by decide +kernel
theorem dX5_put_127 : decode cX5_put 127 = .ok (.iload_n 1, 1) := by decide +kernel
theorem dX5_put_128 : decode cX5_put 128 = .ok (.invokevirtual 116, 3) := by decide +kernel
theorem dX5_put_131 : decode cX5_put 131 = .ok (.if_icmp .gt 50, 3) := by decide +kernel
theorem dX5_put_134 : decode cX5_put 134 = .ok (.iload 7, 2) := by decide +kernel
theorem dX5_put_136 : decode cX5_put 136 = .ok (.iload_n 2, 1) := by decide +kernel
theorem dX5_put_137 : decode cX5_put 137 = .ok (.if_icmp .ne 10, 3) := by decide +kernel
theorem dX5_put_140 : decode cX5_put 140 = .ok (.aload_n 0, 1) := by decide +kernel
theorem dX5_put_141 : decode cX5_put 141 = .ok (.iload_n 3, 1) := by decide +kernel
theorem dX5_put_142 : decode cX5_put 142 = .ok (.iload 4, 2) := by decide +kernel
theorem dX5_put_144 : decode cX5_put 144 = .ok (.invokevirtual 182, 3) := by decide +kernel
theorem dX5_put_147 : decode cX5_put 147 = .ok (.iload 7, 2) := by decide +kernel
theorem dX5_put_149 : decode cX5_put 149 = .ok (.aload_n 0, 1) := by decide +kernel
theorem dX5_put_150 : decode cX5_put 150 = .ok (.iload_n 1, 1) := by decide +kernel
theorem dX5_put_151 : decode cX5_put 151 = .ok (.invokevirtual 116, 3) := by decide +kernel
theorem dX5_put_154 : decode cX5_put 154 = .ok (.if_icmp .ge 21, 3) := by decide +kernel
theorem dX5_put_157 : decode cX5_put 157 = .ok (.aload_n 0, 1) := by decide +kernel
theorem dX5_put_158 : decode cX5_put 158 = .ok (.aload_n 0, 1) := by decide +kernel
theorem dX5_put_159 : decode cX5_put 159 = .ok (.iload_n 1, 1) := by decide +kernel
theorem dX5_put_160 : decode cX5_put 160 = .ok (.iload 7, 2) := by decide +kernel
theorem dX5_put_162 : decode cX5_put 162 = .ok (.invokevirtual 109, 3) := by decide +kernel
theorem dX5_put_165 : decode cX5_put 165 = .ok (.aload_n 0, 1) := by decide +kernel
theorem dX5_put_166 : decode cX5_put 166 = .ok (.iload_n 1, 1) := by decide +kernel
theorem dX5_put_167 : decode cX5_put 167 = .ok (.iload 7, 2) := by decide +kernel
theorem dX5_put_169 : decode cX5_put 169 = .ok (.invokevirtual 113, 3) := by decide +kernel
theorem dX5_put_172 : decode cX5_put 172 = .ok (.invokevirtual 182, 3) := by decide +kernel
theorem dX5_put_175 : decode cX5_put 175 = .ok (.iinc 7 1, 3) := by decide +kernel
theorem dX5_put_178 : decode cX5_put 178 = .ok (.goto (-54), 3) := by decide +kernel
theorem dX5_put_181 : decode cX5_put 181 = .ok (.aload_n 0, 1) := by decide +kernel
theorem dX5_put_182 : decode cX5_put 182 = .ok (.iload_n 1, 1) := by decide +kernel
theorem dX5_put_183 : decode cX5_put 183 = .ok (.aload_n 0, 1) := by decide +kernel
theorem dX5_put_184 : decode cX5_put 184 = .ok (.getfield 68, 3) := by decide +kernel
theorem dX5_put_187 : decode cX5_put 187 = .ok (.aload_n 0, 1) := by decide +kernel
theorem dX5_put_188 : decode cX5_put 188 = .ok (.getfield 71, 3) := by decide +kernel
theorem dX5_put_191 : decode cX5_put 191 = .ok (.aload_n 0, 1) := by decide +kernel
theorem dX5_put_192 : decode cX5_put 192 = .ok (.getfield 167, 3) := by decide +kernel
theorem dX5_put_195 : decode cX5_put 195 = .ok (.invokevirtual 185, 3) := by decide +kernel
theorem dX5_put_198 : decode cX5_put 198 = .ok (.aload_n 0, 1) := by decide +kernel
theorem dX5_put_199 : decode cX5_put 199 = .ok (.iload_n 1, 1) := by decide +kernel
theorem dX5_put_200 : decode cX5_put 200 = .ok (.invokevirtual 116, 3) := by decide +kernel
theorem dX5_put_203 : decode cX5_put 203 = .ok (.ireturn, 1) := by decide +kernel
theorem dX5_set_0 : decode cX5_set 0 = .ok (.aload_n 0, 1) := by decide +kernel
theorem dX5_set_1 : decode cX5_set 1 = .ok (.iload_n 1, 1) := by decide +kernel
theorem dX5_set_2 : decode cX5_set 2 = .ok (.invokevirtual 170, 3) := by decide +kernel
theorem dX5_set_5 : decode cX5_set 5 = .ok (.istore 5, 2) := by decide +kernel
theorem dX5_set_7 : decode cX5_set 7 = .ok (.iload 5, 2) := by decide +kernel
theorem dX5_set_9 : decode cX5_set 9 = .ok (.ifCond .eq 15, 3) := by decide +kernel
theorem dX5_set_12 : decode cX5_set 12 = .ok (.aload_n 0, 1) := by decide +kernel
theorem dX5_set_13 : decode cX5_set 13 = .ok (.iload_n 1, 1) := by decide +kernel
theorem dX5_set_14 : decode cX5_set 14 = .ok (.invokevirtual 173, 3) := by decide +kernel
theorem dX5_set_17 : decode cX5_set 17 = .ok (.ifCond .eq 7, 3) := by decide +kernel
theorem dX5_set_20 : decode cX5_set 20 = .ok (.iconst 1, 1) := by decide +kernel
theorem dX5_set_21 : decode cX5_set 21 = .ok (.goto 4, 3) := by decide +kernel
theorem dX5_set_24 : decode cX5_set 24 = .ok (.iconst 0, 1) := by decide +kernel
theorem dX5_set_25 : decode cX5_set 25 = .ok (.istore 6, 2) := by decide +kernel
theorem dX5_set_27 : decode cX5_set 27 = .ok (.aload_n 0, 1) := by decide +kernel
theorem dX5_set_28 : decode cX5_set 28 = .ok (.iload_n 1, 1) := by decide +kernel
theorem dX5_set_29 : decode cX5_set 29 = .ok (.invokestatic 82, 3) := by decide +kernel
theorem dX5_set_32 : decode cX5_set 32 = .ok (.ifCond .ne 7, 3) := by decide +kernel
theorem dX5_set_35 : decode cX5_set 35 = .ok (.iconst 1, 1) := by decide +kernel
theorem dX5_set_36 : decode cX5_set 36 = .ok (.goto 4, 3) := by decide +kernel
theorem dX5_set_39 : decode cX5_set 39 = .ok (.iconst 0, 1) := by decide +kernel
theorem dX5_set_40 : decode cX5_set 40 = .ok (.iload 5, 2) := by decide +kernel
theorem dX5_set_42 : decode cX5_set 42 = .ok (.ifCond .ne 7, 3) := by decide +kernel
theorem dX5_set_45 : decode cX5_set 45 = .ok (.iconst 1, 1) := by decide +kernel
theorem dX5_set_46 : decode cX5_set 46 = .ok (.goto 4, 3) := by decide +kernel
theorem dX5_set_49 : decode cX5_set 49 = .ok (.iconst 0, 1) := by decide +kernel
theorem dX5_set_50 : decode cX5_set 50 = .ok (.iload 6, 2) := by decide +kernel
theorem dX5_set_52 : decode cX5_set 52 = .ok (.ifCond .ne 7, 3) := by decide +kernel
theorem dX5_set_55 : decode cX5_set 55 = .ok (.iconst 1, 1) := by decide +kernel
theorem dX5_set_56 : decode cX5_set 56 = .ok (.goto 4, 3) := by decide +kernel
theorem dX5_set_59 : decode cX5_set 59 = .ok (.iconst 0, 1) := by decide +kernel
theorem dX5_set_60 : decode cX5_set 60 = .ok (.iload 6, 2) := by decide +kernel
theorem dX5_set_62 : decode cX5_set 62 = .ok (.ifCond .eq 26, 3) := by decide +kernel
theorem dX5_set_65 : decode cX5_set 65 = .ok (.aload_n 0, 1) := by decide +kernel
theorem dX5_set_66 : decode cX5_set 66 = .ok (.iload_n 1, 1) := by decide +kernel
theorem dX5_set_67 : decode cX5_set 67 = .ok (.iload_n 2, 1) := by decide +kernel
theorem dX5_set_68 : decode cX5_set 68 = .ok (.iconst 0, 1) := by decide +kernel
theorem dX5_set_69 : decode cX5_set 69 = .ok (.invokevirtual 176, 3) := by decide +kernel
theorem dX5_set_72 : decode cX5_set 72 = .ok (.ifCond .eq 12, 3) := by decide +kernel
theorem dX5_set_75 : decode cX5_set 75 = .ok (.iload_n 3, 1) := by decide +kernel
theorem dX5_set_76 : decode cX5_set 76 = .ok (.iload 4, 2) := by decide +kernel
theorem dX5_set_78 : decode cX5_set 78 = .ok (.invokestatic 148, 3) := by decide +kernel
theorem dX5_set_81 : decode cX5_set 81 = .ok (.ifCond .ne 7, 3) := by decide +kernel
theorem dX5_set_84 : decode cX5_set 84 = .ok (.iconst 1, 1) := by decide +kernel
theorem dX5_set_85 : decode cX5_set 85 = .ok (.goto 4, 3) := by decide +kernel
theorem dX5_set_88 : decode cX5_set 88 = .ok (.iconst 0, 1) := by decide +kernel
theorem dX5_set_89 : decode cX5_set 89 = .ok (.iconst 0, 1) := by decide +kernel
theorem dX5_set_90 : decode cX5_set 90 = .ok (.invokevirtual 135, 3) := by decide +kernel
theorem dX5_set_93 : decode cX5_set 93 = .ok (.ifCond .eq 5, 3) := by decide +kernel
theorem dX5_set_96 : decode cX5_set 96 = .ok (.iconst 0, 1) := by decide +kernel
theorem dX5_set_97 : decode cX5_set 97 = .ok (.ireturn, 1) := by decide +kernel
theorem dX5_set_98 : decode cX5_set 98 = .ok (.aload_n 0, 1) := by decide +kernel
theorem dX5_set_99 : decode cX5_set 99 = .ok (.iload_n 1, 1) := by decide +kernel
theorem dX5_set_100 : decode cX5_set 100 = .ok (.iload_n 2, 1) := by decide +kernel
theorem dX5_set_101 : decode cX5_set 101 = .ok (.invokevirtual 189, 3) := by decide +kernel
theorem dX5_set_104 : decode cX5_set 104 = .ok (.istore 7, 2) := by decide +kernel
theorem dX5_set_106 : decode cX5_set 106 = .ok (.aload_n 0, 1) := by decide +kernel
theorem dX5_set_107 : decode cX5_set 107 = .ok (.getfield 11, 3) := by decide +kernel
theorem dX5_set_110 : decode cX5_set 110 = .ok (.aload_n 0, 1) := by decide +kernel
theorem dX5_set_111 : decode cX5_set 111 = .ok (.getfield 53, 3) := by decide +kernel
theorem dX5_set_114 : decode cX5_set 114 = .ok (.iload_n 1, 1) := by decide +kernel
theorem dX5_set_115 : decode cX5_set 115 = .ok (.iaload, 1) := by decide +kernel
theorem dX5_set_116 : decode cX5_set 116 = .ok (.aaload, 1) := by decide +kernel
theorem dX5_set_117 : decode cX5_set 117 = .ok (.aload_n 0, 1) := by decide +kernel
theorem dX5_set_118 : decode cX5_set 118 = .ok (.iload_n 1, 1) := by decide +kernel
theorem dX5_set_119 : decode cX5_set 119 = .ok (.invokevirtual 106, 3) := by decide +kernel
theorem dX5_set_122 : decode cX5_set 122 = .ok (.iload_n 2, 1) := by decide +kernel
theorem dX5_set_123 : decode cX5_set 123 = .ok (.iadd, 1) := by decide +kernel
theorem dX5_set_124 : decode cX5_set 124 = .ok (.iload_n 3, 1) := by decide +kernel
theorem dX5_set_125 : decode cX5_set 125 = .ok (.iastore, 1) := by decide +kernel
theorem dX5_set_126 : decode cX5_set 126 = .ok (.aload_n 0, 1) := by decide +kernel
theorem dX5_set_127 : decode cX5_set 127 = .ok (.getfield 14, 3) := by decide +kernel
theorem dX5_set_130 : decode cX5_set 130 = .ok (.aload_n 0, 1) := by decide +kernel
theorem dX5_set_131 : decode cX5_set 131 = .ok (.getfield 53, 3) := by decide +kernel
theorem dX5_set_134 : decode cX5_set 134 = .ok (.iload_n 1, 1) := by decide +kernel
theorem dX5_set_135 : decode cX5_set 135 = .ok (.iaload, 1) := by decide +kernel
theorem dX5_set_136 : decode cX5_set 136 = .ok (.aaload, 1) := by decide +kernel
theorem dX5_set_137 : decode cX5_set 137 = .ok (.aload_n 0, 1) := by decide +kernel
theorem dX5_set_138 : decode cX5_set 138 = .ok (.iload_n 1, 1) := by decide +kernel
theorem dX5_set_139 : decode cX5_set 139 = .ok (.invokevirtual 106, 3) := by decide +kernel
theorem dX5_set_142 : decode cX5_set 142 = .ok (.iload_n 2, 1) := by decide +kernel
theorem dX5_set_143 : decode cX5_set 143 = .ok (.iadd, 1) := by decide +kernel
theorem dX5_set_144 : decode cX5_set 144 = .ok (.iload 4, 2) := by decide +kernel
theorem dX5_set_146 : decode cX5_set 146 = .ok (.iastore, 1) := by decide +kernel
theorem dX5_set_147 : decode cX5_set 147 = .ok (.iload 7, 2) := by decide +kernel
theorem dX5_set_149 : decode cX5_set 149 = .ok (.ireturn, 1) := by decide +kernel
theorem dX5_take_0 : decode cX5_take 0 = .ok (.aload_n 0, 1) := by decide +kernel
theorem dX5_take_1 : decode cX5_take 1 = .ok (.iload_n 1, 1) := by decide +kernel
theorem dX5_take_2 : decode cX5_take 2 = .ok (.invokevirtual 170, 3) := by decide +kernel
theorem dX5_take_5 : decode cX5_take 5 = .ok (.istore_n 3, 1) := by decide +kernel
theorem dX5_take_6 : decode cX5_take 6 = .ok (.iload_n 3, 1) := by decide +kernel
theorem dX5_take_7 : decode cX5_take 7 = .ok (.ifCond .eq 15, 3) := by decide +kernel
theorem dX5_take_10 : decode cX5_take 10 = .ok (.aload_n 0, 1) := by decide +kernel
theorem dX5_take_11 : decode cX5_take 11 = .ok (.iload_n 1, 1) := by decide +kernel
theorem dX5_take_12 : decode cX5_take 12 = .ok (.invokevirtual 173, 3) := by decide +kernel
theorem dX5_take_15 : decode cX5_take 15 = .ok (.ifCond .eq 7, 3) := by decide +kernel
theorem dX5_take_18 : decode cX5_take 18 = .ok (.iconst 1, 1) := by decide +kernel
theorem dX5_take_19 : decode cX5_take 19 = .ok (.goto 4, 3) := by decide +kernel
theorem dX5_take_22 : decode cX5_take 22 = .ok (.iconst 0, 1) := by decide +kernel
theorem dX5_take_23 : decode cX5_take 23 = .ok (.istore 4, 2) := by decide +kernel
theorem dX5_take_25 : decode cX5_take 25 = .ok (.aload_n 0, 1) := by decide +kernel
theorem dX5_take_26 : decode cX5_take 26 = .ok (.iload_n 1, 1) := by decide +kernel
theorem dX5_take_27 : decode cX5_take 27 = .ok (.invokestatic 82, 3) := by decide +kernel
theorem dX5_take_30 : decode cX5_take 30 = .ok (.ifCond .ne 7, 3) := by decide +kernel
theorem dX5_take_33 : decode cX5_take 33 = .ok (.iconst 1, 1) := by decide +kernel
theorem dX5_take_34 : decode cX5_take 34 = .ok (.goto 4, 3) := by decide +kernel
theorem dX5_take_37 : decode cX5_take 37 = .ok (.iconst 0, 1) := by decide +kernel
theorem dX5_take_38 : decode cX5_take 38 = .ok (.iload_n 3, 1) := by decide +kernel
theorem dX5_take_39 : decode cX5_take 39 = .ok (.ifCond .ne 7, 3) := by decide +kernel
theorem dX5_take_42 : decode cX5_take 42 = .ok (.iconst 1, 1) := by decide +kernel
theorem dX5_take_43 : decode cX5_take 43 = .ok (.goto 4, 3) := by decide +kernel
theorem dX5_take_46 : decode cX5_take 46 = .ok (.iconst 0, 1) := by decide +kernel
theorem dX5_take_47 : decode cX5_take 47 = .ok (.iload 4, 2) := by decide +kernel
theorem dX5_take_49 : decode cX5_take 49 = .ok (.ifCond .ne 7, 3) := by decide +kernel
theorem dX5_take_52 : decode cX5_take 52 = .ok (.iconst 1, 1) := by decide +kernel
theorem dX5_take_53 : decode cX5_take 53 = .ok (.goto 4, 3) := by decide +kernel
theorem dX5_take_56 : decode cX5_take 56 = .ok (.iconst 0, 1) := by decide +kernel
theorem dX5_take_57 : decode cX5_take 57 = .ok (.iload 4, 2) := by decide +kernel
theorem dX5_take_59 : decode cX5_take 59 = .ok (.ifCond .eq 17, 3) := by decide +kernel
theorem dX5_take_62 : decode cX5_take 62 = .ok (.aload_n 0, 1) := by decide +kernel
theorem dX5_take_63 : decode cX5_take 63 = .ok (.iload_n 1, 1) := by decide +kernel
theorem dX5_take_64 : decode cX5_take 64 = .ok (.iload_n 2, 1) := by decide +kernel
theorem dX5_take_65 : decode cX5_take 65 = .ok (.iconst 0, 1) := by decide +kernel
theorem dX5_take_66 : decode cX5_take 66 = .ok (.invokevirtual 176, 3) := by decide +kernel
theorem dX5_take_69 : decode cX5_take 69 = .ok (.ifCond .ne 7, 3) := by decide +kernel
theorem dX5_take_72 : decode cX5_take 72 = .ok (.iconst 1, 1) := by decide +kernel
theorem dX5_take_73 : decode cX5_take 73 = .ok (.goto 4, 3) := by decide +kernel
theorem dX5_take_76 : decode cX5_take 76 = .ok (.iconst 0, 1) := by decide +kernel
theorem dX5_take_77 : decode cX5_take 77 = .ok (.iconst 0, 1) := by decide +kernel
theorem dX5_take_78 : decode cX5_take 78 = .ok (.invokevirtual 135, 3) := by decide +kernel
theorem dX5_take_81 : decode cX5_take 81 = .ok (.ifCond .eq 5, 3) := by decide +kernel
theorem dX5_take_84 : decode cX5_take 84 = .ok (.iconst 0, 1) := by decide +kernel
theorem dX5_take_85 : decode cX5_take 85 = .ok (.ireturn, 1) := by decide +kernel
theorem dX5_take_86 : decode cX5_take 86 = .ok (.aload_n 0, 1) := by decide +kernel
theorem dX5_take_87 : decode cX5_take 87 = .ok (.iload_n 1, 1) := by decide +kernel
theorem dX5_take_88 : decode cX5_take 88 = .ok (.iload_n 2, 1) := by decide +kernel
theorem dX5_take_89 : decode cX5_take 89 = .ok (.invokevirtual 189, 3) := by decide +kernel
theorem dX5_take_92 : decode cX5_take 92 = .ok (.istore 5, 2) := by decide +kernel
theorem dX5_take_94 : decode cX5_take 94 = .ok (.aload_n 0, 1) := by decide +kernel
theorem dX5_take_95 : decode cX5_take 95 = .ok (.iload_n 1, 1) := by decide +kernel
theorem dX5_take_96 : decode cX5_take 96 = .ok (.iload_n 2, 1) := by decide +kernel
theorem dX5_take_97 : decode cX5_take 97 = .ok (.invokevirtual 192, 3) := by decide +kernel
theorem dX5_take_100 : decode cX5_take 100 = .ok (.iload 5, 2) := by decide +kernel
theorem dX5_take_102 : decode cX5_take 102 = .ok (.ireturn, 1) := by decide +kernel
theorem dX5_leaves_0 : decode cX5_leaves 0 = .ok (.aload_n 0, 1) := by decide +kernel
theorem dX5_leaves_1 : decode cX5_leaves 1 = .ok (.iconst 0, 1) := by decide +kernel
theorem dX5_leaves_2 : decode cX5_leaves 2 = .ok (.putfield 167, 3) := by decide +kernel
theorem dX5_leaves_5 : decode cX5_leaves 5 = .ok (.iconst 0, 1) := by decide +kernel
theorem dX5_leaves_6 : decode cX5_leaves 6 = .ok (.istore_n 3, 1) := by decide +kernel
theorem dX5_leaves_7 : decode cX5_leaves 7 = .ok (.iload_n 3, 1) := by decide +kernel
theorem dX5_leaves_8 : decode cX5_leaves 8 = .ok (.aload_n 0, 1) := by decide +kernel
theorem dX5_leaves_9 : decode cX5_leaves 9 = .ok (.iload_n 1, 1) := by decide +kernel
theorem dX5_leaves_10 : decode cX5_leaves 10 = .ok (.invokevirtual 116, 3) := by decide +kernel
theorem dX5_leaves_13 : decode cX5_leaves 13 = .ok (.if_icmp .ge 30, 3) := by decide +kernel
theorem dX5_leaves_16 : decode cX5_leaves 16 = .ok (.iload_n 3, 1) := by decide +kernel
theorem dX5_leaves_17 : decode cX5_leaves 17 = .ok (.iload_n 2, 1) := by decide +kernel
theorem dX5_leaves_18 : decode cX5_leaves 18 = .ok (.if_icmp .eq 19, 3) := by decide +kernel
theorem dX5_leaves_21 : decode cX5_leaves 21 = .ok (.aload_n 0, 1) := by decide +kernel
theorem dX5_leaves_22 : decode cX5_leaves 22 = .ok (.aload_n 0, 1) := by decide +kernel
theorem dX5_leaves_23 : decode cX5_leaves 23 = .ok (.iload_n 1, 1) := by decide +kernel
theorem dX5_leaves_24 : decode cX5_leaves 24 = .ok (.iload_n 3, 1) := by decide +kernel
theorem dX5_leaves_25 : decode cX5_leaves 25 = .ok (.invokevirtual 109, 3) := by decide +kernel
theorem dX5_leaves_28 : decode cX5_leaves 28 = .ok (.aload_n 0, 1) := by decide +kernel
theorem dX5_leaves_29 : decode cX5_leaves 29 = .ok (.iload_n 1, 1) := by decide +kernel
theorem dX5_leaves_30 : decode cX5_leaves 30 = .ok (.iload_n 3, 1) := by decide +kernel
theorem dX5_leaves_31 : decode cX5_leaves 31 = .ok (.invokevirtual 113, 3) := by decide +kernel
theorem dX5_leaves_34 : decode cX5_leaves 34 = .ok (.invokevirtual 182, 3) := by decide +kernel
theorem dX5_leaves_37 : decode cX5_leaves 37 = .ok (.iinc 3 1, 3) := by decide +kernel
theorem dX5_leaves_40 : decode cX5_leaves 40 = .ok (.goto (-33), 3) := by decide +kernel
theorem dX5_leaves_43 : decode cX5_leaves 43 = .ok (.aload_n 0, 1) := by decide +kernel
theorem dX5_leaves_44 : decode cX5_leaves 44 = .ok (.iload_n 1, 1) := by decide +kernel
theorem dX5_leaves_45 : decode cX5_leaves 45 = .ok (.aload_n 0, 1) := by decide +kernel
theorem dX5_leaves_46 : decode cX5_leaves 46 = .ok (.getfield 68, 3) := by decide +kernel
theorem dX5_leaves_49 : decode cX5_leaves 49 = .ok (.aload_n 0, 1) := by decide +kernel
theorem dX5_leaves_50 : decode cX5_leaves 50 = .ok (.getfield 71, 3) := by decide +kernel
theorem dX5_leaves_53 : decode cX5_leaves 53 = .ok (.aload_n 0, 1) := by decide +kernel
theorem dX5_leaves_54 : decode cX5_leaves 54 = .ok (.getfield 167, 3) := by decide +kernel
theorem dX5_leaves_57 : decode cX5_leaves 57 = .ok (.invokevirtual 185, 3) := by decide +kernel
theorem dX5_leaves_60 : decode cX5_leaves 60 = .ok (.return_, 1) := by decide +kernel
theorem dX5_firstOf_0 : decode cX5_firstOf 0 = .ok (.iconst 0, 1) := by decide +kernel
theorem dX5_firstOf_1 : decode cX5_firstOf 1 = .ok (.istore 4, 2) := by decide +kernel
theorem dX5_firstOf_3 : decode cX5_firstOf 3 = .ok (.iload 4, 2) := by decide +kernel
theorem dX5_firstOf_5 : decode cX5_firstOf 5 = .ok (.aload_n 0, 1) := by decide +kernel
theorem dX5_firstOf_6 : decode cX5_firstOf 6 = .ok (.iload_n 1, 1) := by decide +kernel
theorem dX5_firstOf_7 : decode cX5_firstOf 7 = .ok (.invokevirtual 116, 3) := by decide +kernel
theorem dX5_firstOf_10 : decode cX5_firstOf 10 = .ok (.if_icmp .ge 24, 3) := by decide +kernel
theorem dX5_firstOf_13 : decode cX5_firstOf 13 = .ok (.aload_n 0, 1) := by decide +kernel
theorem dX5_firstOf_14 : decode cX5_firstOf 14 = .ok (.iload_n 1, 1) := by decide +kernel
theorem dX5_firstOf_15 : decode cX5_firstOf 15 = .ok (.iload 4, 2) := by decide +kernel
theorem dX5_firstOf_17 : decode cX5_firstOf 17 = .ok (.iload_n 2, 1) := by decide +kernel
theorem dX5_firstOf_18 : decode cX5_firstOf 18 = .ok (.iload_n 3, 1) := by decide +kernel
theorem dX5_firstOf_19 : decode cX5_firstOf 19 = .ok (.invokevirtual 119, 3) := by decide +kernel
theorem dX5_firstOf_22 : decode cX5_firstOf 22 = .ok (.ifCond .eq 6, 3) := by decide +kernel
theorem dX5_firstOf_25 : decode cX5_firstOf 25 = .ok (.iload 4, 2) := by decide +kernel
theorem dX5_firstOf_27 : decode cX5_firstOf 27 = .ok (.ireturn, 1) := by decide +kernel
theorem dX5_firstOf_28 : decode cX5_firstOf 28 = .ok (.iinc 4 1, 3) := by decide +kernel
theorem dX5_firstOf_31 : decode cX5_firstOf 31 = .ok (.goto (-28), 3) := by decide +kernel
theorem dX5_firstOf_34 : decode cX5_firstOf 34 = .ok (.iconst (-1), 1) := by decide +kernel
theorem dX5_firstOf_35 : decode cX5_firstOf 35 = .ok (.ireturn, 1) := by decide +kernel
theorem dX5_areUnlike_0 : decode cX5_areUnlike 0 = .ok (.iconst 1, 1) := by decide +kernel
theorem dX5_areUnlike_1 : decode cX5_areUnlike 1 = .ok (.istore_n 2, 1) := by decide +kernel
theorem dX5_areUnlike_2 : decode cX5_areUnlike 2 = .ok (.iconst 0, 1) := by decide +kernel
theorem dX5_areUnlike_3 : decode cX5_areUnlike 3 = .ok (.istore_n 3, 1) := by decide +kernel
theorem dX5_areUnlike_4 : decode cX5_areUnlike 4 = .ok (.iload_n 3, 1) := by decide +kernel
theorem dX5_areUnlike_5 : decode cX5_areUnlike 5 = .ok (.aload_n 0, 1) := by decide +kernel
theorem dX5_areUnlike_6 : decode cX5_areUnlike 6 = .ok (.iload_n 1, 1) := by decide +kernel
theorem dX5_areUnlike_7 : decode cX5_areUnlike 7 = .ok (.invokevirtual 116, 3) := by decide +kernel
theorem dX5_areUnlike_10 : decode cX5_areUnlike 10 = .ok (.if_icmp .ge 40, 3) := by decide +kernel
theorem dX5_areUnlike_13 : decode cX5_areUnlike 13 = .ok (.iload_n 2, 1) := by decide +kernel
theorem dX5_areUnlike_14 : decode cX5_areUnlike 14 = .ok (.ifCond .eq 28, 3) := by decide +kernel
theorem dX5_areUnlike_17 : decode cX5_areUnlike 17 = .ok (.aload_n 0, 1) := by decide +kernel
theorem dX5_areUnlike_18 : decode cX5_areUnlike 18 = .ok (.iload_n 1, 1) := by decide +kernel
theorem dX5_areUnlike_19 : decode cX5_areUnlike 19 = .ok (.aload_n 0, 1) := by decide +kernel
theorem dX5_areUnlike_20 : decode cX5_areUnlike 20 = .ok (.iload_n 1, 1) := by decide +kernel
theorem dX5_areUnlike_21 : decode cX5_areUnlike 21 = .ok (.iload_n 3, 1) := by decide +kernel
theorem dX5_areUnlike_22 : decode cX5_areUnlike 22 = .ok (.invokevirtual 109, 3) := by decide +kernel
theorem dX5_areUnlike_25 : decode cX5_areUnlike 25 = .ok (.aload_n 0, 1) := by decide +kernel
theorem dX5_areUnlike_26 : decode cX5_areUnlike 26 = .ok (.iload_n 1, 1) := by decide +kernel
theorem dX5_areUnlike_27 : decode cX5_areUnlike 27 = .ok (.iload_n 3, 1) := by decide +kernel
theorem dX5_areUnlike_28 : decode cX5_areUnlike 28 = .ok (.invokevirtual 113, 3) := by decide +kernel
theorem dX5_areUnlike_31 : decode cX5_areUnlike 31 = .ok (.invokevirtual 195, 3) := by decide +kernel
theorem dX5_areUnlike_34 : decode cX5_areUnlike 34 = .ok (.iload_n 3, 1) := by decide +kernel
theorem dX5_areUnlike_35 : decode cX5_areUnlike 35 = .ok (.if_icmp .ne 7, 3) := by decide +kernel
theorem dX5_areUnlike_38 : decode cX5_areUnlike 38 = .ok (.iconst 1, 1) := by decide +kernel
theorem dX5_areUnlike_39 : decode cX5_areUnlike 39 = .ok (.goto 4, 3) := by decide +kernel
theorem dX5_areUnlike_42 : decode cX5_areUnlike 42 = .ok (.iconst 0, 1) := by decide +kernel
theorem dX5_areUnlike_43 : decode cX5_areUnlike 43 = .ok (.istore_n 2, 1) := by decide +kernel
theorem dX5_areUnlike_44 : decode cX5_areUnlike 44 = .ok (.iinc 3 1, 3) := by decide +kernel
theorem dX5_areUnlike_47 : decode cX5_areUnlike 47 = .ok (.goto (-43), 3) := by decide +kernel
theorem dX5_areUnlike_50 : decode cX5_areUnlike 50 = .ok (.iload_n 2, 1) := by decide +kernel
theorem dX5_areUnlike_51 : decode cX5_areUnlike 51 = .ok (.ireturn, 1) := by decide +kernel
theorem dX5_drop_0 : decode cX5_drop 0 = .ok (.aload_n 0, 1) := by decide +kernel
theorem dX5_drop_1 : decode cX5_drop 1 = .ok (.iload_n 1, 1) := by decide +kernel
theorem dX5_drop_2 : decode cX5_drop 2 = .ok (.invokevirtual 199, 3) := by decide +kernel
theorem dX5_drop_5 : decode cX5_drop 5 = .ok (.istore 4, 2) := by decide +kernel
theorem dX5_drop_7 : decode cX5_drop 7 = .ok (.iload 4, 2) := by decide +kernel
theorem dX5_drop_9 : decode cX5_drop 9 = .ok (.ifCond .eq 15, 3) := by decide +kernel
theorem dX5_drop_12 : decode cX5_drop 12 = .ok (.aload_n 0, 1) := by decide +kernel
theorem dX5_drop_13 : decode cX5_drop 13 = .ok (.iload_n 1, 1) := by decide +kernel
theorem dX5_drop_14 : decode cX5_drop 14 = .ok (.invokevirtual 173, 3) := by decide +kernel
theorem dX5_drop_17 : decode cX5_drop 17 = .ok (.ifCond .eq 7, 3) := by decide +kernel
theorem dX5_drop_20 : decode cX5_drop 20 = .ok (.iconst 1, 1) := by decide +kernel
theorem dX5_drop_21 : decode cX5_drop 21 = .ok (.goto 4, 3) := by decide +kernel
theorem dX5_drop_24 : decode cX5_drop 24 = .ok (.iconst 0, 1) := by decide +kernel
theorem dX5_drop_25 : decode cX5_drop 25 = .ok (.istore 5, 2) := by decide +kernel
theorem dX5_drop_27 : decode cX5_drop 27 = .ok (.aload_n 0, 1) := by decide +kernel
theorem dX5_drop_28 : decode cX5_drop 28 = .ok (.iload_n 1, 1) := by decide +kernel
theorem dX5_drop_29 : decode cX5_drop 29 = .ok (.invokestatic 82, 3) := by decide +kernel
theorem dX5_drop_32 : decode cX5_drop 32 = .ok (.ifCond .ne 7, 3) := by decide +kernel
theorem dX5_drop_35 : decode cX5_drop 35 = .ok (.iconst 1, 1) := by decide +kernel
theorem dX5_drop_36 : decode cX5_drop 36 = .ok (.goto 4, 3) := by decide +kernel
theorem dX5_drop_39 : decode cX5_drop 39 = .ok (.iconst 0, 1) := by decide +kernel
theorem dX5_drop_40 : decode cX5_drop 40 = .ok (.iload 4, 2) := by decide +kernel
theorem dX5_drop_42 : decode cX5_drop 42 = .ok (.ifCond .ne 7, 3) := by decide +kernel
theorem dX5_drop_45 : decode cX5_drop 45 = .ok (.iconst 1, 1) := by decide +kernel
theorem dX5_drop_46 : decode cX5_drop 46 = .ok (.goto 4, 3) := by decide +kernel
theorem dX5_drop_49 : decode cX5_drop 49 = .ok (.iconst 0, 1) := by decide +kernel
theorem dX5_drop_50 : decode cX5_drop 50 = .ok (.iload 5, 2) := by decide +kernel
theorem dX5_drop_52 : decode cX5_drop 52 = .ok (.ifCond .ne 7, 3) := by decide +kernel
theorem dX5_drop_55 : decode cX5_drop 55 = .ok (.iconst 1, 1) := by decide +kernel
theorem dX5_drop_56 : decode cX5_drop 56 = .ok (.goto 4, 3) := by decide +kernel
theorem dX5_drop_59 : decode cX5_drop 59 = .ok (.iconst 0, 1) := by decide +kernel
theorem dX5_drop_60 : decode cX5_drop 60 = .ok (.iload 5, 2) := by decide +kernel
theorem dX5_drop_62 : decode cX5_drop 62 = .ok (.ifCond .eq 26, 3) := by decide +kernel
theorem dX5_drop_65 : decode cX5_drop 65 = .ok (.aload_n 0, 1) := by decide +kernel
theorem dX5_drop_66 : decode cX5_drop 66 = .ok (.getfield 49, 3) := by decide +kernel
theorem dX5_drop_69 : decode cX5_drop 69 = .ok (.iload_n 1, 1) := by decide +kernel
theorem dX5_drop_70 : decode cX5_drop 70 = .ok (.caload, 1) := by decide +kernel
theorem dX5_drop_71 : decode cX5_drop 71 = .ok (.bipush 118, 2) := by decide +kernel
theorem dX5_drop_73 : decode cX5_drop 73 = .ok (.if_icmp .ne 15, 3) := by decide +kernel
theorem dX5_drop_76 : decode cX5_drop 76 = .ok (.aload_n 0, 1) := by decide +kernel
theorem dX5_drop_77 : decode cX5_drop 77 = .ok (.iload_n 1, 1) := by decide +kernel
theorem dX5_drop_78 : decode cX5_drop 78 = .ok (.invokevirtual 202, 3) := by decide +kernel
theorem dX5_drop_81 : decode cX5_drop 81 = .ok (.ifCond .ne 7, 3) := by decide +kernel
theorem dX5_drop_84 : decode cX5_drop 84 = .ok (.iconst 1, 1) := by decide +kernel
theorem dX5_drop_85 : decode cX5_drop 85 = .ok (.goto 4, 3) := by decide +kernel
theorem dX5_drop_88 : decode cX5_drop 88 = .ok (.iconst 0, 1) := by decide +kernel
theorem dX5_drop_89 : decode cX5_drop 89 = .ok (.iconst 0, 1) := by decide +kernel
theorem dX5_drop_90 : decode cX5_drop 90 = .ok (.invokevirtual 135, 3) := by decide +kernel
theorem dX5_drop_93 : decode cX5_drop 93 = .ok (.ifCond .eq 5, 3) := by decide +kernel
theorem dX5_drop_96 : decode cX5_drop 96 = .ok (.iconst 0, 1) := by decide +kernel
theorem dX5_drop_97 : decode cX5_drop 97 = .ok (.ireturn, 1) := by decide +kernel
theorem dX5_drop_98 : decode cX5_drop 98 = .ok (.aload_n 0, 1) := by decide +kernel
theorem dX5_drop_99 : decode cX5_drop 99 = .ok (.iload_n 1, 1) := by decide +kernel
theorem dX5_drop_100 : decode cX5_drop 100 = .ok (.iload_n 2, 1) := by decide +kernel
theorem dX5_drop_101 : decode cX5_drop 101 = .ok (.iload_n 3, 1) := by decide +kernel
theorem dX5_drop_102 : decode cX5_drop 102 = .ok (.invokevirtual 195, 3) := by decide +kernel
theorem dX5_drop_105 : decode cX5_drop 105 = .ok (.istore 6, 2) := by decide +kernel
theorem dX5_drop_107 : decode cX5_drop 107 = .ok (.iload 6, 2) := by decide +kernel
theorem dX5_drop_109 : decode cX5_drop 109 = .ok (.iconst (-1), 1) := by decide +kernel
theorem dX5_drop_110 : decode cX5_drop 110 = .ok (.if_icmp .ne 5, 3) := by decide +kernel
theorem dX5_drop_113 : decode cX5_drop 113 = .ok (.iconst 0, 1) := by decide +kernel
theorem dX5_drop_114 : decode cX5_drop 114 = .ok (.ireturn, 1) := by decide +kernel
theorem dX5_drop_115 : decode cX5_drop 115 = .ok (.aload_n 0, 1) := by decide +kernel
theorem dX5_drop_116 : decode cX5_drop 116 = .ok (.getfield 49, 3) := by decide +kernel
theorem dX5_drop_119 : decode cX5_drop 119 = .ok (.iload_n 1, 1) := by decide +kernel
theorem dX5_drop_120 : decode cX5_drop 120 = .ok (.caload, 1) := by decide +kernel
theorem dX5_drop_121 : decode cX5_drop 121 = .ok (.bipush 118, 2) := by decide +kernel
theorem dX5_drop_123 : decode cX5_drop 123 = .ok (.if_icmp .ne 18, 3) := by decide +kernel
theorem dX5_drop_126 : decode cX5_drop 126 = .ok (.aload_n 0, 1) := by decide +kernel
theorem dX5_drop_127 : decode cX5_drop 127 = .ok (.aload_n 0, 1) := by decide +kernel
theorem dX5_drop_128 : decode cX5_drop 128 = .ok (.getfield 53, 3) := by decide +kernel
theorem dX5_drop_131 : decode cX5_drop 131 = .ok (.iload_n 1, 1) := by decide +kernel
theorem dX5_drop_132 : decode cX5_drop 132 = .ok (.iaload, 1) := by decide +kernel
theorem dX5_drop_133 : decode cX5_drop 133 = .ok (.iload 6, 2) := by decide +kernel
theorem dX5_drop_135 : decode cX5_drop 135 = .ok (.invokevirtual 205, 3) := by decide +kernel
theorem dX5_drop_138 : decode cX5_drop 138 = .ok (.goto 10, 3) := by decide +kernel
theorem dX5_drop_141 : decode cX5_drop 141 = .ok (.aload_n 0, 1) := by decide +kernel
theorem dX5_drop_142 : decode cX5_drop 142 = .ok (.iload_n 1, 1) := by decide +kernel
theorem dX5_drop_143 : decode cX5_drop 143 = .ok (.iload 6, 2) := by decide +kernel
theorem dX5_drop_145 : decode cX5_drop 145 = .ok (.invokevirtual 192, 3) := by decide +kernel
theorem dX5_drop_148 : decode cX5_drop 148 = .ok (.iconst 1, 1) := by decide +kernel
theorem dX5_drop_149 : decode cX5_drop 149 = .ok (.ireturn, 1) := by decide +kernel
theorem dX5_wipe_0 : decode cX5_wipe 0 = .ok (.iload_n 1, 1) := by decide +kernel
theorem dX5_wipe_1 : decode cX5_wipe 1 = .ok (.invokestatic 82, 3) := by decide +kernel
theorem dX5_wipe_4 : decode cX5_wipe 4 = .ok (.ifCond .eq 18, 3) := by decide +kernel
theorem dX5_wipe_7 : decode cX5_wipe 7 = .ok (.aload_n 0, 1) := by decide +kernel
theorem dX5_wipe_8 : decode cX5_wipe 8 = .ok (.getfield 49, 3) := by decide +kernel
theorem dX5_wipe_11 : decode cX5_wipe 11 = .ok (.iload_n 1, 1) := by decide +kernel
theorem dX5_wipe_12 : decode cX5_wipe 12 = .ok (.caload, 1) := by decide +kernel
theorem dX5_wipe_13 : decode cX5_wipe 13 = .ok (.bipush 45, 2) := by decide +kernel
theorem dX5_wipe_15 : decode cX5_wipe 15 = .ok (.if_icmp .eq 7, 3) := by decide +kernel
theorem dX5_wipe_18 : decode cX5_wipe 18 = .ok (.iconst 1, 1) := by decide +kernel
theorem dX5_wipe_19 : decode cX5_wipe 19 = .ok (.goto 4, 3) := by decide +kernel
theorem dX5_wipe_22 : decode cX5_wipe 22 = .ok (.iconst 0, 1) := by decide +kernel
theorem dX5_wipe_23 : decode cX5_wipe 23 = .ok (.istore_n 2, 1) := by decide +kernel
theorem dX5_wipe_24 : decode cX5_wipe 24 = .ok (.aload_n 0, 1) := by decide +kernel
theorem dX5_wipe_25 : decode cX5_wipe 25 = .ok (.iload_n 1, 1) := by decide +kernel
theorem dX5_wipe_26 : decode cX5_wipe 26 = .ok (.invokestatic 82, 3) := by decide +kernel
theorem dX5_wipe_29 : decode cX5_wipe 29 = .ok (.ifCond .ne 7, 3) := by decide +kernel
theorem dX5_wipe_32 : decode cX5_wipe 32 = .ok (.iconst 1, 1) := by decide +kernel
theorem dX5_wipe_33 : decode cX5_wipe 33 = .ok (.goto 4, 3) := by decide +kernel
theorem dX5_wipe_36 : decode cX5_wipe 36 = .ok (.iconst 0, 1) := by decide +kernel
theorem dX5_wipe_37 : decode cX5_wipe 37 = .ok (.iload_n 2, 1) := by decide +kernel
theorem dX5_wipe_38 : decode cX5_wipe 38 = .ok (.ifCond .ne 7, 3) := by decide +kernel
theorem dX5_wipe_41 : decode cX5_wipe 41 = .ok (.iconst 1, 1) := by decide +kernel
theorem dX5_wipe_42 : decode cX5_wipe 42 = .ok (.goto 4, 3) := by decide +kernel
theorem dX5_wipe_45 : decode cX5_wipe 45 = .ok (.iconst 0, 1) := by decide +kernel
theorem dX5_wipe_46 : decode cX5_wipe 46 = .ok (.iload_n 2, 1) := by decide +kernel
theorem dX5_wipe_47 : decode cX5_wipe 47 = .ok (.ifCond .eq 15, 3) := by decide +kernel
theorem dX5_wipe_50 : decode cX5_wipe 50 = .ok (.aload_n 0, 1) := by decide +kernel
theorem dX5_wipe_51 : decode cX5_wipe 51 = .ok (.iload_n 1, 1) := by decide +kernel
theorem dX5_wipe_52 : decode cX5_wipe 52 = .ok (.invokevirtual 173, 3) := by decide +kernel
theorem dX5_wipe_55 : decode cX5_wipe 55 = .ok (.ifCond .ne 7, 3) := by decide +kernel
theorem dX5_wipe_58 : decode cX5_wipe 58 = .ok (.iconst 1, 1) := by decide +kernel
theorem dX5_wipe_59 : decode cX5_wipe 59 = .ok (.goto 4, 3) := by decide +kernel
theorem dX5_wipe_62 : decode cX5_wipe 62 = .ok (.iconst 0, 1) := by decide +kernel
theorem dX5_wipe_63 : decode cX5_wipe 63 = .ok (.iconst 0, 1) := by decide +kernel
theorem dX5_wipe_64 : decode cX5_wipe 64 = .ok (.iconst 0, 1) := by decide +kernel
theorem dX5_wipe_65 : decode cX5_wipe 65 = .ok (.invokevirtual 135, 3) := by decide +kernel
theorem dX5_wipe_68 : decode cX5_wipe 68 = .ok (.ifCond .eq 5, 3) := by decide +kernel
theorem dX5_wipe_71 : decode cX5_wipe 71 = .ok (.iconst 0, 1) := by decide +kernel
theorem dX5_wipe_72 : decode cX5_wipe 72 = .ok (.ireturn, 1) := by decide +kernel
theorem dX5_wipe_73 : decode cX5_wipe 73 = .ok (.aload_n 0, 1) := by decide +kernel
theorem dX5_wipe_74 : decode cX5_wipe 74 = .ok (.iload_n 1, 1) := by decide +kernel
theorem dX5_wipe_75 : decode cX5_wipe 75 = .ok (.invokevirtual 116, 3) := by decide +kernel
theorem dX5_wipe_78 : decode cX5_wipe 78 = .ok (.istore_n 3, 1) := by decide +kernel
theorem dX5_wipe_79 : decode cX5_wipe 79 = .ok (.aload_n 0, 1) := by decide +kernel
theorem dX5_wipe_80 : decode cX5_wipe 80 = .ok (.iload_n 1, 1) := by decide +kernel
theorem dX5_wipe_81 : decode cX5_wipe 81 = .ok (.ldc 133, 2) := by decide +kernel
theorem dX5_wipe_83 : decode cX5_wipe 83 = .ok (.invokevirtual 94, 3) := by decide +kernel
theorem dX5_wipe_86 : decode cX5_wipe 86 = .ok (.ifCond .eq 20, 3) := by decide +kernel
theorem dX5_wipe_89 : decode cX5_wipe 89 = .ok (.aload_n 0, 1) := by decide +kernel
theorem dX5_wipe_90 : decode cX5_wipe 90 = .ok (.iload_n 1, 1) := by decide +kernel
theorem dX5_wipe_91 : decode cX5_wipe 91 = .ok (.aload_n 0, 1) := by decide +kernel
theorem dX5_wipe_92 : decode cX5_wipe 92 = .ok (.getfield 68, 3) := by decide +kernel
theorem dX5_wipe_95 : decode cX5_wipe 95 = .ok (.aload_n 0, 1) := by decide +kernel
theorem dX5_wipe_96 : decode cX5_wipe 96 = .ok (.getfield 71, 3) := by decide +kernel
theorem dX5_wipe_99 : decode cX5_wipe 99 = .ok (.iconst 0, 1) := by decide +kernel
theorem dX5_wipe_100 : decode cX5_wipe 100 = .ok (.invokevirtual 185, 3) := by decide +kernel
theorem dX5_wipe_103 : decode cX5_wipe 103 = .ok (.goto 15, 3) := by decide +kernel
theorem dX5_wipe_106 : decode cX5_wipe 106 = .ok (.aload_n 0, 1) := by decide +kernel
theorem dX5_wipe_107 : decode cX5_wipe 107 = .ok (.getfield 30, 3) := by decide +kernel
theorem dX5_wipe_110 : decode cX5_wipe 110 = .ok (.aload_n 0, 1) := by decide +kernel
theorem dX5_wipe_111 : decode cX5_wipe 111 = .ok (.getfield 53, 3) := by decide +kernel
theorem dX5_wipe_114 : decode cX5_wipe 114 = .ok (.iload_n 1, 1) := by decide +kernel
theorem dX5_wipe_115 : decode cX5_wipe 115 = .ok (.iaload, 1) := by decide +kernel
theorem dX5_wipe_116 : decode cX5_wipe 116 = .ok (.iconst 0, 1) := by decide +kernel
theorem dX5_wipe_117 : decode cX5_wipe 117 = .ok (.iastore, 1) := by decide +kernel
theorem dX5_wipe_118 : decode cX5_wipe 118 = .ok (.iload_n 3, 1) := by decide +kernel
theorem dX5_wipe_119 : decode cX5_wipe 119 = .ok (.ireturn, 1) := by decide +kernel
theorem dX5_putAll_0 : decode cX5_putAll 0 = .ok (.iload_n 1, 1) := by decide +kernel
theorem dX5_putAll_1 : decode cX5_putAll 1 = .ok (.invokestatic 82, 3) := by decide +kernel
theorem dX5_putAll_4 : decode cX5_putAll 4 = .ok (.ifCond .eq 14, 3) := by decide +kernel
theorem dX5_putAll_7 : decode cX5_putAll 7 = .ok (.iload_n 3, 1) := by decide +kernel
theorem dX5_putAll_8 : decode cX5_putAll 8 = .ok (.invokestatic 82, 3) := by decide +kernel
theorem dX5_putAll_11 : decode cX5_putAll 11 = .ok (.ifCond .eq 7, 3) := by decide +kernel
theorem dX5_putAll_14 : decode cX5_putAll 14 = .ok (.iconst 1, 1) := by decide +kernel
theorem dX5_putAll_15 : decode cX5_putAll 15 = .ok (.goto 4, 3) := by decide +kernel
theorem dX5_putAll_18 : decode cX5_putAll 18 = .ok (.iconst 0, 1) := by decide +kernel
theorem dX5_putAll_19 : decode cX5_putAll 19 = .ok (.istore 4, 2) := by decide +kernel
theorem dX5_putAll_21 : decode cX5_putAll 21 = .ok (.iload 4, 2) := by decide +kernel
theorem dX5_putAll_23 : decode cX5_putAll 23 = .ok (.ifCond .eq 23, 3) := by decide +kernel
theorem dX5_putAll_26 : decode cX5_putAll 26 = .ok (.aload_n 0, 1) := by decide +kernel
theorem dX5_putAll_27 : decode cX5_putAll 27 = .ok (.iload_n 1, 1) := by decide +kernel
theorem dX5_putAll_28 : decode cX5_putAll 28 = .ok (.invokevirtual 170, 3) := by decide +kernel
theorem dX5_putAll_31 : decode cX5_putAll 31 = .ok (.ifCond .eq 15, 3) := by decide +kernel
theorem dX5_putAll_34 : decode cX5_putAll 34 = .ok (.aload_n 0, 1) := by decide +kernel
theorem dX5_putAll_35 : decode cX5_putAll 35 = .ok (.iload_n 3, 1) := by decide +kernel
theorem dX5_putAll_36 : decode cX5_putAll 36 = .ok (.invokevirtual 199, 3) := by decide +kernel
theorem dX5_putAll_39 : decode cX5_putAll 39 = .ok (.ifCond .eq 7, 3) := by decide +kernel
theorem dX5_putAll_42 : decode cX5_putAll 42 = .ok (.iconst 1, 1) := by decide +kernel
theorem dX5_putAll_43 : decode cX5_putAll 43 = .ok (.goto 4, 3) := by decide +kernel
theorem dX5_putAll_46 : decode cX5_putAll 46 = .ok (.iconst 0, 1) := by decide +kernel
theorem dX5_putAll_47 : decode cX5_putAll 47 = .ok (.istore 5, 2) := by decide +kernel
theorem dX5_putAll_49 : decode cX5_putAll 49 = .ok (.iload 5, 2) := by decide +kernel
theorem dX5_putAll_51 : decode cX5_putAll 51 = .ok (.ifCond .eq 15, 3) := by decide +kernel
theorem dX5_putAll_54 : decode cX5_putAll 54 = .ok (.aload_n 0, 1) := by decide +kernel
theorem dX5_putAll_55 : decode cX5_putAll 55 = .ok (.iload_n 1, 1) := by decide +kernel
theorem dX5_putAll_56 : decode cX5_putAll 56 = .ok (.invokevirtual 173, 3) := by decide +kernel
theorem dX5_putAll_59 : decode cX5_putAll 59 = .ok (.ifCond .eq 7, 3) := by decide +kernel
theorem dX5_putAll_62 : decode cX5_putAll 62 = .ok (.iconst 1, 1) := by decide +kernel
theorem dX5_putAll_63 : decode cX5_putAll 63 = .ok (.goto 4, 3) := by decide +kernel
theorem dX5_putAll_66 : decode cX5_putAll 66 = .ok (.iconst 0, 1) := by decide +kernel
theorem dX5_putAll_67 : decode cX5_putAll 67 = .ok (.istore 6, 2) := by decide +kernel
theorem dX5_putAll_69 : decode cX5_putAll 69 = .ok (.aload_n 0, 1) := by decide +kernel
theorem dX5_putAll_70 : decode cX5_putAll 70 = .ok (.iload 4, 2) := by decide +kernel
theorem dX5_putAll_72 : decode cX5_putAll 72 = .ok (.ifCond .ne 7, 3) := by decide +kernel
theorem dX5_putAll_75 : decode cX5_putAll 75 = .ok (.iconst 1, 1) := by decide +kernel
theorem dX5_putAll_76 : decode cX5_putAll 76 = .ok (.goto 4, 3) := by decide +kernel
theorem dX5_putAll_79 : decode cX5_putAll 79 = .ok (.iconst 0, 1) := by decide +kernel
theorem dX5_putAll_80 : decode cX5_putAll 80 = .ok (.iload 5, 2) := by decide +kernel
theorem dX5_putAll_82 : decode cX5_putAll 82 = .ok (.ifCond .ne 7, 3) := by decide +kernel
theorem dX5_putAll_85 : decode cX5_putAll 85 = .ok (.iconst 1, 1) := by decide +kernel
theorem dX5_putAll_86 : decode cX5_putAll 86 = .ok (.goto 4, 3) := by decide +kernel
theorem dX5_putAll_89 : decode cX5_putAll 89 = .ok (.iconst 0, 1) := by decide +kernel
theorem dX5_putAll_90 : decode cX5_putAll 90 = .ok (.iload 6, 2) := by decide +kernel
theorem dX5_putAll_92 : decode cX5_putAll 92 = .ok (.ifCond .ne 7, 3) := by decide +kernel
theorem dX5_putAll_95 : decode cX5_putAll 95 = .ok (.iconst 1, 1) := by decide +kernel
theorem dX5_putAll_96 : decode cX5_putAll 96 = .ok (.goto 4, 3) := by decide +kernel
theorem dX5_putAll_99 : decode cX5_putAll 99 = .ok (.iconst 0, 1) := by decide +kernel
theorem dX5_putAll_100 : decode cX5_putAll 100 = .ok (.iload 6, 2) := by decide +kernel
theorem dX5_putAll_102 : decode cX5_putAll 102 = .ok (.ifCond .eq 17, 3) := by decide +kernel
theorem dX5_putAll_105 : decode cX5_putAll 105 = .ok (.aload_n 0, 1) := by decide +kernel
theorem dX5_putAll_106 : decode cX5_putAll 106 = .ok (.iload_n 1, 1) := by decide +kernel
theorem dX5_putAll_107 : decode cX5_putAll 107 = .ok (.iload_n 2, 1) := by decide +kernel
theorem dX5_putAll_108 : decode cX5_putAll 108 = .ok (.iconst 1, 1) := by decide +kernel
theorem dX5_putAll_109 : decode cX5_putAll 109 = .ok (.invokevirtual 176, 3) := by decide +kernel
theorem dX5_putAll_112 : decode cX5_putAll 112 = .ok (.ifCond .ne 7, 3) := by decide +kernel
theorem dX5_putAll_115 : decode cX5_putAll 115 = .ok (.iconst 1, 1) := by decide +kernel
theorem dX5_putAll_116 : decode cX5_putAll 116 = .ok (.goto 4, 3) := by decide +kernel
theorem dX5_putAll_119 : decode cX5_putAll 119 = .ok (.iconst 0, 1) := by decide +kernel
theorem dX5_putAll_120 : decode cX5_putAll 120 = .ok (.iload 6, 2) := by decide +kernel
theorem dX5_putAll_122 : decode cX5_putAll 122 = .ok (.ifCond .eq 20, 3) := by decide +kernel
theorem dX5_putAll_125 : decode cX5_putAll 125 = .ok (.aload_n 0, 1) := by decide +kernel
theorem dX5_putAll_126 : decode cX5_putAll 126 = .ok (.iload_n 1, 1) := by decide +kernel
theorem dX5_putAll_127 : decode cX5_putAll 127 = .ok (.aload_n 0, 1) := by decide +kernel
theorem dX5_putAll_128 : decode cX5_putAll 128 = .ok (.iload_n 3, 1) := by decide +kernel
theorem dX5_putAll_129 : decode cX5_putAll 129 = .ok (.invokevirtual 116, 3) := by decide +kernel
theorem dX5_putAll_132 : decode cX5_putAll 132 = .ok (.invokevirtual 179, 3) := by decide +kernel
theorem dX5_putAll_135 : decode cX5_putAll 135 = .ok (.ifCond .ne 7, 3) := by decide +kernel
theorem dX5_putAll_138 : decode cX5_putAll 138 = .ok (.iconst 1, 1) := by decide +kernel
theorem dX5_putAll_139 : decode cX5_putAll 139 = .ok (.goto 4, 3) := by decide +kernel
theorem dX5_putAll_142 : decode cX5_putAll 142 = .ok (.iconst 0, 1) := by decide +kernel
theorem dX5_putAll_143 : decode cX5_putAll 143 = .ok (.invokevirtual 135, 3) := by decide +kernel
theorem dX5_putAll_146 : decode cX5_putAll 146 = .ok (.ifCond .eq 5, 3) := by decide +kernel
theorem dX5_putAll_149 : decode cX5_putAll 149 = .ok (.iconst 0, 1) := by decide +kernel
theorem dX5_putAll_150 : decode cX5_putAll 150 = .ok (.ireturn, 1) := by decide +kernel
theorem dX5_putAll_151 : decode cX5_putAll 151 = .ok (.aload_n 0, 1) := by decide +kernel
theorem dX5_putAll_152 : decode cX5_putAll 152 = .ok (.iconst 0, 1) := by decide +kernel
theorem dX5_putAll_153 : decode cX5_putAll 153 = .ok (.putfield 167, 3) := by decide +kernel
theorem dX5_putAll_156 : decode cX5_putAll 156 = .ok (.iconst 0, 1) := by decide +kernel
theorem dX5_putAll_157 : decode cX5_putAll 157 = .ok (.istore 7, 2) := by decide +kernel
theorem dX5_putAll_159 : decode cX5_putAll 159 = .ok (.iload 7, 2) := by decide +kernel
theorem dX5_putAll_161 : decode cX5_putAll 161 = .ok (.aload_n 0, 1) := by decide +kernel
theorem dX5_putAll_162 : decode cX5_putAll 162 = .ok (.iload_n 1, 1) := by decide +kernel
theorem dX5_putAll_163 : decode cX5_putAll 163 = .ok (.invokevirtual 116, 3) := by decide +kernel
theorem dX5_putAll_166 : decode cX5_putAll 166 = .ok (.if_icmp .gt 80, 3) := by decide +kernel
theorem dX5_putAll_169 : decode cX5_putAll 169 = .ok (.iconst 0, 1) := by decide +kernel
theorem dX5_putAll_170 : decode cX5_putAll 170 = .ok (.istore 8, 2) := by decide +kernel
theorem dX5_putAll_172 : decode cX5_putAll 172 = .ok (.iload 7, 2) := by decide +kernel
theorem dX5_putAll_174 : decode cX5_putAll 174 = .ok (.iload_n 2, 1) := by decide +kernel
theorem dX5_putAll_175 : decode cX5_putAll 175 = .ok (.if_icmp .ne 37, 3) := by decide +kernel
theorem dX5_putAll_178 : decode cX5_putAll 178 = .ok (.iload 8, 2) := by decide +kernel
theorem dX5_putAll_180 : decode cX5_putAll 180 = .ok (.aload_n 0, 1) := by decide +kernel
theorem dX5_putAll_181 : decode cX5_putAll 181 = .ok (.iload_n 3, 1) := by decide +kernel
theorem dX5_putAll_182 : decode cX5_putAll 182 = .ok (.invokevirtual 116, 3) := by decide +kernel
theorem dX5_putAll_185 : decode cX5_putAll 185 = .ok (.if_icmp .ge 27, 3) := by decide +kernel
theorem dX5_putAll_188 : decode cX5_putAll 188 = .ok (.aload_n 0, 1) := by decide +kernel
theorem dX5_putAll_189 : decode cX5_putAll 189 = .ok (.aload_n 0, 1) := by decide +kernel
theorem dX5_putAll_190 : decode cX5_putAll 190 = .ok (.iload_n 3, 1) := by decide +kernel
theorem dX5_putAll_191 : decode cX5_putAll 191 = .ok (.iload 8, 2) := by decide +kernel
theorem dX5_putAll_193 : decode cX5_putAll 193 = .ok (.invokevirtual 109, 3) := by decide +kernel
theorem dX5_putAll_196 : decode cX5_putAll 196 = .ok (.aload_n 0, 1) := by decide +kernel
theorem dX5_putAll_197 : decode cX5_putAll 197 = .ok (.iload_n 3, 1) := by decide +kernel
theorem dX5_putAll_198 : decode cX5_putAll 198 = .ok (.iload 8, 2) := by decide +kernel
theorem dX5_putAll_200 : decode cX5_putAll 200 = .ok (.invokevirtual 113, 3) := by decide +kernel
theorem dX5_putAll_203 : decode cX5_putAll 203 = .ok (.invokevirtual 182, 3) := by decide +kernel
theorem dX5_putAll_206 : decode cX5_putAll 206 = .ok (.iinc 8 1, 3) := by decide +kernel
theorem dX5_putAll_209 : decode cX5_putAll 209 = .ok (.goto (-37), 3) := by decide +kernel
theorem dX5_putAll_212 : decode cX5_putAll 212 = .ok (.iload 7, 2) := by decide +kernel
theorem dX5_putAll_214 : decode cX5_putAll 214 = .ok (.aload_n 0, 1) := by decide +kernel
theorem dX5_putAll_215 : decode cX5_putAll 215 = .ok (.iload_n 1, 1) := by decide +kernel
theorem dX5_putAll_216 : decode cX5_putAll 216 = .ok (.invokevirtual 116, 3) := by decide +kernel
theorem dX5_putAll_219 : decode cX5_putAll 219 = .ok (.if_icmp .ge 21, 3) := by decide +kernel
theorem dX5_putAll_222 : decode cX5_putAll 222 = .ok (.aload_n 0, 1) := by decide +kernel
theorem dX5_putAll_223 : decode cX5_putAll 223 = .ok (.aload_n 0, 1) := by decide +kernel
theorem dX5_putAll_224 : decode cX5_putAll 224 = .ok (.iload_n 1, 1) := by decide +kernel
theorem dX5_putAll_225 : decode cX5_putAll 225 = .ok (.iload 7, 2) := by decide +kernel
theorem dX5_putAll_227 : decode cX5_putAll 227 = .ok (.invokevirtual 109, 3) := by decide +kernel
theorem dX5_putAll_230 : decode cX5_putAll 230 = .ok (.aload_n 0, 1) := by decide +kernel
theorem dX5_putAll_231 : decode cX5_putAll 231 = .ok (.iload_n 1, 1) := by decide +kernel
theorem dX5_putAll_232 : decode cX5_putAll 232 = .ok (.iload 7, 2) := by decide +kernel
theorem dX5_putAll_234 : decode cX5_putAll 234 = .ok (.invokevirtual 113, 3) := by decide +kernel
theorem dX5_putAll_237 : decode cX5_putAll 237 = .ok (.invokevirtual 182, 3) := by decide +kernel
theorem dX5_putAll_240 : decode cX5_putAll 240 = .ok (.iinc 7 1, 3) := by decide +kernel
theorem dX5_putAll_243 : decode cX5_putAll 243 = .ok (.goto (-84), 3) := by decide +kernel
theorem dX5_putAll_246 : decode cX5_putAll 246 = .ok (.aload_n 0, 1) := by decide +kernel
theorem dX5_putAll_247 : decode cX5_putAll 247 = .ok (.iload_n 1, 1) := by decide +kernel
theorem dX5_putAll_248 : decode cX5_putAll 248 = .ok (.aload_n 0, 1) := by decide +kernel
theorem dX5_putAll_249 : decode cX5_putAll 249 = .ok (.getfield 68, 3) := by decide +kernel
theorem dX5_putAll_252 : decode cX5_putAll 252 = .ok (.aload_n 0, 1) := by decide +kernel
theorem dX5_putAll_253 : decode cX5_putAll 253 = .ok (.getfield 71, 3) := by decide +kernel
theorem dX5_putAll_256 : decode cX5_putAll 256 = .ok (.aload_n 0, 1) := by decide +kernel
theorem dX5_putAll_257 : decode cX5_putAll 257 = .ok (.getfield 167, 3) := by decide +kernel
theorem dX5_putAll_260 : decode cX5_putAll 260 = .ok (.invokevirtual 185, 3) := by decide +kernel
theorem dX5_putAll_263 : decode cX5_putAll 263 = .ok (.aload_n 0, 1) := by decide +kernel
theorem dX5_putAll_264 : decode cX5_putAll 264 = .ok (.iload_n 1, 1) := by decide +kernel
theorem dX5_putAll_265 : decode cX5_putAll 265 = .ok (.invokevirtual 116, 3) := by decide +kernel
theorem dX5_putAll_268 : decode cX5_putAll 268 = .ok (.ireturn, 1) := by decide +kernel
theorem dX5_stays_0 : decode cX5_stays 0 = .ok (.aload_n 0, 1) := by decide +kernel
theorem dX5_stays_1 : decode cX5_stays 1 = .ok (.iload_n 1, 1) := by decide +kernel
theorem dX5_stays_2 : decode cX5_stays 2 = .ok (.invokevirtual 116, 3) := by decide +kernel
theorem dX5_stays_5 : decode cX5_stays 5 = .ok (.istore_n 3, 1) := by decide +kernel
theorem dX5_stays_6 : decode cX5_stays 6 = .ok (.aload_n 0, 1) := by decide +kernel
theorem dX5_stays_7 : decode cX5_stays 7 = .ok (.getfield 49, 3) := by decide +kernel
theorem dX5_stays_10 : decode cX5_stays 10 = .ok (.iload_n 1, 1) := by decide +kernel
theorem dX5_stays_11 : decode cX5_stays 11 = .ok (.caload, 1) := by decide +kernel
theorem dX5_stays_12 : decode cX5_stays 12 = .ok (.bipush 118, 2) := by decide +kernel
theorem dX5_stays_14 : decode cX5_stays 14 = .ok (.if_icmp .eq 14, 3) := by decide +kernel
theorem dX5_stays_17 : decode cX5_stays 17 = .ok (.aload_n 0, 1) := by decide +kernel
theorem dX5_stays_18 : decode cX5_stays 18 = .ok (.getfield 49, 3) := by decide +kernel
theorem dX5_stays_21 : decode cX5_stays 21 = .ok (.iload_n 1, 1) := by decide +kernel
theorem dX5_stays_22 : decode cX5_stays 22 = .ok (.caload, 1) := by decide +kernel
theorem dX5_stays_23 : decode cX5_stays 23 = .ok (.bipush 107, 2) := by decide +kernel
theorem dX5_stays_25 : decode cX5_stays 25 = .ok (.if_icmp .ne 46, 3) := by decide +kernel
theorem dX5_stays_28 : decode cX5_stays 28 = .ok (.iload_n 3, 1) := by decide +kernel
theorem dX5_stays_29 : decode cX5_stays 29 = .ok (.iconst 1, 1) := by decide +kernel
theorem dX5_stays_30 : decode cX5_stays 30 = .ok (.isub, 1) := by decide +kernel
theorem dX5_stays_31 : decode cX5_stays 31 = .ok (.istore 4, 2) := by decide +kernel
theorem dX5_stays_33 : decode cX5_stays 33 = .ok (.iload 4, 2) := by decide +kernel
theorem dX5_stays_35 : decode cX5_stays 35 = .ok (.ifCond .lt 28, 3) := by decide +kernel
theorem dX5_stays_38 : decode cX5_stays 38 = .ok (.aload_n 2, 1) := by decide +kernel
theorem dX5_stays_39 : decode cX5_stays 39 = .ok (.iload 4, 2) := by decide +kernel
theorem dX5_stays_41 : decode cX5_stays 41 = .ok (.baload, 1) := by decide +kernel
theorem dX5_stays_42 : decode cX5_stays 42 = .ok (.ifCond .ne 15, 3) := by decide +kernel
theorem dX5_stays_45 : decode cX5_stays 45 = .ok (.aload_n 0, 1) := by decide +kernel
theorem dX5_stays_46 : decode cX5_stays 46 = .ok (.aload_n 0, 1) := by decide +kernel
theorem dX5_stays_47 : decode cX5_stays 47 = .ok (.getfield 53, 3) := by decide +kernel
theorem dX5_stays_50 : decode cX5_stays 50 = .ok (.iload_n 1, 1) := by decide +kernel
theorem dX5_stays_51 : decode cX5_stays 51 = .ok (.iaload, 1) := by decide +kernel
theorem dX5_stays_52 : decode cX5_stays 52 = .ok (.iload 4, 2) := by decide +kernel
theorem dX5_stays_54 : decode cX5_stays 54 = .ok (.invokevirtual 205, 3) := by decide +kernel
theorem dX5_stays_57 : decode cX5_stays 57 = .ok (.iinc 4 (-1), 3) := by decide +kernel
theorem dX5_stays_60 : decode cX5_stays 60 = .ok (.goto (-27), 3) := by decide +kernel
theorem dX5_stays_63 : decode cX5_stays 63 = .ok (.iload_n 3, 1) := by decide +kernel
theorem dX5_stays_64 : decode cX5_stays 64 = .ok (.aload_n 0, 1) := by decide +kernel
theorem dX5_stays_65 : decode cX5_stays 65 = .ok (.iload_n 1, 1) := by decide +kernel
theorem dX5_stays_66 : decode cX5_stays 66 = .ok (.invokevirtual 116, 3) := by decide +kernel
theorem dX5_stays_69 : decode cX5_stays 69 = .ok (.isub, 1) := by decide +kernel
theorem dX5_stays_70 : decode cX5_stays 70 = .ok (.ireturn, 1) := by decide +kernel
theorem dX5_stays_71 : decode cX5_stays 71 = .ok (.aload_n 0, 1) := by decide +kernel
theorem dX5_stays_72 : decode cX5_stays 72 = .ok (.iconst 0, 1) := by decide +kernel
theorem dX5_stays_73 : decode cX5_stays 73 = .ok (.putfield 167, 3) := by decide +kernel
theorem dX5_stays_76 : decode cX5_stays 76 = .ok (.iconst 0, 1) := by decide +kernel
theorem dX5_stays_77 : decode cX5_stays 77 = .ok (.istore 4, 2) := by decide +kernel
theorem dX5_stays_79 : decode cX5_stays 79 = .ok (.iload 4, 2) := by decide +kernel
theorem dX5_stays_81 : decode cX5_stays 81 = .ok (.iload_n 3, 1) := by decide +kernel
theorem dX5_stays_82 : decode cX5_stays 82 = .ok (.if_icmp .ge 34, 3) := by decide +kernel
theorem dX5_stays_85 : decode cX5_stays 85 = .ok (.aload_n 2, 1) := by decide +kernel
theorem dX5_stays_86 : decode cX5_stays 86 = .ok (.iload 4, 2) := by decide +kernel
theorem dX5_stays_88 : decode cX5_stays 88 = .ok (.baload, 1) := by decide +kernel
theorem dX5_stays_89 : decode cX5_stays 89 = .ok (.ifCond .eq 21, 3) := by decide +kernel
theorem dX5_stays_92 : decode cX5_stays 92 = .ok (.aload_n 0, 1) := by decide +kernel
theorem dX5_stays_93 : decode cX5_stays 93 = .ok (.aload_n 0, 1) := by decide +kernel
theorem dX5_stays_94 : decode cX5_stays 94 = .ok (.iload_n 1, 1) := by decide +kernel
theorem dX5_stays_95 : decode cX5_stays 95 = .ok (.iload 4, 2) := by decide +kernel
theorem dX5_stays_97 : decode cX5_stays 97 = .ok (.invokevirtual 109, 3) := by decide +kernel
theorem dX5_stays_100 : decode cX5_stays 100 = .ok (.aload_n 0, 1) := by decide +kernel
theorem dX5_stays_101 : decode cX5_stays 101 = .ok (.iload_n 1, 1) := by decide +kernel
theorem dX5_stays_102 : decode cX5_stays 102 = .ok (.iload 4, 2) := by decide +kernel
theorem dX5_stays_104 : decode cX5_stays 104 = .ok (.invokevirtual 113, 3) := by decide +kernel
theorem dX5_stays_107 : decode cX5_stays 107 = .ok (.invokevirtual 182, 3) := by decide +kernel
theorem dX5_stays_110 : decode cX5_stays 110 = .ok (.iinc 4 1, 3) := by decide +kernel
theorem dX5_stays_113 : decode cX5_stays 113 = .ok (.goto (-34), 3) := by decide +kernel
theorem dX5_stays_116 : decode cX5_stays 116 = .ok (.aload_n 0, 1) := by decide +kernel
theorem dX5_stays_117 : decode cX5_stays 117 = .ok (.iload_n 1, 1) := by decide +kernel
theorem dX5_stays_118 : decode cX5_stays 118 = .ok (.aload_n 0, 1) := by decide +kernel
theorem dX5_stays_119 : decode cX5_stays 119 = .ok (.getfield 68, 3) := by decide +kernel
theorem dX5_stays_122 : decode cX5_stays 122 = .ok (.aload_n 0, 1) := by decide +kernel
theorem dX5_stays_123 : decode cX5_stays 123 = .ok (.getfield 71, 3) := by decide +kernel
theorem dX5_stays_126 : decode cX5_stays 126 = .ok (.aload_n 0, 1) := by decide +kernel
theorem dX5_stays_127 : decode cX5_stays 127 = .ok (.getfield 167, 3) := by decide +kernel
theorem dX5_stays_130 : decode cX5_stays 130 = .ok (.invokevirtual 185, 3) := by decide +kernel
theorem dX5_stays_133 : decode cX5_stays 133 = .ok (.iload_n 3, 1) := by decide +kernel
theorem dX5_stays_134 : decode cX5_stays 134 = .ok (.aload_n 0, 1) := by decide +kernel
theorem dX5_stays_135 : decode cX5_stays 135 = .ok (.getfield 167, 3) := by decide +kernel
theorem dX5_stays_138 : decode cX5_stays 138 = .ok (.isub, 1) := by decide +kernel
theorem dX5_stays_139 : decode cX5_stays 139 = .ok (.ireturn, 1) := by decide +kernel
theorem dX5_keep_0 : decode cX5_keep 0 = .ok (.iload_n 1, 1) := by decide +kernel
theorem dX5_keep_1 : decode cX5_keep 1 = .ok (.invokestatic 82, 3) := by decide +kernel
theorem dX5_keep_4 : decode cX5_keep 4 = .ok (.ifCond .eq 14, 3) := by decide +kernel
theorem dX5_keep_7 : decode cX5_keep 7 = .ok (.iload_n 2, 1) := by decide +kernel
theorem dX5_keep_8 : decode cX5_keep 8 = .ok (.invokestatic 82, 3) := by decide +kernel
theorem dX5_keep_11 : decode cX5_keep 11 = .ok (.ifCond .eq 7, 3) := by decide +kernel
theorem dX5_keep_14 : decode cX5_keep 14 = .ok (.iconst 1, 1) := by decide +kernel
theorem dX5_keep_15 : decode cX5_keep 15 = .ok (.goto 4, 3) := by decide +kernel
theorem dX5_keep_18 : decode cX5_keep 18 = .ok (.iconst 0, 1) := by decide +kernel
theorem dX5_keep_19 : decode cX5_keep 19 = .ok (.istore 4, 2) := by decide +kernel
theorem dX5_keep_21 : decode cX5_keep 21 = .ok (.iload 4, 2) := by decide +kernel
theorem dX5_keep_23 : decode cX5_keep 23 = .ok (.ifCond .eq 23, 3) := by decide +kernel
theorem dX5_keep_26 : decode cX5_keep 26 = .ok (.aload_n 0, 1) := by decide +kernel
theorem dX5_keep_27 : decode cX5_keep 27 = .ok (.iload_n 1, 1) := by decide +kernel
theorem dX5_keep_28 : decode cX5_keep 28 = .ok (.invokevirtual 199, 3) := by decide +kernel
theorem dX5_keep_31 : decode cX5_keep 31 = .ok (.ifCond .eq 15, 3) := by decide +kernel
theorem dX5_keep_34 : decode cX5_keep 34 = .ok (.aload_n 0, 1) := by decide +kernel
theorem dX5_keep_35 : decode cX5_keep 35 = .ok (.iload_n 2, 1) := by decide +kernel
theorem dX5_keep_36 : decode cX5_keep 36 = .ok (.invokevirtual 199, 3) := by decide +kernel
theorem dX5_keep_39 : decode cX5_keep 39 = .ok (.ifCond .eq 7, 3) := by decide +kernel
theorem dX5_keep_42 : decode cX5_keep 42 = .ok (.iconst 1, 1) := by decide +kernel
theorem dX5_keep_43 : decode cX5_keep 43 = .ok (.goto 4, 3) := by decide +kernel
theorem dX5_keep_46 : decode cX5_keep 46 = .ok (.iconst 0, 1) := by decide +kernel
theorem dX5_keep_47 : decode cX5_keep 47 = .ok (.istore 5, 2) := by decide +kernel
theorem dX5_keep_49 : decode cX5_keep 49 = .ok (.aload_n 0, 1) := by decide +kernel
theorem dX5_keep_50 : decode cX5_keep 50 = .ok (.iload 4, 2) := by decide +kernel
theorem dX5_keep_52 : decode cX5_keep 52 = .ok (.ifCond .ne 7, 3) := by decide +kernel
theorem dX5_keep_55 : decode cX5_keep 55 = .ok (.iconst 1, 1) := by decide +kernel
theorem dX5_keep_56 : decode cX5_keep 56 = .ok (.goto 4, 3) := by decide +kernel
theorem dX5_keep_59 : decode cX5_keep 59 = .ok (.iconst 0, 1) := by decide +kernel
theorem dX5_keep_60 : decode cX5_keep 60 = .ok (.iload 5, 2) := by decide +kernel
theorem dX5_keep_62 : decode cX5_keep 62 = .ok (.ifCond .ne 7, 3) := by decide +kernel
theorem dX5_keep_65 : decode cX5_keep 65 = .ok (.iconst 1, 1) := by decide +kernel
theorem dX5_keep_66 : decode cX5_keep 66 = .ok (.goto 4, 3) := by decide +kernel
theorem dX5_keep_69 : decode cX5_keep 69 = .ok (.iconst 0, 1) := by decide +kernel
theorem dX5_keep_70 : decode cX5_keep 70 = .ok (.iload 5, 2) := by decide +kernel
theorem dX5_keep_72 : decode cX5_keep 72 = .ok (.ifCond .eq 15, 3) := by decide +kernel
theorem dX5_keep_75 : decode cX5_keep 75 = .ok (.aload_n 0, 1) := by decide +kernel
theorem dX5_keep_76 : decode cX5_keep 76 = .ok (.iload_n 1, 1) := by decide +kernel
theorem dX5_keep_77 : decode cX5_keep 77 = .ok (.invokevirtual 173, 3) := by decide +kernel
theorem dX5_keep_80 : decode cX5_keep 80 = .ok (.ifCond .ne 7, 3) := by decide +kernel
theorem dX5_keep_83 : decode cX5_keep 83 = .ok (.iconst 1, 1) := by decide +kernel
theorem dX5_keep_84 : decode cX5_keep 84 = .ok (.goto 4, 3) := by decide +kernel
theorem dX5_keep_87 : decode cX5_keep 87 = .ok (.iconst 0, 1) := by decide +kernel
theorem dX5_keep_88 : decode cX5_keep 88 = .ok (.iconst 0, 1) := by decide +kernel
theorem dX5_keep_89 : decode cX5_keep 89 = .ok (.iconst 0, 1) := by decide +kernel
theorem dX5_keep_90 : decode cX5_keep 90 = .ok (.invokevirtual 135, 3) := by decide +kernel
theorem dX5_keep_93 : decode cX5_keep 93 = .ok (.ifCond .eq 5, 3) := by decide +kernel
theorem dX5_keep_96 : decode cX5_keep 96 = .ok (.iconst 0, 1) := by decide +kernel
theorem dX5_keep_97 : decode cX5_keep 97 = .ok (.ireturn, 1) := by decide +kernel
theorem dX5_keep_98 : decode cX5_keep 98 = .ok (.bipush 24, 2) := by decide +kernel
theorem dX5_keep_100 : decode cX5_keep 100 = .ok (.newarray .boolean, 2) := by decide +kernel
theorem dX5_keep_102 : decode cX5_keep 102 = .ok (.astore 6, 2) := by decide +kernel
theorem dX5_keep_104 : decode cX5_keep 104 = .ok (.iconst 0, 1) := by decide +kernel
theorem dX5_keep_105 : decode cX5_keep 105 = .ok (.istore 7, 2) := by decide +kernel
theorem dX5_keep_107 : decode cX5_keep 107 = .ok (.iload 7, 2) := by decide +kernel
theorem dX5_keep_109 : decode cX5_keep 109 = .ok (.aload_n 0, 1) := by decide +kernel
theorem dX5_keep_110 : decode cX5_keep 110 = .ok (.iload_n 1, 1) := by decide +kernel
theorem dX5_keep_111 : decode cX5_keep 111 = .ok (.invokevirtual 116, 3) := by decide +kernel
theorem dX5_keep_114 : decode cX5_keep 114 = .ok (.if_icmp .ge 42, 3) := by decide +kernel
theorem dX5_keep_117 : decode cX5_keep 117 = .ok (.aload 6, 2) := by decide +kernel
theorem dX5_keep_119 : decode cX5_keep 119 = .ok (.iload 7, 2) := by decide +kernel
theorem dX5_keep_121 : decode cX5_keep 121 = .ok (.aload_n 0, 1) := by decide +kernel
theorem dX5_keep_122 : decode cX5_keep 122 = .ok (.iload_n 2, 1) := by decide +kernel
theorem dX5_keep_123 : decode cX5_keep 123 = .ok (.aload_n 0, 1) := by decide +kernel
theorem dX5_keep_124 : decode cX5_keep 124 = .ok (.iload_n 1, 1) := by decide +kernel
theorem dX5_keep_125 : decode cX5_keep 125 = .ok (.iload 7, 2) := by decide +kernel
theorem dX5_keep_127 : decode cX5_keep 127 = .ok (.invokevirtual 109, 3) := by decide +kernel
theorem dX5_keep_130 : decode cX5_keep 130 = .ok (.aload_n 0, 1) := by decide +kernel
theorem dX5_keep_131 : decode cX5_keep 131 = .ok (.iload_n 1, 1) := by decide +kernel
theorem dX5_keep_132 : decode cX5_keep 132 = .ok (.iload 7, 2) := by decide +kernel
theorem dX5_keep_134 : decode cX5_keep 134 = .ok (.invokevirtual 113, 3) := by decide +kernel
theorem dX5_keep_137 : decode cX5_keep 137 = .ok (.invokevirtual 208, 3) := by decide +kernel
theorem dX5_keep_140 : decode cX5_keep 140 = .ok (.iload_n 3, 1) := by decide +kernel
theorem dX5_keep_141 : decode cX5_keep 141 = .ok (.if_icmp .ne 7, 3) := by decide +kernel
theorem dX5_keep_144 : decode cX5_keep 144 = .ok (.iconst 1, 1) := by decide +kernel
theorem dX5_keep_145 : decode cX5_keep 145 = .ok (.goto 4, 3) := by decide +kernel
theorem dX5_keep_148 : decode cX5_keep 148 = .ok (.iconst 0, 1) := by decide +kernel
theorem dX5_keep_149 : decode cX5_keep 149 = .ok (.bastore, 1) := by decide +kernel
theorem dX5_keep_150 : decode cX5_keep 150 = .ok (.iinc 7 1, 3) := by decide +kernel
theorem dX5_keep_153 : decode cX5_keep 153 = .ok (.goto (-46), 3) := by decide +kernel
theorem dX5_keep_156 : decode cX5_keep 156 = .ok (.aload_n 0, 1) := by decide +kernel
theorem dX5_keep_157 : decode cX5_keep 157 = .ok (.iload_n 1, 1) := by decide +kernel
theorem dX5_keep_158 : decode cX5_keep 158 = .ok (.aload 6, 2) := by decide +kernel
theorem dX5_keep_160 : decode cX5_keep 160 = .ok (.invokevirtual 211, 3) := by decide +kernel
theorem dX5_keep_163 : decode cX5_keep 163 = .ok (.ireturn, 1) := by decide +kernel
theorem dX5_strip_0 : decode cX5_strip 0 = .ok (.aload_n 0, 1) := by decide +kernel
theorem dX5_strip_1 : decode cX5_strip 1 = .ok (.iload_n 1, 1) := by decide +kernel
theorem dX5_strip_2 : decode cX5_strip 2 = .ok (.invokevirtual 199, 3) := by decide +kernel
theorem dX5_strip_5 : decode cX5_strip 5 = .ok (.ifCond .ne 11, 3) := by decide +kernel
theorem dX5_strip_8 : decode cX5_strip 8 = .ok (.aload_n 0, 1) := by decide +kernel
theorem dX5_strip_9 : decode cX5_strip 9 = .ok (.iload_n 1, 1) := by decide +kernel
theorem dX5_strip_10 : decode cX5_strip 10 = .ok (.invokevirtual 215, 3) := by decide +kernel
theorem dX5_strip_13 : decode cX5_strip 13 = .ok (.ifCond .eq 7, 3) := by decide +kernel
theorem dX5_strip_16 : decode cX5_strip 16 = .ok (.iconst 1, 1) := by decide +kernel
theorem dX5_strip_17 : decode cX5_strip 17 = .ok (.goto 4, 3) := by decide +kernel
theorem dX5_strip_20 : decode cX5_strip 20 = .ok (.iconst 0, 1) := by decide +kernel
theorem dX5_strip_21 : decode cX5_strip 21 = .ok (.istore_n 3, 1) := by decide +kernel
theorem dX5_strip_22 : decode cX5_strip 22 = .ok (.iload_n 3, 1) := by decide +kernel
theorem dX5_strip_23 : decode cX5_strip 23 = .ok (.ifCond .eq 15, 3) := by decide +kernel
theorem dX5_strip_26 : decode cX5_strip 26 = .ok (.aload_n 0, 1) := by decide +kernel
theorem dX5_strip_27 : decode cX5_strip 27 = .ok (.iload_n 1, 1) := by decide +kernel
theorem dX5_strip_28 : decode cX5_strip 28 = .ok (.invokevirtual 173, 3) := by decide +kernel
theorem dX5_strip_31 : decode cX5_strip 31 = .ok (.ifCond .eq 7, 3) := by decide +kernel
theorem dX5_strip_34 : decode cX5_strip 34 = .ok (.iconst 1, 1) := by decide +kernel
theorem dX5_strip_35 : decode cX5_strip 35 = .ok (.goto 4, 3) := by decide +kernel
theorem dX5_strip_38 : decode cX5_strip 38 = .ok (.iconst 0, 1) := by decide +kernel
theorem dX5_strip_39 : decode cX5_strip 39 = .ok (.istore 4, 2) := by decide +kernel
theorem dX5_strip_41 : decode cX5_strip 41 = .ok (.aload_n 0, 1) := by decide +kernel
theorem dX5_strip_42 : decode cX5_strip 42 = .ok (.iload_n 1, 1) := by decide +kernel
theorem dX5_strip_43 : decode cX5_strip 43 = .ok (.invokestatic 82, 3) := by decide +kernel
theorem dX5_strip_46 : decode cX5_strip 46 = .ok (.ifCond .ne 7, 3) := by decide +kernel
theorem dX5_strip_49 : decode cX5_strip 49 = .ok (.iconst 1, 1) := by decide +kernel
theorem dX5_strip_50 : decode cX5_strip 50 = .ok (.goto 4, 3) := by decide +kernel
theorem dX5_strip_53 : decode cX5_strip 53 = .ok (.iconst 0, 1) := by decide +kernel
theorem dX5_strip_54 : decode cX5_strip 54 = .ok (.iload_n 3, 1) := by decide +kernel
theorem dX5_strip_55 : decode cX5_strip 55 = .ok (.ifCond .ne 7, 3) := by decide +kernel
theorem dX5_strip_58 : decode cX5_strip 58 = .ok (.iconst 1, 1) := by decide +kernel
theorem dX5_strip_59 : decode cX5_strip 59 = .ok (.goto 4, 3) := by decide +kernel
theorem dX5_strip_62 : decode cX5_strip 62 = .ok (.iconst 0, 1) := by decide +kernel
theorem dX5_strip_63 : decode cX5_strip 63 = .ok (.iload 4, 2) := by decide +kernel
theorem dX5_strip_65 : decode cX5_strip 65 = .ok (.ifCond .ne 7, 3) := by decide +kernel
theorem dX5_strip_68 : decode cX5_strip 68 = .ok (.iconst 1, 1) := by decide +kernel
theorem dX5_strip_69 : decode cX5_strip 69 = .ok (.goto 4, 3) := by decide +kernel
theorem dX5_strip_72 : decode cX5_strip 72 = .ok (.iconst 0, 1) := by decide +kernel
theorem dX5_strip_73 : decode cX5_strip 73 = .ok (.iload_n 2, 1) := by decide +kernel
theorem dX5_strip_74 : decode cX5_strip 74 = .ok (.iconst 2, 1) := by decide +kernel
theorem dX5_strip_75 : decode cX5_strip 75 = .ok (.bipush 9, 2) := by decide +kernel
theorem dX5_strip_77 : decode cX5_strip 77 = .ok (.invokestatic 78, 3) := by decide +kernel
theorem dX5_strip_80 : decode cX5_strip 80 = .ok (.ifCond .ne 7, 3) := by decide +kernel
theorem dX5_strip_83 : decode cX5_strip 83 = .ok (.iconst 1, 1) := by decide +kernel
theorem dX5_strip_84 : decode cX5_strip 84 = .ok (.goto 4, 3) := by decide +kernel
theorem dX5_strip_87 : decode cX5_strip 87 = .ok (.iconst 0, 1) := by decide +kernel
theorem dX5_strip_88 : decode cX5_strip 88 = .ok (.iconst 0, 1) := by decide +kernel
theorem dX5_strip_89 : decode cX5_strip 89 = .ok (.invokevirtual 135, 3) := by decide +kernel
theorem dX5_strip_92 : decode cX5_strip 92 = .ok (.ifCond .eq 5, 3) := by decide +kernel
theorem dX5_strip_95 : decode cX5_strip 95 = .ok (.iconst 0, 1) := by decide +kernel
theorem dX5_strip_96 : decode cX5_strip 96 = .ok (.ireturn, 1) := by decide +kernel
theorem dX5_strip_97 : decode cX5_strip 97 = .ok (.bipush 24, 2) := by decide +kernel
theorem dX5_strip_99 : decode cX5_strip 99 = .ok (.newarray .boolean, 2) := by decide +kernel
theorem dX5_strip_101 : decode cX5_strip 101 = .ok (.astore 5, 2) := by decide +kernel
theorem dX5_strip_103 : decode cX5_strip 103 = .ok (.iconst 0, 1) := by decide +kernel
theorem dX5_strip_104 : decode cX5_strip 104 = .ok (.istore 6, 2) := by decide +kernel
theorem dX5_strip_106 : decode cX5_strip 106 = .ok (.iload 6, 2) := by decide +kernel
theorem dX5_strip_108 : decode cX5_strip 108 = .ok (.aload_n 0, 1) := by decide +kernel
theorem dX5_strip_109 : decode cX5_strip 109 = .ok (.iload_n 1, 1) := by decide +kernel
theorem dX5_strip_110 : decode cX5_strip 110 = .ok (.invokevirtual 116, 3) := by decide +kernel
theorem dX5_strip_113 : decode cX5_strip 113 = .ok (.if_icmp .ge 63, 3) := by decide +kernel
theorem dX5_strip_116 : decode cX5_strip 116 = .ok (.aload_n 0, 1) := by decide +kernel
theorem dX5_strip_117 : decode cX5_strip 117 = .ok (.getfield 49, 3) := by decide +kernel
theorem dX5_strip_120 : decode cX5_strip 120 = .ok (.iload_n 1, 1) := by decide +kernel
theorem dX5_strip_121 : decode cX5_strip 121 = .ok (.caload, 1) := by decide +kernel
theorem dX5_strip_122 : decode cX5_strip 122 = .ok (.bipush 107, 2) := by decide +kernel
theorem dX5_strip_124 : decode cX5_strip 124 = .ok (.if_icmp .ne 20, 3) := by decide +kernel
theorem dX5_strip_127 : decode cX5_strip 127 = .ok (.aload_n 0, 1) := by decide +kernel
theorem dX5_strip_128 : decode cX5_strip 128 = .ok (.getfield 21, 3) := by decide +kernel
theorem dX5_strip_131 : decode cX5_strip 131 = .ok (.aload_n 0, 1) := by decide +kernel
theorem dX5_strip_132 : decode cX5_strip 132 = .ok (.getfield 53, 3) := by decide +kernel
theorem dX5_strip_135 : decode cX5_strip 135 = .ok (.iload_n 1, 1) := by decide +kernel
theorem dX5_strip_136 : decode cX5_strip 136 = .ok (.iaload, 1) := by decide +kernel
theorem dX5_strip_137 : decode cX5_strip 137 = .ok (.aaload, 1) := by decide +kernel
theorem dX5_strip_138 : decode cX5_strip 138 = .ok (.iload 6, 2) := by decide +kernel
theorem dX5_strip_140 : decode cX5_strip 140 = .ok (.iaload, 1) := by decide +kernel
theorem dX5_strip_141 : decode cX5_strip 141 = .ok (.goto 10, 3) := by decide +kernel
theorem dX5_strip_144 : decode cX5_strip 144 = .ok (.aload_n 0, 1) := by decide +kernel
theorem dX5_strip_145 : decode cX5_strip 145 = .ok (.iload_n 1, 1) := by decide +kernel
theorem dX5_strip_146 : decode cX5_strip 146 = .ok (.iload 6, 2) := by decide +kernel
theorem dX5_strip_148 : decode cX5_strip 148 = .ok (.invokevirtual 109, 3) := by decide +kernel
theorem dX5_strip_151 : decode cX5_strip 151 = .ok (.istore 7, 2) := by decide +kernel
theorem dX5_strip_153 : decode cX5_strip 153 = .ok (.aload 5, 2) := by decide +kernel
theorem dX5_strip_155 : decode cX5_strip 155 = .ok (.iload 6, 2) := by decide +kernel
theorem dX5_strip_157 : decode cX5_strip 157 = .ok (.iload 7, 2) := by decide +kernel
theorem dX5_strip_159 : decode cX5_strip 159 = .ok (.iload_n 2, 1) := by decide +kernel
theorem dX5_strip_160 : decode cX5_strip 160 = .ok (.irem, 1) := by decide +kernel
theorem dX5_strip_161 : decode cX5_strip 161 = .ok (.ifCond .eq 7, 3) := by decide +kernel
theorem dX5_strip_164 : decode cX5_strip 164 = .ok (.iconst 1, 1) := by decide +kernel
theorem dX5_strip_165 : decode cX5_strip 165 = .ok (.goto 4, 3) := by decide +kernel
theorem dX5_strip_168 : decode cX5_strip 168 = .ok (.iconst 0, 1) := by decide +kernel
theorem dX5_strip_169 : decode cX5_strip 169 = .ok (.bastore, 1) := by decide +kernel
theorem dX5_strip_170 : decode cX5_strip 170 = .ok (.iinc 6 1, 3) := by decide +kernel
theorem dX5_strip_173 : decode cX5_strip 173 = .ok (.goto (-67), 3) := by decide +kernel
theorem dX5_strip_176 : decode cX5_strip 176 = .ok (.aload_n 0, 1) := by decide +kernel
theorem dX5_strip_177 : decode cX5_strip 177 = .ok (.iload_n 1, 1) := by decide +kernel
theorem dX5_strip_178 : decode cX5_strip 178 = .ok (.aload 5, 2) := by decide +kernel
theorem dX5_strip_180 : decode cX5_strip 180 = .ok (.invokevirtual 211, 3) := by decide +kernel
theorem dX5_strip_183 : decode cX5_strip 183 = .ok (.ireturn, 1) := by decide +kernel
theorem dX5_weave_0 : decode cX5_weave 0 = .ok (.aload_n 0, 1) := by decide +kernel
theorem dX5_weave_1 : decode cX5_weave 1 = .ok (.iload_n 1, 1) := by decide +kernel
theorem dX5_weave_2 : decode cX5_weave 2 = .ok (.invokevirtual 170, 3) := by decide +kernel
theorem dX5_weave_5 : decode cX5_weave 5 = .ok (.istore 4, 2) := by decide +kernel
theorem dX5_weave_7 : decode cX5_weave 7 = .ok (.iload 4, 2) := by decide +kernel
theorem dX5_weave_9 : decode cX5_weave 9 = .ok (.ifCond .eq 15, 3) := by decide +kernel
theorem dX5_weave_12 : decode cX5_weave 12 = .ok (.aload_n 0, 1) := by decide +kernel
theorem dX5_weave_13 : decode cX5_weave 13 = .ok (.iload_n 1, 1) := by decide +kernel
theorem dX5_weave_14 : decode cX5_weave 14 = .ok (.invokevirtual 173, 3) := by decide +kernel
theorem dX5_weave_17 : decode cX5_weave 17 = .ok (.ifCond .eq 7, 3) := by decide +kernel
theorem dX5_weave_20 : decode cX5_weave 20 = .ok (.iconst 1, 1) := by decide +kernel
theorem dX5_weave_21 : decode cX5_weave 21 = .ok (.goto 4, 3) := by decide +kernel
theorem dX5_weave_24 : decode cX5_weave 24 = .ok (.iconst 0, 1) := by decide +kernel
theorem dX5_weave_25 : decode cX5_weave 25 = .ok (.istore 5, 2) := by decide +kernel
theorem dX5_weave_27 : decode cX5_weave 27 = .ok (.iconst 0, 1) := by decide +kernel
theorem dX5_weave_28 : decode cX5_weave 28 = .ok (.istore 6, 2) := by decide +kernel
theorem dX5_weave_30 : decode cX5_weave 30 = .ok (.aload_n 0, 1) := by decide +kernel
theorem dX5_weave_31 : decode cX5_weave 31 = .ok (.iconst 0, 1) := by decide +kernel
theorem dX5_weave_32 : decode cX5_weave 32 = .ok (.putfield 167, 3) := by decide +kernel
theorem dX5_weave_35 : decode cX5_weave 35 = .ok (.iconst 0, 1) := by decide +kernel
theorem dX5_weave_36 : decode cX5_weave 36 = .ok (.istore 7, 2) := by decide +kernel
theorem dX5_weave_38 : decode cX5_weave 38 = .ok (.iload 5, 2) := by decide +kernel
theorem dX5_weave_40 : decode cX5_weave 40 = .ok (.ifCond .eq 57, 3) := by decide +kernel
theorem dX5_weave_43 : decode cX5_weave 43 = .ok (.iload 7, 2) := by decide +kernel
theorem dX5_weave_45 : decode cX5_weave 45 = .ok (.aload_n 0, 1) := by decide +kernel
theorem dX5_weave_46 : decode cX5_weave 46 = .ok (.iload_n 1, 1) := by decide +kernel
theorem dX5_weave_47 : decode cX5_weave 47 = .ok (.invokevirtual 116, 3) := by decide +kernel
theorem dX5_weave_50 : decode cX5_weave 50 = .ok (.if_icmp .ge 47, 3) := by decide +kernel
theorem dX5_weave_53 : decode cX5_weave 53 = .ok (.aload_n 0, 1) := by decide +kernel
theorem dX5_weave_54 : decode cX5_weave 54 = .ok (.aload_n 0, 1) := by decide +kernel
theorem dX5_weave_55 : decode cX5_weave 55 = .ok (.iload_n 1, 1) := by decide +kernel
theorem dX5_weave_56 : decode cX5_weave 56 = .ok (.iload 7, 2) := by decide +kernel
theorem dX5_weave_58 : decode cX5_weave 58 = .ok (.invokevirtual 109, 3) := by decide +kernel
theorem dX5_weave_61 : decode cX5_weave 61 = .ok (.aload_n 0, 1) := by decide +kernel
theorem dX5_weave_62 : decode cX5_weave 62 = .ok (.iload_n 1, 1) := by decide +kernel
theorem dX5_weave_63 : decode cX5_weave 63 = .ok (.iload 7, 2) := by decide +kernel
theorem dX5_weave_65 : decode cX5_weave 65 = .ok (.invokevirtual 113, 3) := by decide +kernel
theorem dX5_weave_68 : decode cX5_weave 68 = .ok (.invokevirtual 182, 3) := by decide +kernel
theorem dX5_weave_71 : decode cX5_weave 71 = .ok (.aload_n 0, 1) := by decide +kernel
theorem dX5_weave_72 : decode cX5_weave 72 = .ok (.iload_n 1, 1) := by decide +kernel
theorem dX5_weave_73 : decode cX5_weave 73 = .ok (.iload 7, 2) := by decide +kernel
theorem dX5_weave_75 : decode cX5_weave 75 = .ok (.invokevirtual 109, 3) := by decide +kernel
theorem dX5_weave_78 : decode cX5_weave 78 = .ok (.iload_n 2, 1) := by decide +kernel
theorem dX5_weave_79 : decode cX5_weave 79 = .ok (.if_icmp .ne 12, 3) := by decide +kernel
theorem dX5_weave_82 : decode cX5_weave 82 = .ok (.aload_n 0, 1) := by decide +kernel
theorem dX5_weave_83 : decode cX5_weave 83 = .ok (.iload_n 2, 1) := by decide +kernel
theorem dX5_weave_84 : decode cX5_weave 84 = .ok (.iload_n 3, 1) := by decide +kernel
theorem dX5_weave_85 : decode cX5_weave 85 = .ok (.invokevirtual 182, 3) := by decide +kernel
theorem dX5_weave_88 : decode cX5_weave 88 = .ok (.iinc 6 1, 3) := by decide +kernel
theorem dX5_weave_91 : decode cX5_weave 91 = .ok (.iinc 7 1, 3) := by decide +kernel
theorem dX5_weave_94 : decode cX5_weave 94 = .ok (.goto (-56), 3) := by decide +kernel
theorem dX5_weave_97 : decode cX5_weave 97 = .ok (.aload_n 0, 1) := by decide +kernel
theorem dX5_weave_98 : decode cX5_weave 98 = .ok (.iload_n 1, 1) := by decide +kernel
theorem dX5_weave_99 : decode cX5_weave 99 = .ok (.invokestatic 82, 3) := by decide +kernel
theorem dX5_weave_102 : decode cX5_weave 102 = .ok (.ifCond .ne 7, 3) := by decide +kernel
theorem dX5_weave_105 : decode cX5_weave 105 = .ok (.iconst 1, 1) := by decide +kernel
theorem dX5_weave_106 : decode cX5_weave 106 = .ok (.goto 4, 3) := by decide +kernel
theorem dX5_weave_109 : decode cX5_weave 109 = .ok (.iconst 0, 1) := by decide +kernel
theorem dX5_weave_110 : decode cX5_weave 110 = .ok (.iload 4, 2) := by decide +kernel
theorem dX5_weave_112 : decode cX5_weave 112 = .ok (.ifCond .ne 7, 3) := by decide +kernel
theorem dX5_weave_115 : decode cX5_weave 115 = .ok (.iconst 1, 1) := by decide +kernel
theorem dX5_weave_116 : decode cX5_weave 116 = .ok (.goto 4, 3) := by decide +kernel
theorem dX5_weave_119 : decode cX5_weave 119 = .ok (.iconst 0, 1) := by decide +kernel
theorem dX5_weave_120 : decode cX5_weave 120 = .ok (.iload 5, 2) := by decide +kernel
theorem dX5_weave_122 : decode cX5_weave 122 = .ok (.ifCond .ne 7, 3) := by decide +kernel
theorem dX5_weave_125 : decode cX5_weave 125 = .ok (.iconst 1, 1) := by decide +kernel
theorem dX5_weave_126 : decode cX5_weave 126 = .ok (.goto 4, 3) := by decide +kernel
theorem dX5_weave_129 : decode cX5_weave 129 = .ok (.iconst 0, 1) := by decide +kernel
theorem dX5_weave_130 : decode cX5_weave 130 = .ok (.iload_n 2, 1) := by decide +kernel
theorem dX5_weave_131 : decode cX5_weave 131 = .ok (.iload_n 3, 1) := by decide +kernel
theorem dX5_weave_132 : decode cX5_weave 132 = .ok (.invokestatic 148, 3) := by decide +kernel
theorem dX5_weave_135 : decode cX5_weave 135 = .ok (.ifCond .ne 7, 3) := by decide +kernel
theorem dX5_weave_138 : decode cX5_weave 138 = .ok (.iconst 1, 1) := by decide +kernel
theorem dX5_weave_139 : decode cX5_weave 139 = .ok (.goto 4, 3) := by decide +kernel
theorem dX5_weave_142 : decode cX5_weave 142 = .ok (.iconst 0, 1) := by decide +kernel
theorem dX5_weave_143 : decode cX5_weave 143 = .ok (.iload 5, 2) := by decide +kernel
theorem dX5_weave_145 : decode cX5_weave 145 = .ok (.ifCond .eq 17, 3) := by decide +kernel
theorem dX5_weave_148 : decode cX5_weave 148 = .ok (.aload_n 0, 1) := by decide +kernel
theorem dX5_weave_149 : decode cX5_weave 149 = .ok (.iload_n 1, 1) := by decide +kernel
theorem dX5_weave_150 : decode cX5_weave 150 = .ok (.iload 6, 2) := by decide +kernel
theorem dX5_weave_152 : decode cX5_weave 152 = .ok (.invokevirtual 179, 3) := by decide +kernel
theorem dX5_weave_155 : decode cX5_weave 155 = .ok (.ifCond .ne 7, 3) := by decide +kernel
theorem dX5_weave_158 : decode cX5_weave 158 = .ok (.iconst 1, 1) := by decide +kernel
theorem dX5_weave_159 : decode cX5_weave 159 = .ok (.goto 4, 3) := by decide +kernel
theorem dX5_weave_162 : decode cX5_weave 162 = .ok (.iconst 0, 1) := by decide +kernel
theorem dX5_weave_163 : decode cX5_weave 163 = .ok (.invokevirtual 135, 3) := by decide +kernel
theorem dX5_weave_166 : decode cX5_weave 166 = .ok (.ifCond .eq 5, 3) := by decide +kernel
theorem dX5_weave_169 : decode cX5_weave 169 = .ok (.iconst 0, 1) := by decide +kernel
theorem dX5_weave_170 : decode cX5_weave 170 = .ok (.ireturn, 1) := by decide +kernel
theorem dX5_weave_171 : decode cX5_weave 171 = .ok (.aload_n 0, 1) := by decide +kernel
theorem dX5_weave_172 : decode cX5_weave 172 = .ok (.iload_n 1, 1) := by decide +kernel
theorem dX5_weave_173 : decode cX5_weave 173 = .ok (.aload_n 0, 1) := by decide +kernel
theorem dX5_weave_174 : decode cX5_weave 174 = .ok (.getfield 68, 3) := by decide +kernel
theorem dX5_weave_177 : decode cX5_weave 177 = .ok (.aload_n 0, 1) := by decide +kernel
theorem dX5_weave_178 : decode cX5_weave 178 = .ok (.getfield 71, 3) := by decide +kernel
theorem dX5_weave_181 : decode cX5_weave 181 = .ok (.aload_n 0, 1) := by decide +kernel
theorem dX5_weave_182 : decode cX5_weave 182 = .ok (.getfield 167, 3) := by decide +kernel
theorem dX5_weave_185 : decode cX5_weave 185 = .ok (.invokevirtual 185, 3) := by decide +kernel
theorem dX5_weave_188 : decode cX5_weave 188 = .ok (.iload 6, 2) := by decide +kernel
theorem dX5_weave_190 : decode cX5_weave 190 = .ok (.ireturn, 1) := by decide +kernel
theorem dX5_raise_0 : decode cX5_raise 0 = .ok (.aload_n 0, 1) := by decide +kernel
theorem dX5_raise_1 : decode cX5_raise 1 = .ok (.iload_n 1, 1) := by decide +kernel
theorem dX5_raise_2 : decode cX5_raise 2 = .ok (.invokevirtual 170, 3) := by decide +kernel
theorem dX5_raise_5 : decode cX5_raise 5 = .ok (.ifCond .ne 11, 3) := by decide +kernel
theorem dX5_raise_8 : decode cX5_raise 8 = .ok (.aload_n 0, 1) := by decide +kernel
theorem dX5_raise_9 : decode cX5_raise 9 = .ok (.iload_n 1, 1) := by decide +kernel
theorem dX5_raise_10 : decode cX5_raise 10 = .ok (.invokevirtual 156, 3) := by decide +kernel
theorem dX5_raise_13 : decode cX5_raise 13 = .ok (.ifCond .eq 7, 3) := by decide +kernel
theorem dX5_raise_16 : decode cX5_raise 16 = .ok (.iconst 1, 1) := by decide +kernel
theorem dX5_raise_17 : decode cX5_raise 17 = .ok (.goto 4, 3) := by decide +kernel
theorem dX5_raise_20 : decode cX5_raise 20 = .ok (.iconst 0, 1) := by decide +kernel
theorem dX5_raise_21 : decode cX5_raise 21 = .ok (.istore_n 3, 1) := by decide +kernel
theorem dX5_raise_22 : decode cX5_raise 22 = .ok (.iload_n 3, 1) := by decide +kernel
theorem dX5_raise_23 : decode cX5_raise 23 = .ok (.ifCond .eq 15, 3) := by decide +kernel
theorem dX5_raise_26 : decode cX5_raise 26 = .ok (.aload_n 0, 1) := by decide +kernel
theorem dX5_raise_27 : decode cX5_raise 27 = .ok (.iload_n 1, 1) := by decide +kernel
theorem dX5_raise_28 : decode cX5_raise 28 = .ok (.invokevirtual 173, 3) := by decide +kernel
theorem dX5_raise_31 : decode cX5_raise 31 = .ok (.ifCond .eq 7, 3) := by decide +kernel
theorem dX5_raise_34 : decode cX5_raise 34 = .ok (.iconst 1, 1) := by decide +kernel
theorem dX5_raise_35 : decode cX5_raise 35 = .ok (.goto 4, 3) := by decide +kernel
theorem dX5_raise_38 : decode cX5_raise 38 = .ok (.iconst 0, 1) := by decide +kernel
theorem dX5_raise_39 : decode cX5_raise 39 = .ok (.istore 4, 2) := by decide +kernel
theorem dX5_raise_41 : decode cX5_raise 41 = .ok (.iload_n 2, 1) := by decide +kernel
theorem dX5_raise_42 : decode cX5_raise 42 = .ok (.bipush (-9), 2) := by decide +kernel
theorem dX5_raise_44 : decode cX5_raise 44 = .ok (.bipush 9, 2) := by decide +kernel
theorem dX5_raise_46 : decode cX5_raise 46 = .ok (.invokestatic 78, 3) := by decide +kernel
theorem dX5_raise_49 : decode cX5_raise 49 = .ok (.istore 5, 2) := by decide +kernel
theorem dX5_raise_51 : decode cX5_raise 51 = .ok (.iconst 0, 1) := by decide +kernel
theorem dX5_raise_52 : decode cX5_raise 52 = .ok (.istore 6, 2) := by decide +kernel
theorem dX5_raise_54 : decode cX5_raise 54 = .ok (.iload 4, 2) := by decide +kernel
theorem dX5_raise_56 : decode cX5_raise 56 = .ok (.ifCond .eq 52, 3) := by decide +kernel
theorem dX5_raise_59 : decode cX5_raise 59 = .ok (.iload 6, 2) := by decide +kernel
theorem dX5_raise_61 : decode cX5_raise 61 = .ok (.aload_n 0, 1) := by decide +kernel
theorem dX5_raise_62 : decode cX5_raise 62 = .ok (.iload_n 1, 1) := by decide +kernel
theorem dX5_raise_63 : decode cX5_raise 63 = .ok (.invokevirtual 116, 3) := by decide +kernel
theorem dX5_raise_66 : decode cX5_raise 66 = .ok (.if_icmp .ge 42, 3) := by decide +kernel
theorem dX5_raise_69 : decode cX5_raise 69 = .ok (.iload 5, 2) := by decide +kernel
theorem dX5_raise_71 : decode cX5_raise 71 = .ok (.ifCond .eq 28, 3) := by decide +kernel
theorem dX5_raise_74 : decode cX5_raise 74 = .ok (.aload_n 0, 1) := by decide +kernel
theorem dX5_raise_75 : decode cX5_raise 75 = .ok (.iload_n 1, 1) := by decide +kernel
theorem dX5_raise_76 : decode cX5_raise 76 = .ok (.iload 6, 2) := by decide +kernel
theorem dX5_raise_78 : decode cX5_raise 78 = .ok (.invokevirtual 109, 3) := by decide +kernel
theorem dX5_raise_81 : decode cX5_raise 81 = .ok (.iload_n 2, 1) := by decide +kernel
theorem dX5_raise_82 : decode cX5_raise 82 = .ok (.iadd, 1) := by decide +kernel
theorem dX5_raise_83 : decode cX5_raise 83 = .ok (.sipush (-999), 3) := by decide +kernel
theorem dX5_raise_86 : decode cX5_raise 86 = .ok (.sipush 999, 3) := by decide +kernel
theorem dX5_raise_89 : decode cX5_raise 89 = .ok (.invokestatic 78, 3) := by decide +kernel
theorem dX5_raise_92 : decode cX5_raise 92 = .ok (.ifCond .eq 7, 3) := by decide +kernel
theorem dX5_raise_95 : decode cX5_raise 95 = .ok (.iconst 1, 1) := by decide +kernel
theorem dX5_raise_96 : decode cX5_raise 96 = .ok (.goto 4, 3) := by decide +kernel
theorem dX5_raise_99 : decode cX5_raise 99 = .ok (.iconst 0, 1) := by decide +kernel
theorem dX5_raise_100 : decode cX5_raise 100 = .ok (.istore 5, 2) := by decide +kernel
theorem dX5_raise_102 : decode cX5_raise 102 = .ok (.iinc 6 1, 3) := by decide +kernel
theorem dX5_raise_105 : decode cX5_raise 105 = .ok (.goto (-51), 3) := by decide +kernel
theorem dX5_raise_108 : decode cX5_raise 108 = .ok (.aload_n 0, 1) := by decide +kernel
theorem dX5_raise_109 : decode cX5_raise 109 = .ok (.iload_n 1, 1) := by decide +kernel
theorem dX5_raise_110 : decode cX5_raise 110 = .ok (.invokestatic 82, 3) := by decide +kernel
theorem dX5_raise_113 : decode cX5_raise 113 = .ok (.ifCond .ne 7, 3) := by decide +kernel
theorem dX5_raise_116 : decode cX5_raise 116 = .ok (.iconst 1, 1) := by decide +kernel
theorem dX5_raise_117 : decode cX5_raise 117 = .ok (.goto 4, 3) := by decide +kernel
theorem dX5_raise_120 : decode cX5_raise 120 = .ok (.iconst 0, 1) := by decide +kernel
theorem dX5_raise_121 : decode cX5_raise 121 = .ok (.iload_n 3, 1) := by decide +kernel
theorem dX5_raise_122 : decode cX5_raise 122 = .ok (.ifCond .ne 7, 3) := by decide +kernel
theorem dX5_raise_125 : decode cX5_raise 125 = .ok (.iconst 1, 1) := by decide +kernel
theorem dX5_raise_126 : decode cX5_raise 126 = .ok (.goto 4, 3) := by decide +kernel
theorem dX5_raise_129 : decode cX5_raise 129 = .ok (.iconst 0, 1) := by decide +kernel
theorem dX5_raise_130 : decode cX5_raise 130 = .ok (.iload 4, 2) := by decide +kernel
theorem dX5_raise_132 : decode cX5_raise 132 = .ok (.ifCond .ne 7, 3) := by decide +kernel
theorem dX5_raise_135 : decode cX5_raise 135 = .ok (.iconst 1, 1) := by decide +kernel
theorem dX5_raise_136 : decode cX5_raise 136 = .ok (.goto 4, 3) := by decide +kernel
theorem dX5_raise_139 : decode cX5_raise 139 = .ok (.iconst 0, 1) := by decide +kernel
theorem dX5_raise_140 : decode cX5_raise 140 = .ok (.iload 5, 2) := by decide +kernel
theorem dX5_raise_142 : decode cX5_raise 142 = .ok (.ifCond .ne 7, 3) := by decide +kernel
theorem dX5_raise_145 : decode cX5_raise 145 = .ok (.iconst 1, 1) := by decide +kernel
theorem dX5_raise_146 : decode cX5_raise 146 = .ok (.goto 4, 3) := by decide +kernel
theorem dX5_raise_149 : decode cX5_raise 149 = .ok (.iconst 0, 1) := by decide +kernel
theorem dX5_raise_150 : decode cX5_raise 150 = .ok (.iconst 0, 1) := by decide +kernel
theorem dX5_raise_151 : decode cX5_raise 151 = .ok (.invokevirtual 135, 3) := by decide +kernel
theorem dX5_raise_154 : decode cX5_raise 154 = .ok (.ifCond .eq 5, 3) := by decide +kernel
theorem dX5_raise_157 : decode cX5_raise 157 = .ok (.iconst 0, 1) := by decide +kernel
theorem dX5_raise_158 : decode cX5_raise 158 = .ok (.ireturn, 1) := by decide +kernel
theorem dX5_raise_159 : decode cX5_raise 159 = .ok (.aload_n 0, 1) := by decide +kernel
theorem dX5_raise_160 : decode cX5_raise 160 = .ok (.getfield 49, 3) := by decide +kernel
theorem dX5_raise_163 : decode cX5_raise 163 = .ok (.iload_n 1, 1) := by decide +kernel
theorem dX5_raise_164 : decode cX5_raise 164 = .ok (.caload, 1) := by decide +kernel
theorem dX5_raise_165 : decode cX5_raise 165 = .ok (.bipush 109, 2) := by decide +kernel
theorem dX5_raise_167 : decode cX5_raise 167 = .ok (.if_icmp .ne 17, 3) := by decide +kernel
theorem dX5_raise_170 : decode cX5_raise 170 = .ok (.aload_n 0, 1) := by decide +kernel
theorem dX5_raise_171 : decode cX5_raise 171 = .ok (.getfield 24, 3) := by decide +kernel
theorem dX5_raise_174 : decode cX5_raise 174 = .ok (.aload_n 0, 1) := by decide +kernel
theorem dX5_raise_175 : decode cX5_raise 175 = .ok (.getfield 53, 3) := by decide +kernel
theorem dX5_raise_178 : decode cX5_raise 178 = .ok (.iload_n 1, 1) := by decide +kernel
theorem dX5_raise_179 : decode cX5_raise 179 = .ok (.iaload, 1) := by decide +kernel
theorem dX5_raise_180 : decode cX5_raise 180 = .ok (.aaload, 1) := by decide +kernel
theorem dX5_raise_181 : decode cX5_raise 181 = .ok (.goto 14, 3) := by decide +kernel
theorem dX5_raise_184 : decode cX5_raise 184 = .ok (.aload_n 0, 1) := by decide +kernel
theorem dX5_raise_185 : decode cX5_raise 185 = .ok (.getfield 11, 3) := by decide +kernel
theorem dX5_raise_188 : decode cX5_raise 188 = .ok (.aload_n 0, 1) := by decide +kernel
theorem dX5_raise_189 : decode cX5_raise 189 = .ok (.getfield 53, 3) := by decide +kernel
theorem dX5_raise_192 : decode cX5_raise 192 = .ok (.iload_n 1, 1) := by decide +kernel
theorem dX5_raise_193 : decode cX5_raise 193 = .ok (.iaload, 1) := by decide +kernel
theorem dX5_raise_194 : decode cX5_raise 194 = .ok (.aaload, 1) := by decide +kernel
theorem dX5_raise_195 : decode cX5_raise 195 = .ok (.astore 6, 2) := by decide +kernel
theorem dX5_raise_197 : decode cX5_raise 197 = .ok (.iconst 0, 1) := by decide +kernel
theorem dX5_raise_198 : decode cX5_raise 198 = .ok (.istore 7, 2) := by decide +kernel
theorem dX5_raise_200 : decode cX5_raise 200 = .ok (.iload 7, 2) := by decide +kernel
theorem dX5_raise_202 : decode cX5_raise 202 = .ok (.aload_n 0, 1) := by decide +kernel
theorem dX5_raise_203 : decode cX5_raise 203 = .ok (.iload_n 1, 1) := by decide +kernel
theorem dX5_raise_204 : decode cX5_raise 204 = .ok (.invokevirtual 116, 3) := by decide +kernel
theorem dX5_raise_207 : decode cX5_raise 207 = .ok (.if_icmp .ge 24, 3) := by decide +kernel
theorem dX5_raise_210 : decode cX5_raise 210 = .ok (.aload 6, 2) := by decide +kernel
theorem dX5_raise_212 : decode cX5_raise 212 = .ok (.aload_n 0, 1) := by decide +kernel
theorem dX5_raise_213 : decode cX5_raise 213 = .ok (.iload_n 1, 1) := by decide +kernel
theorem dX5_raise_214 : decode cX5_raise 214 = .ok (.invokevirtual 106, 3) := by decide +kernel
theorem dX5_raise_217 : decode cX5_raise 217 = .ok (.iload 7, 2) := by decide +kernel
theorem dX5_raise_219 : decode cX5_raise 219 = .ok (.iadd, 1) := by decide +kernel
theorem dX5_raise_220 : decode cX5_raise 220 = .ok (.dup2, 1) := by decide +kernel
theorem dX5_raise_221 : decode cX5_raise 221 = .ok (.iaload, 1) := by decide +kernel
theorem dX5_raise_222 : decode cX5_raise 222 = .ok (.iload_n 2, 1) := by decide +kernel
theorem dX5_raise_223 : decode cX5_raise 223 = .ok (.iadd, 1) := by decide +kernel
theorem dX5_raise_224 : decode cX5_raise 224 = .ok (.iastore, 1) := by decide +kernel
theorem dX5_raise_225 : decode cX5_raise 225 = .ok (.iinc 7 1, 3) := by decide +kernel
theorem dX5_raise_228 : decode cX5_raise 228 = .ok (.goto (-28), 3) := by decide +kernel
theorem dX5_raise_231 : decode cX5_raise 231 = .ok (.aload_n 0, 1) := by decide +kernel
theorem dX5_raise_232 : decode cX5_raise 232 = .ok (.iload_n 1, 1) := by decide +kernel
theorem dX5_raise_233 : decode cX5_raise 233 = .ok (.invokevirtual 116, 3) := by decide +kernel
theorem dX5_raise_236 : decode cX5_raise 236 = .ok (.ireturn, 1) := by decide +kernel
theorem dX5_returns_0 : decode cX5_returns 0 = .ok (.iconst 0, 1) := by decide +kernel
theorem dX5_returns_1 : decode cX5_returns 1 = .ok (.istore_n 2, 1) := by decide +kernel
theorem dX5_returns_2 : decode cX5_returns 2 = .ok (.iload_n 2, 1) := by decide +kernel
theorem dX5_returns_3 : decode cX5_returns 3 = .ok (.aload_n 0, 1) := by decide +kernel
theorem dX5_returns_4 : decode cX5_returns 4 = .ok (.getfield 167, 3) := by decide +kernel
theorem dX5_returns_7 : decode cX5_returns 7 = .ok (.if_icmp .ge 59, 3) := by decide +kernel
theorem dX5_returns_10 : decode cX5_returns 10 = .ok (.aload_n 0, 1) := by decide +kernel
theorem dX5_returns_11 : decode cX5_returns 11 = .ok (.getfield 11, 3) := by decide +kernel
theorem dX5_returns_14 : decode cX5_returns 14 = .ok (.aload_n 0, 1) := by decide +kernel
theorem dX5_returns_15 : decode cX5_returns 15 = .ok (.getfield 53, 3) := by decide +kernel
theorem dX5_returns_18 : decode cX5_returns 18 = .ok (.iload_n 1, 1) := by decide +kernel
theorem dX5_returns_19 : decode cX5_returns 19 = .ok (.iaload, 1) := by decide +kernel
theorem dX5_returns_20 : decode cX5_returns 20 = .ok (.aaload, 1) := by decide +kernel
theorem dX5_returns_21 : decode cX5_returns 21 = .ok (.aload_n 0, 1) := by decide +kernel
theorem dX5_returns_22 : decode cX5_returns 22 = .ok (.iload_n 1, 1) := by decide +kernel
theorem dX5_returns_23 : decode cX5_returns 23 = .ok (.invokevirtual 106, 3) := by decide +kernel
theorem dX5_returns_26 : decode cX5_returns 26 = .ok (.iload_n 2, 1) := by decide +kernel
theorem dX5_returns_27 : decode cX5_returns 27 = .ok (.iadd, 1) := by decide +kernel
theorem dX5_returns_28 : decode cX5_returns 28 = .ok (.aload_n 0, 1) := by decide +kernel
theorem dX5_returns_29 : decode cX5_returns 29 = .ok (.getfield 68, 3) := by decide +kernel
theorem dX5_returns_32 : decode cX5_returns 32 = .ok (.iload_n 2, 1) := by decide +kernel
theorem dX5_returns_33 : decode cX5_returns 33 = .ok (.iaload, 1) := by decide +kernel
theorem dX5_returns_34 : decode cX5_returns 34 = .ok (.iastore, 1) := by decide +kernel
theorem dX5_returns_35 : decode cX5_returns 35 = .ok (.aload_n 0, 1) := by decide +kernel
theorem dX5_returns_36 : decode cX5_returns 36 = .ok (.getfield 14, 3) := by decide +kernel
theorem dX5_returns_39 : decode cX5_returns 39 = .ok (.aload_n 0, 1) := by decide +kernel
theorem dX5_returns_40 : decode cX5_returns 40 = .ok (.getfield 53, 3) := by decide +kernel
theorem dX5_returns_43 : decode cX5_returns 43 = .ok (.iload_n 1, 1) := by decide +kernel
theorem dX5_returns_44 : decode cX5_returns 44 = .ok (.iaload, 1) := by decide +kernel
theorem dX5_returns_45 : decode cX5_returns 45 = .ok (.aaload, 1) := by decide +kernel
theorem dX5_returns_46 : decode cX5_returns 46 = .ok (.aload_n 0, 1) := by decide +kernel
theorem dX5_returns_47 : decode cX5_returns 47 = .ok (.iload_n 1, 1) := by decide +kernel
theorem dX5_returns_48 : decode cX5_returns 48 = .ok (.invokevirtual 106, 3) := by decide +kernel
theorem dX5_returns_51 : decode cX5_returns 51 = .ok (.iload_n 2, 1) := by decide +kernel
theorem dX5_returns_52 : decode cX5_returns 52 = .ok (.iadd, 1) := by decide +kernel
theorem dX5_returns_53 : decode cX5_returns 53 = .ok (.aload_n 0, 1) := by decide +kernel
theorem dX5_returns_54 : decode cX5_returns 54 = .ok (.getfield 71, 3) := by decide +kernel
theorem dX5_returns_57 : decode cX5_returns 57 = .ok (.iload_n 2, 1) := by decide +kernel
theorem dX5_returns_58 : decode cX5_returns 58 = .ok (.iaload, 1) := by decide +kernel
theorem dX5_returns_59 : decode cX5_returns 59 = .ok (.iastore, 1) := by decide +kernel
theorem dX5_returns_60 : decode cX5_returns 60 = .ok (.iinc 2 1, 3) := by decide +kernel
theorem dX5_returns_63 : decode cX5_returns 63 = .ok (.goto (-61), 3) := by decide +kernel
theorem dX5_returns_66 : decode cX5_returns 66 = .ok (.return_, 1) := by decide +kernel
theorem dX5_sort_0 : decode cX5_sort 0 = .ok (.aload_n 0, 1) := by decide +kernel
theorem dX5_sort_1 : decode cX5_sort 1 = .ok (.iload_n 1, 1) := by decide +kernel
theorem dX5_sort_2 : decode cX5_sort 2 = .ok (.invokevirtual 170, 3) := by decide +kernel
theorem dX5_sort_5 : decode cX5_sort 5 = .ok (.istore_n 3, 1) := by decide +kernel
theorem dX5_sort_6 : decode cX5_sort 6 = .ok (.iload_n 3, 1) := by decide +kernel
theorem dX5_sort_7 : decode cX5_sort 7 = .ok (.ifCond .eq 15, 3) := by decide +kernel
theorem dX5_sort_10 : decode cX5_sort 10 = .ok (.aload_n 0, 1) := by decide +kernel
theorem dX5_sort_11 : decode cX5_sort 11 = .ok (.iload_n 1, 1) := by decide +kernel
theorem dX5_sort_12 : decode cX5_sort 12 = .ok (.invokevirtual 173, 3) := by decide +kernel
theorem dX5_sort_15 : decode cX5_sort 15 = .ok (.ifCond .eq 7, 3) := by decide +kernel
theorem dX5_sort_18 : decode cX5_sort 18 = .ok (.iconst 1, 1) := by decide +kernel
theorem dX5_sort_19 : decode cX5_sort 19 = .ok (.goto 4, 3) := by decide +kernel
theorem dX5_sort_22 : decode cX5_sort 22 = .ok (.iconst 0, 1) := by decide +kernel
theorem dX5_sort_23 : decode cX5_sort 23 = .ok (.istore 4, 2) := by decide +kernel
theorem dX5_sort_25 : decode cX5_sort 25 = .ok (.aload_n 0, 1) := by decide +kernel
theorem dX5_sort_26 : decode cX5_sort 26 = .ok (.iload_n 1, 1) := by decide +kernel
theorem dX5_sort_27 : decode cX5_sort 27 = .ok (.invokestatic 82, 3) := by decide +kernel
theorem dX5_sort_30 : decode cX5_sort 30 = .ok (.ifCond .ne 7, 3) := by decide +kernel
theorem dX5_sort_33 : decode cX5_sort 33 = .ok (.iconst 1, 1) := by decide +kernel
theorem dX5_sort_34 : decode cX5_sort 34 = .ok (.goto 4, 3) := by decide +kernel
theorem dX5_sort_37 : decode cX5_sort 37 = .ok (.iconst 0, 1) := by decide +kernel
theorem dX5_sort_38 : decode cX5_sort 38 = .ok (.iload_n 3, 1) := by decide +kernel
theorem dX5_sort_39 : decode cX5_sort 39 = .ok (.ifCond .ne 7, 3) := by decide +kernel
theorem dX5_sort_42 : decode cX5_sort 42 = .ok (.iconst 1, 1) := by decide +kernel
theorem dX5_sort_43 : decode cX5_sort 43 = .ok (.goto 4, 3) := by decide +kernel
theorem dX5_sort_46 : decode cX5_sort 46 = .ok (.iconst 0, 1) := by decide +kernel
theorem dX5_sort_47 : decode cX5_sort 47 = .ok (.iload 4, 2) := by decide +kernel
theorem dX5_sort_49 : decode cX5_sort 49 = .ok (.ifCond .ne 7, 3) := by decide +kernel
theorem dX5_sort_52 : decode cX5_sort 52 = .ok (.iconst 1, 1) := by decide +kernel
theorem dX5_sort_53 : decode cX5_sort 53 = .ok (.goto 4, 3) := by decide +kernel
theorem dX5_sort_56 : decode cX5_sort 56 = .ok (.iconst 0, 1) := by decide +kernel
theorem dX5_sort_57 : decode cX5_sort 57 = .ok (.ldc 218, 2) := by decide +kernel
theorem dX5_sort_59 : decode cX5_sort 59 = .ok (.iload_n 2, 1) := by decide +kernel
theorem dX5_sort_60 : decode cX5_sort 60 = .ok (.invokevirtual 86, 3) := by decide +kernel
theorem dX5_sort_63 : decode cX5_sort 63 = .ok (.ifCond .ge 7, 3) := by decide +kernel
theorem dX5_sort_66 : decode cX5_sort 66 = .ok (.iconst 1, 1) := by decide +kernel
theorem dX5_sort_67 : decode cX5_sort 67 = .ok (.goto 4, 3) := by decide +kernel
theorem dX5_sort_70 : decode cX5_sort 70 = .ok (.iconst 0, 1) := by decide +kernel
theorem dX5_sort_71 : decode cX5_sort 71 = .ok (.iconst 0, 1) := by decide +kernel
theorem dX5_sort_72 : decode cX5_sort 72 = .ok (.invokevirtual 135, 3) := by decide +kernel
theorem dX5_sort_75 : decode cX5_sort 75 = .ok (.ifCond .eq 5, 3) := by decide +kernel
theorem dX5_sort_78 : decode cX5_sort 78 = .ok (.iconst 0, 1) := by decide +kernel
theorem dX5_sort_79 : decode cX5_sort 79 = .ok (.ireturn, 1) := by decide +kernel
theorem dX5_sort_80 : decode cX5_sort 80 = .ok (.iload_n 2, 1) := by decide +kernel
theorem dX5_sort_81 : decode cX5_sort 81 = .ok (.bipush 107, 2) := by decide +kernel
theorem dX5_sort_83 : decode cX5_sort 83 = .ok (.if_icmp .eq 9, 3) := by decide +kernel
theorem dX5_sort_86 : decode cX5_sort 86 = .ok (.iload_n 2, 1) := by decide +kernel
theorem dX5_sort_87 : decode cX5_sort 87 = .ok (.bipush 75, 2) := by decide +kernel
theorem dX5_sort_89 : decode cX5_sort 89 = .ok (.if_icmp .ne 7, 3) := by decide +kernel
theorem dX5_sort_92 : decode cX5_sort 92 = .ok (.iconst 1, 1) := by decide +kernel
theorem dX5_sort_93 : decode cX5_sort 93 = .ok (.goto 4, 3) := by decide +kernel
theorem dX5_sort_96 : decode cX5_sort 96 = .ok (.iconst 0, 1) := by decide +kernel
theorem dX5_sort_97 : decode cX5_sort 97 = .ok (.istore 5, 2) := by decide +kernel
theorem dX5_sort_99 : decode cX5_sort 99 = .ok (.iload_n 2, 1) := by decide +kernel
theorem dX5_sort_100 : decode cX5_sort 100 = .ok (.bipush 107, 2) := by decide +kernel
theorem dX5_sort_102 : decode cX5_sort 102 = .ok (.if_icmp .eq 9, 3) := by decide +kernel
theorem dX5_sort_105 : decode cX5_sort 105 = .ok (.iload_n 2, 1) := by decide +kernel
theorem dX5_sort_106 : decode cX5_sort 106 = .ok (.bipush 109, 2) := by decide +kernel
theorem dX5_sort_108 : decode cX5_sort 108 = .ok (.if_icmp .ne 7, 3) := by decide +kernel
theorem dX5_sort_111 : decode cX5_sort 111 = .ok (.iconst 1, 1) := by decide +kernel
theorem dX5_sort_112 : decode cX5_sort 112 = .ok (.goto 4, 3) := by decide +kernel
theorem dX5_sort_115 : decode cX5_sort 115 = .ok (.iconst (-1), 1) := by decide +kernel
theorem dX5_sort_116 : decode cX5_sort 116 = .ok (.istore 6, 2) := by decide +kernel
theorem dX5_sort_118 : decode cX5_sort 118 = .ok (.aload_n 0, 1) := by decide +kernel
theorem dX5_sort_119 : decode cX5_sort 119 = .ok (.iconst 0, 1) := by decide +kernel
theorem dX5_sort_120 : decode cX5_sort 120 = .ok (.putfield 167, 3) := by decide +kernel
theorem dX5_sort_123 : decode cX5_sort 123 = .ok (.iconst 0, 1) := by decide +kernel
theorem dX5_sort_124 : decode cX5_sort 124 = .ok (.istore 7, 2) := by decide +kernel
theorem dX5_sort_126 : decode cX5_sort 126 = .ok (.iload 7, 2) := by decide +kernel
theorem dX5_sort_128 : decode cX5_sort 128 = .ok (.aload_n 0, 1) := by decide +kernel
theorem dX5_sort_129 : decode cX5_sort 129 = .ok (.iload_n 1, 1) := by decide +kernel
theorem dX5_sort_130 : decode cX5_sort 130 = .ok (.invokevirtual 116, 3) := by decide +kernel
theorem dX5_sort_133 : decode cX5_sort 133 = .ok (.if_icmp .ge 155, 3) := by decide +kernel
theorem dX5_sort_136 : decode cX5_sort 136 = .ok (.aload_n 0, 1) := by decide +kernel
theorem dX5_sort_137 : decode cX5_sort 137 = .ok (.iload_n 1, 1) := by decide +kernel
theorem dX5_sort_138 : decode cX5_sort 138 = .ok (.iload 7, 2) := by decide +kernel
theorem dX5_sort_140 : decode cX5_sort 140 = .ok (.invokevirtual 109, 3) := by decide +kernel
theorem dX5_sort_143 : decode cX5_sort 143 = .ok (.istore 8, 2) := by decide +kernel
theorem dX5_sort_145 : decode cX5_sort 145 = .ok (.aload_n 0, 1) := by decide +kernel
theorem dX5_sort_146 : decode cX5_sort 146 = .ok (.iload_n 1, 1) := by decide +kernel
theorem dX5_sort_147 : decode cX5_sort 147 = .ok (.iload 7, 2) := by decide +kernel
theorem dX5_sort_149 : decode cX5_sort 149 = .ok (.invokevirtual 113, 3) := by decide +kernel
theorem dX5_sort_152 : decode cX5_sort 152 = .ok (.istore 9, 2) := by decide +kernel
theorem dX5_sort_154 : decode cX5_sort 154 = .ok (.iload 6, 2) := by decide +kernel
theorem dX5_sort_156 : decode cX5_sort 156 = .ok (.iload 5, 2) := by decide +kernel
theorem dX5_sort_158 : decode cX5_sort 158 = .ok (.ifCond .eq 8, 3) := by decide +kernel
theorem dX5_sort_161 : decode cX5_sort 161 = .ok (.iload 8, 2) := by decide +kernel
theorem dX5_sort_163 : decode cX5_sort 163 = .ok (.goto 5, 3) := by decide +kernel
theorem dX5_sort_166 : decode cX5_sort 166 = .ok (.iload 9, 2) := by decide +kernel
theorem dX5_sort_168 : decode cX5_sort 168 = .ok (.imul, 1) := by decide +kernel
theorem dX5_sort_169 : decode cX5_sort 169 = .ok (.istore 10, 2) := by decide +kernel
theorem dX5_sort_171 : decode cX5_sort 171 = .ok (.aload_n 0, 1) := by decide +kernel
theorem dX5_sort_172 : decode cX5_sort 172 = .ok (.getfield 167, 3) := by decide +kernel
theorem dX5_sort_175 : decode cX5_sort 175 = .ok (.istore 11, 2) := by decide +kernel
theorem dX5_sort_177 : decode cX5_sort 177 = .ok (.iload 11, 2) := by decide +kernel
theorem dX5_sort_179 : decode cX5_sort 179 = .ok (.ifCond .le 75, 3) := by decide +kernel
theorem dX5_sort_182 : decode cX5_sort 182 = .ok (.iload 6, 2) := by decide +kernel
theorem dX5_sort_184 : decode cX5_sort 184 = .ok (.iload 5, 2) := by decide +kernel
theorem dX5_sort_186 : decode cX5_sort 186 = .ok (.ifCond .eq 15, 3) := by decide +kernel
theorem dX5_sort_189 : decode cX5_sort 189 = .ok (.aload_n 0, 1) := by decide +kernel
theorem dX5_sort_190 : decode cX5_sort 190 = .ok (.getfield 68, 3) := by decide +kernel
theorem dX5_sort_193 : decode cX5_sort 193 = .ok (.iload 11, 2) := by decide +kernel
theorem dX5_sort_195 : decode cX5_sort 195 = .ok (.iconst 1, 1) := by decide +kernel
theorem dX5_sort_196 : decode cX5_sort 196 = .ok (.isub, 1) := by decide +kernel
theorem dX5_sort_197 : decode cX5_sort 197 = .ok (.iaload, 1) := by decide +kernel
theorem dX5_sort_198 : decode cX5_sort 198 = .ok (.goto 12, 3) := by decide +kernel
theorem dX5_sort_201 : decode cX5_sort 201 = .ok (.aload_n 0, 1) := by decide +kernel
theorem dX5_sort_202 : decode cX5_sort 202 = .ok (.getfield 71, 3) := by decide +kernel
theorem dX5_sort_205 : decode cX5_sort 205 = .ok (.iload 11, 2) := by decide +kernel
theorem dX5_sort_207 : decode cX5_sort 207 = .ok (.iconst 1, 1) := by decide +kernel
theorem dX5_sort_208 : decode cX5_sort 208 = .ok (.isub, 1) := by decide +kernel
theorem dX5_sort_209 : decode cX5_sort 209 = .ok (.iaload, 1) := by decide +kernel
theorem dX5_sort_210 : decode cX5_sort 210 = .ok (.imul, 1) := by decide +kernel
theorem dX5_sort_211 : decode cX5_sort 211 = .ok (.iload 10, 2) := by decide +kernel
theorem dX5_sort_213 : decode cX5_sort 213 = .ok (.if_icmp .le 41, 3) := by decide +kernel
theorem dX5_sort_216 : decode cX5_sort 216 = .ok (.aload_n 0, 1) := by decide +kernel
theorem dX5_sort_217 : decode cX5_sort 217 = .ok (.getfield 68, 3) := by decide +kernel
theorem dX5_sort_220 : decode cX5_sort 220 = .ok (.iload 11, 2) := by decide +kernel
theorem dX5_sort_222 : decode cX5_sort 222 = .ok (.aload_n 0, 1) := by decide +kernel
theorem dX5_sort_223 : decode cX5_sort 223 = .ok (.getfield 68, 3) := by decide +kernel
theorem dX5_sort_226 : decode cX5_sort 226 = .ok (.iload 11, 2) := by decide +kernel
theorem dX5_sort_228 : decode cX5_sort 228 = .ok (.iconst 1, 1) := by decide +kernel
theorem dX5_sort_229 : decode cX5_sort 229 = .ok (.isub, 1) := by decide +kernel
theorem dX5_sort_230 : decode cX5_sort 230 = .ok (.iaload, 1) := by decide +kernel
theorem dX5_sort_231 : decode cX5_sort 231 = .ok (.iastore, 1) := by decide +kernel
theorem dX5_sort_232 : decode cX5_sort 232 = .ok (.aload_n 0, 1) := by decide +kernel
theorem dX5_sort_233 : decode cX5_sort 233 = .ok (.getfield 71, 3) := by decide +kernel
theorem dX5_sort_236 : decode cX5_sort 236 = .ok (.iload 11, 2) := by decide +kernel
theorem dX5_sort_238 : decode cX5_sort 238 = .ok (.aload_n 0, 1) := by decide +kernel
theorem dX5_sort_239 : decode cX5_sort 239 = .ok (.getfield 71, 3) := by decide +kernel
theorem dX5_sort_242 : decode cX5_sort 242 = .ok (.iload 11, 2) := by decide +kernel
theorem dX5_sort_244 : decode cX5_sort 244 = .ok (.iconst 1, 1) := by decide +kernel
theorem dX5_sort_245 : decode cX5_sort 245 = .ok (.isub, 1) := by decide +kernel
theorem dX5_sort_246 : decode cX5_sort 246 = .ok (.iaload, 1) := by decide +kernel
theorem dX5_sort_247 : decode cX5_sort 247 = .ok (.iastore, 1) := by decide +kernel
theorem dX5_sort_248 : decode cX5_sort 248 = .ok (.iinc 11 (-1), 3) := by decide +kernel
theorem dX5_sort_251 : decode cX5_sort 251 = .ok (.goto (-74), 3) := by decide +kernel
theorem dX5_sort_254 : decode cX5_sort 254 = .ok (.aload_n 0, 1) := by decide +kernel
theorem dX5_sort_255 : decode cX5_sort 255 = .ok (.getfield 68, 3) := by decide +kernel
theorem dX5_sort_258 : decode cX5_sort 258 = .ok (.iload 11, 2) := by decide +kernel
theorem dX5_sort_260 : decode cX5_sort 260 = .ok (.iload 8, 2) := by decide +kernel
theorem dX5_sort_262 : decode cX5_sort 262 = .ok (.iastore, 1) := by decide +kernel
theorem dX5_sort_263 : decode cX5_sort 263 = .ok (.aload_n 0, 1) := by decide +kernel
theorem dX5_sort_264 : decode cX5_sort 264 = .ok (.getfield 71, 3) := by decide +kernel
theorem dX5_sort_267 : decode cX5_sort 267 = .ok (.iload 11, 2) := by decide +kernel
theorem dX5_sort_269 : decode cX5_sort 269 = .ok (.iload 9, 2) := by decide +kernel
theorem dX5_sort_271 : decode cX5_sort 271 = .ok (.iastore, 1) := by decide +kernel
theorem dX5_sort_272 : decode cX5_sort 272 = .ok (.aload_n 0, 1) := by decide +kernel
theorem dX5_sort_273 : decode cX5_sort 273 = .ok (.dup, 1) := by decide +kernel
theorem dX5_sort_274 : decode cX5_sort 274 = .ok (.getfield 167, 3) := by decide +kernel
theorem dX5_sort_277 : decode cX5_sort 277 = .ok (.iconst 1, 1) := by decide +kernel
theorem dX5_sort_278 : decode cX5_sort 278 = .ok (.iadd, 1) := by decide +kernel
theorem dX5_sort_279 : decode cX5_sort 279 = .ok (.putfield 167, 3) := by decide +kernel
theorem dX5_sort_282 : decode cX5_sort 282 = .ok (.iinc 7 1, 3) := by decide +kernel
theorem dX5_sort_285 : decode cX5_sort 285 = .ok (.goto (-159), 3) := by decide +kernel
theorem dX5_sort_288 : decode cX5_sort 288 = .ok (.aload_n 0, 1) := by decide +kernel
theorem dX5_sort_289 : decode cX5_sort 289 = .ok (.iload_n 1, 1) := by decide +kernel
theorem dX5_sort_290 : decode cX5_sort 290 = .ok (.invokevirtual 220, 3) := by decide +kernel
theorem dX5_sort_293 : decode cX5_sort 293 = .ok (.aload_n 0, 1) := by decide +kernel
theorem dX5_sort_294 : decode cX5_sort 294 = .ok (.aload_n 0, 1) := by decide +kernel
theorem dX5_sort_295 : decode cX5_sort 295 = .ok (.getfield 53, 3) := by decide +kernel
theorem dX5_sort_298 : decode cX5_sort 298 = .ok (.iload_n 1, 1) := by decide +kernel
theorem dX5_sort_299 : decode cX5_sort 299 = .ok (.iaload, 1) := by decide +kernel
theorem dX5_sort_300 : decode cX5_sort 300 = .ok (.aload_n 0, 1) := by decide +kernel
theorem dX5_sort_301 : decode cX5_sort 301 = .ok (.getfield 56, 3) := by decide +kernel
theorem dX5_sort_304 : decode cX5_sort 304 = .ok (.iload_n 1, 1) := by decide +kernel
theorem dX5_sort_305 : decode cX5_sort 305 = .ok (.iaload, 1) := by decide +kernel
theorem dX5_sort_306 : decode cX5_sort 306 = .ok (.invokevirtual 163, 3) := by decide +kernel
theorem dX5_sort_309 : decode cX5_sort 309 = .ok (.aload_n 0, 1) := by decide +kernel
theorem dX5_sort_310 : decode cX5_sort 310 = .ok (.iload_n 1, 1) := by decide +kernel
theorem dX5_sort_311 : decode cX5_sort 311 = .ok (.invokevirtual 116, 3) := by decide +kernel
theorem dX5_sort_314 : decode cX5_sort 314 = .ok (.ireturn, 1) := by decide +kernel
theorem dX5_search_0 : decode cX5_search 0 = .ok (.aload_n 0, 1) := by decide +kernel
theorem dX5_search_1 : decode cX5_search 1 = .ok (.iload_n 1, 1) := by decide +kernel
theorem dX5_search_2 : decode cX5_search 2 = .ok (.invokevirtual 170, 3) := by decide +kernel
theorem dX5_search_5 : decode cX5_search 5 = .ok (.istore_n 3, 1) := by decide +kernel
theorem dX5_search_6 : decode cX5_search 6 = .ok (.iconst 1, 1) := by decide +kernel
theorem dX5_search_7 : decode cX5_search 7 = .ok (.istore 4, 2) := by decide +kernel
theorem dX5_search_9 : decode cX5_search 9 = .ok (.iconst 0, 1) := by decide +kernel
theorem dX5_search_10 : decode cX5_search 10 = .ok (.istore 5, 2) := by decide +kernel
theorem dX5_search_12 : decode cX5_search 12 = .ok (.iconst 0, 1) := by decide +kernel
theorem dX5_search_13 : decode cX5_search 13 = .ok (.istore 6, 2) := by decide +kernel
theorem dX5_search_15 : decode cX5_search 15 = .ok (.iconst 0, 1) := by decide +kernel
theorem dX5_search_16 : decode cX5_search 16 = .ok (.istore 7, 2) := by decide +kernel
theorem dX5_search_18 : decode cX5_search 18 = .ok (.iload_n 3, 1) := by decide +kernel
theorem dX5_search_19 : decode cX5_search 19 = .ok (.ifCond .eq 99, 3) := by decide +kernel
theorem dX5_search_22 : decode cX5_search 22 = .ok (.iload 7, 2) := by decide +kernel
theorem dX5_search_24 : decode cX5_search 24 = .ok (.aload_n 0, 1) := by decide +kernel
theorem dX5_search_25 : decode cX5_search 25 = .ok (.iload_n 1, 1) := by decide +kernel
theorem dX5_search_26 : decode cX5_search 26 = .ok (.invokevirtual 116, 3) := by decide +kernel
theorem dX5_search_29 : decode cX5_search 29 = .ok (.if_icmp .ge 89, 3) := by decide +kernel
theorem dX5_search_32 : decode cX5_search 32 = .ok (.iload 4, 2) := by decide +kernel
theorem dX5_search_34 : decode cX5_search 34 = .ok (.ifCond .eq 31, 3) := by decide +kernel
theorem dX5_search_37 : decode cX5_search 37 = .ok (.iload 7, 2) := by decide +kernel
theorem dX5_search_39 : decode cX5_search 39 = .ok (.ifCond .eq 22, 3) := by decide +kernel
theorem dX5_search_42 : decode cX5_search 42 = .ok (.aload_n 0, 1) := by decide +kernel
theorem dX5_search_43 : decode cX5_search 43 = .ok (.iload_n 1, 1) := by decide +kernel
theorem dX5_search_44 : decode cX5_search 44 = .ok (.iload 7, 2) := by decide +kernel
theorem dX5_search_46 : decode cX5_search 46 = .ok (.iconst 1, 1) := by decide +kernel
theorem dX5_search_47 : decode cX5_search 47 = .ok (.isub, 1) := by decide +kernel
theorem dX5_search_48 : decode cX5_search 48 = .ok (.invokevirtual 109, 3) := by decide +kernel
theorem dX5_search_51 : decode cX5_search 51 = .ok (.aload_n 0, 1) := by decide +kernel
theorem dX5_search_52 : decode cX5_search 52 = .ok (.iload_n 1, 1) := by decide +kernel
theorem dX5_search_53 : decode cX5_search 53 = .ok (.iload 7, 2) := by decide +kernel
theorem dX5_search_55 : decode cX5_search 55 = .ok (.invokevirtual 109, 3) := by decide +kernel
theorem dX5_search_58 : decode cX5_search 58 = .ok (.if_icmp .gt 7, 3) := by decide +kernel
theorem dX5_search_61 : decode cX5_search 61 = .ok (.iconst 1, 1) := by decide +kernel
theorem dX5_search_62 : decode cX5_search 62 = .ok (.goto 4, 3) := by decide +kernel
theorem dX5_search_65 : decode cX5_search 65 = .ok (.iconst 0, 1) := by decide +kernel
theorem dX5_search_66 : decode cX5_search 66 = .ok (.istore 4, 2) := by decide +kernel
theorem dX5_search_68 : decode cX5_search 68 = .ok (.iload 5, 2) := by decide +kernel
theorem dX5_search_70 : decode cX5_search 70 = .ok (.aload_n 0, 1) := by decide +kernel
theorem dX5_search_71 : decode cX5_search 71 = .ok (.iload_n 1, 1) := by decide +kernel
theorem dX5_search_72 : decode cX5_search 72 = .ok (.iload 7, 2) := by decide +kernel
theorem dX5_search_74 : decode cX5_search 74 = .ok (.invokevirtual 109, 3) := by decide +kernel
theorem dX5_search_77 : decode cX5_search 77 = .ok (.iload_n 2, 1) := by decide +kernel
theorem dX5_search_78 : decode cX5_search 78 = .ok (.if_icmp .ge 7, 3) := by decide +kernel
theorem dX5_search_81 : decode cX5_search 81 = .ok (.iconst 1, 1) := by decide +kernel
theorem dX5_search_82 : decode cX5_search 82 = .ok (.goto 4, 3) := by decide +kernel
theorem dX5_search_85 : decode cX5_search 85 = .ok (.iconst 0, 1) := by decide +kernel
theorem dX5_search_86 : decode cX5_search 86 = .ok (.iadd, 1) := by decide +kernel
theorem dX5_search_87 : decode cX5_search 87 = .ok (.istore 5, 2) := by decide +kernel
theorem dX5_search_89 : decode cX5_search 89 = .ok (.iload 6, 2) := by decide +kernel
theorem dX5_search_91 : decode cX5_search 91 = .ok (.ifCond .ne 14, 3) := by decide +kernel
theorem dX5_search_94 : decode cX5_search 94 = .ok (.aload_n 0, 1) := by decide +kernel
theorem dX5_search_95 : decode cX5_search 95 = .ok (.iload_n 1, 1) := by decide +kernel
theorem dX5_search_96 : decode cX5_search 96 = .ok (.iload 7, 2) := by decide +kernel
theorem dX5_search_98 : decode cX5_search 98 = .ok (.invokevirtual 109, 3) := by decide +kernel
theorem dX5_search_101 : decode cX5_search 101 = .ok (.iload_n 2, 1) := by decide +kernel
theorem dX5_search_102 : decode cX5_search 102 = .ok (.if_icmp .ne 7, 3) := by decide +kernel
theorem dX5_search_105 : decode cX5_search 105 = .ok (.iconst 1, 1) := by decide +kernel
theorem dX5_search_106 : decode cX5_search 106 = .ok (.goto 4, 3) := by decide +kernel
theorem dX5_search_109 : decode cX5_search 109 = .ok (.iconst 0, 1) := by decide +kernel
theorem dX5_search_110 : decode cX5_search 110 = .ok (.istore 6, 2) := by decide +kernel
theorem dX5_search_112 : decode cX5_search 112 = .ok (.iinc 7 1, 3) := by decide +kernel
theorem dX5_search_115 : decode cX5_search 115 = .ok (.goto (-97), 3) := by decide +kernel
theorem dX5_search_118 : decode cX5_search 118 = .ok (.aload_n 0, 1) := by decide +kernel
theorem dX5_search_119 : decode cX5_search 119 = .ok (.iload_n 1, 1) := by decide +kernel
theorem dX5_search_120 : decode cX5_search 120 = .ok (.invokestatic 82, 3) := by decide +kernel
theorem dX5_search_123 : decode cX5_search 123 = .ok (.ifCond .ne 7, 3) := by decide +kernel
theorem dX5_search_126 : decode cX5_search 126 = .ok (.iconst 1, 1) := by decide +kernel
theorem dX5_search_127 : decode cX5_search 127 = .ok (.goto 4, 3) := by decide +kernel
theorem dX5_search_130 : decode cX5_search 130 = .ok (.iconst 0, 1) := by decide +kernel
theorem dX5_search_131 : decode cX5_search 131 = .ok (.iload_n 3, 1) := by decide +kernel
theorem dX5_search_132 : decode cX5_search 132 = .ok (.ifCond .ne 7, 3) := by decide +kernel
theorem dX5_search_135 : decode cX5_search 135 = .ok (.iconst 1, 1) := by decide +kernel
theorem dX5_search_136 : decode cX5_search 136 = .ok (.goto 4, 3) := by decide +kernel
theorem dX5_search_139 : decode cX5_search 139 = .ok (.iconst 0, 1) := by decide +kernel
theorem dX5_search_140 : decode cX5_search 140 = .ok (.iload 4, 2) := by decide +kernel
theorem dX5_search_142 : decode cX5_search 142 = .ok (.ifCond .ne 7, 3) := by decide +kernel
theorem dX5_search_145 : decode cX5_search 145 = .ok (.iconst 1, 1) := by decide +kernel
theorem dX5_search_146 : decode cX5_search 146 = .ok (.goto 4, 3) := by decide +kernel
theorem dX5_search_149 : decode cX5_search 149 = .ok (.iconst 0, 1) := by decide +kernel
theorem dX5_search_150 : decode cX5_search 150 = .ok (.iconst 0, 1) := by decide +kernel
theorem dX5_search_151 : decode cX5_search 151 = .ok (.iconst 0, 1) := by decide +kernel
theorem dX5_search_152 : decode cX5_search 152 = .ok (.invokevirtual 135, 3) := by decide +kernel
theorem dX5_search_155 : decode cX5_search 155 = .ok (.ifCond .eq 7, 3) := by decide +kernel
theorem dX5_search_158 : decode cX5_search 158 = .ok (.iconst 0, 1) := by decide +kernel
theorem dX5_search_159 : decode cX5_search 159 = .ok (.goto 17, 3) := by decide +kernel
theorem dX5_search_162 : decode cX5_search 162 = .ok (.iload 6, 2) := by decide +kernel
theorem dX5_search_164 : decode cX5_search 164 = .ok (.ifCond .eq 8, 3) := by decide +kernel
theorem dX5_search_167 : decode cX5_search 167 = .ok (.bipush 100, 2) := by decide +kernel
theorem dX5_search_169 : decode cX5_search 169 = .ok (.goto 7, 3) := by decide +kernel
theorem dX5_search_172 : decode cX5_search 172 = .ok (.iconst (-1), 1) := by decide +kernel
theorem dX5_search_173 : decode cX5_search 173 = .ok (.iload 5, 2) := by decide +kernel
theorem dX5_search_175 : decode cX5_search 175 = .ok (.isub, 1) := by decide +kernel
theorem dX5_search_176 : decode cX5_search 176 = .ok (.ireturn, 1) := by decide +kernel
theorem dX5_moves_0 : decode cX5_moves 0 = .ok (.aload_n 0, 1) := by decide +kernel
theorem dX5_moves_1 : decode cX5_moves 1 = .ok (.iload_n 1, 1) := by decide +kernel
theorem dX5_moves_2 : decode cX5_moves 2 = .ok (.invokevirtual 116, 3) := by decide +kernel
theorem dX5_moves_5 : decode cX5_moves 5 = .ok (.istore 4, 2) := by decide +kernel
theorem dX5_moves_7 : decode cX5_moves 7 = .ok (.aload_n 0, 1) := by decide +kernel
theorem dX5_moves_8 : decode cX5_moves 8 = .ok (.iload 4, 2) := by decide +kernel
theorem dX5_moves_10 : decode cX5_moves 10 = .ok (.putfield 167, 3) := by decide +kernel
theorem dX5_moves_13 : decode cX5_moves 13 = .ok (.iconst 0, 1) := by decide +kernel
theorem dX5_moves_14 : decode cX5_moves 14 = .ok (.istore 5, 2) := by decide +kernel
theorem dX5_moves_16 : decode cX5_moves 16 = .ok (.iload 5, 2) := by decide +kernel
theorem dX5_moves_18 : decode cX5_moves 18 = .ok (.iload 4, 2) := by decide +kernel
theorem dX5_moves_20 : decode cX5_moves 20 = .ok (.if_icmp .ge 54, 3) := by decide +kernel
theorem dX5_moves_23 : decode cX5_moves 23 = .ok (.iload_n 2, 1) := by decide +kernel
theorem dX5_moves_24 : decode cX5_moves 24 = .ok (.iload_n 3, 1) := by decide +kernel
theorem dX5_moves_25 : decode cX5_moves 25 = .ok (.iload 5, 2) := by decide +kernel
theorem dX5_moves_27 : decode cX5_moves 27 = .ok (.imul, 1) := by decide +kernel
theorem dX5_moves_28 : decode cX5_moves 28 = .ok (.iadd, 1) := by decide +kernel
theorem dX5_moves_29 : decode cX5_moves 29 = .ok (.iload 4, 2) := by decide +kernel
theorem dX5_moves_31 : decode cX5_moves 31 = .ok (.irem, 1) := by decide +kernel
theorem dX5_moves_32 : decode cX5_moves 32 = .ok (.iload 4, 2) := by decide +kernel
theorem dX5_moves_34 : decode cX5_moves 34 = .ok (.iadd, 1) := by decide +kernel
theorem dX5_moves_35 : decode cX5_moves 35 = .ok (.iload 4, 2) := by decide +kernel
theorem dX5_moves_37 : decode cX5_moves 37 = .ok (.irem, 1) := by decide +kernel
theorem dX5_moves_38 : decode cX5_moves 38 = .ok (.istore 6, 2) := by decide +kernel
theorem dX5_moves_40 : decode cX5_moves 40 = .ok (.aload_n 0, 1) := by decide +kernel
theorem dX5_moves_41 : decode cX5_moves 41 = .ok (.getfield 68, 3) := by decide +kernel
theorem dX5_moves_44 : decode cX5_moves 44 = .ok (.iload 6, 2) := by decide +kernel
theorem dX5_moves_46 : decode cX5_moves 46 = .ok (.aload_n 0, 1) := by decide +kernel
theorem dX5_moves_47 : decode cX5_moves 47 = .ok (.iload_n 1, 1) := by decide +kernel
theorem dX5_moves_48 : decode cX5_moves 48 = .ok (.iload 5, 2) := by decide +kernel
theorem dX5_moves_50 : decode cX5_moves 50 = .ok (.invokevirtual 109, 3) := by decide +kernel
theorem dX5_moves_53 : decode cX5_moves 53 = .ok (.iastore, 1) := by decide +kernel
theorem dX5_moves_54 : decode cX5_moves 54 = .ok (.aload_n 0, 1) := by decide +kernel
theorem dX5_moves_55 : decode cX5_moves 55 = .ok (.getfield 71, 3) := by decide +kernel
theorem dX5_moves_58 : decode cX5_moves 58 = .ok (.iload 6, 2) := by decide +kernel
theorem dX5_moves_60 : decode cX5_moves 60 = .ok (.aload_n 0, 1) := by decide +kernel
theorem dX5_moves_61 : decode cX5_moves 61 = .ok (.iload_n 1, 1) := by decide +kernel
theorem dX5_moves_62 : decode cX5_moves 62 = .ok (.iload 5, 2) := by decide +kernel
theorem dX5_moves_64 : decode cX5_moves 64 = .ok (.invokevirtual 113, 3) := by decide +kernel
theorem dX5_moves_67 : decode cX5_moves 67 = .ok (.iastore, 1) := by decide +kernel
theorem dX5_moves_68 : decode cX5_moves 68 = .ok (.iinc 5 1, 3) := by decide +kernel
theorem dX5_moves_71 : decode cX5_moves 71 = .ok (.goto (-55), 3) := by decide +kernel
theorem dX5_moves_74 : decode cX5_moves 74 = .ok (.aload_n 0, 1) := by decide +kernel
theorem dX5_moves_75 : decode cX5_moves 75 = .ok (.iload_n 1, 1) := by decide +kernel
theorem dX5_moves_76 : decode cX5_moves 76 = .ok (.invokevirtual 220, 3) := by decide +kernel
theorem dX5_moves_79 : decode cX5_moves 79 = .ok (.iload 4, 2) := by decide +kernel
theorem dX5_moves_81 : decode cX5_moves 81 = .ok (.ireturn, 1) := by decide +kernel
theorem dX5_turn_0 : decode cX5_turn 0 = .ok (.aload_n 0, 1) := by decide +kernel
theorem dX5_turn_1 : decode cX5_turn 1 = .ok (.iload_n 1, 1) := by decide +kernel
theorem dX5_turn_2 : decode cX5_turn 2 = .ok (.invokevirtual 170, 3) := by decide +kernel
theorem dX5_turn_5 : decode cX5_turn 5 = .ok (.istore_n 2, 1) := by decide +kernel
theorem dX5_turn_6 : decode cX5_turn 6 = .ok (.iload_n 2, 1) := by decide +kernel
theorem dX5_turn_7 : decode cX5_turn 7 = .ok (.ifCond .eq 15, 3) := by decide +kernel
theorem dX5_turn_10 : decode cX5_turn 10 = .ok (.aload_n 0, 1) := by decide +kernel
theorem dX5_turn_11 : decode cX5_turn 11 = .ok (.iload_n 1, 1) := by decide +kernel
theorem dX5_turn_12 : decode cX5_turn 12 = .ok (.invokevirtual 173, 3) := by decide +kernel
theorem dX5_turn_15 : decode cX5_turn 15 = .ok (.ifCond .eq 7, 3) := by decide +kernel
theorem dX5_turn_18 : decode cX5_turn 18 = .ok (.iconst 1, 1) := by decide +kernel
theorem dX5_turn_19 : decode cX5_turn 19 = .ok (.goto 4, 3) := by decide +kernel
theorem dX5_turn_22 : decode cX5_turn 22 = .ok (.iconst 0, 1) := by decide +kernel
theorem dX5_turn_23 : decode cX5_turn 23 = .ok (.istore_n 3, 1) := by decide +kernel
theorem dX5_turn_24 : decode cX5_turn 24 = .ok (.aload_n 0, 1) := by decide +kernel
theorem dX5_turn_25 : decode cX5_turn 25 = .ok (.iload_n 1, 1) := by decide +kernel
theorem dX5_turn_26 : decode cX5_turn 26 = .ok (.invokestatic 82, 3) := by decide +kernel
theorem dX5_turn_29 : decode cX5_turn 29 = .ok (.ifCond .ne 7, 3) := by decide +kernel
theorem dX5_turn_32 : decode cX5_turn 32 = .ok (.iconst 1, 1) := by decide +kernel
theorem dX5_turn_33 : decode cX5_turn 33 = .ok (.goto 4, 3) := by decide +kernel
theorem dX5_turn_36 : decode cX5_turn 36 = .ok (.iconst 0, 1) := by decide +kernel
theorem dX5_turn_37 : decode cX5_turn 37 = .ok (.iload_n 2, 1) := by decide +kernel
theorem dX5_turn_38 : decode cX5_turn 38 = .ok (.ifCond .ne 7, 3) := by decide +kernel
theorem dX5_turn_41 : decode cX5_turn 41 = .ok (.iconst 1, 1) := by decide +kernel
theorem dX5_turn_42 : decode cX5_turn 42 = .ok (.goto 4, 3) := by decide +kernel
theorem dX5_turn_45 : decode cX5_turn 45 = .ok (.iconst 0, 1) := by decide +kernel
theorem dX5_turn_46 : decode cX5_turn 46 = .ok (.iload_n 3, 1) := by decide +kernel
theorem dX5_turn_47 : decode cX5_turn 47 = .ok (.ifCond .ne 7, 3) := by decide +kernel
theorem dX5_turn_50 : decode cX5_turn 50 = .ok (.iconst 1, 1) := by decide +kernel
theorem dX5_turn_51 : decode cX5_turn 51 = .ok (.goto 4, 3) := by decide +kernel
theorem dX5_turn_54 : decode cX5_turn 54 = .ok (.iconst 0, 1) := by decide +kernel
theorem dX5_turn_55 : decode cX5_turn 55 = .ok (.iconst 0, 1) := by decide +kernel
theorem dX5_turn_56 : decode cX5_turn 56 = .ok (.iconst 0, 1) := by decide +kernel
theorem dX5_turn_57 : decode cX5_turn 57 = .ok (.invokevirtual 135, 3) := by decide +kernel
theorem dX5_turn_60 : decode cX5_turn 60 = .ok (.ifCond .eq 7, 3) := by decide +kernel
theorem dX5_turn_63 : decode cX5_turn 63 = .ok (.iconst 0, 1) := by decide +kernel
theorem dX5_turn_64 : decode cX5_turn 64 = .ok (.goto 16, 3) := by decide +kernel
theorem dX5_turn_67 : decode cX5_turn 67 = .ok (.aload_n 0, 1) := by decide +kernel
theorem dX5_turn_68 : decode cX5_turn 68 = .ok (.iload_n 1, 1) := by decide +kernel
theorem dX5_turn_69 : decode cX5_turn 69 = .ok (.aload_n 0, 1) := by decide +kernel
theorem dX5_turn_70 : decode cX5_turn 70 = .ok (.iload_n 1, 1) := by decide +kernel
theorem dX5_turn_71 : decode cX5_turn 71 = .ok (.invokevirtual 116, 3) := by decide +kernel
theorem dX5_turn_74 : decode cX5_turn 74 = .ok (.iconst 1, 1) := by decide +kernel
theorem dX5_turn_75 : decode cX5_turn 75 = .ok (.isub, 1) := by decide +kernel
theorem dX5_turn_76 : decode cX5_turn 76 = .ok (.iconst (-1), 1) := by decide +kernel
theorem dX5_turn_77 : decode cX5_turn 77 = .ok (.invokevirtual 224, 3) := by decide +kernel
theorem dX5_turn_80 : decode cX5_turn 80 = .ok (.ireturn, 1) := by decide +kernel
theorem dX5_swap_0 : decode cX5_swap 0 = .ok (.aload_n 0, 1) := by decide +kernel
theorem dX5_swap_1 : decode cX5_swap 1 = .ok (.iload_n 1, 1) := by decide +kernel
theorem dX5_swap_2 : decode cX5_swap 2 = .ok (.invokevirtual 170, 3) := by decide +kernel
theorem dX5_swap_5 : decode cX5_swap 5 = .ok (.istore 4, 2) := by decide +kernel
theorem dX5_swap_7 : decode cX5_swap 7 = .ok (.iload 4, 2) := by decide +kernel
theorem dX5_swap_9 : decode cX5_swap 9 = .ok (.ifCond .eq 15, 3) := by decide +kernel
theorem dX5_swap_12 : decode cX5_swap 12 = .ok (.aload_n 0, 1) := by decide +kernel
theorem dX5_swap_13 : decode cX5_swap 13 = .ok (.iload_n 1, 1) := by decide +kernel
theorem dX5_swap_14 : decode cX5_swap 14 = .ok (.invokevirtual 173, 3) := by decide +kernel
theorem dX5_swap_17 : decode cX5_swap 17 = .ok (.ifCond .eq 7, 3) := by decide +kernel
theorem dX5_swap_20 : decode cX5_swap 20 = .ok (.iconst 1, 1) := by decide +kernel
theorem dX5_swap_21 : decode cX5_swap 21 = .ok (.goto 4, 3) := by decide +kernel
theorem dX5_swap_24 : decode cX5_swap 24 = .ok (.iconst 0, 1) := by decide +kernel
theorem dX5_swap_25 : decode cX5_swap 25 = .ok (.istore 5, 2) := by decide +kernel
theorem dX5_swap_27 : decode cX5_swap 27 = .ok (.aload_n 0, 1) := by decide +kernel
theorem dX5_swap_28 : decode cX5_swap 28 = .ok (.iload_n 1, 1) := by decide +kernel
theorem dX5_swap_29 : decode cX5_swap 29 = .ok (.invokestatic 82, 3) := by decide +kernel
theorem dX5_swap_32 : decode cX5_swap 32 = .ok (.ifCond .ne 7, 3) := by decide +kernel
theorem dX5_swap_35 : decode cX5_swap 35 = .ok (.iconst 1, 1) := by decide +kernel
theorem dX5_swap_36 : decode cX5_swap 36 = .ok (.goto 4, 3) := by decide +kernel
theorem dX5_swap_39 : decode cX5_swap 39 = .ok (.iconst 0, 1) := by decide +kernel
theorem dX5_swap_40 : decode cX5_swap 40 = .ok (.iload 4, 2) := by decide +kernel
theorem dX5_swap_42 : decode cX5_swap 42 = .ok (.ifCond .ne 7, 3) := by decide +kernel
theorem dX5_swap_45 : decode cX5_swap 45 = .ok (.iconst 1, 1) := by decide +kernel
theorem dX5_swap_46 : decode cX5_swap 46 = .ok (.goto 4, 3) := by decide +kernel
theorem dX5_swap_49 : decode cX5_swap 49 = .ok (.iconst 0, 1) := by decide +kernel
theorem dX5_swap_50 : decode cX5_swap 50 = .ok (.iload 5, 2) := by decide +kernel
theorem dX5_swap_52 : decode cX5_swap 52 = .ok (.ifCond .ne 7, 3) := by decide +kernel
theorem dX5_swap_55 : decode cX5_swap 55 = .ok (.iconst 1, 1) := by decide +kernel
theorem dX5_swap_56 : decode cX5_swap 56 = .ok (.goto 4, 3) := by decide +kernel
theorem dX5_swap_59 : decode cX5_swap 59 = .ok (.iconst 0, 1) := by decide +kernel
theorem dX5_swap_60 : decode cX5_swap 60 = .ok (.iload 5, 2) := by decide +kernel
theorem dX5_swap_62 : decode cX5_swap 62 = .ok (.ifCond .eq 27, 3) := by decide +kernel
theorem dX5_swap_65 : decode cX5_swap 65 = .ok (.aload_n 0, 1) := by decide +kernel
theorem dX5_swap_66 : decode cX5_swap 66 = .ok (.iload_n 1, 1) := by decide +kernel
theorem dX5_swap_67 : decode cX5_swap 67 = .ok (.iload_n 2, 1) := by decide +kernel
theorem dX5_swap_68 : decode cX5_swap 68 = .ok (.iconst 0, 1) := by decide +kernel
theorem dX5_swap_69 : decode cX5_swap 69 = .ok (.invokevirtual 176, 3) := by decide +kernel
theorem dX5_swap_72 : decode cX5_swap 72 = .ok (.ifCond .eq 13, 3) := by decide +kernel
theorem dX5_swap_75 : decode cX5_swap 75 = .ok (.aload_n 0, 1) := by decide +kernel
theorem dX5_swap_76 : decode cX5_swap 76 = .ok (.iload_n 1, 1) := by decide +kernel
theorem dX5_swap_77 : decode cX5_swap 77 = .ok (.iload_n 3, 1) := by decide +kernel
theorem dX5_swap_78 : decode cX5_swap 78 = .ok (.iconst 0, 1) := by decide +kernel
theorem dX5_swap_79 : decode cX5_swap 79 = .ok (.invokevirtual 176, 3) := by decide +kernel
theorem dX5_swap_82 : decode cX5_swap 82 = .ok (.ifCond .ne 7, 3) := by decide +kernel
theorem dX5_swap_85 : decode cX5_swap 85 = .ok (.iconst 1, 1) := by decide +kernel
theorem dX5_swap_86 : decode cX5_swap 86 = .ok (.goto 4, 3) := by decide +kernel
theorem dX5_swap_89 : decode cX5_swap 89 = .ok (.iconst 0, 1) := by decide +kernel
theorem dX5_swap_90 : decode cX5_swap 90 = .ok (.iconst 0, 1) := by decide +kernel
theorem dX5_swap_91 : decode cX5_swap 91 = .ok (.invokevirtual 135, 3) := by decide +kernel
theorem dX5_swap_94 : decode cX5_swap 94 = .ok (.ifCond .eq 5, 3) := by decide +kernel
theorem dX5_swap_97 : decode cX5_swap 97 = .ok (.iconst 0, 1) := by decide +kernel
theorem dX5_swap_98 : decode cX5_swap 98 = .ok (.ireturn, 1) := by decide +kernel
theorem dX5_swap_99 : decode cX5_swap 99 = .ok (.aload_n 0, 1) := by decide +kernel
theorem dX5_swap_100 : decode cX5_swap 100 = .ok (.iload_n 1, 1) := by decide +kernel
theorem dX5_swap_101 : decode cX5_swap 101 = .ok (.iconst 0, 1) := by decide +kernel
theorem dX5_swap_102 : decode cX5_swap 102 = .ok (.iconst 1, 1) := by decide +kernel
theorem dX5_swap_103 : decode cX5_swap 103 = .ok (.invokevirtual 224, 3) := by decide +kernel
theorem dX5_swap_106 : decode cX5_swap 106 = .ok (.istore 6, 2) := by decide +kernel
theorem dX5_swap_108 : decode cX5_swap 108 = .ok (.aload_n 0, 1) := by decide +kernel
theorem dX5_swap_109 : decode cX5_swap 109 = .ok (.iload_n 1, 1) := by decide +kernel
theorem dX5_swap_110 : decode cX5_swap 110 = .ok (.invokevirtual 106, 3) := by decide +kernel
theorem dX5_swap_113 : decode cX5_swap 113 = .ok (.istore 7, 2) := by decide +kernel
theorem dX5_swap_115 : decode cX5_swap 115 = .ok (.aload_n 0, 1) := by decide +kernel
theorem dX5_swap_116 : decode cX5_swap 116 = .ok (.getfield 11, 3) := by decide +kernel
theorem dX5_swap_119 : decode cX5_swap 119 = .ok (.aload_n 0, 1) := by decide +kernel
theorem dX5_swap_120 : decode cX5_swap 120 = .ok (.getfield 53, 3) := by decide +kernel
theorem dX5_swap_123 : decode cX5_swap 123 = .ok (.iload_n 1, 1) := by decide +kernel
theorem dX5_swap_124 : decode cX5_swap 124 = .ok (.iaload, 1) := by decide +kernel
theorem dX5_swap_125 : decode cX5_swap 125 = .ok (.aaload, 1) := by decide +kernel
theorem dX5_swap_126 : decode cX5_swap 126 = .ok (.iload 7, 2) := by decide +kernel
theorem dX5_swap_128 : decode cX5_swap 128 = .ok (.iload_n 2, 1) := by decide +kernel
theorem dX5_swap_129 : decode cX5_swap 129 = .ok (.iadd, 1) := by decide +kernel
theorem dX5_swap_130 : decode cX5_swap 130 = .ok (.aload_n 0, 1) := by decide +kernel
theorem dX5_swap_131 : decode cX5_swap 131 = .ok (.getfield 68, 3) := by decide +kernel
theorem dX5_swap_134 : decode cX5_swap 134 = .ok (.iload_n 3, 1) := by decide +kernel
theorem dX5_swap_135 : decode cX5_swap 135 = .ok (.iaload, 1) := by decide +kernel
theorem dX5_swap_136 : decode cX5_swap 136 = .ok (.iastore, 1) := by decide +kernel
theorem dX5_swap_137 : decode cX5_swap 137 = .ok (.aload_n 0, 1) := by decide +kernel
theorem dX5_swap_138 : decode cX5_swap 138 = .ok (.getfield 14, 3) := by decide +kernel
theorem dX5_swap_141 : decode cX5_swap 141 = .ok (.aload_n 0, 1) := by decide +kernel
theorem dX5_swap_142 : decode cX5_swap 142 = .ok (.getfield 53, 3) := by decide +kernel
theorem dX5_swap_145 : decode cX5_swap 145 = .ok (.iload_n 1, 1) := by decide +kernel
theorem dX5_swap_146 : decode cX5_swap 146 = .ok (.iaload, 1) := by decide +kernel
theorem dX5_swap_147 : decode cX5_swap 147 = .ok (.aaload, 1) := by decide +kernel
theorem dX5_swap_148 : decode cX5_swap 148 = .ok (.iload 7, 2) := by decide +kernel
theorem dX5_swap_150 : decode cX5_swap 150 = .ok (.iload_n 2, 1) := by decide +kernel
theorem dX5_swap_151 : decode cX5_swap 151 = .ok (.iadd, 1) := by decide +kernel
theorem dX5_swap_152 : decode cX5_swap 152 = .ok (.aload_n 0, 1) := by decide +kernel
theorem dX5_swap_153 : decode cX5_swap 153 = .ok (.getfield 71, 3) := by decide +kernel
theorem dX5_swap_156 : decode cX5_swap 156 = .ok (.iload_n 3, 1) := by decide +kernel
theorem dX5_swap_157 : decode cX5_swap 157 = .ok (.iaload, 1) := by decide +kernel
theorem dX5_swap_158 : decode cX5_swap 158 = .ok (.iastore, 1) := by decide +kernel
theorem dX5_swap_159 : decode cX5_swap 159 = .ok (.aload_n 0, 1) := by decide +kernel
theorem dX5_swap_160 : decode cX5_swap 160 = .ok (.getfield 11, 3) := by decide +kernel
theorem dX5_swap_163 : decode cX5_swap 163 = .ok (.aload_n 0, 1) := by decide +kernel
theorem dX5_swap_164 : decode cX5_swap 164 = .ok (.getfield 53, 3) := by decide +kernel
theorem dX5_swap_167 : decode cX5_swap 167 = .ok (.iload_n 1, 1) := by decide +kernel
theorem dX5_swap_168 : decode cX5_swap 168 = .ok (.iaload, 1) := by decide +kernel
theorem dX5_swap_169 : decode cX5_swap 169 = .ok (.aaload, 1) := by decide +kernel
theorem dX5_swap_170 : decode cX5_swap 170 = .ok (.iload 7, 2) := by decide +kernel
theorem dX5_swap_172 : decode cX5_swap 172 = .ok (.iload_n 3, 1) := by decide +kernel
theorem dX5_swap_173 : decode cX5_swap 173 = .ok (.iadd, 1) := by decide +kernel
theorem dX5_swap_174 : decode cX5_swap 174 = .ok (.aload_n 0, 1) := by decide +kernel
theorem dX5_swap_175 : decode cX5_swap 175 = .ok (.getfield 68, 3) := by decide +kernel
theorem dX5_swap_178 : decode cX5_swap 178 = .ok (.iload_n 2, 1) := by decide +kernel
theorem dX5_swap_179 : decode cX5_swap 179 = .ok (.iaload, 1) := by decide +kernel
theorem dX5_swap_180 : decode cX5_swap 180 = .ok (.iastore, 1) := by decide +kernel
theorem dX5_swap_181 : decode cX5_swap 181 = .ok (.aload_n 0, 1) := by decide +kernel
theorem dX5_swap_182 : decode cX5_swap 182 = .ok (.getfield 14, 3) := by decide +kernel
theorem dX5_swap_185 : decode cX5_swap 185 = .ok (.aload_n 0, 1) := by decide +kernel
theorem dX5_swap_186 : decode cX5_swap 186 = .ok (.getfield 53, 3) := by decide +kernel
theorem dX5_swap_189 : decode cX5_swap 189 = .ok (.iload_n 1, 1) := by decide +kernel
theorem dX5_swap_190 : decode cX5_swap 190 = .ok (.iaload, 1) := by decide +kernel
theorem dX5_swap_191 : decode cX5_swap 191 = .ok (.aaload, 1) := by decide +kernel
theorem dX5_swap_192 : decode cX5_swap 192 = .ok (.iload 7, 2) := by decide +kernel
theorem dX5_swap_194 : decode cX5_swap 194 = .ok (.iload_n 3, 1) := by decide +kernel
theorem dX5_swap_195 : decode cX5_swap 195 = .ok (.iadd, 1) := by decide +kernel
theorem dX5_swap_196 : decode cX5_swap 196 = .ok (.aload_n 0, 1) := by decide +kernel
theorem dX5_swap_197 : decode cX5_swap 197 = .ok (.getfield 71, 3) := by decide +kernel
theorem dX5_swap_200 : decode cX5_swap 200 = .ok (.iload_n 2, 1) := by decide +kernel
theorem dX5_swap_201 : decode cX5_swap 201 = .ok (.iaload, 1) := by decide +kernel
theorem dX5_swap_202 : decode cX5_swap 202 = .ok (.iastore, 1) := by decide +kernel
theorem dX5_swap_203 : decode cX5_swap 203 = .ok (.iload 6, 2) := by decide +kernel
theorem dX5_swap_205 : decode cX5_swap 205 = .ok (.ireturn, 1) := by decide +kernel
theorem dX5_rotate_0 : decode cX5_rotate 0 = .ok (.aload_n 0, 1) := by decide +kernel
theorem dX5_rotate_1 : decode cX5_rotate 1 = .ok (.iload_n 1, 1) := by decide +kernel
theorem dX5_rotate_2 : decode cX5_rotate 2 = .ok (.invokevirtual 170, 3) := by decide +kernel
theorem dX5_rotate_5 : decode cX5_rotate 5 = .ok (.istore_n 3, 1) := by decide +kernel
theorem dX5_rotate_6 : decode cX5_rotate 6 = .ok (.iload_n 3, 1) := by decide +kernel
theorem dX5_rotate_7 : decode cX5_rotate 7 = .ok (.ifCond .eq 15, 3) := by decide +kernel
theorem dX5_rotate_10 : decode cX5_rotate 10 = .ok (.aload_n 0, 1) := by decide +kernel
theorem dX5_rotate_11 : decode cX5_rotate 11 = .ok (.iload_n 1, 1) := by decide +kernel
theorem dX5_rotate_12 : decode cX5_rotate 12 = .ok (.invokevirtual 173, 3) := by decide +kernel
theorem dX5_rotate_15 : decode cX5_rotate 15 = .ok (.ifCond .eq 7, 3) := by decide +kernel
theorem dX5_rotate_18 : decode cX5_rotate 18 = .ok (.iconst 1, 1) := by decide +kernel
theorem dX5_rotate_19 : decode cX5_rotate 19 = .ok (.goto 4, 3) := by decide +kernel
theorem dX5_rotate_22 : decode cX5_rotate 22 = .ok (.iconst 0, 1) := by decide +kernel
theorem dX5_rotate_23 : decode cX5_rotate 23 = .ok (.istore 4, 2) := by decide +kernel
theorem dX5_rotate_25 : decode cX5_rotate 25 = .ok (.aload_n 0, 1) := by decide +kernel
theorem dX5_rotate_26 : decode cX5_rotate 26 = .ok (.iload_n 1, 1) := by decide +kernel
theorem dX5_rotate_27 : decode cX5_rotate 27 = .ok (.invokestatic 82, 3) := by decide +kernel
theorem dX5_rotate_30 : decode cX5_rotate 30 = .ok (.ifCond .ne 7, 3) := by decide +kernel
theorem dX5_rotate_33 : decode cX5_rotate 33 = .ok (.iconst 1, 1) := by decide +kernel
theorem dX5_rotate_34 : decode cX5_rotate 34 = .ok (.goto 4, 3) := by decide +kernel
theorem dX5_rotate_37 : decode cX5_rotate 37 = .ok (.iconst 0, 1) := by decide +kernel
theorem dX5_rotate_38 : decode cX5_rotate 38 = .ok (.iload_n 3, 1) := by decide +kernel
theorem dX5_rotate_39 : decode cX5_rotate 39 = .ok (.ifCond .ne 7, 3) := by decide +kernel
theorem dX5_rotate_42 : decode cX5_rotate 42 = .ok (.iconst 1, 1) := by decide +kernel
theorem dX5_rotate_43 : decode cX5_rotate 43 = .ok (.goto 4, 3) := by decide +kernel
theorem dX5_rotate_46 : decode cX5_rotate 46 = .ok (.iconst 0, 1) := by decide +kernel
theorem dX5_rotate_47 : decode cX5_rotate 47 = .ok (.iload 4, 2) := by decide +kernel
theorem dX5_rotate_49 : decode cX5_rotate 49 = .ok (.ifCond .ne 7, 3) := by decide +kernel
theorem dX5_rotate_52 : decode cX5_rotate 52 = .ok (.iconst 1, 1) := by decide +kernel
theorem dX5_rotate_53 : decode cX5_rotate 53 = .ok (.goto 4, 3) := by decide +kernel
theorem dX5_rotate_56 : decode cX5_rotate 56 = .ok (.iconst 0, 1) := by decide +kernel
theorem dX5_rotate_57 : decode cX5_rotate 57 = .ok (.iload_n 2, 1) := by decide +kernel
theorem dX5_rotate_58 : decode cX5_rotate 58 = .ok (.bipush (-100), 2) := by decide +kernel
theorem dX5_rotate_60 : decode cX5_rotate 60 = .ok (.bipush 100, 2) := by decide +kernel
theorem dX5_rotate_62 : decode cX5_rotate 62 = .ok (.invokestatic 78, 3) := by decide +kernel
theorem dX5_rotate_65 : decode cX5_rotate 65 = .ok (.ifCond .ne 7, 3) := by decide +kernel
theorem dX5_rotate_68 : decode cX5_rotate 68 = .ok (.iconst 1, 1) := by decide +kernel
theorem dX5_rotate_69 : decode cX5_rotate 69 = .ok (.goto 4, 3) := by decide +kernel
theorem dX5_rotate_72 : decode cX5_rotate 72 = .ok (.iconst 0, 1) := by decide +kernel
theorem dX5_rotate_73 : decode cX5_rotate 73 = .ok (.iconst 0, 1) := by decide +kernel
theorem dX5_rotate_74 : decode cX5_rotate 74 = .ok (.invokevirtual 135, 3) := by decide +kernel
theorem dX5_rotate_77 : decode cX5_rotate 77 = .ok (.ifCond .eq 7, 3) := by decide +kernel
theorem dX5_rotate_80 : decode cX5_rotate 80 = .ok (.iconst 0, 1) := by decide +kernel
theorem dX5_rotate_81 : decode cX5_rotate 81 = .ok (.goto 10, 3) := by decide +kernel
theorem dX5_rotate_84 : decode cX5_rotate 84 = .ok (.aload_n 0, 1) := by decide +kernel
theorem dX5_rotate_85 : decode cX5_rotate 85 = .ok (.iload_n 1, 1) := by decide +kernel
theorem dX5_rotate_86 : decode cX5_rotate 86 = .ok (.iload_n 2, 1) := by decide +kernel
theorem dX5_rotate_87 : decode cX5_rotate 87 = .ok (.iconst 1, 1) := by decide +kernel
theorem dX5_rotate_88 : decode cX5_rotate 88 = .ok (.invokevirtual 224, 3) := by decide +kernel
theorem dX5_rotate_91 : decode cX5_rotate 91 = .ok (.ireturn, 1) := by decide +kernel
theorem dX5_fill_0 : decode cX5_fill 0 = .ok (.aload_n 0, 1) := by decide +kernel
theorem dX5_fill_1 : decode cX5_fill 1 = .ok (.iload_n 1, 1) := by decide +kernel
theorem dX5_fill_2 : decode cX5_fill 2 = .ok (.invokevirtual 170, 3) := by decide +kernel
theorem dX5_fill_5 : decode cX5_fill 5 = .ok (.istore 4, 2) := by decide +kernel
theorem dX5_fill_7 : decode cX5_fill 7 = .ok (.iload 4, 2) := by decide +kernel
theorem dX5_fill_9 : decode cX5_fill 9 = .ok (.ifCond .eq 15, 3) := by decide +kernel
theorem dX5_fill_12 : decode cX5_fill 12 = .ok (.aload_n 0, 1) := by decide +kernel
theorem dX5_fill_13 : decode cX5_fill 13 = .ok (.iload_n 1, 1) := by decide +kernel
theorem dX5_fill_14 : decode cX5_fill 14 = .ok (.invokevirtual 173, 3) := by decide +kernel
theorem dX5_fill_17 : decode cX5_fill 17 = .ok (.ifCond .eq 7, 3) := by decide +kernel
theorem dX5_fill_20 : decode cX5_fill 20 = .ok (.iconst 1, 1) := by decide +kernel
theorem dX5_fill_21 : decode cX5_fill 21 = .ok (.goto 4, 3) := by decide +kernel
theorem dX5_fill_24 : decode cX5_fill 24 = .ok (.iconst 0, 1) := by decide +kernel
theorem dX5_fill_25 : decode cX5_fill 25 = .ok (.istore 5, 2) := by decide +kernel
theorem dX5_fill_27 : decode cX5_fill 27 = .ok (.aload_n 0, 1) := by decide +kernel
theorem dX5_fill_28 : decode cX5_fill 28 = .ok (.iload_n 1, 1) := by decide +kernel
theorem dX5_fill_29 : decode cX5_fill 29 = .ok (.invokestatic 82, 3) := by decide +kernel
theorem dX5_fill_32 : decode cX5_fill 32 = .ok (.ifCond .ne 7, 3) := by decide +kernel
theorem dX5_fill_35 : decode cX5_fill 35 = .ok (.iconst 1, 1) := by decide +kernel
theorem dX5_fill_36 : decode cX5_fill 36 = .ok (.goto 4, 3) := by decide +kernel
theorem dX5_fill_39 : decode cX5_fill 39 = .ok (.iconst 0, 1) := by decide +kernel
theorem dX5_fill_40 : decode cX5_fill 40 = .ok (.iload 4, 2) := by decide +kernel
theorem dX5_fill_42 : decode cX5_fill 42 = .ok (.ifCond .ne 7, 3) := by decide +kernel
theorem dX5_fill_45 : decode cX5_fill 45 = .ok (.iconst 1, 1) := by decide +kernel
theorem dX5_fill_46 : decode cX5_fill 46 = .ok (.goto 4, 3) := by decide +kernel
theorem dX5_fill_49 : decode cX5_fill 49 = .ok (.iconst 0, 1) := by decide +kernel
theorem dX5_fill_50 : decode cX5_fill 50 = .ok (.iload 5, 2) := by decide +kernel
theorem dX5_fill_52 : decode cX5_fill 52 = .ok (.ifCond .ne 7, 3) := by decide +kernel
theorem dX5_fill_55 : decode cX5_fill 55 = .ok (.iconst 1, 1) := by decide +kernel
theorem dX5_fill_56 : decode cX5_fill 56 = .ok (.goto 4, 3) := by decide +kernel
theorem dX5_fill_59 : decode cX5_fill 59 = .ok (.iconst 0, 1) := by decide +kernel
theorem dX5_fill_60 : decode cX5_fill 60 = .ok (.iload_n 2, 1) := by decide +kernel
theorem dX5_fill_61 : decode cX5_fill 61 = .ok (.iload_n 3, 1) := by decide +kernel
theorem dX5_fill_62 : decode cX5_fill 62 = .ok (.invokestatic 148, 3) := by decide +kernel
theorem dX5_fill_65 : decode cX5_fill 65 = .ok (.ifCond .ne 7, 3) := by decide +kernel
theorem dX5_fill_68 : decode cX5_fill 68 = .ok (.iconst 1, 1) := by decide +kernel
theorem dX5_fill_69 : decode cX5_fill 69 = .ok (.goto 4, 3) := by decide +kernel
theorem dX5_fill_72 : decode cX5_fill 72 = .ok (.iconst 0, 1) := by decide +kernel
theorem dX5_fill_73 : decode cX5_fill 73 = .ok (.iconst 0, 1) := by decide +kernel
theorem dX5_fill_74 : decode cX5_fill 74 = .ok (.invokevirtual 135, 3) := by decide +kernel
theorem dX5_fill_77 : decode cX5_fill 77 = .ok (.ifCond .eq 5, 3) := by decide +kernel
theorem dX5_fill_80 : decode cX5_fill 80 = .ok (.iconst 0, 1) := by decide +kernel
theorem dX5_fill_81 : decode cX5_fill 81 = .ok (.ireturn, 1) := by decide +kernel
theorem dX5_fill_82 : decode cX5_fill 82 = .ok (.aload_n 0, 1) := by decide +kernel
theorem dX5_fill_83 : decode cX5_fill 83 = .ok (.iconst 0, 1) := by decide +kernel
theorem dX5_fill_84 : decode cX5_fill 84 = .ok (.putfield 167, 3) := by decide +kernel
theorem dX5_fill_87 : decode cX5_fill 87 = .ok (.iconst 0, 1) := by decide +kernel
theorem dX5_fill_88 : decode cX5_fill 88 = .ok (.istore 6, 2) := by decide +kernel
theorem dX5_fill_90 : decode cX5_fill 90 = .ok (.iload 6, 2) := by decide +kernel
theorem dX5_fill_92 : decode cX5_fill 92 = .ok (.aload_n 0, 1) := by decide +kernel
theorem dX5_fill_93 : decode cX5_fill 93 = .ok (.iload_n 1, 1) := by decide +kernel
theorem dX5_fill_94 : decode cX5_fill 94 = .ok (.invokevirtual 116, 3) := by decide +kernel
theorem dX5_fill_97 : decode cX5_fill 97 = .ok (.if_icmp .ge 15, 3) := by decide +kernel
theorem dX5_fill_100 : decode cX5_fill 100 = .ok (.aload_n 0, 1) := by decide +kernel
theorem dX5_fill_101 : decode cX5_fill 101 = .ok (.iload_n 2, 1) := by decide +kernel
theorem dX5_fill_102 : decode cX5_fill 102 = .ok (.iload_n 3, 1) := by decide +kernel
theorem dX5_fill_103 : decode cX5_fill 103 = .ok (.invokevirtual 182, 3) := by decide +kernel
theorem dX5_fill_106 : decode cX5_fill 106 = .ok (.iinc 6 1, 3) := by decide +kernel
theorem dX5_fill_109 : decode cX5_fill 109 = .ok (.goto (-19), 3) := by decide +kernel
theorem dX5_fill_112 : decode cX5_fill 112 = .ok (.aload_n 0, 1) := by decide +kernel
theorem dX5_fill_113 : decode cX5_fill 113 = .ok (.iload_n 1, 1) := by decide +kernel
theorem dX5_fill_114 : decode cX5_fill 114 = .ok (.invokevirtual 220, 3) := by decide +kernel
theorem dX5_fill_117 : decode cX5_fill 117 = .ok (.aload_n 0, 1) := by decide +kernel
theorem dX5_fill_118 : decode cX5_fill 118 = .ok (.iload_n 1, 1) := by decide +kernel
theorem dX5_fill_119 : decode cX5_fill 119 = .ok (.invokevirtual 116, 3) := by decide +kernel
theorem dX5_fill_122 : decode cX5_fill 122 = .ok (.ireturn, 1) := by decide +kernel
theorem dX5_standsAt_0 : decode cX5_standsAt 0 = .ok (.iconst 1, 1) := by decide +kernel
theorem dX5_standsAt_1 : decode cX5_standsAt 1 = .ok (.istore 4, 2) := by decide +kernel
theorem dX5_standsAt_3 : decode cX5_standsAt 3 = .ok (.iconst 0, 1) := by decide +kernel
theorem dX5_standsAt_4 : decode cX5_standsAt 4 = .ok (.istore 5, 2) := by decide +kernel
theorem dX5_standsAt_6 : decode cX5_standsAt 6 = .ok (.iload 5, 2) := by decide +kernel
theorem dX5_standsAt_8 : decode cX5_standsAt 8 = .ok (.aload_n 0, 1) := by decide +kernel
theorem dX5_standsAt_9 : decode cX5_standsAt 9 = .ok (.iload_n 2, 1) := by decide +kernel
theorem dX5_standsAt_10 : decode cX5_standsAt 10 = .ok (.invokevirtual 116, 3) := by decide +kernel
theorem dX5_standsAt_13 : decode cX5_standsAt 13 = .ok (.if_icmp .ge 47, 3) := by decide +kernel
theorem dX5_standsAt_16 : decode cX5_standsAt 16 = .ok (.iload 4, 2) := by decide +kernel
theorem dX5_standsAt_18 : decode cX5_standsAt 18 = .ok (.ifCond .eq 33, 3) := by decide +kernel
theorem dX5_standsAt_21 : decode cX5_standsAt 21 = .ok (.aload_n 0, 1) := by decide +kernel
theorem dX5_standsAt_22 : decode cX5_standsAt 22 = .ok (.iload_n 1, 1) := by decide +kernel
theorem dX5_standsAt_23 : decode cX5_standsAt 23 = .ok (.iload_n 3, 1) := by decide +kernel
theorem dX5_standsAt_24 : decode cX5_standsAt 24 = .ok (.iload 5, 2) := by decide +kernel
theorem dX5_standsAt_26 : decode cX5_standsAt 26 = .ok (.iadd, 1) := by decide +kernel
theorem dX5_standsAt_27 : decode cX5_standsAt 27 = .ok (.aload_n 0, 1) := by decide +kernel
theorem dX5_standsAt_28 : decode cX5_standsAt 28 = .ok (.iload_n 2, 1) := by decide +kernel
theorem dX5_standsAt_29 : decode cX5_standsAt 29 = .ok (.iload 5, 2) := by decide +kernel
theorem dX5_standsAt_31 : decode cX5_standsAt 31 = .ok (.invokevirtual 109, 3) := by decide +kernel
theorem dX5_standsAt_34 : decode cX5_standsAt 34 = .ok (.aload_n 0, 1) := by decide +kernel
theorem dX5_standsAt_35 : decode cX5_standsAt 35 = .ok (.iload_n 2, 1) := by decide +kernel
theorem dX5_standsAt_36 : decode cX5_standsAt 36 = .ok (.iload 5, 2) := by decide +kernel
theorem dX5_standsAt_38 : decode cX5_standsAt 38 = .ok (.invokevirtual 113, 3) := by decide +kernel
theorem dX5_standsAt_41 : decode cX5_standsAt 41 = .ok (.invokevirtual 119, 3) := by decide +kernel
theorem dX5_standsAt_44 : decode cX5_standsAt 44 = .ok (.ifCond .eq 7, 3) := by decide +kernel
theorem dX5_standsAt_47 : decode cX5_standsAt 47 = .ok (.iconst 1, 1) := by decide +kernel
theorem dX5_standsAt_48 : decode cX5_standsAt 48 = .ok (.goto 4, 3) := by decide +kernel
theorem dX5_standsAt_51 : decode cX5_standsAt 51 = .ok (.iconst 0, 1) := by decide +kernel
theorem dX5_standsAt_52 : decode cX5_standsAt 52 = .ok (.istore 4, 2) := by decide +kernel
theorem dX5_standsAt_54 : decode cX5_standsAt 54 = .ok (.iinc 5 1, 3) := by decide +kernel
theorem dX5_standsAt_57 : decode cX5_standsAt 57 = .ok (.goto (-51), 3) := by decide +kernel
theorem dX5_standsAt_60 : decode cX5_standsAt 60 = .ok (.iload 4, 2) := by decide +kernel
theorem dX5_standsAt_62 : decode cX5_standsAt 62 = .ok (.ireturn, 1) := by decide +kernel
theorem dX5_rowIn_0 : decode cX5_rowIn 0 = .ok (.iload_n 1, 1) := by decide +kernel
theorem dX5_rowIn_1 : decode cX5_rowIn 1 = .ok (.invokestatic 82, 3) := by decide +kernel
theorem dX5_rowIn_4 : decode cX5_rowIn 4 = .ok (.ifCond .eq 14, 3) := by decide +kernel
theorem dX5_rowIn_7 : decode cX5_rowIn 7 = .ok (.iload_n 2, 1) := by decide +kernel
theorem dX5_rowIn_8 : decode cX5_rowIn 8 = .ok (.invokestatic 82, 3) := by decide +kernel
theorem dX5_rowIn_11 : decode cX5_rowIn 11 = .ok (.ifCond .eq 7, 3) := by decide +kernel
theorem dX5_rowIn_14 : decode cX5_rowIn 14 = .ok (.iconst 1, 1) := by decide +kernel
theorem dX5_rowIn_15 : decode cX5_rowIn 15 = .ok (.goto 4, 3) := by decide +kernel
theorem dX5_rowIn_18 : decode cX5_rowIn 18 = .ok (.iconst 0, 1) := by decide +kernel
theorem dX5_rowIn_19 : decode cX5_rowIn 19 = .ok (.istore 4, 2) := by decide +kernel
theorem dX5_rowIn_21 : decode cX5_rowIn 21 = .ok (.iload 4, 2) := by decide +kernel
theorem dX5_rowIn_23 : decode cX5_rowIn 23 = .ok (.ifCond .eq 23, 3) := by decide +kernel
theorem dX5_rowIn_26 : decode cX5_rowIn 26 = .ok (.aload_n 0, 1) := by decide +kernel
theorem dX5_rowIn_27 : decode cX5_rowIn 27 = .ok (.iload_n 1, 1) := by decide +kernel
theorem dX5_rowIn_28 : decode cX5_rowIn 28 = .ok (.invokevirtual 170, 3) := by decide +kernel
theorem dX5_rowIn_31 : decode cX5_rowIn 31 = .ok (.ifCond .eq 15, 3) := by decide +kernel
theorem dX5_rowIn_34 : decode cX5_rowIn 34 = .ok (.aload_n 0, 1) := by decide +kernel
theorem dX5_rowIn_35 : decode cX5_rowIn 35 = .ok (.iload_n 2, 1) := by decide +kernel
theorem dX5_rowIn_36 : decode cX5_rowIn 36 = .ok (.invokevirtual 170, 3) := by decide +kernel
theorem dX5_rowIn_39 : decode cX5_rowIn 39 = .ok (.ifCond .eq 7, 3) := by decide +kernel
theorem dX5_rowIn_42 : decode cX5_rowIn 42 = .ok (.iconst 1, 1) := by decide +kernel
theorem dX5_rowIn_43 : decode cX5_rowIn 43 = .ok (.goto 4, 3) := by decide +kernel
theorem dX5_rowIn_46 : decode cX5_rowIn 46 = .ok (.iconst 0, 1) := by decide +kernel
theorem dX5_rowIn_47 : decode cX5_rowIn 47 = .ok (.istore 5, 2) := by decide +kernel
theorem dX5_rowIn_49 : decode cX5_rowIn 49 = .ok (.aload_n 0, 1) := by decide +kernel
theorem dX5_rowIn_50 : decode cX5_rowIn 50 = .ok (.iload 4, 2) := by decide +kernel
theorem dX5_rowIn_52 : decode cX5_rowIn 52 = .ok (.ifCond .ne 7, 3) := by decide +kernel
theorem dX5_rowIn_55 : decode cX5_rowIn 55 = .ok (.iconst 1, 1) := by decide +kernel
theorem dX5_rowIn_56 : decode cX5_rowIn 56 = .ok (.goto 4, 3) := by decide +kernel
theorem dX5_rowIn_59 : decode cX5_rowIn 59 = .ok (.iconst 0, 1) := by decide +kernel
theorem dX5_rowIn_60 : decode cX5_rowIn 60 = .ok (.iload 5, 2) := by decide +kernel
theorem dX5_rowIn_62 : decode cX5_rowIn 62 = .ok (.ifCond .ne 7, 3) := by decide +kernel
theorem dX5_rowIn_65 : decode cX5_rowIn 65 = .ok (.iconst 1, 1) := by decide +kernel
theorem dX5_rowIn_66 : decode cX5_rowIn 66 = .ok (.goto 4, 3) := by decide +kernel
theorem dX5_rowIn_69 : decode cX5_rowIn 69 = .ok (.iconst 0, 1) := by decide +kernel
theorem dX5_rowIn_70 : decode cX5_rowIn 70 = .ok (.iconst 0, 1) := by decide +kernel
theorem dX5_rowIn_71 : decode cX5_rowIn 71 = .ok (.iconst 0, 1) := by decide +kernel
theorem dX5_rowIn_72 : decode cX5_rowIn 72 = .ok (.iconst 0, 1) := by decide +kernel
theorem dX5_rowIn_73 : decode cX5_rowIn 73 = .ok (.invokevirtual 135, 3) := by decide +kernel
theorem dX5_rowIn_76 : decode cX5_rowIn 76 = .ok (.ifCond .eq 5, 3) := by decide +kernel
theorem dX5_rowIn_79 : decode cX5_rowIn 79 = .ok (.iconst 0, 1) := by decide +kernel
theorem dX5_rowIn_80 : decode cX5_rowIn 80 = .ok (.ireturn, 1) := by decide +kernel
theorem dX5_rowIn_81 : decode cX5_rowIn 81 = .ok (.iconst (-1), 1) := by decide +kernel
theorem dX5_rowIn_82 : decode cX5_rowIn 82 = .ok (.istore 6, 2) := by decide +kernel
theorem dX5_rowIn_84 : decode cX5_rowIn 84 = .ok (.iconst 0, 1) := by decide +kernel
theorem dX5_rowIn_85 : decode cX5_rowIn 85 = .ok (.istore 7, 2) := by decide +kernel
theorem dX5_rowIn_87 : decode cX5_rowIn 87 = .ok (.iload 7, 2) := by decide +kernel
theorem dX5_rowIn_89 : decode cX5_rowIn 89 = .ok (.aload_n 0, 1) := by decide +kernel
theorem dX5_rowIn_90 : decode cX5_rowIn 90 = .ok (.iload_n 2, 1) := by decide +kernel
theorem dX5_rowIn_91 : decode cX5_rowIn 91 = .ok (.invokevirtual 116, 3) := by decide +kernel
theorem dX5_rowIn_94 : decode cX5_rowIn 94 = .ok (.iadd, 1) := by decide +kernel
theorem dX5_rowIn_95 : decode cX5_rowIn 95 = .ok (.aload_n 0, 1) := by decide +kernel
theorem dX5_rowIn_96 : decode cX5_rowIn 96 = .ok (.iload_n 1, 1) := by decide +kernel
theorem dX5_rowIn_97 : decode cX5_rowIn 97 = .ok (.invokevirtual 116, 3) := by decide +kernel
theorem dX5_rowIn_100 : decode cX5_rowIn 100 = .ok (.if_icmp .gt 34, 3) := by decide +kernel
theorem dX5_rowIn_103 : decode cX5_rowIn 103 = .ok (.aload_n 0, 1) := by decide +kernel
theorem dX5_rowIn_104 : decode cX5_rowIn 104 = .ok (.iload_n 1, 1) := by decide +kernel
theorem dX5_rowIn_105 : decode cX5_rowIn 105 = .ok (.iload_n 2, 1) := by decide +kernel
theorem dX5_rowIn_106 : decode cX5_rowIn 106 = .ok (.iload 7, 2) := by decide +kernel
theorem dX5_rowIn_108 : decode cX5_rowIn 108 = .ok (.invokevirtual 227, 3) := by decide +kernel
theorem dX5_rowIn_111 : decode cX5_rowIn 111 = .ok (.ifCond .eq 17, 3) := by decide +kernel
theorem dX5_rowIn_114 : decode cX5_rowIn 114 = .ok (.iload_n 3, 1) := by decide +kernel
theorem dX5_rowIn_115 : decode cX5_rowIn 115 = .ok (.ifCond .ne 9, 3) := by decide +kernel
theorem dX5_rowIn_118 : decode cX5_rowIn 118 = .ok (.iload 6, 2) := by decide +kernel
theorem dX5_rowIn_120 : decode cX5_rowIn 120 = .ok (.iconst (-1), 1) := by decide +kernel
theorem dX5_rowIn_121 : decode cX5_rowIn 121 = .ok (.if_icmp .ne 7, 3) := by decide +kernel
theorem dX5_rowIn_124 : decode cX5_rowIn 124 = .ok (.iload 7, 2) := by decide +kernel
theorem dX5_rowIn_126 : decode cX5_rowIn 126 = .ok (.istore 6, 2) := by decide +kernel
theorem dX5_rowIn_128 : decode cX5_rowIn 128 = .ok (.iinc 7 1, 3) := by decide +kernel
theorem dX5_rowIn_131 : decode cX5_rowIn 131 = .ok (.goto (-44), 3) := by decide +kernel
theorem dX5_rowIn_134 : decode cX5_rowIn 134 = .ok (.iload 6, 2) := by decide +kernel
theorem dX5_rowIn_136 : decode cX5_rowIn 136 = .ok (.ireturn, 1) := by decide +kernel
theorem dX5_often_0 : decode cX5_often 0 = .ok (.aload_n 0, 1) := by decide +kernel
theorem dX5_often_1 : decode cX5_often 1 = .ok (.iload_n 1, 1) := by decide +kernel
theorem dX5_often_2 : decode cX5_often 2 = .ok (.invokevirtual 199, 3) := by decide +kernel
theorem dX5_often_5 : decode cX5_often 5 = .ok (.istore 4, 2) := by decide +kernel
theorem dX5_often_7 : decode cX5_often 7 = .ok (.iconst 0, 1) := by decide +kernel
theorem dX5_often_8 : decode cX5_often 8 = .ok (.istore 5, 2) := by decide +kernel
theorem dX5_often_10 : decode cX5_often 10 = .ok (.iconst 0, 1) := by decide +kernel
theorem dX5_often_11 : decode cX5_often 11 = .ok (.istore 6, 2) := by decide +kernel
theorem dX5_often_13 : decode cX5_often 13 = .ok (.iload 4, 2) := by decide +kernel
theorem dX5_often_15 : decode cX5_often 15 = .ok (.ifCond .eq 41, 3) := by decide +kernel
theorem dX5_often_18 : decode cX5_often 18 = .ok (.iload 6, 2) := by decide +kernel
theorem dX5_often_20 : decode cX5_often 20 = .ok (.aload_n 0, 1) := by decide +kernel
theorem dX5_often_21 : decode cX5_often 21 = .ok (.iload_n 1, 1) := by decide +kernel
theorem dX5_often_22 : decode cX5_often 22 = .ok (.invokevirtual 116, 3) := by decide +kernel
theorem dX5_often_25 : decode cX5_often 25 = .ok (.if_icmp .ge 31, 3) := by decide +kernel
theorem dX5_often_28 : decode cX5_often 28 = .ok (.iload 5, 2) := by decide +kernel
theorem dX5_often_30 : decode cX5_often 30 = .ok (.aload_n 0, 1) := by decide +kernel
theorem dX5_often_31 : decode cX5_often 31 = .ok (.iload_n 1, 1) := by decide +kernel
theorem dX5_often_32 : decode cX5_often 32 = .ok (.iload 6, 2) := by decide +kernel
theorem dX5_often_34 : decode cX5_often 34 = .ok (.iload_n 2, 1) := by decide +kernel
theorem dX5_often_35 : decode cX5_often 35 = .ok (.iload_n 3, 1) := by decide +kernel
theorem dX5_often_36 : decode cX5_often 36 = .ok (.invokevirtual 119, 3) := by decide +kernel
theorem dX5_often_39 : decode cX5_often 39 = .ok (.ifCond .eq 7, 3) := by decide +kernel
theorem dX5_often_42 : decode cX5_often 42 = .ok (.iconst 1, 1) := by decide +kernel
theorem dX5_often_43 : decode cX5_often 43 = .ok (.goto 4, 3) := by decide +kernel
theorem dX5_often_46 : decode cX5_often 46 = .ok (.iconst 0, 1) := by decide +kernel
theorem dX5_often_47 : decode cX5_often 47 = .ok (.iadd, 1) := by decide +kernel
theorem dX5_often_48 : decode cX5_often 48 = .ok (.istore 5, 2) := by decide +kernel
theorem dX5_often_50 : decode cX5_often 50 = .ok (.iinc 6 1, 3) := by decide +kernel
theorem dX5_often_53 : decode cX5_often 53 = .ok (.goto (-40), 3) := by decide +kernel
theorem dX5_often_56 : decode cX5_often 56 = .ok (.aload_n 0, 1) := by decide +kernel
theorem dX5_often_57 : decode cX5_often 57 = .ok (.iload_n 1, 1) := by decide +kernel
theorem dX5_often_58 : decode cX5_often 58 = .ok (.invokestatic 82, 3) := by decide +kernel
theorem dX5_often_61 : decode cX5_often 61 = .ok (.ifCond .ne 7, 3) := by decide +kernel
theorem dX5_often_64 : decode cX5_often 64 = .ok (.iconst 1, 1) := by decide +kernel
theorem dX5_often_65 : decode cX5_often 65 = .ok (.goto 4, 3) := by decide +kernel
theorem dX5_often_68 : decode cX5_often 68 = .ok (.iconst 0, 1) := by decide +kernel
theorem dX5_often_69 : decode cX5_often 69 = .ok (.iload 4, 2) := by decide +kernel
theorem dX5_often_71 : decode cX5_often 71 = .ok (.ifCond .ne 7, 3) := by decide +kernel
theorem dX5_often_74 : decode cX5_often 74 = .ok (.iconst 1, 1) := by decide +kernel
theorem dX5_often_75 : decode cX5_often 75 = .ok (.goto 4, 3) := by decide +kernel
theorem dX5_often_78 : decode cX5_often 78 = .ok (.iconst 0, 1) := by decide +kernel
theorem dX5_often_79 : decode cX5_often 79 = .ok (.iconst 0, 1) := by decide +kernel
theorem dX5_often_80 : decode cX5_often 80 = .ok (.iconst 0, 1) := by decide +kernel
theorem dX5_often_81 : decode cX5_often 81 = .ok (.iconst 0, 1) := by decide +kernel
theorem dX5_often_82 : decode cX5_often 82 = .ok (.invokevirtual 135, 3) := by decide +kernel
theorem dX5_often_85 : decode cX5_often 85 = .ok (.ifCond .eq 7, 3) := by decide +kernel
theorem dX5_often_88 : decode cX5_often 88 = .ok (.iconst 0, 1) := by decide +kernel
theorem dX5_often_89 : decode cX5_often 89 = .ok (.goto 5, 3) := by decide +kernel
theorem dX5_often_92 : decode cX5_often 92 = .ok (.iload 5, 2) := by decide +kernel
theorem dX5_often_94 : decode cX5_often 94 = .ok (.ireturn, 1) := by decide +kernel
theorem dX5_areApart_0 : decode cX5_areApart 0 = .ok (.iload_n 1, 1) := by decide +kernel
theorem dX5_areApart_1 : decode cX5_areApart 1 = .ok (.invokestatic 82, 3) := by decide +kernel
theorem dX5_areApart_4 : decode cX5_areApart 4 = .ok (.ifCond .eq 14, 3) := by decide +kernel
theorem dX5_areApart_7 : decode cX5_areApart 7 = .ok (.iload_n 2, 1) := by decide +kernel
theorem dX5_areApart_8 : decode cX5_areApart 8 = .ok (.invokestatic 82, 3) := by decide +kernel
theorem dX5_areApart_11 : decode cX5_areApart 11 = .ok (.ifCond .eq 7, 3) := by decide +kernel
theorem dX5_areApart_14 : decode cX5_areApart 14 = .ok (.iconst 1, 1) := by decide +kernel
theorem dX5_areApart_15 : decode cX5_areApart 15 = .ok (.goto 4, 3) := by decide +kernel
theorem dX5_areApart_18 : decode cX5_areApart 18 = .ok (.iconst 0, 1) := by decide +kernel
theorem dX5_areApart_19 : decode cX5_areApart 19 = .ok (.istore_n 3, 1) := by decide +kernel
theorem dX5_areApart_20 : decode cX5_areApart 20 = .ok (.iload_n 3, 1) := by decide +kernel
theorem dX5_areApart_21 : decode cX5_areApart 21 = .ok (.ifCond .eq 23, 3) := by decide +kernel
theorem dX5_areApart_24 : decode cX5_areApart 24 = .ok (.aload_n 0, 1) := by decide +kernel
theorem dX5_areApart_25 : decode cX5_areApart 25 = .ok (.iload_n 1, 1) := by decide +kernel
theorem dX5_areApart_26 : decode cX5_areApart 26 = .ok (.invokevirtual 199, 3) := by decide +kernel
theorem dX5_areApart_29 : decode cX5_areApart 29 = .ok (.ifCond .eq 15, 3) := by decide +kernel
theorem dX5_areApart_32 : decode cX5_areApart 32 = .ok (.aload_n 0, 1) := by decide +kernel
theorem dX5_areApart_33 : decode cX5_areApart 33 = .ok (.iload_n 2, 1) := by decide +kernel
theorem dX5_areApart_34 : decode cX5_areApart 34 = .ok (.invokevirtual 199, 3) := by decide +kernel
theorem dX5_areApart_37 : decode cX5_areApart 37 = .ok (.ifCond .eq 7, 3) := by decide +kernel
theorem dX5_areApart_40 : decode cX5_areApart 40 = .ok (.iconst 1, 1) := by decide +kernel
theorem dX5_areApart_41 : decode cX5_areApart 41 = .ok (.goto 4, 3) := by decide +kernel
theorem dX5_areApart_44 : decode cX5_areApart 44 = .ok (.iconst 0, 1) := by decide +kernel
theorem dX5_areApart_45 : decode cX5_areApart 45 = .ok (.istore 4, 2) := by decide +kernel
theorem dX5_areApart_47 : decode cX5_areApart 47 = .ok (.iconst 1, 1) := by decide +kernel
theorem dX5_areApart_48 : decode cX5_areApart 48 = .ok (.istore 5, 2) := by decide +kernel
theorem dX5_areApart_50 : decode cX5_areApart 50 = .ok (.iconst 0, 1) := by decide +kernel
theorem dX5_areApart_51 : decode cX5_areApart 51 = .ok (.istore 6, 2) := by decide +kernel
theorem dX5_areApart_53 : decode cX5_areApart 53 = .ok (.iload 4, 2) := by decide +kernel
theorem dX5_areApart_55 : decode cX5_areApart 55 = .ok (.ifCond .eq 53, 3) := by decide +kernel
theorem dX5_areApart_58 : decode cX5_areApart 58 = .ok (.iload 6, 2) := by decide +kernel
theorem dX5_areApart_60 : decode cX5_areApart 60 = .ok (.aload_n 0, 1) := by decide +kernel
theorem dX5_areApart_61 : decode cX5_areApart 61 = .ok (.iload_n 1, 1) := by decide +kernel
theorem dX5_areApart_62 : decode cX5_areApart 62 = .ok (.invokevirtual 116, 3) := by decide +kernel
theorem dX5_areApart_65 : decode cX5_areApart 65 = .ok (.if_icmp .ge 43, 3) := by decide +kernel
theorem dX5_areApart_68 : decode cX5_areApart 68 = .ok (.iload 5, 2) := by decide +kernel
theorem dX5_areApart_70 : decode cX5_areApart 70 = .ok (.ifCond .eq 29, 3) := by decide +kernel
theorem dX5_areApart_73 : decode cX5_areApart 73 = .ok (.aload_n 0, 1) := by decide +kernel
theorem dX5_areApart_74 : decode cX5_areApart 74 = .ok (.iload_n 2, 1) := by decide +kernel
theorem dX5_areApart_75 : decode cX5_areApart 75 = .ok (.aload_n 0, 1) := by decide +kernel
theorem dX5_areApart_76 : decode cX5_areApart 76 = .ok (.iload_n 1, 1) := by decide +kernel
theorem dX5_areApart_77 : decode cX5_areApart 77 = .ok (.iload 6, 2) := by decide +kernel
theorem dX5_areApart_79 : decode cX5_areApart 79 = .ok (.invokevirtual 109, 3) := by decide +kernel
theorem dX5_areApart_82 : decode cX5_areApart 82 = .ok (.aload_n 0, 1) := by decide +kernel
theorem dX5_areApart_83 : decode cX5_areApart 83 = .ok (.iload_n 1, 1) := by decide +kernel
theorem dX5_areApart_84 : decode cX5_areApart 84 = .ok (.iload 6, 2) := by decide +kernel
theorem dX5_areApart_86 : decode cX5_areApart 86 = .ok (.invokevirtual 113, 3) := by decide +kernel
theorem dX5_areApart_89 : decode cX5_areApart 89 = .ok (.invokevirtual 208, 3) := by decide +kernel
theorem dX5_areApart_92 : decode cX5_areApart 92 = .ok (.ifCond .ne 7, 3) := by decide +kernel
theorem dX5_areApart_95 : decode cX5_areApart 95 = .ok (.iconst 1, 1) := by decide +kernel
theorem dX5_areApart_96 : decode cX5_areApart 96 = .ok (.goto 4, 3) := by decide +kernel
theorem dX5_areApart_99 : decode cX5_areApart 99 = .ok (.iconst 0, 1) := by decide +kernel
theorem dX5_areApart_100 : decode cX5_areApart 100 = .ok (.istore 5, 2) := by decide +kernel
theorem dX5_areApart_102 : decode cX5_areApart 102 = .ok (.iinc 6 1, 3) := by decide +kernel
theorem dX5_areApart_105 : decode cX5_areApart 105 = .ok (.goto (-52), 3) := by decide +kernel
theorem dX5_areApart_108 : decode cX5_areApart 108 = .ok (.aload_n 0, 1) := by decide +kernel
theorem dX5_areApart_109 : decode cX5_areApart 109 = .ok (.iload_n 3, 1) := by decide +kernel
theorem dX5_areApart_110 : decode cX5_areApart 110 = .ok (.ifCond .ne 7, 3) := by decide +kernel
theorem dX5_areApart_113 : decode cX5_areApart 113 = .ok (.iconst 1, 1) := by decide +kernel
theorem dX5_areApart_114 : decode cX5_areApart 114 = .ok (.goto 4, 3) := by decide +kernel
theorem dX5_areApart_117 : decode cX5_areApart 117 = .ok (.iconst 0, 1) := by decide +kernel
theorem dX5_areApart_118 : decode cX5_areApart 118 = .ok (.iload 4, 2) := by decide +kernel
theorem dX5_areApart_120 : decode cX5_areApart 120 = .ok (.ifCond .ne 7, 3) := by decide +kernel
theorem dX5_areApart_123 : decode cX5_areApart 123 = .ok (.iconst 1, 1) := by decide +kernel
theorem dX5_areApart_124 : decode cX5_areApart 124 = .ok (.goto 4, 3) := by decide +kernel
theorem dX5_areApart_127 : decode cX5_areApart 127 = .ok (.iconst 0, 1) := by decide +kernel
theorem dX5_areApart_128 : decode cX5_areApart 128 = .ok (.iconst 0, 1) := by decide +kernel
theorem dX5_areApart_129 : decode cX5_areApart 129 = .ok (.iconst 0, 1) := by decide +kernel
theorem dX5_areApart_130 : decode cX5_areApart 130 = .ok (.iconst 0, 1) := by decide +kernel
theorem dX5_areApart_131 : decode cX5_areApart 131 = .ok (.invokevirtual 135, 3) := by decide +kernel
theorem dX5_areApart_134 : decode cX5_areApart 134 = .ok (.ifCond .ne 12, 3) := by decide +kernel
theorem dX5_areApart_137 : decode cX5_areApart 137 = .ok (.iload 5, 2) := by decide +kernel
theorem dX5_areApart_139 : decode cX5_areApart 139 = .ok (.ifCond .eq 7, 3) := by decide +kernel
theorem dX5_areApart_142 : decode cX5_areApart 142 = .ok (.iconst 1, 1) := by decide +kernel
theorem dX5_areApart_143 : decode cX5_areApart 143 = .ok (.goto 4, 3) := by decide +kernel
theorem dX5_areApart_146 : decode cX5_areApart 146 = .ok (.iconst 0, 1) := by decide +kernel
theorem dX5_areApart_147 : decode cX5_areApart 147 = .ok (.ireturn, 1) := by decide +kernel
theorem dX5_end_0 : decode cX5_end 0 = .ok (.aload_n 0, 1) := by decide +kernel
theorem dX5_end_1 : decode cX5_end 1 = .ok (.iload_n 1, 1) := by decide +kernel
theorem dX5_end_2 : decode cX5_end 2 = .ok (.invokevirtual 199, 3) := by decide +kernel
theorem dX5_end_5 : decode cX5_end 5 = .ok (.istore_n 3, 1) := by decide +kernel
theorem dX5_end_6 : decode cX5_end 6 = .ok (.aload_n 0, 1) := by decide +kernel
theorem dX5_end_7 : decode cX5_end 7 = .ok (.iload_n 1, 1) := by decide +kernel
theorem dX5_end_8 : decode cX5_end 8 = .ok (.invokestatic 82, 3) := by decide +kernel
theorem dX5_end_11 : decode cX5_end 11 = .ok (.ifCond .ne 7, 3) := by decide +kernel
theorem dX5_end_14 : decode cX5_end 14 = .ok (.iconst 1, 1) := by decide +kernel
theorem dX5_end_15 : decode cX5_end 15 = .ok (.goto 4, 3) := by decide +kernel
theorem dX5_end_18 : decode cX5_end 18 = .ok (.iconst 0, 1) := by decide +kernel
theorem dX5_end_19 : decode cX5_end 19 = .ok (.iload_n 3, 1) := by decide +kernel
theorem dX5_end_20 : decode cX5_end 20 = .ok (.ifCond .ne 7, 3) := by decide +kernel
theorem dX5_end_23 : decode cX5_end 23 = .ok (.iconst 1, 1) := by decide +kernel
theorem dX5_end_24 : decode cX5_end 24 = .ok (.goto 4, 3) := by decide +kernel
theorem dX5_end_27 : decode cX5_end 27 = .ok (.iconst 0, 1) := by decide +kernel
theorem dX5_end_28 : decode cX5_end 28 = .ok (.iload_n 3, 1) := by decide +kernel
theorem dX5_end_29 : decode cX5_end 29 = .ok (.ifCond .eq 15, 3) := by decide +kernel
theorem dX5_end_32 : decode cX5_end 32 = .ok (.aload_n 0, 1) := by decide +kernel
theorem dX5_end_33 : decode cX5_end 33 = .ok (.iload_n 1, 1) := by decide +kernel
theorem dX5_end_34 : decode cX5_end 34 = .ok (.invokevirtual 116, 3) := by decide +kernel
theorem dX5_end_37 : decode cX5_end 37 = .ok (.ifCond .ne 7, 3) := by decide +kernel
theorem dX5_end_40 : decode cX5_end 40 = .ok (.iconst 1, 1) := by decide +kernel
theorem dX5_end_41 : decode cX5_end 41 = .ok (.goto 4, 3) := by decide +kernel
theorem dX5_end_44 : decode cX5_end 44 = .ok (.iconst 0, 1) := by decide +kernel
theorem dX5_end_45 : decode cX5_end 45 = .ok (.iconst 0, 1) := by decide +kernel
theorem dX5_end_46 : decode cX5_end 46 = .ok (.iconst 0, 1) := by decide +kernel
theorem dX5_end_47 : decode cX5_end 47 = .ok (.invokevirtual 135, 3) := by decide +kernel
theorem dX5_end_50 : decode cX5_end 50 = .ok (.ifCond .eq 5, 3) := by decide +kernel
theorem dX5_end_53 : decode cX5_end 53 = .ok (.iconst 0, 1) := by decide +kernel
theorem dX5_end_54 : decode cX5_end 54 = .ok (.ireturn, 1) := by decide +kernel
theorem dX5_end_55 : decode cX5_end 55 = .ok (.aload_n 0, 1) := by decide +kernel
theorem dX5_end_56 : decode cX5_end 56 = .ok (.iload_n 1, 1) := by decide +kernel
theorem dX5_end_57 : decode cX5_end 57 = .ok (.iconst 0, 1) := by decide +kernel
theorem dX5_end_58 : decode cX5_end 58 = .ok (.invokevirtual 109, 3) := by decide +kernel
theorem dX5_end_61 : decode cX5_end 61 = .ok (.istore 4, 2) := by decide +kernel
theorem dX5_end_63 : decode cX5_end 63 = .ok (.iconst 1, 1) := by decide +kernel
theorem dX5_end_64 : decode cX5_end 64 = .ok (.istore 5, 2) := by decide +kernel
theorem dX5_end_66 : decode cX5_end 66 = .ok (.iload 5, 2) := by decide +kernel
theorem dX5_end_68 : decode cX5_end 68 = .ok (.aload_n 0, 1) := by decide +kernel
theorem dX5_end_69 : decode cX5_end 69 = .ok (.iload_n 1, 1) := by decide +kernel
theorem dX5_end_70 : decode cX5_end 70 = .ok (.invokevirtual 116, 3) := by decide +kernel
theorem dX5_end_73 : decode cX5_end 73 = .ok (.if_icmp .ge 42, 3) := by decide +kernel
theorem dX5_end_76 : decode cX5_end 76 = .ok (.iload_n 2, 1) := by decide +kernel
theorem dX5_end_77 : decode cX5_end 77 = .ok (.ifCond .eq 18, 3) := by decide +kernel
theorem dX5_end_80 : decode cX5_end 80 = .ok (.iload 4, 2) := by decide +kernel
theorem dX5_end_82 : decode cX5_end 82 = .ok (.aload_n 0, 1) := by decide +kernel
theorem dX5_end_83 : decode cX5_end 83 = .ok (.iload_n 1, 1) := by decide +kernel
theorem dX5_end_84 : decode cX5_end 84 = .ok (.iload 5, 2) := by decide +kernel
theorem dX5_end_86 : decode cX5_end 86 = .ok (.invokevirtual 109, 3) := by decide +kernel
theorem dX5_end_89 : decode cX5_end 89 = .ok (.invokestatic 230, 3) := by decide +kernel
theorem dX5_end_92 : decode cX5_end 92 = .ok (.goto 15, 3) := by decide +kernel
theorem dX5_end_95 : decode cX5_end 95 = .ok (.iload 4, 2) := by decide +kernel
theorem dX5_end_97 : decode cX5_end 97 = .ok (.aload_n 0, 1) := by decide +kernel
theorem dX5_end_98 : decode cX5_end 98 = .ok (.iload_n 1, 1) := by decide +kernel
theorem dX5_end_99 : decode cX5_end 99 = .ok (.iload 5, 2) := by decide +kernel
theorem dX5_end_101 : decode cX5_end 101 = .ok (.invokevirtual 109, 3) := by decide +kernel
theorem dX5_end_104 : decode cX5_end 104 = .ok (.invokestatic 235, 3) := by decide +kernel
theorem dX5_end_107 : decode cX5_end 107 = .ok (.istore 4, 2) := by decide +kernel
theorem dX5_end_109 : decode cX5_end 109 = .ok (.iinc 5 1, 3) := by decide +kernel
theorem dX5_end_112 : decode cX5_end 112 = .ok (.goto (-46), 3) := by decide +kernel
theorem dX5_end_115 : decode cX5_end 115 = .ok (.iload 4, 2) := by decide +kernel
theorem dX5_end_117 : decode cX5_end 117 = .ok (.ireturn, 1) := by decide +kernel
theorem dX5_placeOfNumber_0 : decode cX5_placeOfNumber 0 = .ok (.iconst 0, 1) := by decide +kernel
theorem dX5_placeOfNumber_1 : decode cX5_placeOfNumber 1 = .ok (.istore_n 3, 1) := by decide +kernel
theorem dX5_placeOfNumber_2 : decode cX5_placeOfNumber 2 = .ok (.iload_n 3, 1) := by decide +kernel
theorem dX5_placeOfNumber_3 : decode cX5_placeOfNumber 3 = .ok (.aload_n 0, 1) := by decide +kernel
theorem dX5_placeOfNumber_4 : decode cX5_placeOfNumber 4 = .ok (.getfield 30, 3) := by decide +kernel
theorem dX5_placeOfNumber_7 : decode cX5_placeOfNumber 7 = .ok (.iload_n 1, 1) := by decide +kernel
theorem dX5_placeOfNumber_8 : decode cX5_placeOfNumber 8 = .ok (.iaload, 1) := by decide +kernel
theorem dX5_placeOfNumber_9 : decode cX5_placeOfNumber 9 = .ok (.if_icmp .ge 23, 3) := by decide +kernel
theorem dX5_placeOfNumber_12 : decode cX5_placeOfNumber 12 = .ok (.aload_n 0, 1) := by decide +kernel
theorem dX5_placeOfNumber_13 : decode cX5_placeOfNumber 13 = .ok (.getfield 21, 3) := by decide +kernel
theorem dX5_placeOfNumber_16 : decode cX5_placeOfNumber 16 = .ok (.iload_n 1, 1) := by decide +kernel
theorem dX5_placeOfNumber_17 : decode cX5_placeOfNumber 17 = .ok (.aaload, 1) := by decide +kernel
theorem dX5_placeOfNumber_18 : decode cX5_placeOfNumber 18 = .ok (.iload_n 3, 1) := by decide +kernel
theorem dX5_placeOfNumber_19 : decode cX5_placeOfNumber 19 = .ok (.iaload, 1) := by decide +kernel
theorem dX5_placeOfNumber_20 : decode cX5_placeOfNumber 20 = .ok (.iload_n 2, 1) := by decide +kernel
theorem dX5_placeOfNumber_21 : decode cX5_placeOfNumber 21 = .ok (.if_icmp .ne 5, 3) := by decide +kernel
theorem dX5_placeOfNumber_24 : decode cX5_placeOfNumber 24 = .ok (.iload_n 3, 1) := by decide +kernel
theorem dX5_placeOfNumber_25 : decode cX5_placeOfNumber 25 = .ok (.ireturn, 1) := by decide +kernel
theorem dX5_placeOfNumber_26 : decode cX5_placeOfNumber 26 = .ok (.iinc 3 1, 3) := by decide +kernel
theorem dX5_placeOfNumber_29 : decode cX5_placeOfNumber 29 = .ok (.goto (-27), 3) := by decide +kernel
theorem dX5_placeOfNumber_32 : decode cX5_placeOfNumber 32 = .ok (.iconst (-1), 1) := by decide +kernel
theorem dX5_placeOfNumber_33 : decode cX5_placeOfNumber 33 = .ok (.ireturn, 1) := by decide +kernel
theorem dX5_strikes_0 : decode cX5_strikes 0 = .ok (.aload_n 0, 1) := by decide +kernel
theorem dX5_strikes_1 : decode cX5_strikes 1 = .ok (.getfield 30, 3) := by decide +kernel
theorem dX5_strikes_4 : decode cX5_strikes 4 = .ok (.iload_n 1, 1) := by decide +kernel
theorem dX5_strikes_5 : decode cX5_strikes 5 = .ok (.dup2, 1) := by decide +kernel
theorem dX5_strikes_6 : decode cX5_strikes 6 = .ok (.iaload, 1) := by decide +kernel
theorem dX5_strikes_7 : decode cX5_strikes 7 = .ok (.iconst 1, 1) := by decide +kernel
theorem dX5_strikes_8 : decode cX5_strikes 8 = .ok (.isub, 1) := by decide +kernel
theorem dX5_strikes_9 : decode cX5_strikes 9 = .ok (.iastore, 1) := by decide +kernel
theorem dX5_strikes_10 : decode cX5_strikes 10 = .ok (.iload_n 2, 1) := by decide +kernel
theorem dX5_strikes_11 : decode cX5_strikes 11 = .ok (.istore_n 3, 1) := by decide +kernel
theorem dX5_strikes_12 : decode cX5_strikes 12 = .ok (.iload_n 3, 1) := by decide +kernel
theorem dX5_strikes_13 : decode cX5_strikes 13 = .ok (.aload_n 0, 1) := by decide +kernel
theorem dX5_strikes_14 : decode cX5_strikes 14 = .ok (.getfield 30, 3) := by decide +kernel
theorem dX5_strikes_17 : decode cX5_strikes 17 = .ok (.iload_n 1, 1) := by decide +kernel
theorem dX5_strikes_18 : decode cX5_strikes 18 = .ok (.iaload, 1) := by decide +kernel
theorem dX5_strikes_19 : decode cX5_strikes 19 = .ok (.if_icmp .ge 63, 3) := by decide +kernel
theorem dX5_strikes_22 : decode cX5_strikes 22 = .ok (.aload_n 0, 1) := by decide +kernel
theorem dX5_strikes_23 : decode cX5_strikes 23 = .ok (.getfield 21, 3) := by decide +kernel
theorem dX5_strikes_26 : decode cX5_strikes 26 = .ok (.iload_n 1, 1) := by decide +kernel
theorem dX5_strikes_27 : decode cX5_strikes 27 = .ok (.aaload, 1) := by decide +kernel
theorem dX5_strikes_28 : decode cX5_strikes 28 = .ok (.iload_n 3, 1) := by decide +kernel
theorem dX5_strikes_29 : decode cX5_strikes 29 = .ok (.aload_n 0, 1) := by decide +kernel
theorem dX5_strikes_30 : decode cX5_strikes 30 = .ok (.getfield 21, 3) := by decide +kernel
theorem dX5_strikes_33 : decode cX5_strikes 33 = .ok (.iload_n 1, 1) := by decide +kernel
theorem dX5_strikes_34 : decode cX5_strikes 34 = .ok (.aaload, 1) := by decide +kernel
theorem dX5_strikes_35 : decode cX5_strikes 35 = .ok (.iload_n 3, 1) := by decide +kernel
theorem dX5_strikes_36 : decode cX5_strikes 36 = .ok (.iconst 1, 1) := by decide +kernel
theorem dX5_strikes_37 : decode cX5_strikes 37 = .ok (.iadd, 1) := by decide +kernel
theorem dX5_strikes_38 : decode cX5_strikes 38 = .ok (.iaload, 1) := by decide +kernel
theorem dX5_strikes_39 : decode cX5_strikes 39 = .ok (.iastore, 1) := by decide +kernel
theorem dX5_strikes_40 : decode cX5_strikes 40 = .ok (.aload_n 0, 1) := by decide +kernel
theorem dX5_strikes_41 : decode cX5_strikes 41 = .ok (.getfield 24, 3) := by decide +kernel
theorem dX5_strikes_44 : decode cX5_strikes 44 = .ok (.iload_n 1, 1) := by decide +kernel
theorem dX5_strikes_45 : decode cX5_strikes 45 = .ok (.aaload, 1) := by decide +kernel
theorem dX5_strikes_46 : decode cX5_strikes 46 = .ok (.iload_n 3, 1) := by decide +kernel
theorem dX5_strikes_47 : decode cX5_strikes 47 = .ok (.aload_n 0, 1) := by decide +kernel
theorem dX5_strikes_48 : decode cX5_strikes 48 = .ok (.getfield 24, 3) := by decide +kernel
theorem dX5_strikes_51 : decode cX5_strikes 51 = .ok (.iload_n 1, 1) := by decide +kernel
theorem dX5_strikes_52 : decode cX5_strikes 52 = .ok (.aaload, 1) := by decide +kernel
theorem dX5_strikes_53 : decode cX5_strikes 53 = .ok (.iload_n 3, 1) := by decide +kernel
theorem dX5_strikes_54 : decode cX5_strikes 54 = .ok (.iconst 1, 1) := by decide +kernel
theorem dX5_strikes_55 : decode cX5_strikes 55 = .ok (.iadd, 1) := by decide +kernel
theorem dX5_strikes_56 : decode cX5_strikes 56 = .ok (.iaload, 1) := by decide +kernel
theorem dX5_strikes_57 : decode cX5_strikes 57 = .ok (.iastore, 1) := by decide +kernel
theorem dX5_strikes_58 : decode cX5_strikes 58 = .ok (.aload_n 0, 1) := by decide +kernel
theorem dX5_strikes_59 : decode cX5_strikes 59 = .ok (.getfield 27, 3) := by decide +kernel
theorem dX5_strikes_62 : decode cX5_strikes 62 = .ok (.iload_n 1, 1) := by decide +kernel
theorem dX5_strikes_63 : decode cX5_strikes 63 = .ok (.aaload, 1) := by decide +kernel
theorem dX5_strikes_64 : decode cX5_strikes 64 = .ok (.iload_n 3, 1) := by decide +kernel
theorem dX5_strikes_65 : decode cX5_strikes 65 = .ok (.aload_n 0, 1) := by decide +kernel
theorem dX5_strikes_66 : decode cX5_strikes 66 = .ok (.getfield 27, 3) := by decide +kernel
theorem dX5_strikes_69 : decode cX5_strikes 69 = .ok (.iload_n 1, 1) := by decide +kernel
theorem dX5_strikes_70 : decode cX5_strikes 70 = .ok (.aaload, 1) := by decide +kernel
theorem dX5_strikes_71 : decode cX5_strikes 71 = .ok (.iload_n 3, 1) := by decide +kernel
theorem dX5_strikes_72 : decode cX5_strikes 72 = .ok (.iconst 1, 1) := by decide +kernel
theorem dX5_strikes_73 : decode cX5_strikes 73 = .ok (.iadd, 1) := by decide +kernel
theorem dX5_strikes_74 : decode cX5_strikes 74 = .ok (.iaload, 1) := by decide +kernel
theorem dX5_strikes_75 : decode cX5_strikes 75 = .ok (.iastore, 1) := by decide +kernel
theorem dX5_strikes_76 : decode cX5_strikes 76 = .ok (.iinc 3 1, 3) := by decide +kernel
theorem dX5_strikes_79 : decode cX5_strikes 79 = .ok (.goto (-67), 3) := by decide +kernel
theorem dX5_strikes_82 : decode cX5_strikes 82 = .ok (.return_, 1) := by decide +kernel
theorem dX5_enter_0 : decode cX5_enter 0 = .ok (.aload_n 0, 1) := by decide +kernel
theorem dX5_enter_1 : decode cX5_enter 1 = .ok (.iload_n 1, 1) := by decide +kernel
theorem dX5_enter_2 : decode cX5_enter 2 = .ok (.invokevirtual 156, 3) := by decide +kernel
theorem dX5_enter_5 : decode cX5_enter 5 = .ok (.istore 5, 2) := by decide +kernel
theorem dX5_enter_7 : decode cX5_enter 7 = .ok (.iload 5, 2) := by decide +kernel
theorem dX5_enter_9 : decode cX5_enter 9 = .ok (.ifCond .eq 15, 3) := by decide +kernel
theorem dX5_enter_12 : decode cX5_enter 12 = .ok (.aload_n 0, 1) := by decide +kernel
theorem dX5_enter_13 : decode cX5_enter 13 = .ok (.iload_n 1, 1) := by decide +kernel
theorem dX5_enter_14 : decode cX5_enter 14 = .ok (.invokevirtual 173, 3) := by decide +kernel
theorem dX5_enter_17 : decode cX5_enter 17 = .ok (.ifCond .eq 7, 3) := by decide +kernel
theorem dX5_enter_20 : decode cX5_enter 20 = .ok (.iconst 1, 1) := by decide +kernel
theorem dX5_enter_21 : decode cX5_enter 21 = .ok (.goto 4, 3) := by decide +kernel
theorem dX5_enter_24 : decode cX5_enter 24 = .ok (.iconst 0, 1) := by decide +kernel
theorem dX5_enter_25 : decode cX5_enter 25 = .ok (.istore 6, 2) := by decide +kernel
theorem dX5_enter_27 : decode cX5_enter 27 = .ok (.iload 5, 2) := by decide +kernel
theorem dX5_enter_29 : decode cX5_enter 29 = .ok (.ifCond .eq 12, 3) := by decide +kernel
theorem dX5_enter_32 : decode cX5_enter 32 = .ok (.aload_n 0, 1) := by decide +kernel
theorem dX5_enter_33 : decode cX5_enter 33 = .ok (.getfield 53, 3) := by decide +kernel
theorem dX5_enter_36 : decode cX5_enter 36 = .ok (.iload_n 1, 1) := by decide +kernel
theorem dX5_enter_37 : decode cX5_enter 37 = .ok (.iaload, 1) := by decide +kernel
theorem dX5_enter_38 : decode cX5_enter 38 = .ok (.goto 4, 3) := by decide +kernel
theorem dX5_enter_41 : decode cX5_enter 41 = .ok (.iconst 0, 1) := by decide +kernel
theorem dX5_enter_42 : decode cX5_enter 42 = .ok (.istore 7, 2) := by decide +kernel
theorem dX5_enter_44 : decode cX5_enter 44 = .ok (.aload_n 0, 1) := by decide +kernel
theorem dX5_enter_45 : decode cX5_enter 45 = .ok (.iload 7, 2) := by decide +kernel
theorem dX5_enter_47 : decode cX5_enter 47 = .ok (.iload_n 2, 1) := by decide +kernel
theorem dX5_enter_48 : decode cX5_enter 48 = .ok (.invokevirtual 238, 3) := by decide +kernel
theorem dX5_enter_51 : decode cX5_enter 51 = .ok (.istore 8, 2) := by decide +kernel
theorem dX5_enter_53 : decode cX5_enter 53 = .ok (.iload 8, 2) := by decide +kernel
theorem dX5_enter_55 : decode cX5_enter 55 = .ok (.iconst (-1), 1) := by decide +kernel
theorem dX5_enter_56 : decode cX5_enter 56 = .ok (.if_icmp .eq 7, 3) := by decide +kernel
theorem dX5_enter_59 : decode cX5_enter 59 = .ok (.iconst 1, 1) := by decide +kernel
theorem dX5_enter_60 : decode cX5_enter 60 = .ok (.goto 4, 3) := by decide +kernel
theorem dX5_enter_63 : decode cX5_enter 63 = .ok (.iconst 0, 1) := by decide +kernel
theorem dX5_enter_64 : decode cX5_enter 64 = .ok (.istore 9, 2) := by decide +kernel
theorem dX5_enter_66 : decode cX5_enter 66 = .ok (.aload_n 0, 1) := by decide +kernel
theorem dX5_enter_67 : decode cX5_enter 67 = .ok (.iload_n 1, 1) := by decide +kernel
theorem dX5_enter_68 : decode cX5_enter 68 = .ok (.invokestatic 82, 3) := by decide +kernel
theorem dX5_enter_71 : decode cX5_enter 71 = .ok (.ifCond .ne 7, 3) := by decide +kernel
theorem dX5_enter_74 : decode cX5_enter 74 = .ok (.iconst 1, 1) := by decide +kernel
theorem dX5_enter_75 : decode cX5_enter 75 = .ok (.goto 4, 3) := by decide +kernel
theorem dX5_enter_78 : decode cX5_enter 78 = .ok (.iconst 0, 1) := by decide +kernel
theorem dX5_enter_79 : decode cX5_enter 79 = .ok (.iload 5, 2) := by decide +kernel
theorem dX5_enter_81 : decode cX5_enter 81 = .ok (.ifCond .ne 7, 3) := by decide +kernel
theorem dX5_enter_84 : decode cX5_enter 84 = .ok (.iconst 1, 1) := by decide +kernel
theorem dX5_enter_85 : decode cX5_enter 85 = .ok (.goto 4, 3) := by decide +kernel
theorem dX5_enter_88 : decode cX5_enter 88 = .ok (.iconst 0, 1) := by decide +kernel
theorem dX5_enter_89 : decode cX5_enter 89 = .ok (.iload 6, 2) := by decide +kernel
theorem dX5_enter_91 : decode cX5_enter 91 = .ok (.ifCond .ne 7, 3) := by decide +kernel
theorem dX5_enter_94 : decode cX5_enter 94 = .ok (.iconst 1, 1) := by decide +kernel
theorem dX5_enter_95 : decode cX5_enter 95 = .ok (.goto 4, 3) := by decide +kernel
theorem dX5_enter_98 : decode cX5_enter 98 = .ok (.iconst 0, 1) := by decide +kernel
theorem dX5_enter_99 : decode cX5_enter 99 = .ok (.iload_n 3, 1) := by decide +kernel
theorem dX5_enter_100 : decode cX5_enter 100 = .ok (.iload 4, 2) := by decide +kernel
theorem dX5_enter_102 : decode cX5_enter 102 = .ok (.invokestatic 148, 3) := by decide +kernel
theorem dX5_enter_105 : decode cX5_enter 105 = .ok (.ifCond .ne 7, 3) := by decide +kernel
theorem dX5_enter_108 : decode cX5_enter 108 = .ok (.iconst 1, 1) := by decide +kernel
theorem dX5_enter_109 : decode cX5_enter 109 = .ok (.goto 4, 3) := by decide +kernel
theorem dX5_enter_112 : decode cX5_enter 112 = .ok (.iconst 0, 1) := by decide +kernel
theorem dX5_enter_113 : decode cX5_enter 113 = .ok (.iload 9, 2) := by decide +kernel
theorem dX5_enter_115 : decode cX5_enter 115 = .ok (.ifCond .ne 19, 3) := by decide +kernel
theorem dX5_enter_118 : decode cX5_enter 118 = .ok (.aload_n 0, 1) := by decide +kernel
theorem dX5_enter_119 : decode cX5_enter 119 = .ok (.getfield 30, 3) := by decide +kernel
theorem dX5_enter_122 : decode cX5_enter 122 = .ok (.iload 7, 2) := by decide +kernel
theorem dX5_enter_124 : decode cX5_enter 124 = .ok (.iaload, 1) := by decide +kernel
theorem dX5_enter_125 : decode cX5_enter 125 = .ok (.bipush 24, 2) := by decide +kernel
theorem dX5_enter_127 : decode cX5_enter 127 = .ok (.if_icmp .ne 7, 3) := by decide +kernel
theorem dX5_enter_130 : decode cX5_enter 130 = .ok (.iconst 1, 1) := by decide +kernel
theorem dX5_enter_131 : decode cX5_enter 131 = .ok (.goto 4, 3) := by decide +kernel
theorem dX5_enter_134 : decode cX5_enter 134 = .ok (.iconst 0, 1) := by decide +kernel
theorem dX5_enter_135 : decode cX5_enter 135 = .ok (.invokevirtual 135, 3) := by decide +kernel
theorem dX5_enter_138 : decode cX5_enter 138 = .ok (.ifCond .eq 5, 3) := by decide +kernel
theorem dX5_enter_141 : decode cX5_enter 141 = .ok (.iconst 0, 1) := by decide +kernel
theorem dX5_enter_142 : decode cX5_enter 142 = .ok (.ireturn, 1) := by decide +kernel
theorem dX5_enter_143 : decode cX5_enter 143 = .ok (.iload 9, 2) := by decide +kernel
theorem dX5_enter_145 : decode cX5_enter 145 = .ok (.ifCond .ne 133, 3) := by decide +kernel
theorem dX5_enter_148 : decode cX5_enter 148 = .ok (.aload_n 0, 1) := by decide +kernel
theorem dX5_enter_149 : decode cX5_enter 149 = .ok (.getfield 30, 3) := by decide +kernel
theorem dX5_enter_152 : decode cX5_enter 152 = .ok (.iload 7, 2) := by decide +kernel
theorem dX5_enter_154 : decode cX5_enter 154 = .ok (.iaload, 1) := by decide +kernel
theorem dX5_enter_155 : decode cX5_enter 155 = .ok (.istore 8, 2) := by decide +kernel
theorem dX5_enter_157 : decode cX5_enter 157 = .ok (.aload_n 0, 1) := by decide +kernel
theorem dX5_enter_158 : decode cX5_enter 158 = .ok (.getfield 30, 3) := by decide +kernel
theorem dX5_enter_161 : decode cX5_enter 161 = .ok (.iload 7, 2) := by decide +kernel
theorem dX5_enter_163 : decode cX5_enter 163 = .ok (.dup2, 1) := by decide +kernel
theorem dX5_enter_164 : decode cX5_enter 164 = .ok (.iaload, 1) := by decide +kernel
theorem dX5_enter_165 : decode cX5_enter 165 = .ok (.iconst 1, 1) := by decide +kernel
theorem dX5_enter_166 : decode cX5_enter 166 = .ok (.iadd, 1) := by decide +kernel
theorem dX5_enter_167 : decode cX5_enter 167 = .ok (.iastore, 1) := by decide +kernel
theorem dX5_enter_168 : decode cX5_enter 168 = .ok (.iload 7, 2) := by decide +kernel
theorem dX5_enter_170 : decode cX5_enter 170 = .ok (.iconst 1, 1) := by decide +kernel
theorem dX5_enter_171 : decode cX5_enter 171 = .ok (.if_icmp .ne 96, 3) := by decide +kernel
theorem dX5_enter_174 : decode cX5_enter 174 = .ok (.iload 8, 2) := by decide +kernel
theorem dX5_enter_176 : decode cX5_enter 176 = .ok (.ifCond .le 91, 3) := by decide +kernel
theorem dX5_enter_179 : decode cX5_enter 179 = .ok (.aload_n 0, 1) := by decide +kernel
theorem dX5_enter_180 : decode cX5_enter 180 = .ok (.getfield 21, 3) := by decide +kernel
theorem dX5_enter_183 : decode cX5_enter 183 = .ok (.iload 7, 2) := by decide +kernel
theorem dX5_enter_185 : decode cX5_enter 185 = .ok (.aaload, 1) := by decide +kernel
theorem dX5_enter_186 : decode cX5_enter 186 = .ok (.iload 8, 2) := by decide +kernel
theorem dX5_enter_188 : decode cX5_enter 188 = .ok (.iconst 1, 1) := by decide +kernel
theorem dX5_enter_189 : decode cX5_enter 189 = .ok (.isub, 1) := by decide +kernel
theorem dX5_enter_190 : decode cX5_enter 190 = .ok (.iaload, 1) := by decide +kernel
theorem dX5_enter_191 : decode cX5_enter 191 = .ok (.iload_n 2, 1) := by decide +kernel
theorem dX5_enter_192 : decode cX5_enter 192 = .ok (.if_icmp .le 75, 3) := by decide +kernel
theorem dX5_enter_195 : decode cX5_enter 195 = .ok (.aload_n 0, 1) := by decide +kernel
theorem dX5_enter_196 : decode cX5_enter 196 = .ok (.getfield 21, 3) := by decide +kernel
theorem dX5_enter_199 : decode cX5_enter 199 = .ok (.iload 7, 2) := by decide +kernel
theorem dX5_enter_201 : decode cX5_enter 201 = .ok (.aaload, 1) := by decide +kernel
theorem dX5_enter_202 : decode cX5_enter 202 = .ok (.iload 8, 2) := by decide +kernel
theorem dX5_enter_204 : decode cX5_enter 204 = .ok (.aload_n 0, 1) := by decide +kernel
theorem dX5_enter_205 : decode cX5_enter 205 = .ok (.getfield 21, 3) := by decide +kernel
theorem dX5_enter_208 : decode cX5_enter 208 = .ok (.iload 7, 2) := by decide +kernel
theorem dX5_enter_210 : decode cX5_enter 210 = .ok (.aaload, 1) := by decide +kernel
theorem dX5_enter_211 : decode cX5_enter 211 = .ok (.iload 8, 2) := by decide +kernel
theorem dX5_enter_213 : decode cX5_enter 213 = .ok (.iconst 1, 1) := by decide +kernel
theorem dX5_enter_214 : decode cX5_enter 214 = .ok (.isub, 1) := by decide +kernel
theorem dX5_enter_215 : decode cX5_enter 215 = .ok (.iaload, 1) := by decide +kernel
theorem dX5_enter_216 : decode cX5_enter 216 = .ok (.iastore, 1) := by decide +kernel
theorem dX5_enter_217 : decode cX5_enter 217 = .ok (.aload_n 0, 1) := by decide +kernel
theorem dX5_enter_218 : decode cX5_enter 218 = .ok (.getfield 24, 3) := by decide +kernel
theorem dX5_enter_221 : decode cX5_enter 221 = .ok (.iload 7, 2) := by decide +kernel
theorem dX5_enter_223 : decode cX5_enter 223 = .ok (.aaload, 1) := by decide +kernel
theorem dX5_enter_224 : decode cX5_enter 224 = .ok (.iload 8, 2) := by decide +kernel
theorem dX5_enter_226 : decode cX5_enter 226 = .ok (.aload_n 0, 1) := by decide +kernel
theorem dX5_enter_227 : decode cX5_enter 227 = .ok (.getfield 24, 3) := by decide +kernel
theorem dX5_enter_230 : decode cX5_enter 230 = .ok (.iload 7, 2) := by decide +kernel
theorem dX5_enter_232 : decode cX5_enter 232 = .ok (.aaload, 1) := by decide +kernel
theorem dX5_enter_233 : decode cX5_enter 233 = .ok (.iload 8, 2) := by decide +kernel
theorem dX5_enter_235 : decode cX5_enter 235 = .ok (.iconst 1, 1) := by decide +kernel
theorem dX5_enter_236 : decode cX5_enter 236 = .ok (.isub, 1) := by decide +kernel
theorem dX5_enter_237 : decode cX5_enter 237 = .ok (.iaload, 1) := by decide +kernel
theorem dX5_enter_238 : decode cX5_enter 238 = .ok (.iastore, 1) := by decide +kernel
theorem dX5_enter_239 : decode cX5_enter 239 = .ok (.aload_n 0, 1) := by decide +kernel
theorem dX5_enter_240 : decode cX5_enter 240 = .ok (.getfield 27, 3) := by decide +kernel
theorem dX5_enter_243 : decode cX5_enter 243 = .ok (.iload 7, 2) := by decide +kernel
theorem dX5_enter_245 : decode cX5_enter 245 = .ok (.aaload, 1) := by decide +kernel
theorem dX5_enter_246 : decode cX5_enter 246 = .ok (.iload 8, 2) := by decide +kernel
theorem dX5_enter_248 : decode cX5_enter 248 = .ok (.aload_n 0, 1) := by decide +kernel
theorem dX5_enter_249 : decode cX5_enter 249 = .ok (.getfield 27, 3) := by decide +kernel
theorem dX5_enter_252 : decode cX5_enter 252 = .ok (.iload 7, 2) := by decide +kernel
theorem dX5_enter_254 : decode cX5_enter 254 = .ok (.aaload, 1) := by decide +kernel
theorem dX5_enter_255 : decode cX5_enter 255 = .ok (.iload 8, 2) := by decide +kernel
theorem dX5_enter_257 : decode cX5_enter 257 = .ok (.iconst 1, 1) := by decide +kernel
theorem dX5_enter_258 : decode cX5_enter 258 = .ok (.isub, 1) := by decide +kernel
theorem dX5_enter_259 : decode cX5_enter 259 = .ok (.iaload, 1) := by decide +kernel
theorem dX5_enter_260 : decode cX5_enter 260 = .ok (.iastore, 1) := by decide +kernel
theorem dX5_enter_261 : decode cX5_enter 261 = .ok (.iinc 8 (-1), 3) := by decide +kernel
theorem dX5_enter_264 : decode cX5_enter 264 = .ok (.goto (-96), 3) := by decide +kernel
theorem dX5_enter_267 : decode cX5_enter 267 = .ok (.aload_n 0, 1) := by decide +kernel
theorem dX5_enter_268 : decode cX5_enter 268 = .ok (.getfield 21, 3) := by decide +kernel
theorem dX5_enter_271 : decode cX5_enter 271 = .ok (.iload 7, 2) := by decide +kernel
theorem dX5_enter_273 : decode cX5_enter 273 = .ok (.aaload, 1) := by decide +kernel
theorem dX5_enter_274 : decode cX5_enter 274 = .ok (.iload 8, 2) := by decide +kernel
theorem dX5_enter_276 : decode cX5_enter 276 = .ok (.iload_n 2, 1) := by decide +kernel
theorem dX5_enter_277 : decode cX5_enter 277 = .ok (.iastore, 1) := by decide +kernel
theorem dX5_enter_278 : decode cX5_enter 278 = .ok (.aload_n 0, 1) := by decide +kernel
theorem dX5_enter_279 : decode cX5_enter 279 = .ok (.getfield 24, 3) := by decide +kernel
theorem dX5_enter_282 : decode cX5_enter 282 = .ok (.iload 7, 2) := by decide +kernel
theorem dX5_enter_284 : decode cX5_enter 284 = .ok (.aaload, 1) := by decide +kernel
theorem dX5_enter_285 : decode cX5_enter 285 = .ok (.iload 8, 2) := by decide +kernel
theorem dX5_enter_287 : decode cX5_enter 287 = .ok (.iload_n 3, 1) := by decide +kernel
theorem dX5_enter_288 : decode cX5_enter 288 = .ok (.iastore, 1) := by decide +kernel
theorem dX5_enter_289 : decode cX5_enter 289 = .ok (.aload_n 0, 1) := by decide +kernel
theorem dX5_enter_290 : decode cX5_enter 290 = .ok (.getfield 27, 3) := by decide +kernel
theorem dX5_enter_293 : decode cX5_enter 293 = .ok (.iload 7, 2) := by decide +kernel
theorem dX5_enter_295 : decode cX5_enter 295 = .ok (.aaload, 1) := by decide +kernel
theorem dX5_enter_296 : decode cX5_enter 296 = .ok (.iload 8, 2) := by decide +kernel
theorem dX5_enter_298 : decode cX5_enter 298 = .ok (.iload 4, 2) := by decide +kernel
theorem dX5_enter_300 : decode cX5_enter 300 = .ok (.iastore, 1) := by decide +kernel
theorem dX5_enter_301 : decode cX5_enter 301 = .ok (.iload 9, 2) := by decide +kernel
theorem dX5_enter_303 : decode cX5_enter 303 = .ok (.ireturn, 1) := by decide +kernel
theorem dX5_hasNumbers_0 : decode cX5_hasNumbers 0 = .ok (.aload_n 0, 1) := by decide +kernel
theorem dX5_hasNumbers_1 : decode cX5_hasNumbers 1 = .ok (.iload_n 1, 1) := by decide +kernel
theorem dX5_hasNumbers_2 : decode cX5_hasNumbers 2 = .ok (.invokevirtual 156, 3) := by decide +kernel
theorem dX5_hasNumbers_5 : decode cX5_hasNumbers 5 = .ok (.ifCond .ne 11, 3) := by decide +kernel
theorem dX5_hasNumbers_8 : decode cX5_hasNumbers 8 = .ok (.aload_n 0, 1) := by decide +kernel
theorem dX5_hasNumbers_9 : decode cX5_hasNumbers 9 = .ok (.iload_n 1, 1) := by decide +kernel
theorem dX5_hasNumbers_10 : decode cX5_hasNumbers 10 = .ok (.invokevirtual 215, 3) := by decide +kernel
theorem dX5_hasNumbers_13 : decode cX5_hasNumbers 13 = .ok (.ifCond .eq 7, 3) := by decide +kernel
theorem dX5_hasNumbers_16 : decode cX5_hasNumbers 16 = .ok (.iconst 1, 1) := by decide +kernel
theorem dX5_hasNumbers_17 : decode cX5_hasNumbers 17 = .ok (.goto 4, 3) := by decide +kernel
theorem dX5_hasNumbers_20 : decode cX5_hasNumbers 20 = .ok (.iconst 0, 1) := by decide +kernel
theorem dX5_hasNumbers_21 : decode cX5_hasNumbers 21 = .ok (.ireturn, 1) := by decide +kernel
theorem dX5_strike_0 : decode cX5_strike 0 = .ok (.aload_n 0, 1) := by decide +kernel
theorem dX5_strike_1 : decode cX5_strike 1 = .ok (.iload_n 1, 1) := by decide +kernel
theorem dX5_strike_2 : decode cX5_strike 2 = .ok (.invokevirtual 241, 3) := by decide +kernel
theorem dX5_strike_5 : decode cX5_strike 5 = .ok (.istore_n 3, 1) := by decide +kernel
theorem dX5_strike_6 : decode cX5_strike 6 = .ok (.aload_n 0, 1) := by decide +kernel
theorem dX5_strike_7 : decode cX5_strike 7 = .ok (.iload_n 1, 1) := by decide +kernel
theorem dX5_strike_8 : decode cX5_strike 8 = .ok (.invokestatic 82, 3) := by decide +kernel
theorem dX5_strike_11 : decode cX5_strike 11 = .ok (.ifCond .ne 7, 3) := by decide +kernel
theorem dX5_strike_14 : decode cX5_strike 14 = .ok (.iconst 1, 1) := by decide +kernel
theorem dX5_strike_15 : decode cX5_strike 15 = .ok (.goto 4, 3) := by decide +kernel
theorem dX5_strike_18 : decode cX5_strike 18 = .ok (.iconst 0, 1) := by decide +kernel
theorem dX5_strike_19 : decode cX5_strike 19 = .ok (.iload_n 3, 1) := by decide +kernel
theorem dX5_strike_20 : decode cX5_strike 20 = .ok (.ifCond .ne 7, 3) := by decide +kernel
theorem dX5_strike_23 : decode cX5_strike 23 = .ok (.iconst 1, 1) := by decide +kernel
theorem dX5_strike_24 : decode cX5_strike 24 = .ok (.goto 4, 3) := by decide +kernel
theorem dX5_strike_27 : decode cX5_strike 27 = .ok (.iconst 0, 1) := by decide +kernel
theorem dX5_strike_28 : decode cX5_strike 28 = .ok (.iload_n 3, 1) := by decide +kernel
theorem dX5_strike_29 : decode cX5_strike 29 = .ok (.ifCond .eq 15, 3) := by decide +kernel
theorem dX5_strike_32 : decode cX5_strike 32 = .ok (.aload_n 0, 1) := by decide +kernel
theorem dX5_strike_33 : decode cX5_strike 33 = .ok (.iload_n 1, 1) := by decide +kernel
theorem dX5_strike_34 : decode cX5_strike 34 = .ok (.invokevirtual 173, 3) := by decide +kernel
theorem dX5_strike_37 : decode cX5_strike 37 = .ok (.ifCond .ne 7, 3) := by decide +kernel
theorem dX5_strike_40 : decode cX5_strike 40 = .ok (.iconst 1, 1) := by decide +kernel
theorem dX5_strike_41 : decode cX5_strike 41 = .ok (.goto 4, 3) := by decide +kernel
theorem dX5_strike_44 : decode cX5_strike 44 = .ok (.iconst 0, 1) := by decide +kernel
theorem dX5_strike_45 : decode cX5_strike 45 = .ok (.iconst 0, 1) := by decide +kernel
theorem dX5_strike_46 : decode cX5_strike 46 = .ok (.iconst 0, 1) := by decide +kernel
theorem dX5_strike_47 : decode cX5_strike 47 = .ok (.invokevirtual 135, 3) := by decide +kernel
theorem dX5_strike_50 : decode cX5_strike 50 = .ok (.ifCond .eq 5, 3) := by decide +kernel
theorem dX5_strike_53 : decode cX5_strike 53 = .ok (.iconst 0, 1) := by decide +kernel
theorem dX5_strike_54 : decode cX5_strike 54 = .ok (.ireturn, 1) := by decide +kernel
theorem dX5_strike_55 : decode cX5_strike 55 = .ok (.aload_n 0, 1) := by decide +kernel
theorem dX5_strike_56 : decode cX5_strike 56 = .ok (.aload_n 0, 1) := by decide +kernel
theorem dX5_strike_57 : decode cX5_strike 57 = .ok (.getfield 53, 3) := by decide +kernel
theorem dX5_strike_60 : decode cX5_strike 60 = .ok (.iload_n 1, 1) := by decide +kernel
theorem dX5_strike_61 : decode cX5_strike 61 = .ok (.iaload, 1) := by decide +kernel
theorem dX5_strike_62 : decode cX5_strike 62 = .ok (.iload_n 2, 1) := by decide +kernel
theorem dX5_strike_63 : decode cX5_strike 63 = .ok (.invokevirtual 238, 3) := by decide +kernel
theorem dX5_strike_66 : decode cX5_strike 66 = .ok (.istore 4, 2) := by decide +kernel
theorem dX5_strike_68 : decode cX5_strike 68 = .ok (.iload 4, 2) := by decide +kernel
theorem dX5_strike_70 : decode cX5_strike 70 = .ok (.iconst (-1), 1) := by decide +kernel
theorem dX5_strike_71 : decode cX5_strike 71 = .ok (.if_icmp .eq 15, 3) := by decide +kernel
theorem dX5_strike_74 : decode cX5_strike 74 = .ok (.aload_n 0, 1) := by decide +kernel
theorem dX5_strike_75 : decode cX5_strike 75 = .ok (.aload_n 0, 1) := by decide +kernel
theorem dX5_strike_76 : decode cX5_strike 76 = .ok (.getfield 53, 3) := by decide +kernel
theorem dX5_strike_79 : decode cX5_strike 79 = .ok (.iload_n 1, 1) := by decide +kernel
theorem dX5_strike_80 : decode cX5_strike 80 = .ok (.iaload, 1) := by decide +kernel
theorem dX5_strike_81 : decode cX5_strike 81 = .ok (.iload 4, 2) := by decide +kernel
theorem dX5_strike_83 : decode cX5_strike 83 = .ok (.invokevirtual 205, 3) := by decide +kernel
theorem dX5_strike_86 : decode cX5_strike 86 = .ok (.iload 4, 2) := by decide +kernel
theorem dX5_strike_88 : decode cX5_strike 88 = .ok (.iconst (-1), 1) := by decide +kernel
theorem dX5_strike_89 : decode cX5_strike 89 = .ok (.if_icmp .eq 7, 3) := by decide +kernel
theorem dX5_strike_92 : decode cX5_strike 92 = .ok (.iconst 1, 1) := by decide +kernel
theorem dX5_strike_93 : decode cX5_strike 93 = .ok (.goto 4, 3) := by decide +kernel
theorem dX5_strike_96 : decode cX5_strike 96 = .ok (.iconst 0, 1) := by decide +kernel
theorem dX5_strike_97 : decode cX5_strike 97 = .ok (.ireturn, 1) := by decide +kernel
theorem dX5_hasNumber_0 : decode cX5_hasNumber 0 = .ok (.aload_n 0, 1) := by decide +kernel
theorem dX5_hasNumber_1 : decode cX5_hasNumber 1 = .ok (.iload_n 1, 1) := by decide +kernel
theorem dX5_hasNumber_2 : decode cX5_hasNumber 2 = .ok (.invokevirtual 241, 3) := by decide +kernel
theorem dX5_hasNumber_5 : decode cX5_hasNumber 5 = .ok (.istore_n 3, 1) := by decide +kernel
theorem dX5_hasNumber_6 : decode cX5_hasNumber 6 = .ok (.aload_n 0, 1) := by decide +kernel
theorem dX5_hasNumber_7 : decode cX5_hasNumber 7 = .ok (.iload_n 1, 1) := by decide +kernel
theorem dX5_hasNumber_8 : decode cX5_hasNumber 8 = .ok (.invokestatic 82, 3) := by decide +kernel
theorem dX5_hasNumber_11 : decode cX5_hasNumber 11 = .ok (.ifCond .ne 7, 3) := by decide +kernel
theorem dX5_hasNumber_14 : decode cX5_hasNumber 14 = .ok (.iconst 1, 1) := by decide +kernel
theorem dX5_hasNumber_15 : decode cX5_hasNumber 15 = .ok (.goto 4, 3) := by decide +kernel
theorem dX5_hasNumber_18 : decode cX5_hasNumber 18 = .ok (.iconst 0, 1) := by decide +kernel
theorem dX5_hasNumber_19 : decode cX5_hasNumber 19 = .ok (.iload_n 3, 1) := by decide +kernel
theorem dX5_hasNumber_20 : decode cX5_hasNumber 20 = .ok (.ifCond .ne 7, 3) := by decide +kernel
theorem dX5_hasNumber_23 : decode cX5_hasNumber 23 = .ok (.iconst 1, 1) := by decide +kernel
theorem dX5_hasNumber_24 : decode cX5_hasNumber 24 = .ok (.goto 4, 3) := by decide +kernel
theorem dX5_hasNumber_27 : decode cX5_hasNumber 27 = .ok (.iconst 0, 1) := by decide +kernel
theorem dX5_hasNumber_28 : decode cX5_hasNumber 28 = .ok (.iconst 0, 1) := by decide +kernel
theorem dX5_hasNumber_29 : decode cX5_hasNumber 29 = .ok (.iconst 0, 1) := by decide +kernel
theorem dX5_hasNumber_30 : decode cX5_hasNumber 30 = .ok (.iconst 0, 1) := by decide +kernel
theorem dX5_hasNumber_31 : decode cX5_hasNumber 31 = .ok (.invokevirtual 135, 3) := by decide +kernel
theorem dX5_hasNumber_34 : decode cX5_hasNumber 34 = .ok (.ifCond .ne 22, 3) := by decide +kernel
theorem dX5_hasNumber_37 : decode cX5_hasNumber 37 = .ok (.aload_n 0, 1) := by decide +kernel
theorem dX5_hasNumber_38 : decode cX5_hasNumber 38 = .ok (.aload_n 0, 1) := by decide +kernel
theorem dX5_hasNumber_39 : decode cX5_hasNumber 39 = .ok (.getfield 53, 3) := by decide +kernel
theorem dX5_hasNumber_42 : decode cX5_hasNumber 42 = .ok (.iload_n 1, 1) := by decide +kernel
theorem dX5_hasNumber_43 : decode cX5_hasNumber 43 = .ok (.iaload, 1) := by decide +kernel
theorem dX5_hasNumber_44 : decode cX5_hasNumber 44 = .ok (.iload_n 2, 1) := by decide +kernel
theorem dX5_hasNumber_45 : decode cX5_hasNumber 45 = .ok (.invokevirtual 238, 3) := by decide +kernel
theorem dX5_hasNumber_48 : decode cX5_hasNumber 48 = .ok (.iconst (-1), 1) := by decide +kernel
theorem dX5_hasNumber_49 : decode cX5_hasNumber 49 = .ok (.if_icmp .eq 7, 3) := by decide +kernel
theorem dX5_hasNumber_52 : decode cX5_hasNumber 52 = .ok (.iconst 1, 1) := by decide +kernel
theorem dX5_hasNumber_53 : decode cX5_hasNumber 53 = .ok (.goto 4, 3) := by decide +kernel
theorem dX5_hasNumber_56 : decode cX5_hasNumber 56 = .ok (.iconst 0, 1) := by decide +kernel
theorem dX5_hasNumber_57 : decode cX5_hasNumber 57 = .ok (.ireturn, 1) := by decide +kernel
theorem dX5_thingOf_0 : decode cX5_thingOf 0 = .ok (.aload_n 0, 1) := by decide +kernel
theorem dX5_thingOf_1 : decode cX5_thingOf 1 = .ok (.iload_n 1, 1) := by decide +kernel
theorem dX5_thingOf_2 : decode cX5_thingOf 2 = .ok (.invokevirtual 156, 3) := by decide +kernel
theorem dX5_thingOf_5 : decode cX5_thingOf 5 = .ok (.istore_n 3, 1) := by decide +kernel
theorem dX5_thingOf_6 : decode cX5_thingOf 6 = .ok (.iload_n 3, 1) := by decide +kernel
theorem dX5_thingOf_7 : decode cX5_thingOf 7 = .ok (.ifCond .eq 17, 3) := by decide +kernel
theorem dX5_thingOf_10 : decode cX5_thingOf 10 = .ok (.aload_n 0, 1) := by decide +kernel
theorem dX5_thingOf_11 : decode cX5_thingOf 11 = .ok (.aload_n 0, 1) := by decide +kernel
theorem dX5_thingOf_12 : decode cX5_thingOf 12 = .ok (.getfield 53, 3) := by decide +kernel
theorem dX5_thingOf_15 : decode cX5_thingOf 15 = .ok (.iload_n 1, 1) := by decide +kernel
theorem dX5_thingOf_16 : decode cX5_thingOf 16 = .ok (.iaload, 1) := by decide +kernel
theorem dX5_thingOf_17 : decode cX5_thingOf 17 = .ok (.iload_n 2, 1) := by decide +kernel
theorem dX5_thingOf_18 : decode cX5_thingOf 18 = .ok (.invokevirtual 238, 3) := by decide +kernel
theorem dX5_thingOf_21 : decode cX5_thingOf 21 = .ok (.goto 4, 3) := by decide +kernel
theorem dX5_thingOf_24 : decode cX5_thingOf 24 = .ok (.iconst (-1), 1) := by decide +kernel
theorem dX5_thingOf_25 : decode cX5_thingOf 25 = .ok (.istore 4, 2) := by decide +kernel
theorem dX5_thingOf_27 : decode cX5_thingOf 27 = .ok (.aload_n 0, 1) := by decide +kernel
theorem dX5_thingOf_28 : decode cX5_thingOf 28 = .ok (.iload_n 1, 1) := by decide +kernel
theorem dX5_thingOf_29 : decode cX5_thingOf 29 = .ok (.invokestatic 82, 3) := by decide +kernel
theorem dX5_thingOf_32 : decode cX5_thingOf 32 = .ok (.ifCond .ne 7, 3) := by decide +kernel
theorem dX5_thingOf_35 : decode cX5_thingOf 35 = .ok (.iconst 1, 1) := by decide +kernel
theorem dX5_thingOf_36 : decode cX5_thingOf 36 = .ok (.goto 4, 3) := by decide +kernel
theorem dX5_thingOf_39 : decode cX5_thingOf 39 = .ok (.iconst 0, 1) := by decide +kernel
theorem dX5_thingOf_40 : decode cX5_thingOf 40 = .ok (.iload_n 3, 1) := by decide +kernel
theorem dX5_thingOf_41 : decode cX5_thingOf 41 = .ok (.ifCond .ne 7, 3) := by decide +kernel
theorem dX5_thingOf_44 : decode cX5_thingOf 44 = .ok (.iconst 1, 1) := by decide +kernel
theorem dX5_thingOf_45 : decode cX5_thingOf 45 = .ok (.goto 4, 3) := by decide +kernel
theorem dX5_thingOf_48 : decode cX5_thingOf 48 = .ok (.iconst 0, 1) := by decide +kernel
theorem dX5_thingOf_49 : decode cX5_thingOf 49 = .ok (.iload 4, 2) := by decide +kernel
theorem dX5_thingOf_51 : decode cX5_thingOf 51 = .ok (.iconst (-1), 1) := by decide +kernel
theorem dX5_thingOf_52 : decode cX5_thingOf 52 = .ok (.if_icmp .ne 7, 3) := by decide +kernel
theorem dX5_thingOf_55 : decode cX5_thingOf 55 = .ok (.iconst 1, 1) := by decide +kernel
theorem dX5_thingOf_56 : decode cX5_thingOf 56 = .ok (.goto 4, 3) := by decide +kernel
theorem dX5_thingOf_59 : decode cX5_thingOf 59 = .ok (.iconst 0, 1) := by decide +kernel
theorem dX5_thingOf_60 : decode cX5_thingOf 60 = .ok (.iconst 0, 1) := by decide +kernel
theorem dX5_thingOf_61 : decode cX5_thingOf 61 = .ok (.iconst 0, 1) := by decide +kernel
theorem dX5_thingOf_62 : decode cX5_thingOf 62 = .ok (.invokevirtual 135, 3) := by decide +kernel
theorem dX5_thingOf_65 : decode cX5_thingOf 65 = .ok (.ifCond .eq 7, 3) := by decide +kernel
theorem dX5_thingOf_68 : decode cX5_thingOf 68 = .ok (.iconst 0, 1) := by decide +kernel
theorem dX5_thingOf_69 : decode cX5_thingOf 69 = .ok (.goto 10, 3) := by decide +kernel
theorem dX5_thingOf_72 : decode cX5_thingOf 72 = .ok (.aload_n 0, 1) := by decide +kernel
theorem dX5_thingOf_73 : decode cX5_thingOf 73 = .ok (.iload_n 1, 1) := by decide +kernel
theorem dX5_thingOf_74 : decode cX5_thingOf 74 = .ok (.iload 4, 2) := by decide +kernel
theorem dX5_thingOf_76 : decode cX5_thingOf 76 = .ok (.invokevirtual 189, 3) := by decide +kernel
theorem dX5_thingOf_79 : decode cX5_thingOf 79 = .ok (.ireturn, 1) := by decide +kernel
theorem dX5_numberAt_0 : decode cX5_numberAt 0 = .ok (.aload_n 0, 1) := by decide +kernel
theorem dX5_numberAt_1 : decode cX5_numberAt 1 = .ok (.iload_n 1, 1) := by decide +kernel
theorem dX5_numberAt_2 : decode cX5_numberAt 2 = .ok (.invokevirtual 241, 3) := by decide +kernel
theorem dX5_numberAt_5 : decode cX5_numberAt 5 = .ok (.istore_n 3, 1) := by decide +kernel
theorem dX5_numberAt_6 : decode cX5_numberAt 6 = .ok (.aload_n 0, 1) := by decide +kernel
theorem dX5_numberAt_7 : decode cX5_numberAt 7 = .ok (.iload_n 1, 1) := by decide +kernel
theorem dX5_numberAt_8 : decode cX5_numberAt 8 = .ok (.invokestatic 82, 3) := by decide +kernel
theorem dX5_numberAt_11 : decode cX5_numberAt 11 = .ok (.ifCond .ne 7, 3) := by decide +kernel
theorem dX5_numberAt_14 : decode cX5_numberAt 14 = .ok (.iconst 1, 1) := by decide +kernel
theorem dX5_numberAt_15 : decode cX5_numberAt 15 = .ok (.goto 4, 3) := by decide +kernel
theorem dX5_numberAt_18 : decode cX5_numberAt 18 = .ok (.iconst 0, 1) := by decide +kernel
theorem dX5_numberAt_19 : decode cX5_numberAt 19 = .ok (.iload_n 3, 1) := by decide +kernel
theorem dX5_numberAt_20 : decode cX5_numberAt 20 = .ok (.ifCond .ne 7, 3) := by decide +kernel
theorem dX5_numberAt_23 : decode cX5_numberAt 23 = .ok (.iconst 1, 1) := by decide +kernel
theorem dX5_numberAt_24 : decode cX5_numberAt 24 = .ok (.goto 4, 3) := by decide +kernel
theorem dX5_numberAt_27 : decode cX5_numberAt 27 = .ok (.iconst 0, 1) := by decide +kernel
theorem dX5_numberAt_28 : decode cX5_numberAt 28 = .ok (.iload_n 3, 1) := by decide +kernel
theorem dX5_numberAt_29 : decode cX5_numberAt 29 = .ok (.ifCond .eq 17, 3) := by decide +kernel
theorem dX5_numberAt_32 : decode cX5_numberAt 32 = .ok (.aload_n 0, 1) := by decide +kernel
theorem dX5_numberAt_33 : decode cX5_numberAt 33 = .ok (.iload_n 1, 1) := by decide +kernel
theorem dX5_numberAt_34 : decode cX5_numberAt 34 = .ok (.iload_n 2, 1) := by decide +kernel
theorem dX5_numberAt_35 : decode cX5_numberAt 35 = .ok (.iconst 0, 1) := by decide +kernel
theorem dX5_numberAt_36 : decode cX5_numberAt 36 = .ok (.invokevirtual 176, 3) := by decide +kernel
theorem dX5_numberAt_39 : decode cX5_numberAt 39 = .ok (.ifCond .ne 7, 3) := by decide +kernel
theorem dX5_numberAt_42 : decode cX5_numberAt 42 = .ok (.iconst 1, 1) := by decide +kernel
theorem dX5_numberAt_43 : decode cX5_numberAt 43 = .ok (.goto 4, 3) := by decide +kernel
theorem dX5_numberAt_46 : decode cX5_numberAt 46 = .ok (.iconst 0, 1) := by decide +kernel
theorem dX5_numberAt_47 : decode cX5_numberAt 47 = .ok (.iconst 0, 1) := by decide +kernel
theorem dX5_numberAt_48 : decode cX5_numberAt 48 = .ok (.iconst 0, 1) := by decide +kernel
theorem dX5_numberAt_49 : decode cX5_numberAt 49 = .ok (.invokevirtual 135, 3) := by decide +kernel
theorem dX5_numberAt_52 : decode cX5_numberAt 52 = .ok (.ifCond .eq 7, 3) := by decide +kernel
theorem dX5_numberAt_55 : decode cX5_numberAt 55 = .ok (.iconst 0, 1) := by decide +kernel
theorem dX5_numberAt_56 : decode cX5_numberAt 56 = .ok (.goto 16, 3) := by decide +kernel
theorem dX5_numberAt_59 : decode cX5_numberAt 59 = .ok (.aload_n 0, 1) := by decide +kernel
theorem dX5_numberAt_60 : decode cX5_numberAt 60 = .ok (.getfield 21, 3) := by decide +kernel
theorem dX5_numberAt_63 : decode cX5_numberAt 63 = .ok (.aload_n 0, 1) := by decide +kernel
theorem dX5_numberAt_64 : decode cX5_numberAt 64 = .ok (.getfield 53, 3) := by decide +kernel
theorem dX5_numberAt_67 : decode cX5_numberAt 67 = .ok (.iload_n 1, 1) := by decide +kernel
theorem dX5_numberAt_68 : decode cX5_numberAt 68 = .ok (.iaload, 1) := by decide +kernel
theorem dX5_numberAt_69 : decode cX5_numberAt 69 = .ok (.aaload, 1) := by decide +kernel
theorem dX5_numberAt_70 : decode cX5_numberAt 70 = .ok (.iload_n 2, 1) := by decide +kernel
theorem dX5_numberAt_71 : decode cX5_numberAt 71 = .ok (.iaload, 1) := by decide +kernel
theorem dX5_numberAt_72 : decode cX5_numberAt 72 = .ok (.ireturn, 1) := by decide +kernel
theorem dX5_keepKeys_0 : decode cX5_keepKeys 0 = .ok (.iload_n 1, 1) := by decide +kernel
theorem dX5_keepKeys_1 : decode cX5_keepKeys 1 = .ok (.invokestatic 82, 3) := by decide +kernel
theorem dX5_keepKeys_4 : decode cX5_keepKeys 4 = .ok (.ifCond .eq 14, 3) := by decide +kernel
theorem dX5_keepKeys_7 : decode cX5_keepKeys 7 = .ok (.iload_n 2, 1) := by decide +kernel
theorem dX5_keepKeys_8 : decode cX5_keepKeys 8 = .ok (.invokestatic 82, 3) := by decide +kernel
theorem dX5_keepKeys_11 : decode cX5_keepKeys 11 = .ok (.ifCond .eq 7, 3) := by decide +kernel
theorem dX5_keepKeys_14 : decode cX5_keepKeys 14 = .ok (.iconst 1, 1) := by decide +kernel
theorem dX5_keepKeys_15 : decode cX5_keepKeys 15 = .ok (.goto 4, 3) := by decide +kernel
theorem dX5_keepKeys_18 : decode cX5_keepKeys 18 = .ok (.iconst 0, 1) := by decide +kernel
theorem dX5_keepKeys_19 : decode cX5_keepKeys 19 = .ok (.istore 4, 2) := by decide +kernel
theorem dX5_keepKeys_21 : decode cX5_keepKeys 21 = .ok (.iload 4, 2) := by decide +kernel
theorem dX5_keepKeys_23 : decode cX5_keepKeys 23 = .ok (.ifCond .eq 23, 3) := by decide +kernel
theorem dX5_keepKeys_26 : decode cX5_keepKeys 26 = .ok (.aload_n 0, 1) := by decide +kernel
theorem dX5_keepKeys_27 : decode cX5_keepKeys 27 = .ok (.iload_n 1, 1) := by decide +kernel
theorem dX5_keepKeys_28 : decode cX5_keepKeys 28 = .ok (.invokevirtual 215, 3) := by decide +kernel
theorem dX5_keepKeys_31 : decode cX5_keepKeys 31 = .ok (.ifCond .eq 15, 3) := by decide +kernel
theorem dX5_keepKeys_34 : decode cX5_keepKeys 34 = .ok (.aload_n 0, 1) := by decide +kernel
theorem dX5_keepKeys_35 : decode cX5_keepKeys 35 = .ok (.iload_n 2, 1) := by decide +kernel
theorem dX5_keepKeys_36 : decode cX5_keepKeys 36 = .ok (.invokevirtual 215, 3) := by decide +kernel
theorem dX5_keepKeys_39 : decode cX5_keepKeys 39 = .ok (.ifCond .eq 7, 3) := by decide +kernel
theorem dX5_keepKeys_42 : decode cX5_keepKeys 42 = .ok (.iconst 1, 1) := by decide +kernel
theorem dX5_keepKeys_43 : decode cX5_keepKeys 43 = .ok (.goto 4, 3) := by decide +kernel
theorem dX5_keepKeys_46 : decode cX5_keepKeys 46 = .ok (.iconst 0, 1) := by decide +kernel
theorem dX5_keepKeys_47 : decode cX5_keepKeys 47 = .ok (.istore 5, 2) := by decide +kernel
theorem dX5_keepKeys_49 : decode cX5_keepKeys 49 = .ok (.aload_n 0, 1) := by decide +kernel
theorem dX5_keepKeys_50 : decode cX5_keepKeys 50 = .ok (.iload 4, 2) := by decide +kernel
theorem dX5_keepKeys_52 : decode cX5_keepKeys 52 = .ok (.ifCond .ne 7, 3) := by decide +kernel
theorem dX5_keepKeys_55 : decode cX5_keepKeys 55 = .ok (.iconst 1, 1) := by decide +kernel
theorem dX5_keepKeys_56 : decode cX5_keepKeys 56 = .ok (.goto 4, 3) := by decide +kernel
theorem dX5_keepKeys_59 : decode cX5_keepKeys 59 = .ok (.iconst 0, 1) := by decide +kernel
theorem dX5_keepKeys_60 : decode cX5_keepKeys 60 = .ok (.iload 5, 2) := by decide +kernel
theorem dX5_keepKeys_62 : decode cX5_keepKeys 62 = .ok (.ifCond .ne 7, 3) := by decide +kernel
theorem dX5_keepKeys_65 : decode cX5_keepKeys 65 = .ok (.iconst 1, 1) := by decide +kernel
theorem dX5_keepKeys_66 : decode cX5_keepKeys 66 = .ok (.goto 4, 3) := by decide +kernel
theorem dX5_keepKeys_69 : decode cX5_keepKeys 69 = .ok (.iconst 0, 1) := by decide +kernel
theorem dX5_keepKeys_70 : decode cX5_keepKeys 70 = .ok (.iload 5, 2) := by decide +kernel
theorem dX5_keepKeys_72 : decode cX5_keepKeys 72 = .ok (.ifCond .eq 15, 3) := by decide +kernel
theorem dX5_keepKeys_75 : decode cX5_keepKeys 75 = .ok (.aload_n 0, 1) := by decide +kernel
theorem dX5_keepKeys_76 : decode cX5_keepKeys 76 = .ok (.iload_n 1, 1) := by decide +kernel
theorem dX5_keepKeys_77 : decode cX5_keepKeys 77 = .ok (.invokevirtual 173, 3) := by decide +kernel
theorem dX5_keepKeys_80 : decode cX5_keepKeys 80 = .ok (.ifCond .ne 7, 3) := by decide +kernel
theorem dX5_keepKeys_83 : decode cX5_keepKeys 83 = .ok (.iconst 1, 1) := by decide +kernel
theorem dX5_keepKeys_84 : decode cX5_keepKeys 84 = .ok (.goto 4, 3) := by decide +kernel
theorem dX5_keepKeys_87 : decode cX5_keepKeys 87 = .ok (.iconst 0, 1) := by decide +kernel
theorem dX5_keepKeys_88 : decode cX5_keepKeys 88 = .ok (.iconst 0, 1) := by decide +kernel
theorem dX5_keepKeys_89 : decode cX5_keepKeys 89 = .ok (.iconst 0, 1) := by decide +kernel
theorem dX5_keepKeys_90 : decode cX5_keepKeys 90 = .ok (.invokevirtual 135, 3) := by decide +kernel
theorem dX5_keepKeys_93 : decode cX5_keepKeys 93 = .ok (.ifCond .eq 5, 3) := by decide +kernel
theorem dX5_keepKeys_96 : decode cX5_keepKeys 96 = .ok (.iconst 0, 1) := by decide +kernel
theorem dX5_keepKeys_97 : decode cX5_keepKeys 97 = .ok (.ireturn, 1) := by decide +kernel
theorem dX5_keepKeys_98 : decode cX5_keepKeys 98 = .ok (.bipush 24, 2) := by decide +kernel
theorem dX5_keepKeys_100 : decode cX5_keepKeys 100 = .ok (.newarray .boolean, 2) := by decide +kernel
theorem dX5_keepKeys_102 : decode cX5_keepKeys 102 = .ok (.astore 6, 2) := by decide +kernel
theorem dX5_keepKeys_104 : decode cX5_keepKeys 104 = .ok (.iconst 0, 1) := by decide +kernel
theorem dX5_keepKeys_105 : decode cX5_keepKeys 105 = .ok (.istore 7, 2) := by decide +kernel
theorem dX5_keepKeys_107 : decode cX5_keepKeys 107 = .ok (.iload 7, 2) := by decide +kernel
theorem dX5_keepKeys_109 : decode cX5_keepKeys 109 = .ok (.aload_n 0, 1) := by decide +kernel
theorem dX5_keepKeys_110 : decode cX5_keepKeys 110 = .ok (.iload_n 1, 1) := by decide +kernel
theorem dX5_keepKeys_111 : decode cX5_keepKeys 111 = .ok (.invokevirtual 116, 3) := by decide +kernel
theorem dX5_keepKeys_114 : decode cX5_keepKeys 114 = .ok (.if_icmp .ge 56, 3) := by decide +kernel
theorem dX5_keepKeys_117 : decode cX5_keepKeys 117 = .ok (.aload 6, 2) := by decide +kernel
theorem dX5_keepKeys_119 : decode cX5_keepKeys 119 = .ok (.iload 7, 2) := by decide +kernel
theorem dX5_keepKeys_121 : decode cX5_keepKeys 121 = .ok (.aload_n 0, 1) := by decide +kernel
theorem dX5_keepKeys_122 : decode cX5_keepKeys 122 = .ok (.aload_n 0, 1) := by decide +kernel
theorem dX5_keepKeys_123 : decode cX5_keepKeys 123 = .ok (.getfield 53, 3) := by decide +kernel
theorem dX5_keepKeys_126 : decode cX5_keepKeys 126 = .ok (.iload_n 2, 1) := by decide +kernel
theorem dX5_keepKeys_127 : decode cX5_keepKeys 127 = .ok (.iaload, 1) := by decide +kernel
theorem dX5_keepKeys_128 : decode cX5_keepKeys 128 = .ok (.aload_n 0, 1) := by decide +kernel
theorem dX5_keepKeys_129 : decode cX5_keepKeys 129 = .ok (.getfield 21, 3) := by decide +kernel
theorem dX5_keepKeys_132 : decode cX5_keepKeys 132 = .ok (.aload_n 0, 1) := by decide +kernel
theorem dX5_keepKeys_133 : decode cX5_keepKeys 133 = .ok (.getfield 53, 3) := by decide +kernel
theorem dX5_keepKeys_136 : decode cX5_keepKeys 136 = .ok (.iload_n 1, 1) := by decide +kernel
theorem dX5_keepKeys_137 : decode cX5_keepKeys 137 = .ok (.iaload, 1) := by decide +kernel
theorem dX5_keepKeys_138 : decode cX5_keepKeys 138 = .ok (.aaload, 1) := by decide +kernel
theorem dX5_keepKeys_139 : decode cX5_keepKeys 139 = .ok (.iload 7, 2) := by decide +kernel
theorem dX5_keepKeys_141 : decode cX5_keepKeys 141 = .ok (.iaload, 1) := by decide +kernel
theorem dX5_keepKeys_142 : decode cX5_keepKeys 142 = .ok (.invokevirtual 238, 3) := by decide +kernel
theorem dX5_keepKeys_145 : decode cX5_keepKeys 145 = .ok (.iconst (-1), 1) := by decide +kernel
theorem dX5_keepKeys_146 : decode cX5_keepKeys 146 = .ok (.if_icmp .eq 7, 3) := by decide +kernel
theorem dX5_keepKeys_149 : decode cX5_keepKeys 149 = .ok (.iconst 1, 1) := by decide +kernel
theorem dX5_keepKeys_150 : decode cX5_keepKeys 150 = .ok (.goto 4, 3) := by decide +kernel
theorem dX5_keepKeys_153 : decode cX5_keepKeys 153 = .ok (.iconst 0, 1) := by decide +kernel
theorem dX5_keepKeys_154 : decode cX5_keepKeys 154 = .ok (.iload_n 3, 1) := by decide +kernel
theorem dX5_keepKeys_155 : decode cX5_keepKeys 155 = .ok (.if_icmp .ne 7, 3) := by decide +kernel
theorem dX5_keepKeys_158 : decode cX5_keepKeys 158 = .ok (.iconst 1, 1) := by decide +kernel
theorem dX5_keepKeys_159 : decode cX5_keepKeys 159 = .ok (.goto 4, 3) := by decide +kernel
theorem dX5_keepKeys_162 : decode cX5_keepKeys 162 = .ok (.iconst 0, 1) := by decide +kernel
theorem dX5_keepKeys_163 : decode cX5_keepKeys 163 = .ok (.bastore, 1) := by decide +kernel
theorem dX5_keepKeys_164 : decode cX5_keepKeys 164 = .ok (.iinc 7 1, 3) := by decide +kernel
theorem dX5_keepKeys_167 : decode cX5_keepKeys 167 = .ok (.goto (-60), 3) := by decide +kernel
theorem dX5_keepKeys_170 : decode cX5_keepKeys 170 = .ok (.aload_n 0, 1) := by decide +kernel
theorem dX5_keepKeys_171 : decode cX5_keepKeys 171 = .ok (.iload_n 1, 1) := by decide +kernel
theorem dX5_keepKeys_172 : decode cX5_keepKeys 172 = .ok (.aload 6, 2) := by decide +kernel
theorem dX5_keepKeys_174 : decode cX5_keepKeys 174 = .ok (.invokevirtual 211, 3) := by decide +kernel
theorem dX5_keepKeys_177 : decode cX5_keepKeys 177 = .ok (.ireturn, 1) := by decide +kernel
theorem dX5_size_0 : decode cX5_size 0 = .ok (.iload_n 1, 1) := by decide +kernel
theorem dX5_size_1 : decode cX5_size 1 = .ok (.invokestatic 82, 3) := by decide +kernel
theorem dX5_size_4 : decode cX5_size 4 = .ok (.ifCond .eq 18, 3) := by decide +kernel
theorem dX5_size_7 : decode cX5_size 7 = .ok (.aload_n 0, 1) := by decide +kernel
theorem dX5_size_8 : decode cX5_size 8 = .ok (.getfield 49, 3) := by decide +kernel
theorem dX5_size_11 : decode cX5_size 11 = .ok (.iload_n 1, 1) := by decide +kernel
theorem dX5_size_12 : decode cX5_size 12 = .ok (.caload, 1) := by decide +kernel
theorem dX5_size_13 : decode cX5_size 13 = .ok (.bipush 45, 2) := by decide +kernel
theorem dX5_size_15 : decode cX5_size 15 = .ok (.if_icmp .eq 7, 3) := by decide +kernel
theorem dX5_size_18 : decode cX5_size 18 = .ok (.iconst 1, 1) := by decide +kernel
theorem dX5_size_19 : decode cX5_size 19 = .ok (.goto 4, 3) := by decide +kernel
theorem dX5_size_22 : decode cX5_size 22 = .ok (.iconst 0, 1) := by decide +kernel
theorem dX5_size_23 : decode cX5_size 23 = .ok (.istore_n 2, 1) := by decide +kernel
theorem dX5_size_24 : decode cX5_size 24 = .ok (.aload_n 0, 1) := by decide +kernel
theorem dX5_size_25 : decode cX5_size 25 = .ok (.iload_n 1, 1) := by decide +kernel
theorem dX5_size_26 : decode cX5_size 26 = .ok (.invokestatic 82, 3) := by decide +kernel
theorem dX5_size_29 : decode cX5_size 29 = .ok (.ifCond .ne 7, 3) := by decide +kernel
theorem dX5_size_32 : decode cX5_size 32 = .ok (.iconst 1, 1) := by decide +kernel
theorem dX5_size_33 : decode cX5_size 33 = .ok (.goto 4, 3) := by decide +kernel
theorem dX5_size_36 : decode cX5_size 36 = .ok (.iconst 0, 1) := by decide +kernel
theorem dX5_size_37 : decode cX5_size 37 = .ok (.iload_n 2, 1) := by decide +kernel
theorem dX5_size_38 : decode cX5_size 38 = .ok (.ifCond .ne 7, 3) := by decide +kernel
theorem dX5_size_41 : decode cX5_size 41 = .ok (.iconst 1, 1) := by decide +kernel
theorem dX5_size_42 : decode cX5_size 42 = .ok (.goto 4, 3) := by decide +kernel
theorem dX5_size_45 : decode cX5_size 45 = .ok (.iconst 0, 1) := by decide +kernel
theorem dX5_size_46 : decode cX5_size 46 = .ok (.iconst 0, 1) := by decide +kernel
theorem dX5_size_47 : decode cX5_size 47 = .ok (.iconst 0, 1) := by decide +kernel
theorem dX5_size_48 : decode cX5_size 48 = .ok (.iconst 0, 1) := by decide +kernel
theorem dX5_size_49 : decode cX5_size 49 = .ok (.invokevirtual 135, 3) := by decide +kernel
theorem dX5_size_52 : decode cX5_size 52 = .ok (.ifCond .eq 7, 3) := by decide +kernel
theorem dX5_size_55 : decode cX5_size 55 = .ok (.iconst 0, 1) := by decide +kernel
theorem dX5_size_56 : decode cX5_size 56 = .ok (.goto 8, 3) := by decide +kernel
theorem dX5_size_59 : decode cX5_size 59 = .ok (.aload_n 0, 1) := by decide +kernel
theorem dX5_size_60 : decode cX5_size 60 = .ok (.iload_n 1, 1) := by decide +kernel
theorem dX5_size_61 : decode cX5_size 61 = .ok (.invokevirtual 116, 3) := by decide +kernel
theorem dX5_size_64 : decode cX5_size 64 = .ok (.ireturn, 1) := by decide +kernel
theorem dX5_walked_0 : decode cX5_walked 0 = .ok (.lload_n 1, 1) := by decide +kernel
theorem dX5_walked_1 : decode cX5_walked 1 = .ok (.lstore 5, 2) := by decide +kernel
theorem dX5_walked_3 : decode cX5_walked 3 = .ok (.iconst 0, 1) := by decide +kernel
theorem dX5_walked_4 : decode cX5_walked 4 = .ok (.istore 7, 2) := by decide +kernel
theorem dX5_walked_6 : decode cX5_walked 6 = .ok (.iload 7, 2) := by decide +kernel
theorem dX5_walked_8 : decode cX5_walked 8 = .ok (.aload_n 0, 1) := by decide +kernel
theorem dX5_walked_9 : decode cX5_walked 9 = .ok (.iload_n 3, 1) := by decide +kernel
theorem dX5_walked_10 : decode cX5_walked 10 = .ok (.invokevirtual 116, 3) := by decide +kernel
theorem dX5_walked_13 : decode cX5_walked 13 = .ok (.if_icmp .ge 88, 3) := by decide +kernel
theorem dX5_walked_16 : decode cX5_walked 16 = .ok (.iload 4, 2) := by decide +kernel
theorem dX5_walked_18 : decode cX5_walked 18 = .ok (.ifCond .eq 16, 3) := by decide +kernel
theorem dX5_walked_21 : decode cX5_walked 21 = .ok (.aload_n 0, 1) := by decide +kernel
theorem dX5_walked_22 : decode cX5_walked 22 = .ok (.iload_n 3, 1) := by decide +kernel
theorem dX5_walked_23 : decode cX5_walked 23 = .ok (.invokevirtual 116, 3) := by decide +kernel
theorem dX5_walked_26 : decode cX5_walked 26 = .ok (.iconst 1, 1) := by decide +kernel
theorem dX5_walked_27 : decode cX5_walked 27 = .ok (.isub, 1) := by decide +kernel
theorem dX5_walked_28 : decode cX5_walked 28 = .ok (.iload 7, 2) := by decide +kernel
theorem dX5_walked_30 : decode cX5_walked 30 = .ok (.isub, 1) := by decide +kernel
theorem dX5_walked_31 : decode cX5_walked 31 = .ok (.goto 5, 3) := by decide +kernel
theorem dX5_walked_34 : decode cX5_walked 34 = .ok (.iload 7, 2) := by decide +kernel
theorem dX5_walked_36 : decode cX5_walked 36 = .ok (.istore 8, 2) := by decide +kernel
theorem dX5_walked_38 : decode cX5_walked 38 = .ok (.aload_n 0, 1) := by decide +kernel
theorem dX5_walked_39 : decode cX5_walked 39 = .ok (.iload_n 3, 1) := by decide +kernel
theorem dX5_walked_40 : decode cX5_walked 40 = .ok (.invokevirtual 241, 3) := by decide +kernel
theorem dX5_walked_43 : decode cX5_walked 43 = .ok (.ifCond .eq 27, 3) := by decide +kernel
theorem dX5_walked_46 : decode cX5_walked 46 = .ok (.ldc2_w 244, 3) := by decide +kernel
theorem dX5_walked_49 : decode cX5_walked 49 = .ok (.lload 5, 2) := by decide +kernel
theorem dX5_walked_51 : decode cX5_walked 51 = .ok (.lmul, 1) := by decide +kernel
theorem dX5_walked_52 : decode cX5_walked 52 = .ok (.aload_n 0, 1) := by decide +kernel
theorem dX5_walked_53 : decode cX5_walked 53 = .ok (.getfield 21, 3) := by decide +kernel
theorem dX5_walked_56 : decode cX5_walked 56 = .ok (.aload_n 0, 1) := by decide +kernel
theorem dX5_walked_57 : decode cX5_walked 57 = .ok (.getfield 53, 3) := by decide +kernel
theorem dX5_walked_60 : decode cX5_walked 60 = .ok (.iload_n 3, 1) := by decide +kernel
theorem dX5_walked_61 : decode cX5_walked 61 = .ok (.iaload, 1) := by decide +kernel
theorem dX5_walked_62 : decode cX5_walked 62 = .ok (.aaload, 1) := by decide +kernel
theorem dX5_walked_63 : decode cX5_walked 63 = .ok (.iload 8, 2) := by decide +kernel
theorem dX5_walked_65 : decode cX5_walked 65 = .ok (.iaload, 1) := by decide +kernel
theorem dX5_walked_66 : decode cX5_walked 66 = .ok (.i2l, 1) := by decide +kernel
theorem dX5_walked_67 : decode cX5_walked 67 = .ok (.ladd, 1) := by decide +kernel
theorem dX5_walked_68 : decode cX5_walked 68 = .ok (.lstore 5, 2) := by decide +kernel
theorem dX5_walked_70 : decode cX5_walked 70 = .ok (.aload_n 0, 1) := by decide +kernel
theorem dX5_walked_71 : decode cX5_walked 71 = .ok (.iload_n 3, 1) := by decide +kernel
theorem dX5_walked_72 : decode cX5_walked 72 = .ok (.invokevirtual 215, 3) := by decide +kernel
theorem dX5_walked_75 : decode cX5_walked 75 = .ok (.ifCond .ne 20, 3) := by decide +kernel
theorem dX5_walked_78 : decode cX5_walked 78 = .ok (.ldc2_w 244, 3) := by decide +kernel
theorem dX5_walked_81 : decode cX5_walked 81 = .ok (.lload 5, 2) := by decide +kernel
theorem dX5_walked_83 : decode cX5_walked 83 = .ok (.lmul, 1) := by decide +kernel
theorem dX5_walked_84 : decode cX5_walked 84 = .ok (.aload_n 0, 1) := by decide +kernel
theorem dX5_walked_85 : decode cX5_walked 85 = .ok (.iload_n 3, 1) := by decide +kernel
theorem dX5_walked_86 : decode cX5_walked 86 = .ok (.iload 8, 2) := by decide +kernel
theorem dX5_walked_88 : decode cX5_walked 88 = .ok (.invokevirtual 189, 3) := by decide +kernel
theorem dX5_walked_91 : decode cX5_walked 91 = .ok (.i2l, 1) := by decide +kernel
theorem dX5_walked_92 : decode cX5_walked 92 = .ok (.ladd, 1) := by decide +kernel
theorem dX5_walked_93 : decode cX5_walked 93 = .ok (.lstore 5, 2) := by decide +kernel
theorem dX5_walked_95 : decode cX5_walked 95 = .ok (.iinc 7 1, 3) := by decide +kernel
theorem dX5_walked_98 : decode cX5_walked 98 = .ok (.goto (-92), 3) := by decide +kernel
theorem dX5_walked_101 : decode cX5_walked 101 = .ok (.lload 5, 2) := by decide +kernel
theorem dX5_walked_103 : decode cX5_walked 103 = .ok (.lreturn, 1) := by decide +kernel
theorem dX5_walk_0 : decode cX5_walk 0 = .ok (.iload_n 1, 1) := by decide +kernel
theorem dX5_walk_1 : decode cX5_walk 1 = .ok (.invokestatic 82, 3) := by decide +kernel
theorem dX5_walk_4 : decode cX5_walk 4 = .ok (.ifCond .eq 18, 3) := by decide +kernel
theorem dX5_walk_7 : decode cX5_walk 7 = .ok (.aload_n 0, 1) := by decide +kernel
theorem dX5_walk_8 : decode cX5_walk 8 = .ok (.getfield 49, 3) := by decide +kernel
theorem dX5_walk_11 : decode cX5_walk 11 = .ok (.iload_n 1, 1) := by decide +kernel
theorem dX5_walk_12 : decode cX5_walk 12 = .ok (.caload, 1) := by decide +kernel
theorem dX5_walk_13 : decode cX5_walk 13 = .ok (.bipush 45, 2) := by decide +kernel
theorem dX5_walk_15 : decode cX5_walk 15 = .ok (.if_icmp .eq 7, 3) := by decide +kernel
theorem dX5_walk_18 : decode cX5_walk 18 = .ok (.iconst 1, 1) := by decide +kernel
theorem dX5_walk_19 : decode cX5_walk 19 = .ok (.goto 4, 3) := by decide +kernel
theorem dX5_walk_22 : decode cX5_walk 22 = .ok (.iconst 0, 1) := by decide +kernel
theorem dX5_walk_23 : decode cX5_walk 23 = .ok (.istore_n 3, 1) := by decide +kernel
theorem dX5_walk_24 : decode cX5_walk 24 = .ok (.aload_n 0, 1) := by decide +kernel
theorem dX5_walk_25 : decode cX5_walk 25 = .ok (.iload_n 1, 1) := by decide +kernel
theorem dX5_walk_26 : decode cX5_walk 26 = .ok (.invokestatic 82, 3) := by decide +kernel
theorem dX5_walk_29 : decode cX5_walk 29 = .ok (.ifCond .ne 7, 3) := by decide +kernel
theorem dX5_walk_32 : decode cX5_walk 32 = .ok (.iconst 1, 1) := by decide +kernel
theorem dX5_walk_33 : decode cX5_walk 33 = .ok (.goto 4, 3) := by decide +kernel
theorem dX5_walk_36 : decode cX5_walk 36 = .ok (.iconst 0, 1) := by decide +kernel
theorem dX5_walk_37 : decode cX5_walk 37 = .ok (.iload_n 3, 1) := by decide +kernel
theorem dX5_walk_38 : decode cX5_walk 38 = .ok (.ifCond .ne 7, 3) := by decide +kernel
theorem dX5_walk_41 : decode cX5_walk 41 = .ok (.iconst 1, 1) := by decide +kernel
theorem dX5_walk_42 : decode cX5_walk 42 = .ok (.goto 4, 3) := by decide +kernel
theorem dX5_walk_45 : decode cX5_walk 45 = .ok (.iconst 0, 1) := by decide +kernel
theorem dX5_walk_46 : decode cX5_walk 46 = .ok (.iload_n 3, 1) := by decide +kernel
theorem dX5_walk_47 : decode cX5_walk 47 = .ok (.ifCond .eq 19, 3) := by decide +kernel
theorem dX5_walk_50 : decode cX5_walk 50 = .ok (.iload_n 2, 1) := by decide +kernel
theorem dX5_walk_51 : decode cX5_walk 51 = .ok (.ifCond .eq 15, 3) := by decide +kernel
theorem dX5_walk_54 : decode cX5_walk 54 = .ok (.aload_n 0, 1) := by decide +kernel
theorem dX5_walk_55 : decode cX5_walk 55 = .ok (.iload_n 1, 1) := by decide +kernel
theorem dX5_walk_56 : decode cX5_walk 56 = .ok (.invokevirtual 170, 3) := by decide +kernel
theorem dX5_walk_59 : decode cX5_walk 59 = .ok (.ifCond .ne 7, 3) := by decide +kernel
theorem dX5_walk_62 : decode cX5_walk 62 = .ok (.iconst 1, 1) := by decide +kernel
theorem dX5_walk_63 : decode cX5_walk 63 = .ok (.goto 4, 3) := by decide +kernel
theorem dX5_walk_66 : decode cX5_walk 66 = .ok (.iconst 0, 1) := by decide +kernel
theorem dX5_walk_67 : decode cX5_walk 67 = .ok (.iconst 0, 1) := by decide +kernel
theorem dX5_walk_68 : decode cX5_walk 68 = .ok (.iconst 0, 1) := by decide +kernel
theorem dX5_walk_69 : decode cX5_walk 69 = .ok (.invokevirtual 135, 3) := by decide +kernel
theorem dX5_walk_72 : decode cX5_walk 72 = .ok (.ifCond .eq 7, 3) := by decide +kernel
theorem dX5_walk_75 : decode cX5_walk 75 = .ok (.lconst 0, 1) := by decide +kernel
theorem dX5_walk_76 : decode cX5_walk 76 = .ok (.goto 12, 3) := by decide +kernel
theorem dX5_walk_79 : decode cX5_walk 79 = .ok (.aload_n 0, 1) := by decide +kernel
theorem dX5_walk_80 : decode cX5_walk 80 = .ok (.ldc2_w 246, 3) := by decide +kernel
theorem dX5_walk_83 : decode cX5_walk 83 = .ok (.iload_n 1, 1) := by decide +kernel
theorem dX5_walk_84 : decode cX5_walk 84 = .ok (.iload_n 2, 1) := by decide +kernel
theorem dX5_walk_85 : decode cX5_walk 85 = .ok (.invokevirtual 248, 3) := by decide +kernel
theorem dX5_walk_88 : decode cX5_walk 88 = .ok (.lreturn, 1) := by decide +kernel
theorem dX5_sameLists_0 : decode cX5_sameLists 0 = .ok (.aload_n 0, 1) := by decide +kernel
theorem dX5_sameLists_1 : decode cX5_sameLists 1 = .ok (.iload_n 1, 1) := by decide +kernel
theorem dX5_sameLists_2 : decode cX5_sameLists 2 = .ok (.invokevirtual 116, 3) := by decide +kernel
theorem dX5_sameLists_5 : decode cX5_sameLists 5 = .ok (.aload_n 0, 1) := by decide +kernel
theorem dX5_sameLists_6 : decode cX5_sameLists 6 = .ok (.iload_n 2, 1) := by decide +kernel
theorem dX5_sameLists_7 : decode cX5_sameLists 7 = .ok (.invokevirtual 116, 3) := by decide +kernel
theorem dX5_sameLists_10 : decode cX5_sameLists 10 = .ok (.if_icmp .ne 17, 3) := by decide +kernel
theorem dX5_sameLists_13 : decode cX5_sameLists 13 = .ok (.aload_n 0, 1) := by decide +kernel
theorem dX5_sameLists_14 : decode cX5_sameLists 14 = .ok (.iload_n 1, 1) := by decide +kernel
theorem dX5_sameLists_15 : decode cX5_sameLists 15 = .ok (.iload_n 2, 1) := by decide +kernel
theorem dX5_sameLists_16 : decode cX5_sameLists 16 = .ok (.iconst 0, 1) := by decide +kernel
theorem dX5_sameLists_17 : decode cX5_sameLists 17 = .ok (.invokevirtual 227, 3) := by decide +kernel
theorem dX5_sameLists_20 : decode cX5_sameLists 20 = .ok (.ifCond .eq 7, 3) := by decide +kernel
theorem dX5_sameLists_23 : decode cX5_sameLists 23 = .ok (.iconst 1, 1) := by decide +kernel
theorem dX5_sameLists_24 : decode cX5_sameLists 24 = .ok (.goto 4, 3) := by decide +kernel
theorem dX5_sameLists_27 : decode cX5_sameLists 27 = .ok (.iconst 0, 1) := by decide +kernel
theorem dX5_sameLists_28 : decode cX5_sameLists 28 = .ok (.ireturn, 1) := by decide +kernel
theorem dX5_sameNumbers_0 : decode cX5_sameNumbers 0 = .ok (.aload_n 0, 1) := by decide +kernel
theorem dX5_sameNumbers_1 : decode cX5_sameNumbers 1 = .ok (.iload_n 1, 1) := by decide +kernel
theorem dX5_sameNumbers_2 : decode cX5_sameNumbers 2 = .ok (.invokevirtual 116, 3) := by decide +kernel
theorem dX5_sameNumbers_5 : decode cX5_sameNumbers 5 = .ok (.aload_n 0, 1) := by decide +kernel
theorem dX5_sameNumbers_6 : decode cX5_sameNumbers 6 = .ok (.iload_n 2, 1) := by decide +kernel
theorem dX5_sameNumbers_7 : decode cX5_sameNumbers 7 = .ok (.invokevirtual 116, 3) := by decide +kernel
theorem dX5_sameNumbers_10 : decode cX5_sameNumbers 10 = .ok (.if_icmp .ne 7, 3) := by decide +kernel
theorem dX5_sameNumbers_13 : decode cX5_sameNumbers 13 = .ok (.iconst 1, 1) := by decide +kernel
theorem dX5_sameNumbers_14 : decode cX5_sameNumbers 14 = .ok (.goto 4, 3) := by decide +kernel
theorem dX5_sameNumbers_17 : decode cX5_sameNumbers 17 = .ok (.iconst 0, 1) := by decide +kernel
theorem dX5_sameNumbers_18 : decode cX5_sameNumbers 18 = .ok (.istore 4, 2) := by decide +kernel
theorem dX5_sameNumbers_20 : decode cX5_sameNumbers 20 = .ok (.iconst 0, 1) := by decide +kernel
theorem dX5_sameNumbers_21 : decode cX5_sameNumbers 21 = .ok (.istore 5, 2) := by decide +kernel
theorem dX5_sameNumbers_23 : decode cX5_sameNumbers 23 = .ok (.iload 4, 2) := by decide +kernel
theorem dX5_sameNumbers_25 : decode cX5_sameNumbers 25 = .ok (.ifCond .eq 86, 3) := by decide +kernel
theorem dX5_sameNumbers_28 : decode cX5_sameNumbers 28 = .ok (.iload 5, 2) := by decide +kernel
theorem dX5_sameNumbers_30 : decode cX5_sameNumbers 30 = .ok (.aload_n 0, 1) := by decide +kernel
theorem dX5_sameNumbers_31 : decode cX5_sameNumbers 31 = .ok (.iload_n 1, 1) := by decide +kernel
theorem dX5_sameNumbers_32 : decode cX5_sameNumbers 32 = .ok (.invokevirtual 116, 3) := by decide +kernel
theorem dX5_sameNumbers_35 : decode cX5_sameNumbers 35 = .ok (.if_icmp .ge 76, 3) := by decide +kernel
theorem dX5_sameNumbers_38 : decode cX5_sameNumbers 38 = .ok (.aload_n 0, 1) := by decide +kernel
theorem dX5_sameNumbers_39 : decode cX5_sameNumbers 39 = .ok (.aload_n 0, 1) := by decide +kernel
theorem dX5_sameNumbers_40 : decode cX5_sameNumbers 40 = .ok (.getfield 53, 3) := by decide +kernel
theorem dX5_sameNumbers_43 : decode cX5_sameNumbers 43 = .ok (.iload_n 2, 1) := by decide +kernel
theorem dX5_sameNumbers_44 : decode cX5_sameNumbers 44 = .ok (.iaload, 1) := by decide +kernel
theorem dX5_sameNumbers_45 : decode cX5_sameNumbers 45 = .ok (.aload_n 0, 1) := by decide +kernel
theorem dX5_sameNumbers_46 : decode cX5_sameNumbers 46 = .ok (.getfield 21, 3) := by decide +kernel
theorem dX5_sameNumbers_49 : decode cX5_sameNumbers 49 = .ok (.aload_n 0, 1) := by decide +kernel
theorem dX5_sameNumbers_50 : decode cX5_sameNumbers 50 = .ok (.getfield 53, 3) := by decide +kernel
theorem dX5_sameNumbers_53 : decode cX5_sameNumbers 53 = .ok (.iload_n 1, 1) := by decide +kernel
theorem dX5_sameNumbers_54 : decode cX5_sameNumbers 54 = .ok (.iaload, 1) := by decide +kernel
theorem dX5_sameNumbers_55 : decode cX5_sameNumbers 55 = .ok (.aaload, 1) := by decide +kernel
theorem dX5_sameNumbers_56 : decode cX5_sameNumbers 56 = .ok (.iload 5, 2) := by decide +kernel
theorem dX5_sameNumbers_58 : decode cX5_sameNumbers 58 = .ok (.iaload, 1) := by decide +kernel
theorem dX5_sameNumbers_59 : decode cX5_sameNumbers 59 = .ok (.invokevirtual 238, 3) := by decide +kernel
theorem dX5_sameNumbers_62 : decode cX5_sameNumbers 62 = .ok (.istore 6, 2) := by decide +kernel
theorem dX5_sameNumbers_64 : decode cX5_sameNumbers 64 = .ok (.iload 6, 2) := by decide +kernel
theorem dX5_sameNumbers_66 : decode cX5_sameNumbers 66 = .ok (.iconst (-1), 1) := by decide +kernel
theorem dX5_sameNumbers_67 : decode cX5_sameNumbers 67 = .ok (.if_icmp .eq 35, 3) := by decide +kernel
theorem dX5_sameNumbers_70 : decode cX5_sameNumbers 70 = .ok (.iload_n 3, 1) := by decide +kernel
theorem dX5_sameNumbers_71 : decode cX5_sameNumbers 71 = .ok (.ifCond .eq 27, 3) := by decide +kernel
theorem dX5_sameNumbers_74 : decode cX5_sameNumbers 74 = .ok (.aload_n 0, 1) := by decide +kernel
theorem dX5_sameNumbers_75 : decode cX5_sameNumbers 75 = .ok (.iload_n 2, 1) := by decide +kernel
theorem dX5_sameNumbers_76 : decode cX5_sameNumbers 76 = .ok (.iload 6, 2) := by decide +kernel
theorem dX5_sameNumbers_78 : decode cX5_sameNumbers 78 = .ok (.aload_n 0, 1) := by decide +kernel
theorem dX5_sameNumbers_79 : decode cX5_sameNumbers 79 = .ok (.iload_n 1, 1) := by decide +kernel
theorem dX5_sameNumbers_80 : decode cX5_sameNumbers 80 = .ok (.iload 5, 2) := by decide +kernel
theorem dX5_sameNumbers_82 : decode cX5_sameNumbers 82 = .ok (.invokevirtual 109, 3) := by decide +kernel
theorem dX5_sameNumbers_85 : decode cX5_sameNumbers 85 = .ok (.aload_n 0, 1) := by decide +kernel
theorem dX5_sameNumbers_86 : decode cX5_sameNumbers 86 = .ok (.iload_n 1, 1) := by decide +kernel
theorem dX5_sameNumbers_87 : decode cX5_sameNumbers 87 = .ok (.iload 5, 2) := by decide +kernel
theorem dX5_sameNumbers_89 : decode cX5_sameNumbers 89 = .ok (.invokevirtual 113, 3) := by decide +kernel
theorem dX5_sameNumbers_92 : decode cX5_sameNumbers 92 = .ok (.invokevirtual 119, 3) := by decide +kernel
theorem dX5_sameNumbers_95 : decode cX5_sameNumbers 95 = .ok (.ifCond .eq 7, 3) := by decide +kernel
theorem dX5_sameNumbers_98 : decode cX5_sameNumbers 98 = .ok (.iconst 1, 1) := by decide +kernel
theorem dX5_sameNumbers_99 : decode cX5_sameNumbers 99 = .ok (.goto 4, 3) := by decide +kernel
theorem dX5_sameNumbers_102 : decode cX5_sameNumbers 102 = .ok (.iconst 0, 1) := by decide +kernel
theorem dX5_sameNumbers_103 : decode cX5_sameNumbers 103 = .ok (.istore 4, 2) := by decide +kernel
theorem dX5_sameNumbers_105 : decode cX5_sameNumbers 105 = .ok (.iinc 5 1, 3) := by decide +kernel
theorem dX5_sameNumbers_108 : decode cX5_sameNumbers 108 = .ok (.goto (-85), 3) := by decide +kernel
theorem dX5_sameNumbers_111 : decode cX5_sameNumbers 111 = .ok (.iload 4, 2) := by decide +kernel
theorem dX5_sameNumbers_113 : decode cX5_sameNumbers 113 = .ok (.ireturn, 1) := by decide +kernel
theorem dX5_isSame_0 : decode cX5_isSame 0 = .ok (.iload_n 1, 1) := by decide +kernel
theorem dX5_isSame_1 : decode cX5_isSame 1 = .ok (.invokestatic 82, 3) := by decide +kernel
theorem dX5_isSame_4 : decode cX5_isSame 4 = .ok (.ifCond .eq 14, 3) := by decide +kernel
theorem dX5_isSame_7 : decode cX5_isSame 7 = .ok (.iload_n 2, 1) := by decide +kernel
theorem dX5_isSame_8 : decode cX5_isSame 8 = .ok (.invokestatic 82, 3) := by decide +kernel
theorem dX5_isSame_11 : decode cX5_isSame 11 = .ok (.ifCond .eq 7, 3) := by decide +kernel
theorem dX5_isSame_14 : decode cX5_isSame 14 = .ok (.iconst 1, 1) := by decide +kernel
theorem dX5_isSame_15 : decode cX5_isSame 15 = .ok (.goto 4, 3) := by decide +kernel
theorem dX5_isSame_18 : decode cX5_isSame 18 = .ok (.iconst 0, 1) := by decide +kernel
theorem dX5_isSame_19 : decode cX5_isSame 19 = .ok (.istore_n 3, 1) := by decide +kernel
theorem dX5_isSame_20 : decode cX5_isSame 20 = .ok (.iload_n 3, 1) := by decide +kernel
theorem dX5_isSame_21 : decode cX5_isSame 21 = .ok (.ifCond .eq 23, 3) := by decide +kernel
theorem dX5_isSame_24 : decode cX5_isSame 24 = .ok (.aload_n 0, 1) := by decide +kernel
theorem dX5_isSame_25 : decode cX5_isSame 25 = .ok (.iload_n 1, 1) := by decide +kernel
theorem dX5_isSame_26 : decode cX5_isSame 26 = .ok (.invokevirtual 170, 3) := by decide +kernel
theorem dX5_isSame_29 : decode cX5_isSame 29 = .ok (.ifCond .eq 15, 3) := by decide +kernel
theorem dX5_isSame_32 : decode cX5_isSame 32 = .ok (.aload_n 0, 1) := by decide +kernel
theorem dX5_isSame_33 : decode cX5_isSame 33 = .ok (.iload_n 2, 1) := by decide +kernel
theorem dX5_isSame_34 : decode cX5_isSame 34 = .ok (.invokevirtual 170, 3) := by decide +kernel
theorem dX5_isSame_37 : decode cX5_isSame 37 = .ok (.ifCond .eq 7, 3) := by decide +kernel
theorem dX5_isSame_40 : decode cX5_isSame 40 = .ok (.iconst 1, 1) := by decide +kernel
theorem dX5_isSame_41 : decode cX5_isSame 41 = .ok (.goto 4, 3) := by decide +kernel
theorem dX5_isSame_44 : decode cX5_isSame 44 = .ok (.iconst 0, 1) := by decide +kernel
theorem dX5_isSame_45 : decode cX5_isSame 45 = .ok (.istore 4, 2) := by decide +kernel
theorem dX5_isSame_47 : decode cX5_isSame 47 = .ok (.iload_n 3, 1) := by decide +kernel
theorem dX5_isSame_48 : decode cX5_isSame 48 = .ok (.ifCond .eq 23, 3) := by decide +kernel
theorem dX5_isSame_51 : decode cX5_isSame 51 = .ok (.aload_n 0, 1) := by decide +kernel
theorem dX5_isSame_52 : decode cX5_isSame 52 = .ok (.iload_n 1, 1) := by decide +kernel
theorem dX5_isSame_53 : decode cX5_isSame 53 = .ok (.invokevirtual 215, 3) := by decide +kernel
theorem dX5_isSame_56 : decode cX5_isSame 56 = .ok (.ifCond .eq 15, 3) := by decide +kernel
theorem dX5_isSame_59 : decode cX5_isSame 59 = .ok (.aload_n 0, 1) := by decide +kernel
theorem dX5_isSame_60 : decode cX5_isSame 60 = .ok (.iload_n 2, 1) := by decide +kernel
theorem dX5_isSame_61 : decode cX5_isSame 61 = .ok (.invokevirtual 215, 3) := by decide +kernel
theorem dX5_isSame_64 : decode cX5_isSame 64 = .ok (.ifCond .eq 7, 3) := by decide +kernel
theorem dX5_isSame_67 : decode cX5_isSame 67 = .ok (.iconst 1, 1) := by decide +kernel
theorem dX5_isSame_68 : decode cX5_isSame 68 = .ok (.goto 4, 3) := by decide +kernel
theorem dX5_isSame_71 : decode cX5_isSame 71 = .ok (.iconst 0, 1) := by decide +kernel
theorem dX5_isSame_72 : decode cX5_isSame 72 = .ok (.istore 5, 2) := by decide +kernel
theorem dX5_isSame_74 : decode cX5_isSame 74 = .ok (.iload_n 3, 1) := by decide +kernel
theorem dX5_isSame_75 : decode cX5_isSame 75 = .ok (.ifCond .eq 23, 3) := by decide +kernel
theorem dX5_isSame_78 : decode cX5_isSame 78 = .ok (.aload_n 0, 1) := by decide +kernel
theorem dX5_isSame_79 : decode cX5_isSame 79 = .ok (.iload_n 1, 1) := by decide +kernel
theorem dX5_isSame_80 : decode cX5_isSame 80 = .ok (.invokevirtual 156, 3) := by decide +kernel
theorem dX5_isSame_83 : decode cX5_isSame 83 = .ok (.ifCond .eq 15, 3) := by decide +kernel
theorem dX5_isSame_86 : decode cX5_isSame 86 = .ok (.aload_n 0, 1) := by decide +kernel
theorem dX5_isSame_87 : decode cX5_isSame 87 = .ok (.iload_n 2, 1) := by decide +kernel
theorem dX5_isSame_88 : decode cX5_isSame 88 = .ok (.invokevirtual 156, 3) := by decide +kernel
theorem dX5_isSame_91 : decode cX5_isSame 91 = .ok (.ifCond .eq 7, 3) := by decide +kernel
theorem dX5_isSame_94 : decode cX5_isSame 94 = .ok (.iconst 1, 1) := by decide +kernel
theorem dX5_isSame_95 : decode cX5_isSame 95 = .ok (.goto 4, 3) := by decide +kernel
theorem dX5_isSame_98 : decode cX5_isSame 98 = .ok (.iconst 0, 1) := by decide +kernel
theorem dX5_isSame_99 : decode cX5_isSame 99 = .ok (.istore 6, 2) := by decide +kernel
theorem dX5_isSame_101 : decode cX5_isSame 101 = .ok (.aload_n 0, 1) := by decide +kernel
theorem dX5_isSame_102 : decode cX5_isSame 102 = .ok (.iload_n 3, 1) := by decide +kernel
theorem dX5_isSame_103 : decode cX5_isSame 103 = .ok (.ifCond .ne 7, 3) := by decide +kernel
theorem dX5_isSame_106 : decode cX5_isSame 106 = .ok (.iconst 1, 1) := by decide +kernel
theorem dX5_isSame_107 : decode cX5_isSame 107 = .ok (.goto 4, 3) := by decide +kernel
theorem dX5_isSame_110 : decode cX5_isSame 110 = .ok (.iconst 0, 1) := by decide +kernel
theorem dX5_isSame_111 : decode cX5_isSame 111 = .ok (.iload 4, 2) := by decide +kernel
theorem dX5_isSame_113 : decode cX5_isSame 113 = .ok (.ifCond .ne 17, 3) := by decide +kernel
theorem dX5_isSame_116 : decode cX5_isSame 116 = .ok (.iload 5, 2) := by decide +kernel
theorem dX5_isSame_118 : decode cX5_isSame 118 = .ok (.ifCond .ne 12, 3) := by decide +kernel
theorem dX5_isSame_121 : decode cX5_isSame 121 = .ok (.iload 6, 2) := by decide +kernel
theorem dX5_isSame_123 : decode cX5_isSame 123 = .ok (.ifCond .ne 7, 3) := by decide +kernel
theorem dX5_isSame_126 : decode cX5_isSame 126 = .ok (.iconst 1, 1) := by decide +kernel
theorem dX5_isSame_127 : decode cX5_isSame 127 = .ok (.goto 4, 3) := by decide +kernel
theorem dX5_isSame_130 : decode cX5_isSame 130 = .ok (.iconst 0, 1) := by decide +kernel
theorem dX5_isSame_131 : decode cX5_isSame 131 = .ok (.iconst 0, 1) := by decide +kernel
theorem dX5_isSame_132 : decode cX5_isSame 132 = .ok (.iconst 0, 1) := by decide +kernel
theorem dX5_isSame_133 : decode cX5_isSame 133 = .ok (.iconst 0, 1) := by decide +kernel
theorem dX5_isSame_134 : decode cX5_isSame 134 = .ok (.invokevirtual 135, 3) := by decide +kernel
theorem dX5_isSame_137 : decode cX5_isSame 137 = .ok (.ifCond .eq 5, 3) := by decide +kernel
theorem dX5_isSame_140 : decode cX5_isSame 140 = .ok (.iconst 0, 1) := by decide +kernel
theorem dX5_isSame_141 : decode cX5_isSame 141 = .ok (.ireturn, 1) := by decide +kernel
theorem dX5_isSame_142 : decode cX5_isSame 142 = .ok (.iload 4, 2) := by decide +kernel
theorem dX5_isSame_144 : decode cX5_isSame 144 = .ok (.ifCond .eq 12, 3) := by decide +kernel
theorem dX5_isSame_147 : decode cX5_isSame 147 = .ok (.aload_n 0, 1) := by decide +kernel
theorem dX5_isSame_148 : decode cX5_isSame 148 = .ok (.iload_n 1, 1) := by decide +kernel
theorem dX5_isSame_149 : decode cX5_isSame 149 = .ok (.iload_n 2, 1) := by decide +kernel
theorem dX5_isSame_150 : decode cX5_isSame 150 = .ok (.invokevirtual 252, 3) := by decide +kernel
theorem dX5_isSame_153 : decode cX5_isSame 153 = .ok (.goto 11, 3) := by decide +kernel
theorem dX5_isSame_156 : decode cX5_isSame 156 = .ok (.aload_n 0, 1) := by decide +kernel
theorem dX5_isSame_157 : decode cX5_isSame 157 = .ok (.iload_n 1, 1) := by decide +kernel
theorem dX5_isSame_158 : decode cX5_isSame 158 = .ok (.iload_n 2, 1) := by decide +kernel
theorem dX5_isSame_159 : decode cX5_isSame 159 = .ok (.iload 6, 2) := by decide +kernel
theorem dX5_isSame_161 : decode cX5_isSame 161 = .ok (.invokevirtual 255, 3) := by decide +kernel
theorem dX5_isSame_164 : decode cX5_isSame 164 = .ok (.ireturn, 1) := by decide +kernel
theorem dX5_hash_0 : decode cX5_hash 0 = .ok (.aload_n 0, 1) := by decide +kernel
theorem dX5_hash_1 : decode cX5_hash 1 = .ok (.iload_n 1, 1) := by decide +kernel
theorem dX5_hash_2 : decode cX5_hash 2 = .ok (.invokevirtual 170, 3) := by decide +kernel
theorem dX5_hash_5 : decode cX5_hash 5 = .ok (.ifCond .ne 11, 3) := by decide +kernel
theorem dX5_hash_8 : decode cX5_hash 8 = .ok (.aload_n 0, 1) := by decide +kernel
theorem dX5_hash_9 : decode cX5_hash 9 = .ok (.iload_n 1, 1) := by decide +kernel
theorem dX5_hash_10 : decode cX5_hash 10 = .ok (.invokevirtual 241, 3) := by decide +kernel
theorem dX5_hash_13 : decode cX5_hash 13 = .ok (.ifCond .eq 7, 3) := by decide +kernel
theorem dX5_hash_16 : decode cX5_hash 16 = .ok (.iconst 1, 1) := by decide +kernel
theorem dX5_hash_17 : decode cX5_hash 17 = .ok (.goto 4, 3) := by decide +kernel
theorem dX5_hash_20 : decode cX5_hash 20 = .ok (.iconst 0, 1) := by decide +kernel
theorem dX5_hash_21 : decode cX5_hash 21 = .ok (.istore_n 2, 1) := by decide +kernel
theorem dX5_hash_22 : decode cX5_hash 22 = .ok (.aload_n 0, 1) := by decide +kernel
theorem dX5_hash_23 : decode cX5_hash 23 = .ok (.iload_n 1, 1) := by decide +kernel
theorem dX5_hash_24 : decode cX5_hash 24 = .ok (.invokestatic 82, 3) := by decide +kernel
theorem dX5_hash_27 : decode cX5_hash 27 = .ok (.ifCond .ne 7, 3) := by decide +kernel
theorem dX5_hash_30 : decode cX5_hash 30 = .ok (.iconst 1, 1) := by decide +kernel
theorem dX5_hash_31 : decode cX5_hash 31 = .ok (.goto 4, 3) := by decide +kernel
theorem dX5_hash_34 : decode cX5_hash 34 = .ok (.iconst 0, 1) := by decide +kernel
theorem dX5_hash_35 : decode cX5_hash 35 = .ok (.iload_n 2, 1) := by decide +kernel
theorem dX5_hash_36 : decode cX5_hash 36 = .ok (.ifCond .ne 7, 3) := by decide +kernel
theorem dX5_hash_39 : decode cX5_hash 39 = .ok (.iconst 1, 1) := by decide +kernel
theorem dX5_hash_40 : decode cX5_hash 40 = .ok (.goto 4, 3) := by decide +kernel
theorem dX5_hash_43 : decode cX5_hash 43 = .ok (.iconst 0, 1) := by decide +kernel
theorem dX5_hash_44 : decode cX5_hash 44 = .ok (.iconst 0, 1) := by decide +kernel
theorem dX5_hash_45 : decode cX5_hash 45 = .ok (.iconst 0, 1) := by decide +kernel
theorem dX5_hash_46 : decode cX5_hash 46 = .ok (.iconst 0, 1) := by decide +kernel
theorem dX5_hash_47 : decode cX5_hash 47 = .ok (.invokevirtual 135, 3) := by decide +kernel
theorem dX5_hash_50 : decode cX5_hash 50 = .ok (.ifCond .eq 5, 3) := by decide +kernel
theorem dX5_hash_53 : decode cX5_hash 53 = .ok (.iconst 0, 1) := by decide +kernel
theorem dX5_hash_54 : decode cX5_hash 54 = .ok (.ireturn, 1) := by decide +kernel
theorem dX5_hash_55 : decode cX5_hash 55 = .ok (.aload_n 0, 1) := by decide +kernel
theorem dX5_hash_56 : decode cX5_hash 56 = .ok (.iload_n 1, 1) := by decide +kernel
theorem dX5_hash_57 : decode cX5_hash 57 = .ok (.invokevirtual 170, 3) := by decide +kernel
theorem dX5_hash_60 : decode cX5_hash 60 = .ok (.ifCond .eq 7, 3) := by decide +kernel
theorem dX5_hash_63 : decode cX5_hash 63 = .ok (.iconst 1, 1) := by decide +kernel
theorem dX5_hash_64 : decode cX5_hash 64 = .ok (.goto 4, 3) := by decide +kernel
theorem dX5_hash_67 : decode cX5_hash 67 = .ok (.iconst 0, 1) := by decide +kernel
theorem dX5_hash_68 : decode cX5_hash 68 = .ok (.istore_n 3, 1) := by decide +kernel
theorem dX5_hash_69 : decode cX5_hash 69 = .ok (.iconst 0, 1) := by decide +kernel
theorem dX5_hash_70 : decode cX5_hash 70 = .ok (.istore 4, 2) := by decide +kernel
theorem dX5_hash_72 : decode cX5_hash 72 = .ok (.iload 4, 2) := by decide +kernel
theorem dX5_hash_74 : decode cX5_hash 74 = .ok (.aload_n 0, 1) := by decide +kernel
theorem dX5_hash_75 : decode cX5_hash 75 = .ok (.iload_n 1, 1) := by decide +kernel
theorem dX5_hash_76 : decode cX5_hash 76 = .ok (.invokevirtual 116, 3) := by decide +kernel
theorem dX5_hash_79 : decode cX5_hash 79 = .ok (.if_icmp .ge 83, 3) := by decide +kernel
theorem dX5_hash_82 : decode cX5_hash 82 = .ok (.aload_n 0, 1) := by decide +kernel
theorem dX5_hash_83 : decode cX5_hash 83 = .ok (.iload_n 1, 1) := by decide +kernel
theorem dX5_hash_84 : decode cX5_hash 84 = .ok (.invokevirtual 170, 3) := by decide +kernel
theorem dX5_hash_87 : decode cX5_hash 87 = .ok (.ifCond .eq 19, 3) := by decide +kernel
theorem dX5_hash_90 : decode cX5_hash 90 = .ok (.bipush 31, 2) := by decide +kernel
theorem dX5_hash_92 : decode cX5_hash 92 = .ok (.iload_n 3, 1) := by decide +kernel
theorem dX5_hash_93 : decode cX5_hash 93 = .ok (.imul, 1) := by decide +kernel
theorem dX5_hash_94 : decode cX5_hash 94 = .ok (.aload_n 0, 1) := by decide +kernel
theorem dX5_hash_95 : decode cX5_hash 95 = .ok (.iload_n 1, 1) := by decide +kernel
theorem dX5_hash_96 : decode cX5_hash 96 = .ok (.iload 4, 2) := by decide +kernel
theorem dX5_hash_98 : decode cX5_hash 98 = .ok (.invokevirtual 189, 3) := by decide +kernel
theorem dX5_hash_101 : decode cX5_hash 101 = .ok (.iadd, 1) := by decide +kernel
theorem dX5_hash_102 : decode cX5_hash 102 = .ok (.istore_n 3, 1) := by decide +kernel
theorem dX5_hash_103 : decode cX5_hash 103 = .ok (.goto 53, 3) := by decide +kernel
theorem dX5_hash_106 : decode cX5_hash 106 = .ok (.iload_n 3, 1) := by decide +kernel
theorem dX5_hash_107 : decode cX5_hash 107 = .ok (.aload_n 0, 1) := by decide +kernel
theorem dX5_hash_108 : decode cX5_hash 108 = .ok (.iload_n 1, 1) := by decide +kernel
theorem dX5_hash_109 : decode cX5_hash 109 = .ok (.invokevirtual 215, 3) := by decide +kernel
theorem dX5_hash_112 : decode cX5_hash 112 = .ok (.ifCond .eq 20, 3) := by decide +kernel
theorem dX5_hash_115 : decode cX5_hash 115 = .ok (.aload_n 0, 1) := by decide +kernel
theorem dX5_hash_116 : decode cX5_hash 116 = .ok (.getfield 21, 3) := by decide +kernel
theorem dX5_hash_119 : decode cX5_hash 119 = .ok (.aload_n 0, 1) := by decide +kernel
theorem dX5_hash_120 : decode cX5_hash 120 = .ok (.getfield 53, 3) := by decide +kernel
theorem dX5_hash_123 : decode cX5_hash 123 = .ok (.iload_n 1, 1) := by decide +kernel
theorem dX5_hash_124 : decode cX5_hash 124 = .ok (.iaload, 1) := by decide +kernel
theorem dX5_hash_125 : decode cX5_hash 125 = .ok (.aaload, 1) := by decide +kernel
theorem dX5_hash_126 : decode cX5_hash 126 = .ok (.iload 4, 2) := by decide +kernel
theorem dX5_hash_128 : decode cX5_hash 128 = .ok (.iaload, 1) := by decide +kernel
theorem dX5_hash_129 : decode cX5_hash 129 = .ok (.goto 25, 3) := by decide +kernel
theorem dX5_hash_132 : decode cX5_hash 132 = .ok (.aload_n 0, 1) := by decide +kernel
theorem dX5_hash_133 : decode cX5_hash 133 = .ok (.getfield 21, 3) := by decide +kernel
theorem dX5_hash_136 : decode cX5_hash 136 = .ok (.aload_n 0, 1) := by decide +kernel
theorem dX5_hash_137 : decode cX5_hash 137 = .ok (.getfield 53, 3) := by decide +kernel
theorem dX5_hash_140 : decode cX5_hash 140 = .ok (.iload_n 1, 1) := by decide +kernel
theorem dX5_hash_141 : decode cX5_hash 141 = .ok (.iaload, 1) := by decide +kernel
theorem dX5_hash_142 : decode cX5_hash 142 = .ok (.aaload, 1) := by decide +kernel
theorem dX5_hash_143 : decode cX5_hash 143 = .ok (.iload 4, 2) := by decide +kernel
theorem dX5_hash_145 : decode cX5_hash 145 = .ok (.iaload, 1) := by decide +kernel
theorem dX5_hash_146 : decode cX5_hash 146 = .ok (.aload_n 0, 1) := by decide +kernel
theorem dX5_hash_147 : decode cX5_hash 147 = .ok (.iload_n 1, 1) := by decide +kernel
theorem dX5_hash_148 : decode cX5_hash 148 = .ok (.iload 4, 2) := by decide +kernel
theorem dX5_hash_150 : decode cX5_hash 150 = .ok (.invokevirtual 189, 3) := by decide +kernel
theorem dX5_hash_153 : decode cX5_hash 153 = .ok (.ixor, 1) := by decide +kernel
theorem dX5_hash_154 : decode cX5_hash 154 = .ok (.iadd, 1) := by decide +kernel
theorem dX5_hash_155 : decode cX5_hash 155 = .ok (.istore_n 3, 1) := by decide +kernel
theorem dX5_hash_156 : decode cX5_hash 156 = .ok (.iinc 4 1, 3) := by decide +kernel
theorem dX5_hash_159 : decode cX5_hash 159 = .ok (.goto (-87), 3) := by decide +kernel
theorem dX5_hash_162 : decode cX5_hash 162 = .ok (.iload_n 3, 1) := by decide +kernel
theorem dX5_hash_163 : decode cX5_hash 163 = .ok (.ireturn, 1) := by decide +kernel
theorem dX5_keyAt_0 : decode cX5_keyAt 0 = .ok (.aload_n 0, 1) := by decide +kernel
theorem dX5_keyAt_1 : decode cX5_keyAt 1 = .ok (.iload_n 1, 1) := by decide +kernel
theorem dX5_keyAt_2 : decode cX5_keyAt 2 = .ok (.invokevirtual 170, 3) := by decide +kernel
theorem dX5_keyAt_5 : decode cX5_keyAt 5 = .ok (.istore_n 3, 1) := by decide +kernel
theorem dX5_keyAt_6 : decode cX5_keyAt 6 = .ok (.aload_n 0, 1) := by decide +kernel
theorem dX5_keyAt_7 : decode cX5_keyAt 7 = .ok (.iload_n 1, 1) := by decide +kernel
theorem dX5_keyAt_8 : decode cX5_keyAt 8 = .ok (.invokestatic 82, 3) := by decide +kernel
theorem dX5_keyAt_11 : decode cX5_keyAt 11 = .ok (.ifCond .ne 7, 3) := by decide +kernel
theorem dX5_keyAt_14 : decode cX5_keyAt 14 = .ok (.iconst 1, 1) := by decide +kernel
theorem dX5_keyAt_15 : decode cX5_keyAt 15 = .ok (.goto 4, 3) := by decide +kernel
theorem dX5_keyAt_18 : decode cX5_keyAt 18 = .ok (.iconst 0, 1) := by decide +kernel
theorem dX5_keyAt_19 : decode cX5_keyAt 19 = .ok (.iload_n 3, 1) := by decide +kernel
theorem dX5_keyAt_20 : decode cX5_keyAt 20 = .ok (.ifCond .ne 7, 3) := by decide +kernel
theorem dX5_keyAt_23 : decode cX5_keyAt 23 = .ok (.iconst 1, 1) := by decide +kernel
theorem dX5_keyAt_24 : decode cX5_keyAt 24 = .ok (.goto 4, 3) := by decide +kernel
theorem dX5_keyAt_27 : decode cX5_keyAt 27 = .ok (.iconst 0, 1) := by decide +kernel
theorem dX5_keyAt_28 : decode cX5_keyAt 28 = .ok (.iload_n 3, 1) := by decide +kernel
theorem dX5_keyAt_29 : decode cX5_keyAt 29 = .ok (.ifCond .eq 17, 3) := by decide +kernel
theorem dX5_keyAt_32 : decode cX5_keyAt 32 = .ok (.aload_n 0, 1) := by decide +kernel
theorem dX5_keyAt_33 : decode cX5_keyAt 33 = .ok (.iload_n 1, 1) := by decide +kernel
theorem dX5_keyAt_34 : decode cX5_keyAt 34 = .ok (.iload_n 2, 1) := by decide +kernel
theorem dX5_keyAt_35 : decode cX5_keyAt 35 = .ok (.iconst 0, 1) := by decide +kernel
theorem dX5_keyAt_36 : decode cX5_keyAt 36 = .ok (.invokevirtual 176, 3) := by decide +kernel
theorem dX5_keyAt_39 : decode cX5_keyAt 39 = .ok (.ifCond .ne 7, 3) := by decide +kernel
theorem dX5_keyAt_42 : decode cX5_keyAt 42 = .ok (.iconst 1, 1) := by decide +kernel
theorem dX5_keyAt_43 : decode cX5_keyAt 43 = .ok (.goto 4, 3) := by decide +kernel
theorem dX5_keyAt_46 : decode cX5_keyAt 46 = .ok (.iconst 0, 1) := by decide +kernel
theorem dX5_keyAt_47 : decode cX5_keyAt 47 = .ok (.iconst 0, 1) := by decide +kernel
theorem dX5_keyAt_48 : decode cX5_keyAt 48 = .ok (.iconst 0, 1) := by decide +kernel
theorem dX5_keyAt_49 : decode cX5_keyAt 49 = .ok (.invokevirtual 135, 3) := by decide +kernel
theorem dX5_keyAt_52 : decode cX5_keyAt 52 = .ok (.ifCond .eq 7, 3) := by decide +kernel
theorem dX5_keyAt_55 : decode cX5_keyAt 55 = .ok (.iconst 0, 1) := by decide +kernel
theorem dX5_keyAt_56 : decode cX5_keyAt 56 = .ok (.goto 9, 3) := by decide +kernel
theorem dX5_keyAt_59 : decode cX5_keyAt 59 = .ok (.aload_n 0, 1) := by decide +kernel
theorem dX5_keyAt_60 : decode cX5_keyAt 60 = .ok (.iload_n 1, 1) := by decide +kernel
theorem dX5_keyAt_61 : decode cX5_keyAt 61 = .ok (.iload_n 2, 1) := by decide +kernel
theorem dX5_keyAt_62 : decode cX5_keyAt 62 = .ok (.invokevirtual 109, 3) := by decide +kernel
theorem dX5_keyAt_65 : decode cX5_keyAt 65 = .ok (.ireturn, 1) := by decide +kernel
theorem dX5_markAt_0 : decode cX5_markAt 0 = .ok (.aload_n 0, 1) := by decide +kernel
theorem dX5_markAt_1 : decode cX5_markAt 1 = .ok (.iload_n 1, 1) := by decide +kernel
theorem dX5_markAt_2 : decode cX5_markAt 2 = .ok (.invokevirtual 170, 3) := by decide +kernel
theorem dX5_markAt_5 : decode cX5_markAt 5 = .ok (.istore_n 3, 1) := by decide +kernel
theorem dX5_markAt_6 : decode cX5_markAt 6 = .ok (.aload_n 0, 1) := by decide +kernel
theorem dX5_markAt_7 : decode cX5_markAt 7 = .ok (.iload_n 1, 1) := by decide +kernel
theorem dX5_markAt_8 : decode cX5_markAt 8 = .ok (.invokestatic 82, 3) := by decide +kernel
theorem dX5_markAt_11 : decode cX5_markAt 11 = .ok (.ifCond .ne 7, 3) := by decide +kernel
theorem dX5_markAt_14 : decode cX5_markAt 14 = .ok (.iconst 1, 1) := by decide +kernel
theorem dX5_markAt_15 : decode cX5_markAt 15 = .ok (.goto 4, 3) := by decide +kernel
theorem dX5_markAt_18 : decode cX5_markAt 18 = .ok (.iconst 0, 1) := by decide +kernel
theorem dX5_markAt_19 : decode cX5_markAt 19 = .ok (.iload_n 3, 1) := by decide +kernel
theorem dX5_markAt_20 : decode cX5_markAt 20 = .ok (.ifCond .ne 7, 3) := by decide +kernel
theorem dX5_markAt_23 : decode cX5_markAt 23 = .ok (.iconst 1, 1) := by decide +kernel
theorem dX5_markAt_24 : decode cX5_markAt 24 = .ok (.goto 4, 3) := by decide +kernel
theorem dX5_markAt_27 : decode cX5_markAt 27 = .ok (.iconst 0, 1) := by decide +kernel
theorem dX5_markAt_28 : decode cX5_markAt 28 = .ok (.iload_n 3, 1) := by decide +kernel
theorem dX5_markAt_29 : decode cX5_markAt 29 = .ok (.ifCond .eq 17, 3) := by decide +kernel
theorem dX5_markAt_32 : decode cX5_markAt 32 = .ok (.aload_n 0, 1) := by decide +kernel
theorem dX5_markAt_33 : decode cX5_markAt 33 = .ok (.iload_n 1, 1) := by decide +kernel
theorem dX5_markAt_34 : decode cX5_markAt 34 = .ok (.iload_n 2, 1) := by decide +kernel
theorem dX5_markAt_35 : decode cX5_markAt 35 = .ok (.iconst 0, 1) := by decide +kernel
theorem dX5_markAt_36 : decode cX5_markAt 36 = .ok (.invokevirtual 176, 3) := by decide +kernel
theorem dX5_markAt_39 : decode cX5_markAt 39 = .ok (.ifCond .ne 7, 3) := by decide +kernel
theorem dX5_markAt_42 : decode cX5_markAt 42 = .ok (.iconst 1, 1) := by decide +kernel
theorem dX5_markAt_43 : decode cX5_markAt 43 = .ok (.goto 4, 3) := by decide +kernel
theorem dX5_markAt_46 : decode cX5_markAt 46 = .ok (.iconst 0, 1) := by decide +kernel
theorem dX5_markAt_47 : decode cX5_markAt 47 = .ok (.iconst 0, 1) := by decide +kernel
theorem dX5_markAt_48 : decode cX5_markAt 48 = .ok (.iconst 0, 1) := by decide +kernel
theorem dX5_markAt_49 : decode cX5_markAt 49 = .ok (.invokevirtual 135, 3) := by decide +kernel
theorem dX5_markAt_52 : decode cX5_markAt 52 = .ok (.ifCond .eq 7, 3) := by decide +kernel
theorem dX5_markAt_55 : decode cX5_markAt 55 = .ok (.iconst 0, 1) := by decide +kernel
theorem dX5_markAt_56 : decode cX5_markAt 56 = .ok (.goto 9, 3) := by decide +kernel
theorem dX5_markAt_59 : decode cX5_markAt 59 = .ok (.aload_n 0, 1) := by decide +kernel
theorem dX5_markAt_60 : decode cX5_markAt 60 = .ok (.iload_n 1, 1) := by decide +kernel
theorem dX5_markAt_61 : decode cX5_markAt 61 = .ok (.iload_n 2, 1) := by decide +kernel
theorem dX5_markAt_62 : decode cX5_markAt 62 = .ok (.invokevirtual 113, 3) := by decide +kernel
theorem dX5_markAt_65 : decode cX5_markAt 65 = .ok (.ireturn, 1) := by decide +kernel
theorem dX5_placeOf_0 : decode cX5_placeOf 0 = .ok (.aload_n 0, 1) := by decide +kernel
theorem dX5_placeOf_1 : decode cX5_placeOf 1 = .ok (.iload_n 1, 1) := by decide +kernel
theorem dX5_placeOf_2 : decode cX5_placeOf 2 = .ok (.invokevirtual 170, 3) := by decide +kernel
theorem dX5_placeOf_5 : decode cX5_placeOf 5 = .ok (.istore 5, 2) := by decide +kernel
theorem dX5_placeOf_7 : decode cX5_placeOf 7 = .ok (.iconst (-1), 1) := by decide +kernel
theorem dX5_placeOf_8 : decode cX5_placeOf 8 = .ok (.istore 6, 2) := by decide +kernel
theorem dX5_placeOf_10 : decode cX5_placeOf 10 = .ok (.iconst 0, 1) := by decide +kernel
theorem dX5_placeOf_11 : decode cX5_placeOf 11 = .ok (.istore 7, 2) := by decide +kernel
theorem dX5_placeOf_13 : decode cX5_placeOf 13 = .ok (.iload 5, 2) := by decide +kernel
theorem dX5_placeOf_15 : decode cX5_placeOf 15 = .ok (.ifCond .eq 51, 3) := by decide +kernel
theorem dX5_placeOf_18 : decode cX5_placeOf 18 = .ok (.iload 7, 2) := by decide +kernel
theorem dX5_placeOf_20 : decode cX5_placeOf 20 = .ok (.aload_n 0, 1) := by decide +kernel
theorem dX5_placeOf_21 : decode cX5_placeOf 21 = .ok (.iload_n 1, 1) := by decide +kernel
theorem dX5_placeOf_22 : decode cX5_placeOf 22 = .ok (.invokevirtual 116, 3) := by decide +kernel
theorem dX5_placeOf_25 : decode cX5_placeOf 25 = .ok (.if_icmp .ge 41, 3) := by decide +kernel
theorem dX5_placeOf_28 : decode cX5_placeOf 28 = .ok (.aload_n 0, 1) := by decide +kernel
theorem dX5_placeOf_29 : decode cX5_placeOf 29 = .ok (.iload_n 1, 1) := by decide +kernel
theorem dX5_placeOf_30 : decode cX5_placeOf 30 = .ok (.iload 7, 2) := by decide +kernel
theorem dX5_placeOf_32 : decode cX5_placeOf 32 = .ok (.iload_n 2, 1) := by decide +kernel
theorem dX5_placeOf_33 : decode cX5_placeOf 33 = .ok (.iload_n 3, 1) := by decide +kernel
theorem dX5_placeOf_34 : decode cX5_placeOf 34 = .ok (.invokevirtual 119, 3) := by decide +kernel
theorem dX5_placeOf_37 : decode cX5_placeOf 37 = .ok (.ifCond .eq 19, 3) := by decide +kernel
theorem dX5_placeOf_40 : decode cX5_placeOf 40 = .ok (.iload 4, 2) := by decide +kernel
theorem dX5_placeOf_42 : decode cX5_placeOf 42 = .ok (.ifCond .ne 9, 3) := by decide +kernel
theorem dX5_placeOf_45 : decode cX5_placeOf 45 = .ok (.iload 6, 2) := by decide +kernel
theorem dX5_placeOf_47 : decode cX5_placeOf 47 = .ok (.iconst (-1), 1) := by decide +kernel
theorem dX5_placeOf_48 : decode cX5_placeOf 48 = .ok (.if_icmp .ne 8, 3) := by decide +kernel
theorem dX5_placeOf_51 : decode cX5_placeOf 51 = .ok (.iload 7, 2) := by decide +kernel
theorem dX5_placeOf_53 : decode cX5_placeOf 53 = .ok (.goto 5, 3) := by decide +kernel
theorem dX5_placeOf_56 : decode cX5_placeOf 56 = .ok (.iload 6, 2) := by decide +kernel
theorem dX5_placeOf_58 : decode cX5_placeOf 58 = .ok (.istore 6, 2) := by decide +kernel
theorem dX5_placeOf_60 : decode cX5_placeOf 60 = .ok (.iinc 7 1, 3) := by decide +kernel
theorem dX5_placeOf_63 : decode cX5_placeOf 63 = .ok (.goto (-50), 3) := by decide +kernel
theorem dX5_placeOf_66 : decode cX5_placeOf 66 = .ok (.aload_n 0, 1) := by decide +kernel
theorem dX5_placeOf_67 : decode cX5_placeOf 67 = .ok (.iload_n 1, 1) := by decide +kernel
theorem dX5_placeOf_68 : decode cX5_placeOf 68 = .ok (.invokestatic 82, 3) := by decide +kernel
theorem dX5_placeOf_71 : decode cX5_placeOf 71 = .ok (.ifCond .ne 7, 3) := by decide +kernel
theorem dX5_placeOf_74 : decode cX5_placeOf 74 = .ok (.iconst 1, 1) := by decide +kernel
theorem dX5_placeOf_75 : decode cX5_placeOf 75 = .ok (.goto 4, 3) := by decide +kernel
theorem dX5_placeOf_78 : decode cX5_placeOf 78 = .ok (.iconst 0, 1) := by decide +kernel
theorem dX5_placeOf_79 : decode cX5_placeOf 79 = .ok (.iload 5, 2) := by decide +kernel
theorem dX5_placeOf_81 : decode cX5_placeOf 81 = .ok (.ifCond .ne 7, 3) := by decide +kernel
theorem dX5_placeOf_84 : decode cX5_placeOf 84 = .ok (.iconst 1, 1) := by decide +kernel
theorem dX5_placeOf_85 : decode cX5_placeOf 85 = .ok (.goto 4, 3) := by decide +kernel
theorem dX5_placeOf_88 : decode cX5_placeOf 88 = .ok (.iconst 0, 1) := by decide +kernel
theorem dX5_placeOf_89 : decode cX5_placeOf 89 = .ok (.iconst 0, 1) := by decide +kernel
theorem dX5_placeOf_90 : decode cX5_placeOf 90 = .ok (.iconst 0, 1) := by decide +kernel
theorem dX5_placeOf_91 : decode cX5_placeOf 91 = .ok (.iconst 0, 1) := by decide +kernel
theorem dX5_placeOf_92 : decode cX5_placeOf 92 = .ok (.invokevirtual 135, 3) := by decide +kernel
theorem dX5_placeOf_95 : decode cX5_placeOf 95 = .ok (.ifCond .eq 7, 3) := by decide +kernel
theorem dX5_placeOf_98 : decode cX5_placeOf 98 = .ok (.iconst 0, 1) := by decide +kernel
theorem dX5_placeOf_99 : decode cX5_placeOf 99 = .ok (.goto 5, 3) := by decide +kernel
theorem dX5_placeOf_102 : decode cX5_placeOf 102 = .ok (.iload 6, 2) := by decide +kernel
theorem dX5_placeOf_104 : decode cX5_placeOf 104 = .ok (.ireturn, 1) := by decide +kernel
theorem dX5_share_0 : decode cX5_share 0 = .ok (.aload_n 0, 1) := by decide +kernel
theorem dX5_share_1 : decode cX5_share 1 = .ok (.iload_n 1, 1) := by decide +kernel
theorem dX5_share_2 : decode cX5_share 2 = .ok (.invokevirtual 199, 3) := by decide +kernel
theorem dX5_share_5 : decode cX5_share 5 = .ok (.istore_n 2, 1) := by decide +kernel
theorem dX5_share_6 : decode cX5_share 6 = .ok (.iconst 0, 1) := by decide +kernel
theorem dX5_share_7 : decode cX5_share 7 = .ok (.istore_n 3, 1) := by decide +kernel
theorem dX5_share_8 : decode cX5_share 8 = .ok (.iconst 0, 1) := by decide +kernel
theorem dX5_share_9 : decode cX5_share 9 = .ok (.istore 4, 2) := by decide +kernel
theorem dX5_share_11 : decode cX5_share 11 = .ok (.iload_n 2, 1) := by decide +kernel
theorem dX5_share_12 : decode cX5_share 12 = .ok (.ifCond .eq 37, 3) := by decide +kernel
theorem dX5_share_15 : decode cX5_share 15 = .ok (.iload 4, 2) := by decide +kernel
theorem dX5_share_17 : decode cX5_share 17 = .ok (.aload_n 0, 1) := by decide +kernel
theorem dX5_share_18 : decode cX5_share 18 = .ok (.iload_n 1, 1) := by decide +kernel
theorem dX5_share_19 : decode cX5_share 19 = .ok (.invokevirtual 116, 3) := by decide +kernel
theorem dX5_share_22 : decode cX5_share 22 = .ok (.if_icmp .ge 27, 3) := by decide +kernel
theorem dX5_share_25 : decode cX5_share 25 = .ok (.iload_n 3, 1) := by decide +kernel
theorem dX5_share_26 : decode cX5_share 26 = .ok (.aload_n 0, 1) := by decide +kernel
theorem dX5_share_27 : decode cX5_share 27 = .ok (.iload_n 1, 1) := by decide +kernel
theorem dX5_share_28 : decode cX5_share 28 = .ok (.iload 4, 2) := by decide +kernel
theorem dX5_share_30 : decode cX5_share 30 = .ok (.invokevirtual 109, 3) := by decide +kernel
theorem dX5_share_33 : decode cX5_share 33 = .ok (.ifCond .le 7, 3) := by decide +kernel
theorem dX5_share_36 : decode cX5_share 36 = .ok (.iconst 1, 1) := by decide +kernel
theorem dX5_share_37 : decode cX5_share 37 = .ok (.goto 4, 3) := by decide +kernel
theorem dX5_share_40 : decode cX5_share 40 = .ok (.iconst 0, 1) := by decide +kernel
theorem dX5_share_41 : decode cX5_share 41 = .ok (.iadd, 1) := by decide +kernel
theorem dX5_share_42 : decode cX5_share 42 = .ok (.istore_n 3, 1) := by decide +kernel
theorem dX5_share_43 : decode cX5_share 43 = .ok (.iinc 4 1, 3) := by decide +kernel
theorem dX5_share_46 : decode cX5_share 46 = .ok (.goto (-35), 3) := by decide +kernel
theorem dX5_share_49 : decode cX5_share 49 = .ok (.aload_n 0, 1) := by decide +kernel
theorem dX5_share_50 : decode cX5_share 50 = .ok (.iload_n 1, 1) := by decide +kernel
theorem dX5_share_51 : decode cX5_share 51 = .ok (.invokestatic 82, 3) := by decide +kernel
theorem dX5_share_54 : decode cX5_share 54 = .ok (.ifCond .ne 7, 3) := by decide +kernel
theorem dX5_share_57 : decode cX5_share 57 = .ok (.iconst 1, 1) := by decide +kernel
theorem dX5_share_58 : decode cX5_share 58 = .ok (.goto 4, 3) := by decide +kernel
theorem dX5_share_61 : decode cX5_share 61 = .ok (.iconst 0, 1) := by decide +kernel
theorem dX5_share_62 : decode cX5_share 62 = .ok (.iload_n 2, 1) := by decide +kernel
theorem dX5_share_63 : decode cX5_share 63 = .ok (.ifCond .ne 7, 3) := by decide +kernel
theorem dX5_share_66 : decode cX5_share 66 = .ok (.iconst 1, 1) := by decide +kernel
theorem dX5_share_67 : decode cX5_share 67 = .ok (.goto 4, 3) := by decide +kernel
theorem dX5_share_70 : decode cX5_share 70 = .ok (.iconst 0, 1) := by decide +kernel
theorem dX5_share_71 : decode cX5_share 71 = .ok (.iload_n 2, 1) := by decide +kernel
theorem dX5_share_72 : decode cX5_share 72 = .ok (.ifCond .eq 15, 3) := by decide +kernel
theorem dX5_share_75 : decode cX5_share 75 = .ok (.aload_n 0, 1) := by decide +kernel
theorem dX5_share_76 : decode cX5_share 76 = .ok (.iload_n 1, 1) := by decide +kernel
theorem dX5_share_77 : decode cX5_share 77 = .ok (.invokevirtual 116, 3) := by decide +kernel
theorem dX5_share_80 : decode cX5_share 80 = .ok (.ifCond .ne 7, 3) := by decide +kernel
theorem dX5_share_83 : decode cX5_share 83 = .ok (.iconst 1, 1) := by decide +kernel
theorem dX5_share_84 : decode cX5_share 84 = .ok (.goto 4, 3) := by decide +kernel
theorem dX5_share_87 : decode cX5_share 87 = .ok (.iconst 0, 1) := by decide +kernel
theorem dX5_share_88 : decode cX5_share 88 = .ok (.iconst 0, 1) := by decide +kernel
theorem dX5_share_89 : decode cX5_share 89 = .ok (.iconst 0, 1) := by decide +kernel
theorem dX5_share_90 : decode cX5_share 90 = .ok (.invokevirtual 135, 3) := by decide +kernel
theorem dX5_share_93 : decode cX5_share 93 = .ok (.ifCond .eq 7, 3) := by decide +kernel
theorem dX5_share_96 : decode cX5_share 96 = .ok (.fconst 0, 1) := by decide +kernel
theorem dX5_share_97 : decode cX5_share 97 = .ok (.goto 12, 3) := by decide +kernel
theorem dX5_share_100 : decode cX5_share 100 = .ok (.iload_n 3, 1) := by decide +kernel
theorem dX5_share_101 : decode cX5_share 101 = .ok (.i2f, 1) := by decide +kernel
theorem dX5_share_102 : decode cX5_share 102 = .ok (.aload_n 0, 1) := by decide +kernel
theorem dX5_share_103 : decode cX5_share 103 = .ok (.iload_n 1, 1) := by decide +kernel
theorem dX5_share_104 : decode cX5_share 104 = .ok (.invokevirtual 116, 3) := by decide +kernel
theorem dX5_share_107 : decode cX5_share 107 = .ok (.i2f, 1) := by decide +kernel
theorem dX5_share_108 : decode cX5_share 108 = .ok (.fdiv, 1) := by decide +kernel
theorem dX5_share_109 : decode cX5_share 109 = .ok (.freturn, 1) := by decide +kernel
theorem dX5_meanKey_0 : decode cX5_meanKey 0 = .ok (.aload_n 0, 1) := by decide +kernel
theorem dX5_meanKey_1 : decode cX5_meanKey 1 = .ok (.iload_n 1, 1) := by decide +kernel
theorem dX5_meanKey_2 : decode cX5_meanKey 2 = .ok (.invokevirtual 199, 3) := by decide +kernel
theorem dX5_meanKey_5 : decode cX5_meanKey 5 = .ok (.istore_n 2, 1) := by decide +kernel
theorem dX5_meanKey_6 : decode cX5_meanKey 6 = .ok (.iconst 0, 1) := by decide +kernel
theorem dX5_meanKey_7 : decode cX5_meanKey 7 = .ok (.istore_n 3, 1) := by decide +kernel
theorem dX5_meanKey_8 : decode cX5_meanKey 8 = .ok (.iconst 0, 1) := by decide +kernel
theorem dX5_meanKey_9 : decode cX5_meanKey 9 = .ok (.istore 4, 2) := by decide +kernel
theorem dX5_meanKey_11 : decode cX5_meanKey 11 = .ok (.iload_n 2, 1) := by decide +kernel
theorem dX5_meanKey_12 : decode cX5_meanKey 12 = .ok (.ifCond .eq 29, 3) := by decide +kernel
theorem dX5_meanKey_15 : decode cX5_meanKey 15 = .ok (.iload 4, 2) := by decide +kernel
theorem dX5_meanKey_17 : decode cX5_meanKey 17 = .ok (.aload_n 0, 1) := by decide +kernel
theorem dX5_meanKey_18 : decode cX5_meanKey 18 = .ok (.iload_n 1, 1) := by decide +kernel
theorem dX5_meanKey_19 : decode cX5_meanKey 19 = .ok (.invokevirtual 116, 3) := by decide +kernel
theorem dX5_meanKey_22 : decode cX5_meanKey 22 = .ok (.if_icmp .ge 19, 3) := by decide +kernel
theorem dX5_meanKey_25 : decode cX5_meanKey 25 = .ok (.iload_n 3, 1) := by decide +kernel
theorem dX5_meanKey_26 : decode cX5_meanKey 26 = .ok (.aload_n 0, 1) := by decide +kernel
theorem dX5_meanKey_27 : decode cX5_meanKey 27 = .ok (.iload_n 1, 1) := by decide +kernel
theorem dX5_meanKey_28 : decode cX5_meanKey 28 = .ok (.iload 4, 2) := by decide +kernel
theorem dX5_meanKey_30 : decode cX5_meanKey 30 = .ok (.invokevirtual 109, 3) := by decide +kernel
theorem dX5_meanKey_33 : decode cX5_meanKey 33 = .ok (.iadd, 1) := by decide +kernel
theorem dX5_meanKey_34 : decode cX5_meanKey 34 = .ok (.istore_n 3, 1) := by decide +kernel
theorem dX5_meanKey_35 : decode cX5_meanKey 35 = .ok (.iinc 4 1, 3) := by decide +kernel
theorem dX5_meanKey_38 : decode cX5_meanKey 38 = .ok (.goto (-27), 3) := by decide +kernel
theorem dX5_meanKey_41 : decode cX5_meanKey 41 = .ok (.aload_n 0, 1) := by decide +kernel
theorem dX5_meanKey_42 : decode cX5_meanKey 42 = .ok (.iload_n 1, 1) := by decide +kernel
theorem dX5_meanKey_43 : decode cX5_meanKey 43 = .ok (.invokestatic 82, 3) := by decide +kernel
theorem dX5_meanKey_46 : decode cX5_meanKey 46 = .ok (.ifCond .ne 7, 3) := by decide +kernel
theorem dX5_meanKey_49 : decode cX5_meanKey 49 = .ok (.iconst 1, 1) := by decide +kernel
theorem dX5_meanKey_50 : decode cX5_meanKey 50 = .ok (.goto 4, 3) := by decide +kernel
theorem dX5_meanKey_53 : decode cX5_meanKey 53 = .ok (.iconst 0, 1) := by decide +kernel
theorem dX5_meanKey_54 : decode cX5_meanKey 54 = .ok (.iload_n 2, 1) := by decide +kernel
theorem dX5_meanKey_55 : decode cX5_meanKey 55 = .ok (.ifCond .ne 7, 3) := by decide +kernel
theorem dX5_meanKey_58 : decode cX5_meanKey 58 = .ok (.iconst 1, 1) := by decide +kernel
theorem dX5_meanKey_59 : decode cX5_meanKey 59 = .ok (.goto 4, 3) := by decide +kernel
theorem dX5_meanKey_62 : decode cX5_meanKey 62 = .ok (.iconst 0, 1) := by decide +kernel
theorem dX5_meanKey_63 : decode cX5_meanKey 63 = .ok (.iload_n 2, 1) := by decide +kernel
theorem dX5_meanKey_64 : decode cX5_meanKey 64 = .ok (.ifCond .eq 15, 3) := by decide +kernel
theorem dX5_meanKey_67 : decode cX5_meanKey 67 = .ok (.aload_n 0, 1) := by decide +kernel
theorem dX5_meanKey_68 : decode cX5_meanKey 68 = .ok (.iload_n 1, 1) := by decide +kernel
theorem dX5_meanKey_69 : decode cX5_meanKey 69 = .ok (.invokevirtual 116, 3) := by decide +kernel
theorem dX5_meanKey_72 : decode cX5_meanKey 72 = .ok (.ifCond .ne 7, 3) := by decide +kernel
theorem dX5_meanKey_75 : decode cX5_meanKey 75 = .ok (.iconst 1, 1) := by decide +kernel
theorem dX5_meanKey_76 : decode cX5_meanKey 76 = .ok (.goto 4, 3) := by decide +kernel
theorem dX5_meanKey_79 : decode cX5_meanKey 79 = .ok (.iconst 0, 1) := by decide +kernel
theorem dX5_meanKey_80 : decode cX5_meanKey 80 = .ok (.iconst 0, 1) := by decide +kernel
theorem dX5_meanKey_81 : decode cX5_meanKey 81 = .ok (.iconst 0, 1) := by decide +kernel
theorem dX5_meanKey_82 : decode cX5_meanKey 82 = .ok (.invokevirtual 135, 3) := by decide +kernel
theorem dX5_meanKey_85 : decode cX5_meanKey 85 = .ok (.ifCond .eq 7, 3) := by decide +kernel
theorem dX5_meanKey_88 : decode cX5_meanKey 88 = .ok (.dconst 0, 1) := by decide +kernel
theorem dX5_meanKey_89 : decode cX5_meanKey 89 = .ok (.goto 12, 3) := by decide +kernel
theorem dX5_meanKey_92 : decode cX5_meanKey 92 = .ok (.iload_n 3, 1) := by decide +kernel
theorem dX5_meanKey_93 : decode cX5_meanKey 93 = .ok (.i2d, 1) := by decide +kernel
theorem dX5_meanKey_94 : decode cX5_meanKey 94 = .ok (.aload_n 0, 1) := by decide +kernel
theorem dX5_meanKey_95 : decode cX5_meanKey 95 = .ok (.iload_n 1, 1) := by decide +kernel
theorem dX5_meanKey_96 : decode cX5_meanKey 96 = .ok (.invokevirtual 116, 3) := by decide +kernel
theorem dX5_meanKey_99 : decode cX5_meanKey 99 = .ok (.i2d, 1) := by decide +kernel
theorem dX5_meanKey_100 : decode cX5_meanKey 100 = .ok (.ddiv, 1) := by decide +kernel
theorem dX5_meanKey_101 : decode cX5_meanKey 101 = .ok (.dreturn, 1) := by decide +kernel
theorem dX5_checksum_0 : decode cX5_checksum 0 = .ok (.aload_n 0, 1) := by decide +kernel
theorem dX5_checksum_1 : decode cX5_checksum 1 = .ok (.iconst 0, 1) := by decide +kernel
theorem dX5_checksum_2 : decode cX5_checksum 2 = .ok (.putfield 74, 3) := by decide +kernel
theorem dX5_checksum_5 : decode cX5_checksum 5 = .ok (.ldc2_w 246, 3) := by decide +kernel
theorem dX5_checksum_8 : decode cX5_checksum 8 = .ok (.lstore_n 1, 1) := by decide +kernel
theorem dX5_checksum_9 : decode cX5_checksum 9 = .ok (.iconst 0, 1) := by decide +kernel
theorem dX5_checksum_10 : decode cX5_checksum 10 = .ok (.istore_n 3, 1) := by decide +kernel
theorem dX5_checksum_11 : decode cX5_checksum 11 = .ok (.iload_n 3, 1) := by decide +kernel
theorem dX5_checksum_12 : decode cX5_checksum 12 = .ok (.bipush 12, 2) := by decide +kernel
theorem dX5_checksum_14 : decode cX5_checksum 14 = .ok (.if_icmp .ge 55, 3) := by decide +kernel
theorem dX5_checksum_17 : decode cX5_checksum 17 = .ok (.ldc2_w 244, 3) := by decide +kernel
theorem dX5_checksum_20 : decode cX5_checksum 20 = .ok (.lload_n 1, 1) := by decide +kernel
theorem dX5_checksum_21 : decode cX5_checksum 21 = .ok (.lmul, 1) := by decide +kernel
theorem dX5_checksum_22 : decode cX5_checksum 22 = .ok (.aload_n 0, 1) := by decide +kernel
theorem dX5_checksum_23 : decode cX5_checksum 23 = .ok (.getfield 49, 3) := by decide +kernel
theorem dX5_checksum_26 : decode cX5_checksum 26 = .ok (.iload_n 3, 1) := by decide +kernel
theorem dX5_checksum_27 : decode cX5_checksum 27 = .ok (.caload, 1) := by decide +kernel
theorem dX5_checksum_28 : decode cX5_checksum 28 = .ok (.i2l, 1) := by decide +kernel
theorem dX5_checksum_29 : decode cX5_checksum 29 = .ok (.ladd, 1) := by decide +kernel
theorem dX5_checksum_30 : decode cX5_checksum 30 = .ok (.lstore_n 1, 1) := by decide +kernel
theorem dX5_checksum_31 : decode cX5_checksum 31 = .ok (.aload_n 0, 1) := by decide +kernel
theorem dX5_checksum_32 : decode cX5_checksum 32 = .ok (.getfield 49, 3) := by decide +kernel
theorem dX5_checksum_35 : decode cX5_checksum 35 = .ok (.iload_n 3, 1) := by decide +kernel
theorem dX5_checksum_36 : decode cX5_checksum 36 = .ok (.caload, 1) := by decide +kernel
theorem dX5_checksum_37 : decode cX5_checksum 37 = .ok (.bipush 45, 2) := by decide +kernel
theorem dX5_checksum_39 : decode cX5_checksum 39 = .ok (.if_icmp .eq 24, 3) := by decide +kernel
theorem dX5_checksum_42 : decode cX5_checksum 42 = .ok (.ldc2_w 244, 3) := by decide +kernel
theorem dX5_checksum_45 : decode cX5_checksum 45 = .ok (.lload_n 1, 1) := by decide +kernel
theorem dX5_checksum_46 : decode cX5_checksum 46 = .ok (.lmul, 1) := by decide +kernel
theorem dX5_checksum_47 : decode cX5_checksum 47 = .ok (.aload_n 0, 1) := by decide +kernel
theorem dX5_checksum_48 : decode cX5_checksum 48 = .ok (.iload_n 3, 1) := by decide +kernel
theorem dX5_checksum_49 : decode cX5_checksum 49 = .ok (.invokevirtual 116, 3) := by decide +kernel
theorem dX5_checksum_52 : decode cX5_checksum 52 = .ok (.i2l, 1) := by decide +kernel
theorem dX5_checksum_53 : decode cX5_checksum 53 = .ok (.ladd, 1) := by decide +kernel
theorem dX5_checksum_54 : decode cX5_checksum 54 = .ok (.lstore_n 1, 1) := by decide +kernel
theorem dX5_checksum_55 : decode cX5_checksum 55 = .ok (.aload_n 0, 1) := by decide +kernel
theorem dX5_checksum_56 : decode cX5_checksum 56 = .ok (.lload_n 1, 1) := by decide +kernel
theorem dX5_checksum_57 : decode cX5_checksum 57 = .ok (.iload_n 3, 1) := by decide +kernel
theorem dX5_checksum_58 : decode cX5_checksum 58 = .ok (.iconst 0, 1) := by decide +kernel
theorem dX5_checksum_59 : decode cX5_checksum 59 = .ok (.invokevirtual 248, 3) := by decide +kernel
theorem dX5_checksum_62 : decode cX5_checksum 62 = .ok (.lstore_n 1, 1) := by decide +kernel
theorem dX5_checksum_63 : decode cX5_checksum 63 = .ok (.iinc 3 1, 3) := by decide +kernel
theorem dX5_checksum_66 : decode cX5_checksum 66 = .ok (.goto (-55), 3) := by decide +kernel
theorem dX5_checksum_69 : decode cX5_checksum 69 = .ok (.lload_n 1, 1) := by decide +kernel
theorem dX5_checksum_70 : decode cX5_checksum 70 = .ok (.lreturn, 1) := by decide +kernel
theorem dX5_isSound_0 : decode cX5_isSound 0 = .ok (.aload_n 0, 1) := by decide +kernel
theorem dX5_isSound_1 : decode cX5_isSound 1 = .ok (.iconst 0, 1) := by decide +kernel
theorem dX5_isSound_2 : decode cX5_isSound 2 = .ok (.putfield 74, 3) := by decide +kernel
theorem dX5_isSound_5 : decode cX5_isSound 5 = .ok (.iconst 1, 1) := by decide +kernel
theorem dX5_isSound_6 : decode cX5_isSound 6 = .ok (.ireturn, 1) := by decide +kernel
