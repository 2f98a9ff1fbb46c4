theorem dX11_look_232 : decode cX11_look 232 = .ok (.ldc_w 351, 3) := by decide +kernel
theorem dX11_look_235 : decode cX11_look 235 = .ok (.ireturn, 1) := by decide +kernel
theorem dX11_within_0 : decode cX11_within 0 = .ok (.iload_n 0, 1) := by decide +kernel
theorem dX11_within_1 : decode cX11_within 1 = .ok (.iload_n 1, 1) := by decide +kernel
theorem dX11_within_2 : decode cX11_within 2 = .ok (.if_icmp .lt 12, 3) := by decide +kernel
theorem dX11_within_5 : decode cX11_within 5 = .ok (.iload_n 0, 1) := by decide +kernel
theorem dX11_within_6 : decode cX11_within 6 = .ok (.iload_n 2, 1) := by decide +kernel
theorem dX11_within_7 : decode cX11_within 7 = .ok (.if_icmp .gt 7, 3) := by decide +kernel
theorem dX11_within_10 : decode cX11_within 10 = .ok (.iconst 1, 1) := by decide +kernel
theorem dX11_within_11 : decode cX11_within 11 = .ok (.goto 4, 3) := by decide +kernel
theorem dX11_within_14 : decode cX11_within 14 = .ok (.iconst 0, 1) := by decide +kernel
theorem dX11_within_15 : decode cX11_within 15 = .ok (.ireturn, 1) := by decide +kernel
theorem dX11_cellOf_0 : decode cX11_cellOf 0 = .ok (.iload_n 1, 1) := by decide +kernel
theorem dX11_cellOf_1 : decode cX11_cellOf 1 = .ok (.ifCond .lt 15, 3) := by decide +kernel
theorem dX11_cellOf_4 : decode cX11_cellOf 4 = .ok (.iload_n 1, 1) := by decide +kernel
theorem dX11_cellOf_5 : decode cX11_cellOf 5 = .ok (.aload_n 0, 1) := by decide +kernel
theorem dX11_cellOf_6 : decode cX11_cellOf 6 = .ok (.arraylength, 1) := by decide +kernel
theorem dX11_cellOf_7 : decode cX11_cellOf 7 = .ok (.if_icmp .ge 9, 3) := by decide +kernel
theorem dX11_cellOf_10 : decode cX11_cellOf 10 = .ok (.aload_n 0, 1) := by decide +kernel
theorem dX11_cellOf_11 : decode cX11_cellOf 11 = .ok (.iload_n 1, 1) := by decide +kernel
theorem dX11_cellOf_12 : decode cX11_cellOf 12 = .ok (.iaload, 1) := by decide +kernel
theorem dX11_cellOf_13 : decode cX11_cellOf 13 = .ok (.goto 4, 3) := by decide +kernel
theorem dX11_cellOf_16 : decode cX11_cellOf 16 = .ok (.iconst 0, 1) := by decide +kernel
theorem dX11_cellOf_17 : decode cX11_cellOf 17 = .ok (.ireturn, 1) := by decide +kernel
theorem dX12_init_0 : decode cX12_init 0 = .ok (.aload_n 0, 1) := by decide +kernel
theorem dX12_init_1 : decode cX12_init 1 = .ok (.invokespecial 1, 3) := by decide +kernel
theorem dX12_init_4 : decode cX12_init 4 = .ok (.aload_n 0, 1) := by decide +kernel
theorem dX12_init_5 : decode cX12_init 5 = .ok (.bipush 93, 2) := by decide +kernel
theorem dX12_init_7 : decode cX12_init 7 = .ok (.newarray .int, 2) := by decide +kernel
theorem dX12_init_9 : decode cX12_init 9 = .ok (.putfield 7, 3) := by decide +kernel
theorem dX12_init_12 : decode cX12_init 12 = .ok (.aload_n 0, 1) := by decide +kernel
theorem dX12_init_13 : decode cX12_init 13 = .ok (.sipush 558, 3) := by decide +kernel
theorem dX12_init_16 : decode cX12_init 16 = .ok (.newarray .int, 2) := by decide +kernel
theorem dX12_init_18 : decode cX12_init 18 = .ok (.putfield 13, 3) := by decide +kernel
theorem dX12_init_21 : decode cX12_init 21 = .ok (.aload_n 0, 1) := by decide +kernel
theorem dX12_init_22 : decode cX12_init 22 = .ok (.bipush 93, 2) := by decide +kernel
theorem dX12_init_24 : decode cX12_init 24 = .ok (.newarray .int, 2) := by decide +kernel
theorem dX12_init_26 : decode cX12_init 26 = .ok (.putfield 16, 3) := by decide +kernel
theorem dX12_init_29 : decode cX12_init 29 = .ok (.aload_n 0, 1) := by decide +kernel
theorem dX12_init_30 : decode cX12_init 30 = .ok (.bipush 12, 2) := by decide +kernel
theorem dX12_init_32 : decode cX12_init 32 = .ok (.newarray .int, 2) := by decide +kernel
theorem dX12_init_34 : decode cX12_init 34 = .ok (.putfield 19, 3) := by decide +kernel
theorem dX12_init_37 : decode cX12_init 37 = .ok (.aload_n 0, 1) := by decide +kernel
theorem dX12_init_38 : decode cX12_init 38 = .ok (.bipush 12, 2) := by decide +kernel
theorem dX12_init_40 : decode cX12_init 40 = .ok (.newarray .int, 2) := by decide +kernel
theorem dX12_init_42 : decode cX12_init 42 = .ok (.putfield 22, 3) := by decide +kernel
theorem dX12_init_45 : decode cX12_init 45 = .ok (.aload_n 0, 1) := by decide +kernel
theorem dX12_init_46 : decode cX12_init 46 = .ok (.bipush 10, 2) := by decide +kernel
theorem dX12_init_48 : decode cX12_init 48 = .ok (.newarray .int, 2) := by decide +kernel
theorem dX12_init_50 : decode cX12_init 50 = .ok (.putfield 25, 3) := by decide +kernel
theorem dX12_init_53 : decode cX12_init 53 = .ok (.aload_n 0, 1) := by decide +kernel
theorem dX12_init_54 : decode cX12_init 54 = .ok (.bipush 10, 2) := by decide +kernel
theorem dX12_init_56 : decode cX12_init 56 = .ok (.newarray .int, 2) := by decide +kernel
theorem dX12_init_58 : decode cX12_init 58 = .ok (.putfield 28, 3) := by decide +kernel
theorem dX12_init_61 : decode cX12_init 61 = .ok (.aload_n 0, 1) := by decide +kernel
theorem dX12_init_62 : decode cX12_init 62 = .ok (.sipush 600, 3) := by decide +kernel
theorem dX12_init_65 : decode cX12_init 65 = .ok (.newarray .int, 2) := by decide +kernel
theorem dX12_init_67 : decode cX12_init 67 = .ok (.putfield 31, 3) := by decide +kernel
theorem dX12_init_70 : decode cX12_init 70 = .ok (.aload_n 0, 1) := by decide +kernel
theorem dX12_init_71 : decode cX12_init 71 = .ok (.sipush 400, 3) := by decide +kernel
theorem dX12_init_74 : decode cX12_init 74 = .ok (.newarray .int, 2) := by decide +kernel
theorem dX12_init_76 : decode cX12_init 76 = .ok (.putfield 34, 3) := by decide +kernel
theorem dX12_init_79 : decode cX12_init 79 = .ok (.aload_n 0, 1) := by decide +kernel
theorem dX12_init_80 : decode cX12_init 80 = .ok (.bipush 117, 2) := by decide +kernel
theorem dX12_init_82 : decode cX12_init 82 = .ok (.newarray .int, 2) := by decide +kernel
theorem dX12_init_84 : decode cX12_init 84 = .ok (.dup, 1) := by decide +kernel
theorem dX12_init_85 : decode cX12_init 85 = .ok (.iconst 0, 1) := by decide +kernel
theorem dX12_init_86 : decode cX12_init 86 = .ok (.bipush 32, 2) := by decide +kernel
theorem dX12_init_88 : decode cX12_init 88 = .ok (.iastore, 1) := by decide +kernel
theorem dX12_init_89 : decode cX12_init 89 = .ok (.dup, 1) := by decide +kernel
theorem dX12_init_90 : decode cX12_init 90 = .ok (.iconst 1, 1) := by decide +kernel
theorem dX12_init_91 : decode cX12_init 91 = .ok (.bipush 102, 2) := by decide +kernel
theorem dX12_init_93 : decode cX12_init 93 = .ok (.iastore, 1) := by decide +kernel
theorem dX12_init_94 : decode cX12_init 94 = .ok (.dup, 1) := by decide +kernel
theorem dX12_init_95 : decode cX12_init 95 = .ok (.iconst 2, 1) := by decide +kernel
theorem dX12_init_96 : decode cX12_init 96 = .ok (.bipush 111, 2) := by decide +kernel
theorem dX12_init_98 : decode cX12_init 98 = .ok (.iastore, 1) := by decide +kernel
theorem dX12_init_99 : decode cX12_init 99 = .ok (.dup, 1) := by decide +kernel
theorem dX12_init_100 : decode cX12_init 100 = .ok (.iconst 3, 1) := by decide +kernel
theorem dX12_init_101 : decode cX12_init 101 = .ok (.bipush 114, 2) := by decide +kernel
theorem dX12_init_103 : decode cX12_init 103 = .ok (.iastore, 1) := by decide +kernel
theorem dX12_init_104 : decode cX12_init 104 = .ok (.dup, 1) := by decide +kernel
theorem dX12_init_105 : decode cX12_init 105 = .ok (.iconst 4, 1) := by decide +kernel
theorem dX12_init_106 : decode cX12_init 106 = .ok (.bipush 109, 2) := by decide +kernel
theorem dX12_init_108 : decode cX12_init 108 = .ok (.iastore, 1) := by decide +kernel
theorem dX12_init_109 : decode cX12_init 109 = .ok (.dup, 1) := by decide +kernel
theorem dX12_init_110 : decode cX12_init 110 = .ok (.iconst 5, 1) := by decide +kernel
theorem dX12_init_111 : decode cX12_init 111 = .ok (.bipush 115, 2) := by decide +kernel
theorem dX12_init_113 : decode cX12_init 113 = .ok (.iastore, 1) := by decide +kernel
theorem dX12_init_114 : decode cX12_init 114 = .ok (.dup, 1) := by decide +kernel
theorem dX12_init_115 : decode cX12_init 115 = .ok (.bipush 6, 2) := by decide +kernel
theorem dX12_init_117 : decode cX12_init 117 = .ok (.bipush 32, 2) := by decide +kernel
theorem dX12_init_119 : decode cX12_init 119 = .ok (.iastore, 1) := by decide +kernel
theorem dX12_init_120 : decode cX12_init 120 = .ok (.dup, 1) := by decide +kernel
theorem dX12_init_121 : decode cX12_init 121 = .ok (.bipush 7, 2) := by decide +kernel
theorem dX12_init_123 : decode cX12_init 123 = .ok (.bipush 100, 2) := by decide +kernel
theorem dX12_init_125 : decode cX12_init 125 = .ok (.iastore, 1) := by decide +kernel
theorem dX12_init_126 : decode cX12_init 126 = .ok (.dup, 1) := by decide +kernel
theorem dX12_init_127 : decode cX12_init 127 = .ok (.bipush 8, 2) := by decide +kernel
theorem dX12_init_129 : decode cX12_init 129 = .ok (.bipush 114, 2) := by decide +kernel
theorem dX12_init_131 : decode cX12_init 131 = .ok (.iastore, 1) := by decide +kernel
theorem dX12_init_132 : decode cX12_init 132 = .ok (.dup, 1) := by decide +kernel
theorem dX12_init_133 : decode cX12_init 133 = .ok (.bipush 9, 2) := by decide +kernel
theorem dX12_init_135 : decode cX12_init 135 = .ok (.bipush 105, 2) := by decide +kernel
theorem dX12_init_137 : decode cX12_init 137 = .ok (.iastore, 1) := by decide +kernel
theorem dX12_init_138 : decode cX12_init 138 = .ok (.dup, 1) := by decide +kernel
theorem dX12_init_139 : decode cX12_init 139 = .ok (.bipush 10, 2) := by decide +kernel
theorem dX12_init_141 : decode cX12_init 141 = .ok (.bipush 101, 2) := by decide +kernel
theorem dX12_init_143 : decode cX12_init 143 = .ok (.iastore, 1) := by decide +kernel
theorem dX12_init_144 : decode cX12_init 144 = .ok (.dup, 1) := by decide +kernel
theorem dX12_init_145 : decode cX12_init 145 = .ok (.bipush 11, 2) := by decide +kernel
theorem dX12_init_147 : decode cX12_init 147 = .ok (.bipush 115, 2) := by decide +kernel
theorem dX12_init_149 : decode cX12_init 149 = .ok (.iastore, 1) := by decide +kernel
theorem dX12_init_150 : decode cX12_init 150 = .ok (.dup, 1) := by decide +kernel
theorem dX12_init_151 : decode cX12_init 151 = .ok (.bipush 12, 2) := by decide +kernel
theorem dX12_init_153 : decode cX12_init 153 = .ok (.bipush 32, 2) := by decide +kernel
theorem dX12_init_155 : decode cX12_init 155 = .ok (.iastore, 1) := by decide +kernel
theorem dX12_init_156 : decode cX12_init 156 = .ok (.dup, 1) := by decide +kernel
theorem dX12_init_157 : decode cX12_init 157 = .ok (.bipush 13, 2) := by decide +kernel
theorem dX12_init_159 : decode cX12_init 159 = .ok (.bipush 116, 2) := by decide +kernel
theorem dX12_init_161 : decode cX12_init 161 = .ok (.iastore, 1) := by decide +kernel
theorem dX12_init_162 : decode cX12_init 162 = .ok (.dup, 1) := by decide +kernel
theorem dX12_init_163 : decode cX12_init 163 = .ok (.bipush 14, 2) := by decide +kernel
theorem dX12_init_165 : decode cX12_init 165 = .ok (.bipush 101, 2) := by decide +kernel
theorem dX12_init_167 : decode cX12_init 167 = .ok (.iastore, 1) := by decide +kernel
theorem dX12_init_168 : decode cX12_init 168 = .ok (.dup, 1) := by decide +kernel
theorem dX12_init_169 : decode cX12_init 169 = .ok (.bipush 15, 2) := by decide +kernel
theorem dX12_init_171 : decode cX12_init 171 = .ok (.bipush 97, 2) := by decide +kernel
theorem dX12_init_173 : decode cX12_init 173 = .ok (.iastore, 1) := by decide +kernel
theorem dX12_init_174 : decode cX12_init 174 = .ok (.dup, 1) := by decide +kernel
theorem dX12_init_175 : decode cX12_init 175 = .ok (.bipush 16, 2) := by decide +kernel
theorem dX12_init_177 : decode cX12_init 177 = .ok (.bipush 114, 2) := by decide +kernel
theorem dX12_init_179 : decode cX12_init 179 = .ok (.iastore, 1) := by decide +kernel
theorem dX12_init_180 : decode cX12_init 180 = .ok (.dup, 1) := by decide +kernel
theorem dX12_init_181 : decode cX12_init 181 = .ok (.bipush 17, 2) := by decide +kernel
theorem dX12_init_183 : decode cX12_init 183 = .ok (.bipush 115, 2) := by decide +kernel
theorem dX12_init_185 : decode cX12_init 185 = .ok (.iastore, 1) := by decide +kernel
theorem dX12_init_186 : decode cX12_init 186 = .ok (.dup, 1) := by decide +kernel
theorem dX12_init_187 : decode cX12_init 187 = .ok (.bipush 18, 2) := by decide +kernel
theorem dX12_init_189 : decode cX12_init 189 = .ok (.bipush 32, 2) := by decide +kernel
theorem dX12_init_191 : decode cX12_init 191 = .ok (.iastore, 1) := by decide +kernel
theorem dX12_init_192 : decode cX12_init 192 = .ok (.dup, 1) := by decide +kernel
theorem dX12_init_193 : decode cX12_init 193 = .ok (.bipush 19, 2) := by decide +kernel
theorem dX12_init_195 : decode cX12_init 195 = .ok (.bipush 119, 2) := by decide +kernel
theorem dX12_init_197 : decode cX12_init 197 = .ok (.iastore, 1) := by decide +kernel
theorem dX12_init_198 : decode cX12_init 198 = .ok (.dup, 1) := by decide +kernel
theorem dX12_init_199 : decode cX12_init 199 = .ok (.bipush 20, 2) := by decide +kernel
theorem dX12_init_201 : decode cX12_init 201 = .ok (.bipush 104, 2) := by decide +kernel
theorem dX12_init_203 : decode cX12_init 203 = .ok (.iastore, 1) := by decide +kernel
theorem dX12_init_204 : decode cX12_init 204 = .ok (.dup, 1) := by decide +kernel
theorem dX12_init_205 : decode cX12_init 205 = .ok (.bipush 21, 2) := by decide +kernel
theorem dX12_init_207 : decode cX12_init 207 = .ok (.bipush 101, 2) := by decide +kernel
theorem dX12_init_209 : decode cX12_init 209 = .ok (.iastore, 1) := by decide +kernel
theorem dX12_init_210 : decode cX12_init 210 = .ok (.dup, 1) := by decide +kernel
theorem dX12_init_211 : decode cX12_init 211 = .ok (.bipush 22, 2) := by decide +kernel
theorem dX12_init_213 : decode cX12_init 213 = .ok (.bipush 110, 2) := by decide +kernel
theorem dX12_init_215 : decode cX12_init 215 = .ok (.iastore, 1) := by decide +kernel
theorem dX12_init_216 : decode cX12_init 216 = .ok (.dup, 1) := by decide +kernel
theorem dX12_init_217 : decode cX12_init 217 = .ok (.bipush 23, 2) := by decide +kernel
theorem dX12_init_219 : decode cX12_init 219 = .ok (.bipush 32, 2) := by decide +kernel
theorem dX12_init_221 : decode cX12_init 221 = .ok (.iastore, 1) := by decide +kernel
theorem dX12_init_222 : decode cX12_init 222 = .ok (.dup, 1) := by decide +kernel
theorem dX12_init_223 : decode cX12_init 223 = .ok (.bipush 24, 2) := by decide +kernel
theorem dX12_init_225 : decode cX12_init 225 = .ok (.bipush 111, 2) := by decide +kernel
theorem dX12_init_227 : decode cX12_init 227 = .ok (.iastore, 1) := by decide +kernel
theorem dX12_init_228 : decode cX12_init 228 = .ok (.dup, 1) := by decide +kernel
theorem dX12_init_229 : decode cX12_init 229 = .ok (.bipush 25, 2) := by decide +kernel
theorem dX12_init_231 : decode cX12_init 231 = .ok (.bipush 114, 2) := by decide +kernel
theorem dX12_init_233 : decode cX12_init 233 = .ok (.iastore, 1) := by decide +kernel
theorem dX12_init_234 : decode cX12_init 234 = .ok (.dup, 1) := by decide +kernel
theorem dX12_init_235 : decode cX12_init 235 = .ok (.bipush 26, 2) := by decide +kernel
theorem dX12_init_237 : decode cX12_init 237 = .ok (.bipush 32, 2) := by decide +kernel
theorem dX12_init_239 : decode cX12_init 239 = .ok (.iastore, 1) := by decide +kernel
theorem dX12_init_240 : decode cX12_init 240 = .ok (.dup, 1) := by decide +kernel
theorem dX12_init_241 : decode cX12_init 241 = .ok (.bipush 27, 2) := by decide +kernel
theorem dX12_init_243 : decode cX12_init 243 = .ok (.bipush 97, 2) := by decide +kernel
theorem dX12_init_245 : decode cX12_init 245 = .ok (.iastore, 1) := by decide +kernel
theorem dX12_init_246 : decode cX12_init 246 = .ok (.dup, 1) := by decide +kernel
theorem dX12_init_247 : decode cX12_init 247 = .ok (.bipush 28, 2) := by decide +kernel
theorem dX12_init_249 : decode cX12_init 249 = .ok (.bipush 110, 2) := by decide +kernel
theorem dX12_init_251 : decode cX12_init 251 = .ok (.iastore, 1) := by decide +kernel
theorem dX12_init_252 : decode cX12_init 252 = .ok (.dup, 1) := by decide +kernel
theorem dX12_init_253 : decode cX12_init 253 = .ok (.bipush 29, 2) := by decide +kernel
theorem dX12_init_255 : decode cX12_init 255 = .ok (.bipush 100, 2) := by decide +kernel
theorem dX12_init_257 : decode cX12_init 257 = .ok (.iastore, 1) := by decide +kernel
theorem dX12_init_258 : decode cX12_init 258 = .ok (.dup, 1) := by decide +kernel
theorem dX12_init_259 : decode cX12_init 259 = .ok (.bipush 30, 2) := by decide +kernel
theorem dX12_init_261 : decode cX12_init 261 = .ok (.bipush 32, 2) := by decide +kernel
theorem dX12_init_263 : decode cX12_init 263 = .ok (.iastore, 1) := by decide +kernel
theorem dX12_init_264 : decode cX12_init 264 = .ok (.dup, 1) := by decide +kernel
theorem dX12_init_265 : decode cX12_init 265 = .ok (.bipush 31, 2) := by decide +kernel
theorem dX12_init_267 : decode cX12_init 267 = .ok (.bipush 110, 2) := by decide +kernel
theorem dX12_init_269 : decode cX12_init 269 = .ok (.iastore, 1) := by decide +kernel
theorem dX12_init_270 : decode cX12_init 270 = .ok (.dup, 1) := by decide +kernel
theorem dX12_init_271 : decode cX12_init 271 = .ok (.bipush 32, 2) := by decide +kernel
theorem dX12_init_273 : decode cX12_init 273 = .ok (.bipush 111, 2) := by decide +kernel
theorem dX12_init_275 : decode cX12_init 275 = .ok (.iastore, 1) := by decide +kernel
theorem dX12_init_276 : decode cX12_init 276 = .ok (.dup, 1) := by decide +kernel
theorem dX12_init_277 : decode cX12_init 277 = .ok (.bipush 33, 2) := by decide +kernel
theorem dX12_init_279 : decode cX12_init 279 = .ok (.bipush 116, 2) := by decide +kernel
theorem dX12_init_281 : decode cX12_init 281 = .ok (.iastore, 1) := by decide +kernel
theorem dX12_init_282 : decode cX12_init 282 = .ok (.dup, 1) := by decide +kernel
theorem dX12_init_283 : decode cX12_init 283 = .ok (.bipush 34, 2) := by decide +kernel
theorem dX12_init_285 : decode cX12_init 285 = .ok (.bipush 32, 2) := by decide +kernel
theorem dX12_init_287 : decode cX12_init 287 = .ok (.iastore, 1) := by decide +kernel
theorem dX12_init_288 : decode cX12_init 288 = .ok (.dup, 1) := by decide +kernel
theorem dX12_init_289 : decode cX12_init 289 = .ok (.bipush 35, 2) := by decide +kernel
theorem dX12_init_291 : decode cX12_init 291 = .ok (.bipush 98, 2) := by decide +kernel
theorem dX12_init_293 : decode cX12_init 293 = .ok (.iastore, 1) := by decide +kernel
theorem dX12_init_294 : decode cX12_init 294 = .ok (.dup, 1) := by decide +kernel
theorem dX12_init_295 : decode cX12_init 295 = .ok (.bipush 36, 2) := by decide +kernel
theorem dX12_init_297 : decode cX12_init 297 = .ok (.bipush 101, 2) := by decide +kernel
theorem dX12_init_299 : decode cX12_init 299 = .ok (.iastore, 1) := by decide +kernel
theorem dX12_init_300 : decode cX12_init 300 = .ok (.dup, 1) := by decide +kernel
theorem dX12_init_301 : decode cX12_init 301 = .ok (.bipush 37, 2) := by decide +kernel
theorem dX12_init_303 : decode cX12_init 303 = .ok (.bipush 97, 2) := by decide +kernel
theorem dX12_init_305 : decode cX12_init 305 = .ok (.iastore, 1) := by decide +kernel
theorem dX12_init_306 : decode cX12_init 306 = .ok (.dup, 1) := by decide +kernel
theorem dX12_init_307 : decode cX12_init 307 = .ok (.bipush 38, 2) := by decide +kernel
theorem dX12_init_309 : decode cX12_init 309 = .ok (.bipush 100, 2) := by decide +kernel
theorem dX12_init_311 : decode cX12_init 311 = .ok (.iastore, 1) := by decide +kernel
theorem dX12_init_312 : decode cX12_init 312 = .ok (.dup, 1) := by decide +kernel
theorem dX12_init_313 : decode cX12_init 313 = .ok (.bipush 39, 2) := by decide +kernel
theorem dX12_init_315 : decode cX12_init 315 = .ok (.bipush 115, 2) := by decide +kernel
theorem dX12_init_317 : decode cX12_init 317 = .ok (.iastore, 1) := by decide +kernel
theorem dX12_init_318 : decode cX12_init 318 = .ok (.dup, 1) := by decide +kernel
theorem dX12_init_319 : decode cX12_init 319 = .ok (.bipush 40, 2) := by decide +kernel
theorem dX12_init_321 : decode cX12_init 321 = .ok (.bipush 32, 2) := by decide +kernel
theorem dX12_init_323 : decode cX12_init 323 = .ok (.iastore, 1) := by decide +kernel
theorem dX12_init_324 : decode cX12_init 324 = .ok (.dup, 1) := by decide +kernel
theorem dX12_init_325 : decode cX12_init 325 = .ok (.bipush 41, 2) := by decide +kernel
theorem dX12_init_327 : decode cX12_init 327 = .ok (.bipush 115, 2) := by decide +kernel
theorem dX12_init_329 : decode cX12_init 329 = .ok (.iastore, 1) := by decide +kernel
theorem dX12_init_330 : decode cX12_init 330 = .ok (.dup, 1) := by decide +kernel
theorem dX12_init_331 : decode cX12_init 331 = .ok (.bipush 42, 2) := by decide +kernel
theorem dX12_init_333 : decode cX12_init 333 = .ok (.bipush 112, 2) := by decide +kernel
theorem dX12_init_335 : decode cX12_init 335 = .ok (.iastore, 1) := by decide +kernel
theorem dX12_init_336 : decode cX12_init 336 = .ok (.dup, 1) := by decide +kernel
theorem dX12_init_337 : decode cX12_init 337 = .ok (.bipush 43, 2) := by decide +kernel
theorem dX12_init_339 : decode cX12_init 339 = .ok (.bipush 117, 2) := by decide +kernel
theorem dX12_init_341 : decode cX12_init 341 = .ok (.iastore, 1) := by decide +kernel
theorem dX12_init_342 : decode cX12_init 342 = .ok (.dup, 1) := by decide +kernel
theorem dX12_init_343 : decode cX12_init 343 = .ok (.bipush 44, 2) := by decide +kernel
theorem dX12_init_345 : decode cX12_init 345 = .ok (.bipush 110, 2) := by decide +kernel
theorem dX12_init_347 : decode cX12_init 347 = .ok (.iastore, 1) := by decide +kernel
theorem dX12_init_348 : decode cX12_init 348 = .ok (.dup, 1) := by decide +kernel
theorem dX12_init_349 : decode cX12_init 349 = .ok (.bipush 45, 2) := by decide +kernel
theorem dX12_init_351 : decode cX12_init 351 = .ok (.bipush 32, 2) := by decide +kernel
theorem dX12_init_353 : decode cX12_init 353 = .ok (.iastore, 1) := by decide +kernel
theorem dX12_init_354 : decode cX12_init 354 = .ok (.dup, 1) := by decide +kernel
theorem dX12_init_355 : decode cX12_init 355 = .ok (.bipush 46, 2) := by decide +kernel
theorem dX12_init_357 : decode cX12_init 357 = .ok (.bipush 112, 2) := by decide +kernel
theorem dX12_init_359 : decode cX12_init 359 = .ok (.iastore, 1) := by decide +kernel
theorem dX12_init_360 : decode cX12_init 360 = .ok (.dup, 1) := by decide +kernel
theorem dX12_init_361 : decode cX12_init 361 = .ok (.bipush 47, 2) := by decide +kernel
theorem dX12_init_363 : decode cX12_init 363 = .ok (.bipush 108, 2) := by decide +kernel
theorem dX12_init_365 : decode cX12_init 365 = .ok (.iastore, 1) := by decide +kernel
theorem dX12_init_366 : decode cX12_init 366 = .ok (.dup, 1) := by decide +kernel
theorem dX12_init_367 : decode cX12_init 367 = .ok (.bipush 48, 2) := by decide +kernel
theorem dX12_init_369 : decode cX12_init 369 = .ok (.bipush 97, 2) := by decide +kernel
theorem dX12_init_371 : decode cX12_init 371 = .ok (.iastore, 1) := by decide +kernel
theorem dX12_init_372 : decode cX12_init 372 = .ok (.dup, 1) := by decide +kernel
theorem dX12_init_373 : decode cX12_init 373 = .ok (.bipush 49, 2) := by decide +kernel
theorem dX12_init_375 : decode cX12_init 375 = .ok (.bipush 99, 2) := by decide +kernel
theorem dX12_init_377 : decode cX12_init 377 = .ok (.iastore, 1) := by decide +kernel
theorem dX12_init_378 : decode cX12_init 378 = .ok (.dup, 1) := by decide +kernel
theorem dX12_init_379 : decode cX12_init 379 = .ok (.bipush 50, 2) := by decide +kernel
theorem dX12_init_381 : decode cX12_init 381 = .ok (.bipush 101, 2) := by decide +kernel
theorem dX12_init_383 : decode cX12_init 383 = .ok (.iastore, 1) := by decide +kernel
theorem dX12_init_384 : decode cX12_init 384 = .ok (.dup, 1) := by decide +kernel
theorem dX12_init_385 : decode cX12_init 385 = .ok (.bipush 51, 2) := by decide +kernel
theorem dX12_init_387 : decode cX12_init 387 = .ok (.bipush 32, 2) := by decide +kernel
theorem dX12_init_389 : decode cX12_init 389 = .ok (.iastore, 1) := by decide +kernel
theorem dX12_init_390 : decode cX12_init 390 = .ok (.dup, 1) := by decide +kernel
theorem dX12_init_391 : decode cX12_init 391 = .ok (.bipush 52, 2) := by decide +kernel
theorem dX12_init_393 : decode cX12_init 393 = .ok (.bipush 110, 2) := by decide +kernel
theorem dX12_init_395 : decode cX12_init 395 = .ok (.iastore, 1) := by decide +kernel
theorem dX12_init_396 : decode cX12_init 396 = .ok (.dup, 1) := by decide +kernel
theorem dX12_init_397 : decode cX12_init 397 = .ok (.bipush 53, 2) := by decide +kernel
theorem dX12_init_399 : decode cX12_init 399 = .ok (.bipush 101, 2) := by decide +kernel
theorem dX12_init_401 : decode cX12_init 401 = .ok (.iastore, 1) := by decide +kernel
theorem dX12_init_402 : decode cX12_init 402 = .ok (.dup, 1) := by decide +kernel
theorem dX12_init_403 : decode cX12_init 403 = .ok (.bipush 54, 2) := by decide +kernel
theorem dX12_init_405 : decode cX12_init 405 = .ok (.bipush 97, 2) := by decide +kernel
theorem dX12_init_407 : decode cX12_init 407 = .ok (.iastore, 1) := by decide +kernel
theorem dX12_init_408 : decode cX12_init 408 = .ok (.dup, 1) := by decide +kernel
theorem dX12_init_409 : decode cX12_init 409 = .ok (.bipush 55, 2) := by decide +kernel
theorem dX12_init_411 : decode cX12_init 411 = .ok (.bipush 114, 2) := by decide +kernel
theorem dX12_init_413 : decode cX12_init 413 = .ok (.iastore, 1) := by decide +kernel
theorem dX12_init_414 : decode cX12_init 414 = .ok (.dup, 1) := by decide +kernel
theorem dX12_init_415 : decode cX12_init 415 = .ok (.bipush 56, 2) := by decide +kernel
theorem dX12_init_417 : decode cX12_init 417 = .ok (.bipush 32, 2) := by decide +kernel
theorem dX12_init_419 : decode cX12_init 419 = .ok (.iastore, 1) := by decide +kernel
theorem dX12_init_420 : decode cX12_init 420 = .ok (.dup, 1) := by decide +kernel
theorem dX12_init_421 : decode cX12_init 421 = .ok (.bipush 57, 2) := by decide +kernel
theorem dX12_init_423 : decode cX12_init 423 = .ok (.bipush 116, 2) := by decide +kernel
theorem dX12_init_425 : decode cX12_init 425 = .ok (.iastore, 1) := by decide +kernel
theorem dX12_init_426 : decode cX12_init 426 = .ok (.dup, 1) := by decide +kernel
theorem dX12_init_427 : decode cX12_init 427 = .ok (.bipush 58, 2) := by decide +kernel
theorem dX12_init_429 : decode cX12_init 429 = .ok (.bipush 111, 2) := by decide +kernel
theorem dX12_init_431 : decode cX12_init 431 = .ok (.iastore, 1) := by decide +kernel
theorem dX12_init_432 : decode cX12_init 432 = .ok (.dup, 1) := by decide +kernel
theorem dX12_init_433 : decode cX12_init 433 = .ok (.bipush 59, 2) := by decide +kernel
theorem dX12_init_435 : decode cX12_init 435 = .ok (.bipush 114, 2) := by decide +kernel
theorem dX12_init_437 : decode cX12_init 437 = .ok (.iastore, 1) := by decide +kernel
theorem dX12_init_438 : decode cX12_init 438 = .ok (.dup, 1) := by decide +kernel
theorem dX12_init_439 : decode cX12_init 439 = .ok (.bipush 60, 2) := by decide +kernel
theorem dX12_init_441 : decode cX12_init 441 = .ok (.bipush 110, 2) := by decide +kernel
theorem dX12_init_443 : decode cX12_init 443 = .ok (.iastore, 1) := by decide +kernel
theorem dX12_init_444 : decode cX12_init 444 = .ok (.dup, 1) := by decide +kernel
theorem dX12_init_445 : decode cX12_init 445 = .ok (.bipush 61, 2) := by decide +kernel
theorem dX12_init_447 : decode cX12_init 447 = .ok (.bipush 32, 2) := by decide +kernel
theorem dX12_init_449 : decode cX12_init 449 = .ok (.iastore, 1) := by decide +kernel
theorem dX12_init_450 : decode cX12_init 450 = .ok (.dup, 1) := by decide +kernel
theorem dX12_init_451 : decode cX12_init 451 = .ok (.bipush 62, 2) := by decide +kernel
theorem dX12_init_453 : decode cX12_init 453 = .ok (.bipush 109, 2) := by decide +kernel
theorem dX12_init_455 : decode cX12_init 455 = .ok (.iastore, 1) := by decide +kernel
theorem dX12_init_456 : decode cX12_init 456 = .ok (.dup, 1) := by decide +kernel
theorem dX12_init_457 : decode cX12_init 457 = .ok (.bipush 63, 2) := by decide +kernel
theorem dX12_init_459 : decode cX12_init 459 = .ok (.bipush 105, 2) := by decide +kernel
theorem dX12_init_461 : decode cX12_init 461 = .ok (.iastore, 1) := by decide +kernel
theorem dX12_init_462 : decode cX12_init 462 = .ok (.dup, 1) := by decide +kernel
theorem dX12_init_463 : decode cX12_init 463 = .ok (.bipush 64, 2) := by decide +kernel
theorem dX12_init_465 : decode cX12_init 465 = .ok (.bipush 115, 2) := by decide +kernel
theorem dX12_init_467 : decode cX12_init 467 = .ok (.iastore, 1) := by decide +kernel
theorem dX12_init_468 : decode cX12_init 468 = .ok (.dup, 1) := by decide +kernel
theorem dX12_init_469 : decode cX12_init 469 = .ok (.bipush 65, 2) := by decide +kernel
theorem dX12_init_471 : decode cX12_init 471 = .ok (.bipush 116, 2) := by decide +kernel
theorem dX12_init_473 : decode cX12_init 473 = .ok (.iastore, 1) := by decide +kernel
theorem dX12_init_474 : decode cX12_init 474 = .ok (.dup, 1) := by decide +kernel
theorem dX12_init_475 : decode cX12_init 475 = .ok (.bipush 66, 2) := by decide +kernel
theorem dX12_init_477 : decode cX12_init 477 = .ok (.bipush 32, 2) := by decide +kernel
theorem dX12_init_479 : decode cX12_init 479 = .ok (.iastore, 1) := by decide +kernel
theorem dX12_init_480 : decode cX12_init 480 = .ok (.dup, 1) := by decide +kernel
theorem dX12_init_481 : decode cX12_init 481 = .ok (.bipush 67, 2) := by decide +kernel
theorem dX12_init_483 : decode cX12_init 483 = .ok (.bipush 115, 2) := by decide +kernel
theorem dX12_init_485 : decode cX12_init 485 = .ok (.iastore, 1) := by decide +kernel
theorem dX12_init_486 : decode cX12_init 486 = .ok (.dup, 1) := by decide +kernel
theorem dX12_init_487 : decode cX12_init 487 = .ok (.bipush 68, 2) := by decide +kernel
theorem dX12_init_489 : decode cX12_init 489 = .ok (.bipush 117, 2) := by decide +kernel
theorem dX12_init_491 : decode cX12_init 491 = .ok (.iastore, 1) := by decide +kernel
theorem dX12_init_492 : decode cX12_init 492 = .ok (.dup, 1) := by decide +kernel
theorem dX12_init_493 : decode cX12_init 493 = .ok (.bipush 69, 2) := by decide +kernel
theorem dX12_init_495 : decode cX12_init 495 = .ok (.bipush 110, 2) := by decide +kernel
theorem dX12_init_497 : decode cX12_init 497 = .ok (.iastore, 1) := by decide +kernel
theorem dX12_init_498 : decode cX12_init 498 = .ok (.dup, 1) := by decide +kernel
theorem dX12_init_499 : decode cX12_init 499 = .ok (.bipush 70, 2) := by decide +kernel
theorem dX12_init_501 : decode cX12_init 501 = .ok (.bipush 32, 2) := by decide +kernel
theorem dX12_init_503 : decode cX12_init 503 = .ok (.iastore, 1) := by decide +kernel
theorem dX12_init_504 : decode cX12_init 504 = .ok (.dup, 1) := by decide +kernel
theorem dX12_init_505 : decode cX12_init 505 = .ok (.bipush 71, 2) := by decide +kernel
theorem dX12_init_507 : decode cX12_init 507 = .ok (.bipush 119, 2) := by decide +kernel
theorem dX12_init_509 : decode cX12_init 509 = .ok (.iastore, 1) := by decide +kernel
theorem dX12_init_510 : decode cX12_init 510 = .ok (.dup, 1) := by decide +kernel
theorem dX12_init_511 : decode cX12_init 511 = .ok (.bipush 72, 2) := by decide +kernel
theorem dX12_init_513 : decode cX12_init 513 = .ok (.bipush 105, 2) := by decide +kernel
theorem dX12_init_515 : decode cX12_init 515 = .ok (.iastore, 1) := by decide +kernel
theorem dX12_init_516 : decode cX12_init 516 = .ok (.dup, 1) := by decide +kernel
theorem dX12_init_517 : decode cX12_init 517 = .ok (.bipush 73, 2) := by decide +kernel
theorem dX12_init_519 : decode cX12_init 519 = .ok (.bipush 110, 2) := by decide +kernel
theorem dX12_init_521 : decode cX12_init 521 = .ok (.iastore, 1) := by decide +kernel
theorem dX12_init_522 : decode cX12_init 522 = .ok (.dup, 1) := by decide +kernel
theorem dX12_init_523 : decode cX12_init 523 = .ok (.bipush 74, 2) := by decide +kernel
theorem dX12_init_525 : decode cX12_init 525 = .ok (.bipush 100, 2) := by decide +kernel
theorem dX12_init_527 : decode cX12_init 527 = .ok (.iastore, 1) := by decide +kernel
theorem dX12_init_528 : decode cX12_init 528 = .ok (.dup, 1) := by decide +kernel
theorem dX12_init_529 : decode cX12_init 529 = .ok (.bipush 75, 2) := by decide +kernel
theorem dX12_init_531 : decode cX12_init 531 = .ok (.bipush 32, 2) := by decide +kernel
theorem dX12_init_533 : decode cX12_init 533 = .ok (.iastore, 1) := by decide +kernel
theorem dX12_init_534 : decode cX12_init 534 = .ok (.dup, 1) := by decide +kernel
theorem dX12_init_535 : decode cX12_init 535 = .ok (.bipush 76, 2) := by decide +kernel
theorem dX12_init_537 : decode cX12_init 537 = .ok (.bipush 109, 2) := by decide +kernel
theorem dX12_init_539 : decode cX12_init 539 = .ok (.iastore, 1) := by decide +kernel
theorem dX12_init_540 : decode cX12_init 540 = .ok (.dup, 1) := by decide +kernel
theorem dX12_init_541 : decode cX12_init 541 = .ok (.bipush 77, 2) := by decide +kernel
theorem dX12_init_543 : decode cX12_init 543 = .ok (.bipush 105, 2) := by decide +kernel
theorem dX12_init_545 : decode cX12_init 545 = .ok (.iastore, 1) := by decide +kernel
theorem dX12_init_546 : decode cX12_init 546 = .ok (.dup, 1) := by decide +kernel
theorem dX12_init_547 : decode cX12_init 547 = .ok (.bipush 78, 2) := by decide +kernel
theorem dX12_init_549 : decode cX12_init 549 = .ok (.bipush 110, 2) := by decide +kernel
theorem dX12_init_551 : decode cX12_init 551 = .ok (.iastore, 1) := by decide +kernel
theorem dX12_init_552 : decode cX12_init 552 = .ok (.dup, 1) := by decide +kernel
theorem dX12_init_553 : decode cX12_init 553 = .ok (.bipush 79, 2) := by decide +kernel
theorem dX12_init_555 : decode cX12_init 555 = .ok (.bipush 117, 2) := by decide +kernel
theorem dX12_init_557 : decode cX12_init 557 = .ok (.iastore, 1) := by decide +kernel
theorem dX12_init_558 : decode cX12_init 558 = .ok (.dup, 1) := by decide +kernel
theorem dX12_init_559 : decode cX12_init 559 = .ok (.bipush 80, 2) := by decide +kernel
theorem dX12_init_561 : decode cX12_init 561 = .ok (.bipush 116, 2) := by decide +kernel
theorem dX12_init_563 : decode cX12_init 563 = .ok (.iastore, 1) := by decide +kernel
theorem dX12_init_564 : decode cX12_init 564 = .ok (.dup, 1) := by decide +kernel
theorem dX12_init_565 : decode cX12_init 565 = .ok (.bipush 81, 2) := by decide +kernel
theorem dX12_init_567 : decode cX12_init 567 = .ok (.bipush 101, 2) := by decide +kernel
theorem dX12_init_569 : decode cX12_init 569 = .ok (.iastore, 1) := by decide +kernel
theorem dX12_init_570 : decode cX12_init 570 = .ok (.dup, 1) := by decide +kernel
theorem dX12_init_571 : decode cX12_init 571 = .ok (.bipush 82, 2) := by decide +kernel
theorem dX12_init_573 : decode cX12_init 573 = .ok (.bipush 32, 2) := by decide +kernel
theorem dX12_init_575 : decode cX12_init 575 = .ok (.iastore, 1) := by decide +kernel
theorem dX12_init_576 : decode cX12_init 576 = .ok (.dup, 1) := by decide +kernel
theorem dX12_init_577 : decode cX12_init 577 = .ok (.bipush 83, 2) := by decide +kernel
theorem dX12_init_579 : decode cX12_init 579 = .ok (.bipush 97, 2) := by decide +kernel
theorem dX12_init_581 : decode cX12_init 581 = .ok (.iastore, 1) := by decide +kernel
theorem dX12_init_582 : decode cX12_init 582 = .ok (.dup, 1) := by decide +kernel
theorem dX12_init_583 : decode cX12_init 583 = .ok (.bipush 84, 2) := by decide +kernel
theorem dX12_init_585 : decode cX12_init 585 = .ok (.bipush 116, 2) := by decide +kernel
theorem dX12_init_587 : decode cX12_init 587 = .ok (.iastore, 1) := by decide +kernel
theorem dX12_init_588 : decode cX12_init 588 = .ok (.dup, 1) := by decide +kernel
theorem dX12_init_589 : decode cX12_init 589 = .ok (.bipush 85, 2) := by decide +kernel
theorem dX12_init_591 : decode cX12_init 591 = .ok (.bipush 32, 2) := by decide +kernel
theorem dX12_init_593 : decode cX12_init 593 = .ok (.iastore, 1) := by decide +kernel
theorem dX12_init_594 : decode cX12_init 594 = .ok (.dup, 1) := by decide +kernel
theorem dX12_init_595 : decode cX12_init 595 = .ok (.bipush 86, 2) := by decide +kernel
theorem dX12_init_597 : decode cX12_init 597 = .ok (.bipush 103, 2) := by decide +kernel
theorem dX12_init_599 : decode cX12_init 599 = .ok (.iastore, 1) := by decide +kernel
theorem dX12_init_600 : decode cX12_init 600 = .ok (.dup, 1) := by decide +kernel
theorem dX12_init_601 : decode cX12_init 601 = .ok (.bipush 87, 2) := by decide +kernel
theorem dX12_init_603 : decode cX12_init 603 = .ok (.bipush 97, 2) := by decide +kernel
theorem dX12_init_605 : decode cX12_init 605 = .ok (.iastore, 1) := by decide +kernel
theorem dX12_init_606 : decode cX12_init 606 = .ok (.dup, 1) := by decide +kernel
theorem dX12_init_607 : decode cX12_init 607 = .ok (.bipush 88, 2) := by decide +kernel
theorem dX12_init_609 : decode cX12_init 609 = .ok (.bipush 116, 2) := by decide +kernel
theorem dX12_init_611 : decode cX12_init 611 = .ok (.iastore, 1) := by decide +kernel
theorem dX12_init_612 : decode cX12_init 612 = .ok (.dup, 1) := by decide +kernel
theorem dX12_init_613 : decode cX12_init 613 = .ok (.bipush 89, 2) := by decide +kernel
theorem dX12_init_615 : decode cX12_init 615 = .ok (.bipush 104, 2) := by decide +kernel
theorem dX12_init_617 : decode cX12_init 617 = .ok (.iastore, 1) := by decide +kernel
theorem dX12_init_618 : decode cX12_init 618 = .ok (.dup, 1) := by decide +kernel
theorem dX12_init_619 : decode cX12_init 619 = .ok (.bipush 90, 2) := by decide +kernel
theorem dX12_init_621 : decode cX12_init 621 = .ok (.bipush 101, 2) := by decide +kernel
theorem dX12_init_623 : decode cX12_init 623 = .ok (.iastore, 1) := by decide +kernel
theorem dX12_init_624 : decode cX12_init 624 = .ok (.dup, 1) := by decide +kernel
theorem dX12_init_625 : decode cX12_init 625 = .ok (.bipush 91, 2) := by decide +kernel
theorem dX12_init_627 : decode cX12_init 627 = .ok (.bipush 114, 2) := by decide +kernel
theorem dX12_init_629 : decode cX12_init 629 = .ok (.iastore, 1) := by decide +kernel
theorem dX12_init_630 : decode cX12_init 630 = .ok (.dup, 1) := by decide +kernel
theorem dX12_init_631 : decode cX12_init 631 = .ok (.bipush 92, 2) := by decide +kernel
theorem dX12_init_633 : decode cX12_init 633 = .ok (.bipush 101, 2) := by decide +kernel
theorem dX12_init_635 : decode cX12_init 635 = .ok (.iastore, 1) := by decide +kernel
theorem dX12_init_636 : decode cX12_init 636 = .ok (.dup, 1) := by decide +kernel
theorem dX12_init_637 : decode cX12_init 637 = .ok (.bipush 93, 2) := by decide +kernel
theorem dX12_init_639 : decode cX12_init 639 = .ok (.bipush 114, 2) := by decide +kernel
theorem dX12_init_641 : decode cX12_init 641 = .ok (.iastore, 1) := by decide +kernel
theorem dX12_init_642 : decode cX12_init 642 = .ok (.dup, 1) := by decide +kernel
theorem dX12_init_643 : decode cX12_init 643 = .ok (.bipush 94, 2) := by decide +kernel
theorem dX12_init_645 : decode cX12_init 645 = .ok (.bipush 32, 2) := by decide +kernel
theorem dX12_init_647 : decode cX12_init 647 = .ok (.iastore, 1) := by decide +kernel
theorem dX12_init_648 : decode cX12_init 648 = .ok (.dup, 1) := by decide +kernel
theorem dX12_init_649 : decode cX12_init 649 = .ok (.bipush 95, 2) := by decide +kernel
theorem dX12_init_651 : decode cX12_init 651 = .ok (.bipush 103, 2) := by decide +kernel
theorem dX12_init_653 : decode cX12_init 653 = .ok (.iastore, 1) := by decide +kernel
theorem dX12_init_654 : decode cX12_init 654 = .ok (.dup, 1) := by decide +kernel
theorem dX12_init_655 : decode cX12_init 655 = .ok (.bipush 96, 2) := by decide +kernel
theorem dX12_init_657 : decode cX12_init 657 = .ok (.bipush 111, 2) := by decide +kernel
theorem dX12_init_659 : decode cX12_init 659 = .ok (.iastore, 1) := by decide +kernel
theorem dX12_init_660 : decode cX12_init 660 = .ok (.dup, 1) := by decide +kernel
theorem dX12_init_661 : decode cX12_init 661 = .ok (.bipush 97, 2) := by decide +kernel
theorem dX12_init_663 : decode cX12_init 663 = .ok (.bipush 32, 2) := by decide +kernel
theorem dX12_init_665 : decode cX12_init 665 = .ok (.iastore, 1) := by decide +kernel
theorem dX12_init_666 : decode cX12_init 666 = .ok (.dup, 1) := by decide +kernel
theorem dX12_init_667 : decode cX12_init 667 = .ok (.bipush 98, 2) := by decide +kernel
theorem dX12_init_669 : decode cX12_init 669 = .ok (.bipush 116, 2) := by decide +kernel
theorem dX12_init_671 : decode cX12_init 671 = .ok (.iastore, 1) := by decide +kernel
theorem dX12_init_672 : decode cX12_init 672 = .ok (.dup, 1) := by decide +kernel
theorem dX12_init_673 : decode cX12_init 673 = .ok (.bipush 99, 2) := by decide +kernel
theorem dX12_init_675 : decode cX12_init 675 = .ok (.bipush 97, 2) := by decide +kernel
theorem dX12_init_677 : decode cX12_init 677 = .ok (.iastore, 1) := by decide +kernel
theorem dX12_init_678 : decode cX12_init 678 = .ok (.dup, 1) := by decide +kernel
theorem dX12_init_679 : decode cX12_init 679 = .ok (.bipush 100, 2) := by decide +kernel
theorem dX12_init_681 : decode cX12_init 681 = .ok (.bipush 107, 2) := by decide +kernel
theorem dX12_init_683 : decode cX12_init 683 = .ok (.iastore, 1) := by decide +kernel
theorem dX12_init_684 : decode cX12_init 684 = .ok (.dup, 1) := by decide +kernel
theorem dX12_init_685 : decode cX12_init 685 = .ok (.bipush 101, 2) := by decide +kernel
theorem dX12_init_687 : decode cX12_init 687 = .ok (.bipush 101, 2) := by decide +kernel
theorem dX12_init_689 : decode cX12_init 689 = .ok (.iastore, 1) := by decide +kernel
theorem dX12_init_690 : decode cX12_init 690 = .ok (.dup, 1) := by decide +kernel
theorem dX12_init_691 : decode cX12_init 691 = .ok (.bipush 102, 2) := by decide +kernel
theorem dX12_init_693 : decode cX12_init 693 = .ok (.bipush 32, 2) := by decide +kernel
theorem dX12_init_695 : decode cX12_init 695 = .ok (.iastore, 1) := by decide +kernel
theorem dX12_init_696 : decode cX12_init 696 = .ok (.dup, 1) := by decide +kernel
theorem dX12_init_697 : decode cX12_init 697 = .ok (.bipush 103, 2) := by decide +kernel
theorem dX12_init_699 : decode cX12_init 699 = .ok (.bipush 115, 2) := by decide +kernel
theorem dX12_init_701 : decode cX12_init 701 = .ok (.iastore, 1) := by decide +kernel
theorem dX12_init_702 : decode cX12_init 702 = .ok (.dup, 1) := by decide +kernel
theorem dX12_init_703 : decode cX12_init 703 = .ok (.bipush 104, 2) := by decide +kernel
theorem dX12_init_705 : decode cX12_init 705 = .ok (.bipush 101, 2) := by decide +kernel
theorem dX12_init_707 : decode cX12_init 707 = .ok (.iastore, 1) := by decide +kernel
theorem dX12_init_708 : decode cX12_init 708 = .ok (.dup, 1) := by decide +kernel
theorem dX12_init_709 : decode cX12_init 709 = .ok (.bipush 105, 2) := by decide +kernel
theorem dX12_init_711 : decode cX12_init 711 = .ok (.bipush 108, 2) := by decide +kernel
theorem dX12_init_713 : decode cX12_init 713 = .ok (.iastore, 1) := by decide +kernel
theorem dX12_init_714 : decode cX12_init 714 = .ok (.dup, 1) := by decide +kernel
theorem dX12_init_715 : decode cX12_init 715 = .ok (.bipush 106, 2) := by decide +kernel
theorem dX12_init_717 : decode cX12_init 717 = .ok (.bipush 108, 2) := by decide +kernel
theorem dX12_init_719 : decode cX12_init 719 = .ok (.iastore, 1) := by decide +kernel
theorem dX12_init_720 : decode cX12_init 720 = .ok (.dup, 1) := by decide +kernel
theorem dX12_init_721 : decode cX12_init 721 = .ok (.bipush 107, 2) := by decide +kernel
theorem dX12_init_723 : decode cX12_init 723 = .ok (.bipush 32, 2) := by decide +kernel
theorem dX12_init_725 : decode cX12_init 725 = .ok (.iastore, 1) := by decide +kernel
theorem dX12_init_726 : decode cX12_init 726 = .ok (.dup, 1) := by decide +kernel
theorem dX12_init_727 : decode cX12_init 727 = .ok (.bipush 108, 2) := by decide +kernel
theorem dX12_init_729 : decode cX12_init 729 = .ok (.bipush 115, 2) := by decide +kernel
theorem dX12_init_731 : decode cX12_init 731 = .ok (.iastore, 1) := by decide +kernel
theorem dX12_init_732 : decode cX12_init 732 = .ok (.dup, 1) := by decide +kernel
theorem dX12_init_733 : decode cX12_init 733 = .ok (.bipush 109, 2) := by decide +kernel
theorem dX12_init_735 : decode cX12_init 735 = .ok (.bipush 112, 2) := by decide +kernel
theorem dX12_init_737 : decode cX12_init 737 = .ok (.iastore, 1) := by decide +kernel
theorem dX12_init_738 : decode cX12_init 738 = .ok (.dup, 1) := by decide +kernel
theorem dX12_init_739 : decode cX12_init 739 = .ok (.bipush 110, 2) := by decide +kernel
theorem dX12_init_741 : decode cX12_init 741 = .ok (.bipush 105, 2) := by decide +kernel
theorem dX12_init_743 : decode cX12_init 743 = .ok (.iastore, 1) := by decide +kernel
theorem dX12_init_744 : decode cX12_init 744 = .ok (.dup, 1) := by decide +kernel
theorem dX12_init_745 : decode cX12_init 745 = .ok (.bipush 111, 2) := by decide +kernel
theorem dX12_init_747 : decode cX12_init 747 = .ok (.bipush 110, 2) := by decide +kernel
theorem dX12_init_749 : decode cX12_init 749 = .ok (.iastore, 1) := by decide +kernel
theorem dX12_init_750 : decode cX12_init 750 = .ok (.dup, 1) := by decide +kernel
theorem dX12_init_751 : decode cX12_init 751 = .ok (.bipush 112, 2) := by decide +kernel
theorem dX12_init_753 : decode cX12_init 753 = .ok (.bipush 32, 2) := by decide +kernel
theorem dX12_init_755 : decode cX12_init 755 = .ok (.iastore, 1) := by decide +kernel
theorem dX12_init_756 : decode cX12_init 756 = .ok (.dup, 1) := by decide +kernel
theorem dX12_init_757 : decode cX12_init 757 = .ok (.bipush 113, 2) := by decide +kernel
theorem dX12_init_759 : decode cX12_init 759 = .ok (.bipush 119, 2) := by decide +kernel
theorem dX12_init_761 : decode cX12_init 761 = .ok (.iastore, 1) := by decide +kernel
theorem dX12_init_762 : decode cX12_init 762 = .ok (.dup, 1) := by decide +kernel
theorem dX12_init_763 : decode cX12_init 763 = .ok (.bipush 114, 2) := by decide +kernel
theorem dX12_init_765 : decode cX12_init 765 = .ok (.bipush 101, 2) := by decide +kernel
theorem dX12_init_767 : decode cX12_init 767 = .ok (.iastore, 1) := by decide +kernel
theorem dX12_init_768 : decode cX12_init 768 = .ok (.dup, 1) := by decide +kernel
theorem dX12_init_769 : decode cX12_init 769 = .ok (.bipush 115, 2) := by decide +kernel
theorem dX12_init_771 : decode cX12_init 771 = .ok (.bipush 98, 2) := by decide +kernel
theorem dX12_init_773 : decode cX12_init 773 = .ok (.iastore, 1) := by decide +kernel
theorem dX12_init_774 : decode cX12_init 774 = .ok (.dup, 1) := by decide +kernel
theorem dX12_init_775 : decode cX12_init 775 = .ok (.bipush 116, 2) := by decide +kernel
theorem dX12_init_777 : decode cX12_init 777 = .ok (.bipush 32, 2) := by decide +kernel
theorem dX12_init_779 : decode cX12_init 779 = .ok (.iastore, 1) := by decide +kernel
theorem dX12_init_780 : decode cX12_init 780 = .ok (.putfield 37, 3) := by decide +kernel
theorem dX12_init_783 : decode cX12_init 783 = .ok (.aload_n 0, 1) := by decide +kernel
theorem dX12_init_784 : decode cX12_init 784 = .ok (.iconst 2, 1) := by decide +kernel
theorem dX12_init_785 : decode cX12_init 785 = .ok (.newarray .int, 2) := by decide +kernel
theorem dX12_init_787 : decode cX12_init 787 = .ok (.putfield 40, 3) := by decide +kernel
theorem dX12_init_790 : decode cX12_init 790 = .ok (.aload_n 0, 1) := by decide +kernel
theorem dX12_init_791 : decode cX12_init 791 = .ok (.bipush 48, 2) := by decide +kernel
theorem dX12_init_793 : decode cX12_init 793 = .ok (.newarray .int, 2) := by decide +kernel
theorem dX12_init_795 : decode cX12_init 795 = .ok (.putfield 43, 3) := by decide +kernel
theorem dX12_init_798 : decode cX12_init 798 = .ok (.aload_n 0, 1) := by decide +kernel
theorem dX12_init_799 : decode cX12_init 799 = .ok (.bipush 48, 2) := by decide +kernel
theorem dX12_init_801 : decode cX12_init 801 = .ok (.newarray .int, 2) := by decide +kernel
theorem dX12_init_803 : decode cX12_init 803 = .ok (.putfield 46, 3) := by decide +kernel
theorem dX12_init_806 : decode cX12_init 806 = .ok (.aload_n 0, 1) := by decide +kernel
theorem dX12_init_807 : decode cX12_init 807 = .ok (.bipush 48, 2) := by decide +kernel
theorem dX12_init_809 : decode cX12_init 809 = .ok (.newarray .int, 2) := by decide +kernel
theorem dX12_init_811 : decode cX12_init 811 = .ok (.putfield 49, 3) := by decide +kernel
theorem dX12_init_814 : decode cX12_init 814 = .ok (.aload_n 0, 1) := by decide +kernel
theorem dX12_init_815 : decode cX12_init 815 = .ok (.bipush 48, 2) := by decide +kernel
theorem dX12_init_817 : decode cX12_init 817 = .ok (.newarray .int, 2) := by decide +kernel
theorem dX12_init_819 : decode cX12_init 819 = .ok (.putfield 52, 3) := by decide +kernel
theorem dX12_init_822 : decode cX12_init 822 = .ok (.aload_n 0, 1) := by decide +kernel
theorem dX12_init_823 : decode cX12_init 823 = .ok (.sipush 1200, 3) := by decide +kernel
theorem dX12_init_826 : decode cX12_init 826 = .ok (.newarray .int, 2) := by decide +kernel
theorem dX12_init_828 : decode cX12_init 828 = .ok (.putfield 55, 3) := by decide +kernel
theorem dX12_init_831 : decode cX12_init 831 = .ok (.aload_n 0, 1) := by decide +kernel
theorem dX12_init_832 : decode cX12_init 832 = .ok (.sipush 1200, 3) := by decide +kernel
theorem dX12_init_835 : decode cX12_init 835 = .ok (.newarray .int, 2) := by decide +kernel
theorem dX12_init_837 : decode cX12_init 837 = .ok (.putfield 58, 3) := by decide +kernel
theorem dX12_init_840 : decode cX12_init 840 = .ok (.aload_n 0, 1) := by decide +kernel
theorem dX12_init_841 : decode cX12_init 841 = .ok (.bipush 40, 2) := by decide +kernel
theorem dX12_init_843 : decode cX12_init 843 = .ok (.newarray .int, 2) := by decide +kernel
theorem dX12_init_845 : decode cX12_init 845 = .ok (.putfield 61, 3) := by decide +kernel
theorem dX12_init_848 : decode cX12_init 848 = .ok (.aload_n 0, 1) := by decide +kernel
theorem dX12_init_849 : decode cX12_init 849 = .ok (.iconst (-1), 1) := by decide +kernel
theorem dX12_init_850 : decode cX12_init 850 = .ok (.putfield 64, 3) := by decide +kernel
theorem dX12_init_853 : decode cX12_init 853 = .ok (.aload_n 0, 1) := by decide +kernel
theorem dX12_init_854 : decode cX12_init 854 = .ok (.sipush 160, 3) := by decide +kernel
theorem dX12_init_857 : decode cX12_init 857 = .ok (.newarray .int, 2) := by decide +kernel
theorem dX12_init_859 : decode cX12_init 859 = .ok (.putfield 68, 3) := by decide +kernel
theorem dX12_init_862 : decode cX12_init 862 = .ok (.aload_n 0, 1) := by decide +kernel
theorem dX12_init_863 : decode cX12_init 863 = .ok (.bipush 96, 2) := by decide +kernel
theorem dX12_init_865 : decode cX12_init 865 = .ok (.newarray .int, 2) := by decide +kernel
theorem dX12_init_867 : decode cX12_init 867 = .ok (.putfield 71, 3) := by decide +kernel
theorem dX12_init_870 : decode cX12_init 870 = .ok (.aload_n 0, 1) := by decide +kernel
theorem dX12_init_871 : decode cX12_init 871 = .ok (.bipush 24, 2) := by decide +kernel
theorem dX12_init_873 : decode cX12_init 873 = .ok (.newarray .int, 2) := by decide +kernel
theorem dX12_init_875 : decode cX12_init 875 = .ok (.putfield 74, 3) := by decide +kernel
theorem dX12_init_878 : decode cX12_init 878 = .ok (.aload_n 0, 1) := by decide +kernel
theorem dX12_init_879 : decode cX12_init 879 = .ok (.bipush 9, 2) := by decide +kernel
theorem dX12_init_881 : decode cX12_init 881 = .ok (.newarray .int, 2) := by decide +kernel
theorem dX12_init_883 : decode cX12_init 883 = .ok (.putfield 77, 3) := by decide +kernel
theorem dX12_init_886 : decode cX12_init 886 = .ok (.aload_n 0, 1) := by decide +kernel
theorem dX12_init_887 : decode cX12_init 887 = .ok (.sipush 420, 3) := by decide +kernel
theorem dX12_init_890 : decode cX12_init 890 = .ok (.newarray .int, 2) := by decide +kernel
theorem dX12_init_892 : decode cX12_init 892 = .ok (.putfield 80, 3) := by decide +kernel
theorem dX12_init_895 : decode cX12_init 895 = .ok (.aload_n 0, 1) := by decide +kernel
theorem dX12_init_896 : decode cX12_init 896 = .ok (.bipush 12, 2) := by decide +kernel
theorem dX12_init_898 : decode cX12_init 898 = .ok (.newarray .int, 2) := by decide +kernel
theorem dX12_init_900 : decode cX12_init 900 = .ok (.putfield 83, 3) := by decide +kernel
theorem dX12_init_903 : decode cX12_init 903 = .ok (.aload_n 0, 1) := by decide +kernel
theorem dX12_init_904 : decode cX12_init 904 = .ok (.bipush 12, 2) := by decide +kernel
theorem dX12_init_906 : decode cX12_init 906 = .ok (.newarray .int, 2) := by decide +kernel
theorem dX12_init_908 : decode cX12_init 908 = .ok (.putfield 86, 3) := by decide +kernel
theorem dX12_init_911 : decode cX12_init 911 = .ok (.aload_n 0, 1) := by decide +kernel
theorem dX12_init_912 : decode cX12_init 912 = .ok (.bipush 9, 2) := by decide +kernel
theorem dX12_init_914 : decode cX12_init 914 = .ok (.newarray .int, 2) := by decide +kernel
theorem dX12_init_916 : decode cX12_init 916 = .ok (.putfield 89, 3) := by decide +kernel
theorem dX12_init_919 : decode cX12_init 919 = .ok (.aload_n 0, 1) := by decide +kernel
theorem dX12_init_920 : decode cX12_init 920 = .ok (.bipush 8, 2) := by decide +kernel
theorem dX12_init_922 : decode cX12_init 922 = .ok (.newarray .int, 2) := by decide +kernel
theorem dX12_init_924 : decode cX12_init 924 = .ok (.putfield 92, 3) := by decide +kernel
theorem dX12_init_927 : decode cX12_init 927 = .ok (.aload_n 0, 1) := by decide +kernel
theorem dX12_init_928 : decode cX12_init 928 = .ok (.bipush 8, 2) := by decide +kernel
theorem dX12_init_930 : decode cX12_init 930 = .ok (.newarray .int, 2) := by decide +kernel
theorem dX12_init_932 : decode cX12_init 932 = .ok (.putfield 95, 3) := by decide +kernel
theorem dX12_init_935 : decode cX12_init 935 = .ok (.aload_n 0, 1) := by decide +kernel
theorem dX12_init_936 : decode cX12_init 936 = .ok (.bipush 6, 2) := by decide +kernel
theorem dX12_init_938 : decode cX12_init 938 = .ok (.newarray .int, 2) := by decide +kernel
theorem dX12_init_940 : decode cX12_init 940 = .ok (.putfield 98, 3) := by decide +kernel
theorem dX12_init_943 : decode cX12_init 943 = .ok (.aload_n 0, 1) := by decide +kernel
theorem dX12_init_944 : decode cX12_init 944 = .ok (.bipush 6, 2) := by decide +kernel
theorem dX12_init_946 : decode cX12_init 946 = .ok (.newarray .int, 2) := by decide +kernel
theorem dX12_init_948 : decode cX12_init 948 = .ok (.putfield 101, 3) := by decide +kernel
theorem dX12_init_951 : decode cX12_init 951 = .ok (.aload_n 0, 1) := by decide +kernel
theorem dX12_init_952 : decode cX12_init 952 = .ok (.bipush 7, 2) := by decide +kernel
theorem dX12_init_954 : decode cX12_init 954 = .ok (.newarray .int, 2) := by decide +kernel
theorem dX12_init_956 : decode cX12_init 956 = .ok (.putfield 104, 3) := by decide +kernel
theorem dX12_init_959 : decode cX12_init 959 = .ok (.aload_n 0, 1) := by decide +kernel
theorem dX12_init_960 : decode cX12_init 960 = .ok (.bipush 7, 2) := by decide +kernel
theorem dX12_init_962 : decode cX12_init 962 = .ok (.newarray .int, 2) := by decide +kernel
theorem dX12_init_964 : decode cX12_init 964 = .ok (.putfield 107, 3) := by decide +kernel
theorem dX12_init_967 : decode cX12_init 967 = .ok (.aload_n 0, 1) := by decide +kernel
theorem dX12_init_968 : decode cX12_init 968 = .ok (.bipush 8, 2) := by decide +kernel
theorem dX12_init_970 : decode cX12_init 970 = .ok (.newarray .int, 2) := by decide +kernel
theorem dX12_init_972 : decode cX12_init 972 = .ok (.putfield 110, 3) := by decide +kernel
theorem dX12_init_975 : decode cX12_init 975 = .ok (.aload_n 0, 1) := by decide +kernel
theorem dX12_init_976 : decode cX12_init 976 = .ok (.bipush 10, 2) := by decide +kernel
theorem dX12_init_978 : decode cX12_init 978 = .ok (.newarray .int, 2) := by decide +kernel
theorem dX12_init_980 : decode cX12_init 980 = .ok (.putfield 113, 3) := by decide +kernel
theorem dX12_init_983 : decode cX12_init 983 = .ok (.aload_n 0, 1) := by decide +kernel
theorem dX12_init_984 : decode cX12_init 984 = .ok (.bipush 12, 2) := by decide +kernel
theorem dX12_init_986 : decode cX12_init 986 = .ok (.newarray .int, 2) := by decide +kernel
theorem dX12_init_988 : decode cX12_init 988 = .ok (.putfield 116, 3) := by decide +kernel
theorem dX12_init_991 : decode cX12_init 991 = .ok (.aload_n 0, 1) := by decide +kernel
theorem dX12_init_992 : decode cX12_init 992 = .ok (.bipush 13, 2) := by decide +kernel
theorem dX12_init_994 : decode cX12_init 994 = .ok (.newarray .int, 2) := by decide +kernel
theorem dX12_init_996 : decode cX12_init 996 = .ok (.putfield 119, 3) := by decide +kernel
theorem dX12_init_999 : decode cX12_init 999 = .ok (.aload_n 0, 1) := by decide +kernel
theorem dX12_init_1000 : decode cX12_init 1000 = .ok (.bipush 20, 2) := by decide +kernel
theorem dX12_init_1002 : decode cX12_init 1002 = .ok (.newarray .int, 2) := by decide +kernel
theorem dX12_init_1004 : decode cX12_init 1004 = .ok (.putfield 122, 3) := by decide +kernel
theorem dX12_init_1007 : decode cX12_init 1007 = .ok (.aload_n 0, 1) := by decide +kernel
theorem dX12_init_1008 : decode cX12_init 1008 = .ok (.bipush 12, 2) := by decide +kernel
theorem dX12_init_1010 : decode cX12_init 1010 = .ok (.newarray .int, 2) := by decide +kernel
theorem dX12_init_1012 : decode cX12_init 1012 = .ok (.putfield 125, 3) := by decide +kernel
theorem dX12_init_1015 : decode cX12_init 1015 = .ok (.aload_n 0, 1) := by decide +kernel
theorem dX12_init_1016 : decode cX12_init 1016 = .ok (.bipush 36, 2) := by decide +kernel
theorem dX12_init_1018 : decode cX12_init 1018 = .ok (.newarray .int, 2) := by decide +kernel
theorem dX12_init_1020 : decode cX12_init 1020 = .ok (.putfield 128, 3) := by decide +kernel
theorem dX12_init_1023 : decode cX12_init 1023 = .ok (.aload_n 0, 1) := by decide +kernel
theorem dX12_init_1024 : decode cX12_init 1024 = .ok (.bipush 36, 2) := by decide +kernel
theorem dX12_init_1026 : decode cX12_init 1026 = .ok (.newarray .int, 2) := by decide +kernel
theorem dX12_init_1028 : decode cX12_init 1028 = .ok (.putfield 131, 3) := by decide +kernel
theorem dX12_init_1031 : decode cX12_init 1031 = .ok (.aload_n 0, 1) := by decide +kernel
theorem dX12_init_1032 : decode cX12_init 1032 = .ok (.sipush 2048, 3) := by decide +kernel
theorem dX12_init_1035 : decode cX12_init 1035 = .ok (.newarray .int, 2) := by decide +kernel
theorem dX12_init_1037 : decode cX12_init 1037 = .ok (.putfield 134, 3) := by decide +kernel
theorem dX12_init_1040 : decode cX12_init 1040 = .ok (.aload_n 0, 1) := by decide +kernel
theorem dX12_init_1041 : decode cX12_init 1041 = .ok (.sipush 2400, 3) := by decide +kernel
theorem dX12_init_1044 : decode cX12_init 1044 = .ok (.newarray .int, 2) := by decide +kernel
theorem dX12_init_1046 : decode cX12_init 1046 = .ok (.putfield 137, 3) := by decide +kernel
theorem dX12_init_1049 : decode cX12_init 1049 = .ok (.return_, 1) := by decide +kernel
theorem dX12_isIn_0 : decode cX12_isIn 0 = .ok (.iload_n 1, 1) := by decide +kernel
theorem dX12_isIn_1 : decode cX12_isIn 1 = .ok (.iload_n 2, 1) := by decide +kernel
theorem dX12_isIn_2 : decode cX12_isIn 2 = .ok (.if_icmp .lt 12, 3) := by decide +kernel
theorem dX12_isIn_5 : decode cX12_isIn 5 = .ok (.iload_n 1, 1) := by decide +kernel
theorem dX12_isIn_6 : decode cX12_isIn 6 = .ok (.iload_n 3, 1) := by decide +kernel
theorem dX12_isIn_7 : decode cX12_isIn 7 = .ok (.if_icmp .gt 7, 3) := by decide +kernel
theorem dX12_isIn_10 : decode cX12_isIn 10 = .ok (.iconst 1, 1) := by decide +kernel
theorem dX12_isIn_11 : decode cX12_isIn 11 = .ok (.goto 4, 3) := by decide +kernel
theorem dX12_isIn_14 : decode cX12_isIn 14 = .ok (.iconst 0, 1) := by decide +kernel
theorem dX12_isIn_15 : decode cX12_isIn 15 = .ok (.ireturn, 1) := by decide +kernel
theorem dX12_bounded_0 : decode cX12_bounded 0 = .ok (.iload_n 1, 1) := by decide +kernel
theorem dX12_bounded_1 : decode cX12_bounded 1 = .ok (.iload_n 2, 1) := by decide +kernel
theorem dX12_bounded_2 : decode cX12_bounded 2 = .ok (.if_icmp .ge 7, 3) := by decide +kernel
theorem dX12_bounded_5 : decode cX12_bounded 5 = .ok (.iload_n 2, 1) := by decide +kernel
theorem dX12_bounded_6 : decode cX12_bounded 6 = .ok (.goto 13, 3) := by decide +kernel
theorem dX12_bounded_9 : decode cX12_bounded 9 = .ok (.iload_n 1, 1) := by decide +kernel
theorem dX12_bounded_10 : decode cX12_bounded 10 = .ok (.iload_n 3, 1) := by decide +kernel
theorem dX12_bounded_11 : decode cX12_bounded 11 = .ok (.if_icmp .le 7, 3) := by decide +kernel
theorem dX12_bounded_14 : decode cX12_bounded 14 = .ok (.iload_n 3, 1) := by decide +kernel
theorem dX12_bounded_15 : decode cX12_bounded 15 = .ok (.goto 4, 3) := by decide +kernel
theorem dX12_bounded_18 : decode cX12_bounded 18 = .ok (.iload_n 1, 1) := by decide +kernel
theorem dX12_bounded_19 : decode cX12_bounded 19 = .ok (.ireturn, 1) := by decide +kernel
theorem dX12_greater_0 : decode cX12_greater 0 = .ok (.iload_n 1, 1) := by decide +kernel
theorem dX12_greater_1 : decode cX12_greater 1 = .ok (.iload_n 2, 1) := by decide +kernel
theorem dX12_greater_2 : decode cX12_greater 2 = .ok (.if_icmp .le 7, 3) := by decide +kernel
theorem dX12_greater_5 : decode cX12_greater 5 = .ok (.iload_n 1, 1) := by decide +kernel
theorem dX12_greater_6 : decode cX12_greater 6 = .ok (.goto 4, 3) := by decide +kernel
theorem dX12_greater_9 : decode cX12_greater 9 = .ok (.iload_n 2, 1) := by decide +kernel
theorem dX12_greater_10 : decode cX12_greater 10 = .ok (.ireturn, 1) := by decide +kernel
theorem dX12_lesser_0 : decode cX12_lesser 0 = .ok (.iload_n 1, 1) := by decide +kernel
theorem dX12_lesser_1 : decode cX12_lesser 1 = .ok (.iload_n 2, 1) := by decide +kernel
theorem dX12_lesser_2 : decode cX12_lesser 2 = .ok (.if_icmp .ge 7, 3) := by decide +kernel
theorem dX12_lesser_5 : decode cX12_lesser 5 = .ok (.iload_n 1, 1) := by decide +kernel
theorem dX12_lesser_6 : decode cX12_lesser 6 = .ok (.goto 4, 3) := by decide +kernel
theorem dX12_lesser_9 : decode cX12_lesser 9 = .ok (.iload_n 2, 1) := by decide +kernel
theorem dX12_lesser_10 : decode cX12_lesser 10 = .ok (.ireturn, 1) := by decide +kernel
theorem dX12_plain_0 : decode cX12_plain 0 = .ok (.iload_n 1, 1) := by decide +kernel
theorem dX12_plain_1 : decode cX12_plain 1 = .ok (.ifCond .ge 8, 3) := by decide +kernel
theorem dX12_plain_4 : decode cX12_plain 4 = .ok (.iload_n 1, 1) := by decide +kernel
theorem dX12_plain_5 : decode cX12_plain 5 = .ok (.ineg, 1) := by decide +kernel
theorem dX12_plain_6 : decode cX12_plain 6 = .ok (.goto 4, 3) := by decide +kernel
theorem dX12_plain_9 : decode cX12_plain 9 = .ok (.iload_n 1, 1) := by decide +kernel
theorem dX12_plain_10 : decode cX12_plain 10 = .ok (.ireturn, 1) := by decide +kernel
theorem dX12_common_0 : decode cX12_common 0 = .ok (.aload_n 0, 1) := by decide +kernel
theorem dX12_common_1 : decode cX12_common 1 = .ok (.iload_n 1, 1) := by decide +kernel
theorem dX12_common_2 : decode cX12_common 2 = .ok (.invokevirtual 143, 3) := by decide +kernel
theorem dX12_common_5 : decode cX12_common 5 = .ok (.istore_n 3, 1) := by decide +kernel
theorem dX12_common_6 : decode cX12_common 6 = .ok (.aload_n 0, 1) := by decide +kernel
theorem dX12_common_7 : decode cX12_common 7 = .ok (.iload_n 2, 1) := by decide +kernel
theorem dX12_common_8 : decode cX12_common 8 = .ok (.invokevirtual 143, 3) := by decide +kernel
theorem dX12_common_11 : decode cX12_common 11 = .ok (.istore 4, 2) := by decide +kernel
theorem dX12_common_13 : decode cX12_common 13 = .ok (.iload 4, 2) := by decide +kernel
theorem dX12_common_15 : decode cX12_common 15 = .ok (.ifCond .eq 19, 3) := by decide +kernel
theorem dX12_common_18 : decode cX12_common 18 = .ok (.iload_n 3, 1) := by decide +kernel
theorem dX12_common_19 : decode cX12_common 19 = .ok (.iload 4, 2) := by decide +kernel
theorem dX12_common_21 : decode cX12_common 21 = .ok (.irem, 1) := by decide +kernel
theorem dX12_common_22 : decode cX12_common 22 = .ok (.istore 5, 2) := by decide +kernel
theorem dX12_common_24 : decode cX12_common 24 = .ok (.iload 4, 2) := by decide +kernel
theorem dX12_common_26 : decode cX12_common 26 = .ok (.istore_n 3, 1) := by decide +kernel
theorem dX12_common_27 : decode cX12_common 27 = .ok (.iload 5, 2) := by decide +kernel
theorem dX12_common_29 : decode cX12_common 29 = .ok (.istore 4, 2) := by decide +kernel
theorem dX12_common_31 : decode cX12_common 31 = .ok (.goto (-18), 3) := by decide +kernel
theorem dX12_common_34 : decode cX12_common 34 = .ok (.iload_n 3, 1) := by decide +kernel
theorem dX12_common_35 : decode cX12_common 35 = .ok (.ireturn, 1) := by decide +kernel
theorem dX12_onesOf_0 : decode cX12_onesOf 0 = .ok (.iconst 0, 1) := by decide +kernel
theorem dX12_onesOf_1 : decode cX12_onesOf 1 = .ok (.istore_n 2, 1) := by decide +kernel
theorem dX12_onesOf_2 : decode cX12_onesOf 2 = .ok (.iload_n 1, 1) := by decide +kernel
theorem dX12_onesOf_3 : decode cX12_onesOf 3 = .ok (.istore_n 3, 1) := by decide +kernel
theorem dX12_onesOf_4 : decode cX12_onesOf 4 = .ok (.iload_n 3, 1) := by decide +kernel
theorem dX12_onesOf_5 : decode cX12_onesOf 5 = .ok (.ifCond .eq 16, 3) := by decide +kernel
theorem dX12_onesOf_8 : decode cX12_onesOf 8 = .ok (.iload_n 2, 1) := by decide +kernel
theorem dX12_onesOf_9 : decode cX12_onesOf 9 = .ok (.iconst 1, 1) := by decide +kernel
theorem dX12_onesOf_10 : decode cX12_onesOf 10 = .ok (.iadd, 1) := by decide +kernel
theorem dX12_onesOf_11 : decode cX12_onesOf 11 = .ok (.istore_n 2, 1) := by decide +kernel
theorem dX12_onesOf_12 : decode cX12_onesOf 12 = .ok (.iload_n 3, 1) := by decide +kernel
theorem dX12_onesOf_13 : decode cX12_onesOf 13 = .ok (.iload_n 3, 1) := by decide +kernel
theorem dX12_onesOf_14 : decode cX12_onesOf 14 = .ok (.iconst 1, 1) := by decide +kernel
theorem dX12_onesOf_15 : decode cX12_onesOf 15 = .ok (.isub, 1) := by decide +kernel
theorem dX12_onesOf_16 : decode cX12_onesOf 16 = .ok (.iand, 1) := by decide +kernel
theorem dX12_onesOf_17 : decode cX12_onesOf 17 = .ok (.istore_n 3, 1) := by decide +kernel
theorem dX12_onesOf_18 : decode cX12_onesOf 18 = .ok (.goto (-14), 3) := by decide +kernel
theorem dX12_onesOf_21 : decode cX12_onesOf 21 = .ok (.iload_n 2, 1) := by decide +kernel
theorem dX12_onesOf_22 : decode cX12_onesOf 22 = .ok (.ireturn, 1) := by decide +kernel
theorem dX12_has_0 : decode cX12_has 0 = .ok (.iload_n 1, 1) := by decide +kernel
theorem dX12_has_1 : decode cX12_has 1 = .ok (.iload_n 2, 1) := by decide +kernel
theorem dX12_has_2 : decode cX12_has 2 = .ok (.ishr, 1) := by decide +kernel
theorem dX12_has_3 : decode cX12_has 3 = .ok (.iconst 1, 1) := by decide +kernel
theorem dX12_has_4 : decode cX12_has 4 = .ok (.iand, 1) := by decide +kernel
theorem dX12_has_5 : decode cX12_has 5 = .ok (.iconst 1, 1) := by decide +kernel
theorem dX12_has_6 : decode cX12_has 6 = .ok (.if_icmp .ne 7, 3) := by decide +kernel
theorem dX12_has_9 : decode cX12_has 9 = .ok (.iconst 1, 1) := by decide +kernel
theorem dX12_has_10 : decode cX12_has 10 = .ok (.goto 4, 3) := by decide +kernel
theorem dX12_has_13 : decode cX12_has 13 = .ok (.iconst 0, 1) := by decide +kernel
theorem dX12_has_14 : decode cX12_has 14 = .ok (.ireturn, 1) := by decide +kernel
theorem dX12_keepsAhead_0 : decode cX12_keepsAhead 0 = .ok (.aload_n 0, 1) := by decide +kernel
theorem dX12_keepsAhead_1 : decode cX12_keepsAhead 1 = .ok (.getfield 147, 3) := by decide +kernel
theorem dX12_keepsAhead_4 : decode cX12_keepsAhead 4 = .ok (.bipush 6, 2) := by decide +kernel
theorem dX12_keepsAhead_6 : decode cX12_keepsAhead 6 = .ok (.if_icmp .ne 47, 3) := by decide +kernel
theorem dX12_keepsAhead_9 : decode cX12_keepsAhead 9 = .ok (.aload_n 0, 1) := by decide +kernel
theorem dX12_keepsAhead_10 : decode cX12_keepsAhead 10 = .ok (.aload_n 0, 1) := by decide +kernel
theorem dX12_keepsAhead_11 : decode cX12_keepsAhead 11 = .ok (.getfield 147, 3) := by decide +kernel
theorem dX12_keepsAhead_14 : decode cX12_keepsAhead 14 = .ok (.iconst 1, 1) := by decide +kernel
theorem dX12_keepsAhead_15 : decode cX12_keepsAhead 15 = .ok (.isub, 1) := by decide +kernel
theorem dX12_keepsAhead_16 : decode cX12_keepsAhead 16 = .ok (.putfield 147, 3) := by decide +kernel
theorem dX12_keepsAhead_19 : decode cX12_keepsAhead 19 = .ok (.iconst 0, 1) := by decide +kernel
theorem dX12_keepsAhead_20 : decode cX12_keepsAhead 20 = .ok (.istore_n 1, 1) := by decide +kernel
theorem dX12_keepsAhead_21 : decode cX12_keepsAhead 21 = .ok (.iload_n 1, 1) := by decide +kernel
theorem dX12_keepsAhead_22 : decode cX12_keepsAhead 22 = .ok (.bipush 93, 2) := by decide +kernel
theorem dX12_keepsAhead_24 : decode cX12_keepsAhead 24 = .ok (.aload_n 0, 1) := by decide +kernel
theorem dX12_keepsAhead_25 : decode cX12_keepsAhead 25 = .ok (.getfield 147, 3) := by decide +kernel
theorem dX12_keepsAhead_28 : decode cX12_keepsAhead 28 = .ok (.imul, 1) := by decide +kernel
theorem dX12_keepsAhead_29 : decode cX12_keepsAhead 29 = .ok (.if_icmp .ge 24, 3) := by decide +kernel
theorem dX12_keepsAhead_32 : decode cX12_keepsAhead 32 = .ok (.aload_n 0, 1) := by decide +kernel
theorem dX12_keepsAhead_33 : decode cX12_keepsAhead 33 = .ok (.getfield 13, 3) := by decide +kernel
theorem dX12_keepsAhead_36 : decode cX12_keepsAhead 36 = .ok (.iload_n 1, 1) := by decide +kernel
theorem dX12_keepsAhead_37 : decode cX12_keepsAhead 37 = .ok (.aload_n 0, 1) := by decide +kernel
theorem dX12_keepsAhead_38 : decode cX12_keepsAhead 38 = .ok (.getfield 13, 3) := by decide +kernel
theorem dX12_keepsAhead_41 : decode cX12_keepsAhead 41 = .ok (.iload_n 1, 1) := by decide +kernel
theorem dX12_keepsAhead_42 : decode cX12_keepsAhead 42 = .ok (.bipush 93, 2) := by decide +kernel
theorem dX12_keepsAhead_44 : decode cX12_keepsAhead 44 = .ok (.iadd, 1) := by decide +kernel
theorem dX12_keepsAhead_45 : decode cX12_keepsAhead 45 = .ok (.iaload, 1) := by decide +kernel
theorem dX12_keepsAhead_46 : decode cX12_keepsAhead 46 = .ok (.iastore, 1) := by decide +kernel
theorem dX12_keepsAhead_47 : decode cX12_keepsAhead 47 = .ok (.iinc 1 1, 3) := by decide +kernel
theorem dX12_keepsAhead_50 : decode cX12_keepsAhead 50 = .ok (.goto (-29), 3) := by decide +kernel
theorem dX12_keepsAhead_53 : decode cX12_keepsAhead 53 = .ok (.iconst 0, 1) := by decide +kernel
theorem dX12_keepsAhead_54 : decode cX12_keepsAhead 54 = .ok (.istore_n 1, 1) := by decide +kernel
theorem dX12_keepsAhead_55 : decode cX12_keepsAhead 55 = .ok (.iload_n 1, 1) := by decide +kernel
theorem dX12_keepsAhead_56 : decode cX12_keepsAhead 56 = .ok (.bipush 93, 2) := by decide +kernel
theorem dX12_keepsAhead_58 : decode cX12_keepsAhead 58 = .ok (.if_icmp .ge 29, 3) := by decide +kernel
theorem dX12_keepsAhead_61 : decode cX12_keepsAhead 61 = .ok (.aload_n 0, 1) := by decide +kernel
theorem dX12_keepsAhead_62 : decode cX12_keepsAhead 62 = .ok (.getfield 13, 3) := by decide +kernel
theorem dX12_keepsAhead_65 : decode cX12_keepsAhead 65 = .ok (.bipush 93, 2) := by decide +kernel
theorem dX12_keepsAhead_67 : decode cX12_keepsAhead 67 = .ok (.aload_n 0, 1) := by decide +kernel
theorem dX12_keepsAhead_68 : decode cX12_keepsAhead 68 = .ok (.getfield 147, 3) := by decide +kernel
theorem dX12_keepsAhead_71 : decode cX12_keepsAhead 71 = .ok (.imul, 1) := by decide +kernel
theorem dX12_keepsAhead_72 : decode cX12_keepsAhead 72 = .ok (.iload_n 1, 1) := by decide +kernel
theorem dX12_keepsAhead_73 : decode cX12_keepsAhead 73 = .ok (.iadd, 1) := by decide +kernel
theorem dX12_keepsAhead_74 : decode cX12_keepsAhead 74 = .ok (.aload_n 0, 1) := by decide +kernel
theorem dX12_keepsAhead_75 : decode cX12_keepsAhead 75 = .ok (.getfield 7, 3) := by decide +kernel
theorem dX12_keepsAhead_78 : decode cX12_keepsAhead 78 = .ok (.iload_n 1, 1) := by decide +kernel
theorem dX12_keepsAhead_79 : decode cX12_keepsAhead 79 = .ok (.iaload, 1) := by decide +kernel
theorem dX12_keepsAhead_80 : decode cX12_keepsAhead 80 = .ok (.iastore, 1) := by decide +kernel
theorem dX12_keepsAhead_81 : decode cX12_keepsAhead 81 = .ok (.iinc 1 1, 3) := by decide +kernel
theorem dX12_keepsAhead_84 : decode cX12_keepsAhead 84 = .ok (.goto (-29), 3) := by decide +kernel
theorem dX12_keepsAhead_87 : decode cX12_keepsAhead 87 = .ok (.aload_n 0, 1) := by decide +kernel
theorem dX12_keepsAhead_88 : decode cX12_keepsAhead 88 = .ok (.aload_n 0, 1) := by decide +kernel
theorem dX12_keepsAhead_89 : decode cX12_keepsAhead 89 = .ok (.getfield 147, 3) := by decide +kernel
theorem dX12_keepsAhead_92 : decode cX12_keepsAhead 92 = .ok (.iconst 1, 1) := by decide +kernel
theorem dX12_keepsAhead_93 : decode cX12_keepsAhead 93 = .ok (.iadd, 1) := by decide +kernel
theorem dX12_keepsAhead_94 : decode cX12_keepsAhead 94 = .ok (.putfield 147, 3) := by decide +kernel
theorem dX12_keepsAhead_97 : decode cX12_keepsAhead 97 = .ok (.return_, 1) := by decide +kernel
theorem dX12_undo_0 : decode cX12_undo 0 = .ok (.aload_n 0, 1) := by decide +kernel
theorem dX12_undo_1 : decode cX12_undo 1 = .ok (.iconst 0, 1) := by decide +kernel
theorem dX12_undo_2 : decode cX12_undo 2 = .ok (.putfield 140, 3) := by decide +kernel
theorem dX12_undo_5 : decode cX12_undo 5 = .ok (.aload_n 0, 1) := by decide +kernel
theorem dX12_undo_6 : decode cX12_undo 6 = .ok (.getfield 147, 3) := by decide +kernel
theorem dX12_undo_9 : decode cX12_undo 9 = .ok (.ifCond .ne 5, 3) := by decide +kernel
theorem dX12_undo_12 : decode cX12_undo 12 = .ok (.iconst 0, 1) := by decide +kernel
theorem dX12_undo_13 : decode cX12_undo 13 = .ok (.ireturn, 1) := by decide +kernel
theorem dX12_undo_14 : decode cX12_undo 14 = .ok (.aload_n 0, 1) := by decide +kernel
theorem dX12_undo_15 : decode cX12_undo 15 = .ok (.aload_n 0, 1) := by decide +kernel
theorem dX12_undo_16 : decode cX12_undo 16 = .ok (.getfield 147, 3) := by decide +kernel
theorem dX12_undo_19 : decode cX12_undo 19 = .ok (.iconst 1, 1) := by decide +kernel
theorem dX12_undo_20 : decode cX12_undo 20 = .ok (.isub, 1) := by decide +kernel
theorem dX12_undo_21 : decode cX12_undo 21 = .ok (.putfield 147, 3) := by decide +kernel
theorem dX12_undo_24 : decode cX12_undo 24 = .ok (.iconst 0, 1) := by decide +kernel
theorem dX12_undo_25 : decode cX12_undo 25 = .ok (.istore_n 1, 1) := by decide +kernel
theorem dX12_undo_26 : decode cX12_undo 26 = .ok (.iload_n 1, 1) := by decide +kernel
theorem dX12_undo_27 : decode cX12_undo 27 = .ok (.bipush 93, 2) := by decide +kernel
theorem dX12_undo_29 : decode cX12_undo 29 = .ok (.if_icmp .ge 29, 3) := by decide +kernel
theorem dX12_undo_32 : decode cX12_undo 32 = .ok (.aload_n 0, 1) := by decide +kernel
theorem dX12_undo_33 : decode cX12_undo 33 = .ok (.getfield 7, 3) := by decide +kernel
theorem dX12_undo_36 : decode cX12_undo 36 = .ok (.iload_n 1, 1) := by decide +kernel
theorem dX12_undo_37 : decode cX12_undo 37 = .ok (.aload_n 0, 1) := by decide +kernel
theorem dX12_undo_38 : decode cX12_undo 38 = .ok (.getfield 13, 3) := by decide +kernel
theorem dX12_undo_41 : decode cX12_undo 41 = .ok (.bipush 93, 2) := by decide +kernel
theorem dX12_undo_43 : decode cX12_undo 43 = .ok (.aload_n 0, 1) := by decide +kernel
theorem dX12_undo_44 : decode cX12_undo 44 = .ok (.getfield 147, 3) := by decide +kernel
theorem dX12_undo_47 : decode cX12_undo 47 = .ok (.imul, 1) := by decide +kernel
theorem dX12_undo_48 : decode cX12_undo 48 = .ok (.iload_n 1, 1) := by decide +kernel
theorem dX12_undo_49 : decode cX12_undo 49 = .ok (.iadd, 1) := by decide +kernel
theorem dX12_undo_50 : decode cX12_undo 50 = .ok (.iaload, 1) := by decide +kernel
theorem dX12_undo_51 : decode cX12_undo 51 = .ok (.iastore, 1) := by decide +kernel
theorem dX12_undo_52 : decode cX12_undo 52 = .ok (.iinc 1 1, 3) := by decide +kernel
theorem dX12_undo_55 : decode cX12_undo 55 = .ok (.goto (-29), 3) := by decide +kernel
theorem dX12_undo_58 : decode cX12_undo 58 = .ok (.iconst 1, 1) := by decide +kernel
theorem dX12_undo_59 : decode cX12_undo 59 = .ok (.ireturn, 1) := by decide +kernel
theorem dX12_thinks_0 : decode cX12_thinks 0 = .ok (.iconst 0, 1) := by decide +kernel
theorem dX12_thinks_1 : decode cX12_thinks 1 = .ok (.istore_n 1, 1) := by decide +kernel
theorem dX12_thinks_2 : decode cX12_thinks 2 = .ok (.iload_n 1, 1) := by decide +kernel
theorem dX12_thinks_3 : decode cX12_thinks 3 = .ok (.bipush 93, 2) := by decide +kernel
theorem dX12_thinks_5 : decode cX12_thinks 5 = .ok (.if_icmp .ge 21, 3) := by decide +kernel
theorem dX12_thinks_8 : decode cX12_thinks 8 = .ok (.aload_n 0, 1) := by decide +kernel
theorem dX12_thinks_9 : decode cX12_thinks 9 = .ok (.getfield 16, 3) := by decide +kernel
theorem dX12_thinks_12 : decode cX12_thinks 12 = .ok (.iload_n 1, 1) := by decide +kernel
theorem dX12_thinks_13 : decode cX12_thinks 13 = .ok (.aload_n 0, 1) := by decide +kernel
theorem dX12_thinks_14 : decode cX12_thinks 14 = .ok (.getfield 7, 3) := by decide +kernel
theorem dX12_thinks_17 : decode cX12_thinks 17 = .ok (.iload_n 1, 1) := by decide +kernel
theorem dX12_thinks_18 : decode cX12_thinks 18 = .ok (.iaload, 1) := by decide +kernel
theorem dX12_thinks_19 : decode cX12_thinks 19 = .ok (.iastore, 1) := by decide +kernel
theorem dX12_thinks_20 : decode cX12_thinks 20 = .ok (.iinc 1 1, 3) := by decide +kernel
theorem dX12_thinks_23 : decode cX12_thinks 23 = .ok (.goto (-21), 3) := by decide +kernel
theorem dX12_thinks_26 : decode cX12_thinks 26 = .ok (.aload_n 0, 1) := by decide +kernel
theorem dX12_thinks_27 : decode cX12_thinks 27 = .ok (.iconst 1, 1) := by decide +kernel
theorem dX12_thinks_28 : decode cX12_thinks 28 = .ok (.putfield 150, 3) := by decide +kernel
theorem dX12_thinks_31 : decode cX12_thinks 31 = .ok (.return_, 1) := by decide +kernel
theorem dX12_endsThought_0 : decode cX12_endsThought 0 = .ok (.iconst 0, 1) := by decide +kernel
theorem dX12_endsThought_1 : decode cX12_endsThought 1 = .ok (.istore_n 1, 1) := by decide +kernel
theorem dX12_endsThought_2 : decode cX12_endsThought 2 = .ok (.iload_n 1, 1) := by decide +kernel
theorem dX12_endsThought_3 : decode cX12_endsThought 3 = .ok (.bipush 93, 2) := by decide +kernel
theorem dX12_endsThought_5 : decode cX12_endsThought 5 = .ok (.if_icmp .ge 21, 3) := by decide +kernel
theorem dX12_endsThought_8 : decode cX12_endsThought 8 = .ok (.aload_n 0, 1) := by decide +kernel
theorem dX12_endsThought_9 : decode cX12_endsThought 9 = .ok (.getfield 7, 3) := by decide +kernel
theorem dX12_endsThought_12 : decode cX12_endsThought 12 = .ok (.iload_n 1, 1) := by decide +kernel
theorem dX12_endsThought_13 : decode cX12_endsThought 13 = .ok (.aload_n 0, 1) := by decide +kernel
theorem dX12_endsThought_14 : decode cX12_endsThought 14 = .ok (.getfield 16, 3) := by decide +kernel
theorem dX12_endsThought_17 : decode cX12_endsThought 17 = .ok (.iload_n 1, 1) := by decide +kernel
theorem dX12_endsThought_18 : decode cX12_endsThought 18 = .ok (.iaload, 1) := by decide +kernel
theorem dX12_endsThought_19 : decode cX12_endsThought 19 = .ok (.iastore, 1) := by decide +kernel
theorem dX12_endsThought_20 : decode cX12_endsThought 20 = .ok (.iinc 1 1, 3) := by decide +kernel
theorem dX12_endsThought_23 : decode cX12_endsThought 23 = .ok (.goto (-21), 3) := by decide +kernel
theorem dX12_endsThought_26 : decode cX12_endsThought 26 = .ok (.aload_n 0, 1) := by decide +kernel
theorem dX12_endsThought_27 : decode cX12_endsThought 27 = .ok (.iconst 0, 1) := by decide +kernel
theorem dX12_endsThought_28 : decode cX12_endsThought 28 = .ok (.putfield 150, 3) := by decide +kernel
theorem dX12_endsThought_31 : decode cX12_endsThought 31 = .ok (.return_, 1) := by decide +kernel
theorem dX12_state_0 : decode cX12_state 0 = .ok (.aload_n 0, 1) := by decide +kernel
theorem dX12_state_1 : decode cX12_state 1 = .ok (.iconst 0, 1) := by decide +kernel
theorem dX12_state_2 : decode cX12_state 2 = .ok (.putfield 140, 3) := by decide +kernel
theorem dX12_state_5 : decode cX12_state 5 = .ok (.aload_n 0, 1) := by decide +kernel
theorem dX12_state_6 : decode cX12_state 6 = .ok (.getfield 7, 3) := by decide +kernel
theorem dX12_state_9 : decode cX12_state 9 = .ok (.iconst 1, 1) := by decide +kernel
theorem dX12_state_10 : decode cX12_state 10 = .ok (.iaload, 1) := by decide +kernel
theorem dX12_state_11 : decode cX12_state 11 = .ok (.istore_n 2, 1) := by decide +kernel
theorem dX12_state_12 : decode cX12_state 12 = .ok (.aload_n 0, 1) := by decide +kernel
theorem dX12_state_13 : decode cX12_state 13 = .ok (.getfield 7, 3) := by decide +kernel
theorem dX12_state_16 : decode cX12_state 16 = .ok (.iconst 1, 1) := by decide +kernel
theorem dX12_state_17 : decode cX12_state 17 = .ok (.iload_n 1, 1) := by decide +kernel
theorem dX12_state_18 : decode cX12_state 18 = .ok (.iastore, 1) := by decide +kernel
theorem dX12_state_19 : decode cX12_state 19 = .ok (.aload_n 0, 1) := by decide +kernel
theorem dX12_state_20 : decode cX12_state 20 = .ok (.iconst 0, 1) := by decide +kernel
theorem dX12_state_21 : decode cX12_state 21 = .ok (.putfield 147, 3) := by decide +kernel
theorem dX12_state_24 : decode cX12_state 24 = .ok (.iload_n 2, 1) := by decide +kernel
theorem dX12_state_25 : decode cX12_state 25 = .ok (.ireturn, 1) := by decide +kernel
theorem dX12_draw_0 : decode cX12_draw 0 = .ok (.aload_n 0, 1) := by decide +kernel
theorem dX12_draw_1 : decode cX12_draw 1 = .ok (.getfield 7, 3) := by decide +kernel
theorem dX12_draw_4 : decode cX12_draw 4 = .ok (.iconst 1, 1) := by decide +kernel
theorem dX12_draw_5 : decode cX12_draw 5 = .ok (.ldc 154, 2) := by decide +kernel
theorem dX12_draw_7 : decode cX12_draw 7 = .ok (.aload_n 0, 1) := by decide +kernel
theorem dX12_draw_8 : decode cX12_draw 8 = .ok (.getfield 7, 3) := by decide +kernel
theorem dX12_draw_11 : decode cX12_draw 11 = .ok (.iconst 1, 1) := by decide +kernel
theorem dX12_draw_12 : decode cX12_draw 12 = .ok (.iaload, 1) := by decide +kernel
theorem dX12_draw_13 : decode cX12_draw 13 = .ok (.imul, 1) := by decide +kernel
theorem dX12_draw_14 : decode cX12_draw 14 = .ok (.ldc 155, 2) := by decide +kernel
theorem dX12_draw_16 : decode cX12_draw 16 = .ok (.iadd, 1) := by decide +kernel
theorem dX12_draw_17 : decode cX12_draw 17 = .ok (.iastore, 1) := by decide +kernel
theorem dX12_draw_18 : decode cX12_draw 18 = .ok (.aload_n 0, 1) := by decide +kernel
theorem dX12_draw_19 : decode cX12_draw 19 = .ok (.getfield 7, 3) := by decide +kernel
theorem dX12_draw_22 : decode cX12_draw 22 = .ok (.iconst 1, 1) := by decide +kernel
theorem dX12_draw_23 : decode cX12_draw 23 = .ok (.iaload, 1) := by decide +kernel
theorem dX12_draw_24 : decode cX12_draw 24 = .ok (.bipush 8, 2) := by decide +kernel
theorem dX12_draw_26 : decode cX12_draw 26 = .ok (.iushr, 1) := by decide +kernel
theorem dX12_draw_27 : decode cX12_draw 27 = .ok (.iload_n 1, 1) := by decide +kernel
theorem dX12_draw_28 : decode cX12_draw 28 = .ok (.irem, 1) := by decide +kernel
theorem dX12_draw_29 : decode cX12_draw 29 = .ok (.ireturn, 1) := by decide +kernel
theorem dX12_isWeb_0 : decode cX12_isWeb 0 = .ok (.iload_n 1, 1) := by decide +kernel
theorem dX12_isWeb_1 : decode cX12_isWeb 1 = .ok (.ifCond .lt 15, 3) := by decide +kernel
theorem dX12_isWeb_4 : decode cX12_isWeb 4 = .ok (.iload_n 1, 1) := by decide +kernel
theorem dX12_isWeb_5 : decode cX12_isWeb 5 = .ok (.aload_n 0, 1) := by decide +kernel
theorem dX12_isWeb_6 : decode cX12_isWeb 6 = .ok (.getfield 156, 3) := by decide +kernel
theorem dX12_isWeb_9 : decode cX12_isWeb 9 = .ok (.if_icmp .ge 7, 3) := by decide +kernel
theorem dX12_isWeb_12 : decode cX12_isWeb 12 = .ok (.iconst 1, 1) := by decide +kernel
theorem dX12_isWeb_13 : decode cX12_isWeb 13 = .ok (.goto 4, 3) := by decide +kernel
theorem dX12_isWeb_16 : decode cX12_isWeb 16 = .ok (.iconst 0, 1) := by decide +kernel
theorem dX12_isWeb_17 : decode cX12_isWeb 17 = .ok (.ireturn, 1) := by decide +kernel
theorem dX12_isGatherer_0 : decode cX12_isGatherer 0 = .ok (.iload_n 1, 1) := by decide +kernel
theorem dX12_isGatherer_1 : decode cX12_isGatherer 1 = .ok (.ifCond .lt 15, 3) := by decide +kernel
theorem dX12_isGatherer_4 : decode cX12_isGatherer 4 = .ok (.iload_n 1, 1) := by decide +kernel
theorem dX12_isGatherer_5 : decode cX12_isGatherer 5 = .ok (.aload_n 0, 1) := by decide +kernel
theorem dX12_isGatherer_6 : decode cX12_isGatherer 6 = .ok (.getfield 159, 3) := by decide +kernel
theorem dX12_isGatherer_9 : decode cX12_isGatherer 9 = .ok (.if_icmp .ge 7, 3) := by decide +kernel
theorem dX12_isGatherer_12 : decode cX12_isGatherer 12 = .ok (.iconst 1, 1) := by decide +kernel
theorem dX12_isGatherer_13 : decode cX12_isGatherer 13 = .ok (.goto 4, 3) := by decide +kernel
theorem dX12_isGatherer_16 : decode cX12_isGatherer 16 = .ok (.iconst 0, 1) := by decide +kernel
theorem dX12_isGatherer_17 : decode cX12_isGatherer 17 = .ok (.ireturn, 1) := by decide +kernel
theorem dX12_isMourner_0 : decode cX12_isMourner 0 = .ok (.iload_n 1, 1) := by decide +kernel
theorem dX12_isMourner_1 : decode cX12_isMourner 1 = .ok (.ifCond .lt 15, 3) := by decide +kernel
theorem dX12_isMourner_4 : decode cX12_isMourner 4 = .ok (.iload_n 1, 1) := by decide +kernel
theorem dX12_isMourner_5 : decode cX12_isMourner 5 = .ok (.aload_n 0, 1) := by decide +kernel
theorem dX12_isMourner_6 : decode cX12_isMourner 6 = .ok (.getfield 162, 3) := by decide +kernel
theorem dX12_isMourner_9 : decode cX12_isMourner 9 = .ok (.if_icmp .ge 7, 3) := by decide +kernel
theorem dX12_isMourner_12 : decode cX12_isMourner 12 = .ok (.iconst 1, 1) := by decide +kernel
theorem dX12_isMourner_13 : decode cX12_isMourner 13 = .ok (.goto 4, 3) := by decide +kernel
theorem dX12_isMourner_16 : decode cX12_isMourner 16 = .ok (.iconst 0, 1) := by decide +kernel
theorem dX12_isMourner_17 : decode cX12_isMourner 17 = .ok (.ireturn, 1) := by decide +kernel
theorem dX12_isTorn_0 : decode cX12_isTorn 0 = .ok (.aload_n 0, 1) := by decide +kernel
theorem dX12_isTorn_1 : decode cX12_isTorn 1 = .ok (.getfield 7, 3) := by decide +kernel
theorem dX12_isTorn_4 : decode cX12_isTorn 4 = .ok (.bipush 19, 2) := by decide +kernel
theorem dX12_isTorn_6 : decode cX12_isTorn 6 = .ok (.iload_n 1, 1) := by decide +kernel
theorem dX12_isTorn_7 : decode cX12_isTorn 7 = .ok (.iadd, 1) := by decide +kernel
theorem dX12_isTorn_8 : decode cX12_isTorn 8 = .ok (.iaload, 1) := by decide +kernel
theorem dX12_isTorn_9 : decode cX12_isTorn 9 = .ok (.iconst 1, 1) := by decide +kernel
theorem dX12_isTorn_10 : decode cX12_isTorn 10 = .ok (.if_icmp .ne 7, 3) := by decide +kernel
theorem dX12_isTorn_13 : decode cX12_isTorn 13 = .ok (.iconst 1, 1) := by decide +kernel
theorem dX12_isTorn_14 : decode cX12_isTorn 14 = .ok (.goto 4, 3) := by decide +kernel
theorem dX12_isTorn_17 : decode cX12_isTorn 17 = .ok (.iconst 0, 1) := by decide +kernel
theorem dX12_isTorn_18 : decode cX12_isTorn 18 = .ok (.ireturn, 1) := by decide +kernel
theorem dX12_most_0 : decode cX12_most 0 = .ok (.iconst 3, 1) := by decide +kernel
theorem dX12_most_1 : decode cX12_most 1 = .ok (.aload_n 0, 1) := by decide +kernel
theorem dX12_most_2 : decode cX12_most 2 = .ok (.getfield 22, 3) := by decide +kernel
theorem dX12_most_5 : decode cX12_most 5 = .ok (.iload_n 1, 1) := by decide +kernel
theorem dX12_most_6 : decode cX12_most 6 = .ok (.iaload, 1) := by decide +kernel
theorem dX12_most_7 : decode cX12_most 7 = .ok (.imul, 1) := by decide +kernel
theorem dX12_most_8 : decode cX12_most 8 = .ok (.ireturn, 1) := by decide +kernel
theorem dX12_web_0 : decode cX12_web 0 = .ok (.aload_n 0, 1) := by decide +kernel
theorem dX12_web_1 : decode cX12_web 1 = .ok (.iconst 0, 1) := by decide +kernel
theorem dX12_web_2 : decode cX12_web 2 = .ok (.putfield 140, 3) := by decide +kernel
theorem dX12_web_5 : decode cX12_web 5 = .ok (.aload_n 0, 1) := by decide +kernel
theorem dX12_web_6 : decode cX12_web 6 = .ok (.iload_n 1, 1) := by decide +kernel
theorem dX12_web_7 : decode cX12_web 7 = .ok (.iconst 0, 1) := by decide +kernel
theorem dX12_web_8 : decode cX12_web 8 = .ok (.bipush 19, 2) := by decide +kernel
theorem dX12_web_10 : decode cX12_web 10 = .ok (.invokevirtual 165, 3) := by decide +kernel
theorem dX12_web_13 : decode cX12_web 13 = .ok (.ifCond .eq 23, 3) := by decide +kernel
theorem dX12_web_16 : decode cX12_web 16 = .ok (.aload_n 0, 1) := by decide +kernel
theorem dX12_web_17 : decode cX12_web 17 = .ok (.iload_n 2, 1) := by decide +kernel
theorem dX12_web_18 : decode cX12_web 18 = .ok (.iconst 1, 1) := by decide +kernel
theorem dX12_web_19 : decode cX12_web 19 = .ok (.bipush 30, 2) := by decide +kernel
theorem dX12_web_21 : decode cX12_web 21 = .ok (.invokevirtual 165, 3) := by decide +kernel
theorem dX12_web_24 : decode cX12_web 24 = .ok (.ifCond .eq 12, 3) := by decide +kernel
theorem dX12_web_27 : decode cX12_web 27 = .ok (.aload_n 0, 1) := by decide +kernel
theorem dX12_web_28 : decode cX12_web 28 = .ok (.getfield 156, 3) := by decide +kernel
theorem dX12_web_31 : decode cX12_web 31 = .ok (.bipush 12, 2) := by decide +kernel
theorem dX12_web_33 : decode cX12_web 33 = .ok (.if_icmp .ne 5, 3) := by decide +kernel
theorem dX12_web_36 : decode cX12_web 36 = .ok (.iconst (-1), 1) := by decide +kernel
theorem dX12_web_37 : decode cX12_web 37 = .ok (.ireturn, 1) := by decide +kernel
theorem dX12_web_38 : decode cX12_web 38 = .ok (.aload_n 0, 1) := by decide +kernel
theorem dX12_web_39 : decode cX12_web 39 = .ok (.getfield 19, 3) := by decide +kernel
theorem dX12_web_42 : decode cX12_web 42 = .ok (.aload_n 0, 1) := by decide +kernel
theorem dX12_web_43 : decode cX12_web 43 = .ok (.getfield 156, 3) := by decide +kernel
theorem dX12_web_46 : decode cX12_web 46 = .ok (.iload_n 1, 1) := by decide +kernel
theorem dX12_web_47 : decode cX12_web 47 = .ok (.iastore, 1) := by decide +kernel
theorem dX12_web_48 : decode cX12_web 48 = .ok (.aload_n 0, 1) := by decide +kernel
theorem dX12_web_49 : decode cX12_web 49 = .ok (.getfield 22, 3) := by decide +kernel
theorem dX12_web_52 : decode cX12_web 52 = .ok (.aload_n 0, 1) := by decide +kernel
theorem dX12_web_53 : decode cX12_web 53 = .ok (.getfield 156, 3) := by decide +kernel
theorem dX12_web_56 : decode cX12_web 56 = .ok (.iload_n 2, 1) := by decide +kernel
theorem dX12_web_57 : decode cX12_web 57 = .ok (.iastore, 1) := by decide +kernel
theorem dX12_web_58 : decode cX12_web 58 = .ok (.aload_n 0, 1) := by decide +kernel
theorem dX12_web_59 : decode cX12_web 59 = .ok (.getfield 7, 3) := by decide +kernel
theorem dX12_web_62 : decode cX12_web 62 = .ok (.bipush 7, 2) := by decide +kernel
theorem dX12_web_64 : decode cX12_web 64 = .ok (.aload_n 0, 1) := by decide +kernel
theorem dX12_web_65 : decode cX12_web 65 = .ok (.getfield 156, 3) := by decide +kernel
theorem dX12_web_68 : decode cX12_web 68 = .ok (.iadd, 1) := by decide +kernel
theorem dX12_web_69 : decode cX12_web 69 = .ok (.iconst 0, 1) := by decide +kernel
theorem dX12_web_70 : decode cX12_web 70 = .ok (.iastore, 1) := by decide +kernel
theorem dX12_web_71 : decode cX12_web 71 = .ok (.aload_n 0, 1) := by decide +kernel
theorem dX12_web_72 : decode cX12_web 72 = .ok (.getfield 7, 3) := by decide +kernel
theorem dX12_web_75 : decode cX12_web 75 = .ok (.bipush 19, 2) := by decide +kernel
theorem dX12_web_77 : decode cX12_web 77 = .ok (.aload_n 0, 1) := by decide +kernel
theorem dX12_web_78 : decode cX12_web 78 = .ok (.getfield 156, 3) := by decide +kernel
theorem dX12_web_81 : decode cX12_web 81 = .ok (.iadd, 1) := by decide +kernel
theorem dX12_web_82 : decode cX12_web 82 = .ok (.iconst 0, 1) := by decide +kernel
theorem dX12_web_83 : decode cX12_web 83 = .ok (.iastore, 1) := by decide +kernel
theorem dX12_web_84 : decode cX12_web 84 = .ok (.aload_n 0, 1) := by decide +kernel
theorem dX12_web_85 : decode cX12_web 85 = .ok (.aload_n 0, 1) := by decide +kernel
theorem dX12_web_86 : decode cX12_web 86 = .ok (.getfield 156, 3) := by decide +kernel
theorem dX12_web_89 : decode cX12_web 89 = .ok (.iconst 1, 1) := by decide +kernel
theorem dX12_web_90 : decode cX12_web 90 = .ok (.iadd, 1) := by decide +kernel
theorem dX12_web_91 : decode cX12_web 91 = .ok (.putfield 156, 3) := by decide +kernel
theorem dX12_web_94 : decode cX12_web 94 = .ok (.aload_n 0, 1) := by decide +kernel
theorem dX12_web_95 : decode cX12_web 95 = .ok (.iconst 0, 1) := by decide +kernel
theorem dX12_web_96 : decode cX12_web 96 = .ok (.putfield 147, 3) := by decide +kernel
theorem dX12_web_99 : decode cX12_web 99 = .ok (.aload_n 0, 1) := by decide +kernel
theorem dX12_web_100 : decode cX12_web 100 = .ok (.getfield 156, 3) := by decide +kernel
theorem dX12_web_103 : decode cX12_web 103 = .ok (.iconst 1, 1) := by decide +kernel
theorem dX12_web_104 : decode cX12_web 104 = .ok (.isub, 1) := by decide +kernel
theorem dX12_web_105 : decode cX12_web 105 = .ok (.ireturn, 1) := by decide +kernel
theorem dX12_gatherer_0 : decode cX12_gatherer 0 = .ok (.aload_n 0, 1) := by decide +kernel
theorem dX12_gatherer_1 : decode cX12_gatherer 1 = .ok (.iconst 0, 1) := by decide +kernel
theorem dX12_gatherer_2 : decode cX12_gatherer 2 = .ok (.putfield 140, 3) := by decide +kernel
theorem dX12_gatherer_5 : decode cX12_gatherer 5 = .ok (.aload_n 0, 1) := by decide +kernel
theorem dX12_gatherer_6 : decode cX12_gatherer 6 = .ok (.iload_n 1, 1) := by decide +kernel
theorem dX12_gatherer_7 : decode cX12_gatherer 7 = .ok (.iconst 0, 1) := by decide +kernel
theorem dX12_gatherer_8 : decode cX12_gatherer 8 = .ok (.bipush 19, 2) := by decide +kernel
theorem dX12_gatherer_10 : decode cX12_gatherer 10 = .ok (.invokevirtual 165, 3) := by decide +kernel
theorem dX12_gatherer_13 : decode cX12_gatherer 13 = .ok (.ifCond .eq 12, 3) := by decide +kernel
theorem dX12_gatherer_16 : decode cX12_gatherer 16 = .ok (.aload_n 0, 1) := by decide +kernel
theorem dX12_gatherer_17 : decode cX12_gatherer 17 = .ok (.getfield 159, 3) := by decide +kernel
theorem dX12_gatherer_20 : decode cX12_gatherer 20 = .ok (.bipush 8, 2) := by decide +kernel
theorem dX12_gatherer_22 : decode cX12_gatherer 22 = .ok (.if_icmp .ne 5, 3) := by decide +kernel
theorem dX12_gatherer_25 : decode cX12_gatherer 25 = .ok (.iconst (-1), 1) := by decide +kernel
theorem dX12_gatherer_26 : decode cX12_gatherer 26 = .ok (.ireturn, 1) := by decide +kernel
theorem dX12_gatherer_27 : decode cX12_gatherer 27 = .ok (.aload_n 0, 1) := by decide +kernel
theorem dX12_gatherer_28 : decode cX12_gatherer 28 = .ok (.getfield 7, 3) := by decide +kernel
theorem dX12_gatherer_31 : decode cX12_gatherer 31 = .ok (.bipush 31, 2) := by decide +kernel
theorem dX12_gatherer_33 : decode cX12_gatherer 33 = .ok (.aload_n 0, 1) := by decide +kernel
theorem dX12_gatherer_34 : decode cX12_gatherer 34 = .ok (.getfield 159, 3) := by decide +kernel
theorem dX12_gatherer_37 : decode cX12_gatherer 37 = .ok (.iadd, 1) := by decide +kernel
theorem dX12_gatherer_38 : decode cX12_gatherer 38 = .ok (.iload_n 1, 1) := by decide +kernel
theorem dX12_gatherer_39 : decode cX12_gatherer 39 = .ok (.iastore, 1) := by decide +kernel
theorem dX12_gatherer_40 : decode cX12_gatherer 40 = .ok (.aload_n 0, 1) := by decide +kernel
theorem dX12_gatherer_41 : decode cX12_gatherer 41 = .ok (.getfield 7, 3) := by decide +kernel
theorem dX12_gatherer_44 : decode cX12_gatherer 44 = .ok (.bipush 39, 2) := by decide +kernel
theorem dX12_gatherer_46 : decode cX12_gatherer 46 = .ok (.aload_n 0, 1) := by decide +kernel
theorem dX12_gatherer_47 : decode cX12_gatherer 47 = .ok (.getfield 159, 3) := by decide +kernel
theorem dX12_gatherer_50 : decode cX12_gatherer 50 = .ok (.iadd, 1) := by decide +kernel
theorem dX12_gatherer_51 : decode cX12_gatherer 51 = .ok (.iload_n 1, 1) := by decide +kernel
theorem dX12_gatherer_52 : decode cX12_gatherer 52 = .ok (.iastore, 1) := by decide +kernel
theorem dX12_gatherer_53 : decode cX12_gatherer 53 = .ok (.aload_n 0, 1) := by decide +kernel
theorem dX12_gatherer_54 : decode cX12_gatherer 54 = .ok (.getfield 7, 3) := by decide +kernel
theorem dX12_gatherer_57 : decode cX12_gatherer 57 = .ok (.bipush 47, 2) := by decide +kernel
theorem dX12_gatherer_59 : decode cX12_gatherer 59 = .ok (.aload_n 0, 1) := by decide +kernel
theorem dX12_gatherer_60 : decode cX12_gatherer 60 = .ok (.getfield 159, 3) := by decide +kernel
theorem dX12_gatherer_63 : decode cX12_gatherer 63 = .ok (.iadd, 1) := by decide +kernel
theorem dX12_gatherer_64 : decode cX12_gatherer 64 = .ok (.iconst 0, 1) := by decide +kernel
theorem dX12_gatherer_65 : decode cX12_gatherer 65 = .ok (.iastore, 1) := by decide +kernel
theorem dX12_gatherer_66 : decode cX12_gatherer 66 = .ok (.aload_n 0, 1) := by decide +kernel
theorem dX12_gatherer_67 : decode cX12_gatherer 67 = .ok (.getfield 7, 3) := by decide +kernel
theorem dX12_gatherer_70 : decode cX12_gatherer 70 = .ok (.bipush 55, 2) := by decide +kernel
theorem dX12_gatherer_72 : decode cX12_gatherer 72 = .ok (.aload_n 0, 1) := by decide +kernel
theorem dX12_gatherer_73 : decode cX12_gatherer 73 = .ok (.getfield 159, 3) := by decide +kernel
theorem dX12_gatherer_76 : decode cX12_gatherer 76 = .ok (.iadd, 1) := by decide +kernel
theorem dX12_gatherer_77 : decode cX12_gatherer 77 = .ok (.iconst 0, 1) := by decide +kernel
theorem dX12_gatherer_78 : decode cX12_gatherer 78 = .ok (.iastore, 1) := by decide +kernel
theorem dX12_gatherer_79 : decode cX12_gatherer 79 = .ok (.aload_n 0, 1) := by decide +kernel
theorem dX12_gatherer_80 : decode cX12_gatherer 80 = .ok (.aload_n 0, 1) := by decide +kernel
theorem dX12_gatherer_81 : decode cX12_gatherer 81 = .ok (.getfield 159, 3) := by decide +kernel
theorem dX12_gatherer_84 : decode cX12_gatherer 84 = .ok (.iconst 1, 1) := by decide +kernel
theorem dX12_gatherer_85 : decode cX12_gatherer 85 = .ok (.iadd, 1) := by decide +kernel
theorem dX12_gatherer_86 : decode cX12_gatherer 86 = .ok (.putfield 159, 3) := by decide +kernel
theorem dX12_gatherer_89 : decode cX12_gatherer 89 = .ok (.aload_n 0, 1) := by decide +kernel
theorem dX12_gatherer_90 : decode cX12_gatherer 90 = .ok (.iconst 0, 1) := by decide +kernel
theorem dX12_gatherer_91 : decode cX12_gatherer 91 = .ok (.putfield 147, 3) := by decide +kernel
theorem dX12_gatherer_94 : decode cX12_gatherer 94 = .ok (.aload_n 0, 1) := by decide +kernel
theorem dX12_gatherer_95 : decode cX12_gatherer 95 = .ok (.getfield 159, 3) := by decide +kernel
theorem dX12_gatherer_98 : decode cX12_gatherer 98 = .ok (.iconst 1, 1) := by decide +kernel
theorem dX12_gatherer_99 : decode cX12_gatherer 99 = .ok (.isub, 1) := by decide +kernel
theorem dX12_gatherer_100 : decode cX12_gatherer 100 = .ok (.ireturn, 1) := by decide +kernel
theorem dX12_mourner_0 : decode cX12_mourner 0 = .ok (.aload_n 0, 1) := by decide +kernel
theorem dX12_mourner_1 : decode cX12_mourner 1 = .ok (.iconst 0, 1) := by decide +kernel
theorem dX12_mourner_2 : decode cX12_mourner 2 = .ok (.putfield 140, 3) := by decide +kernel
theorem dX12_mourner_5 : decode cX12_mourner 5 = .ok (.aload_n 0, 1) := by decide +kernel
theorem dX12_mourner_6 : decode cX12_mourner 6 = .ok (.iload_n 1, 1) := by decide +kernel
theorem dX12_mourner_7 : decode cX12_mourner 7 = .ok (.iconst 0, 1) := by decide +kernel
theorem dX12_mourner_8 : decode cX12_mourner 8 = .ok (.bipush 19, 2) := by decide +kernel
theorem dX12_mourner_10 : decode cX12_mourner 10 = .ok (.invokevirtual 165, 3) := by decide +kernel
theorem dX12_mourner_13 : decode cX12_mourner 13 = .ok (.ifCond .eq 34, 3) := by decide +kernel
theorem dX12_mourner_16 : decode cX12_mourner 16 = .ok (.aload_n 0, 1) := by decide +kernel
theorem dX12_mourner_17 : decode cX12_mourner 17 = .ok (.iload_n 2, 1) := by decide +kernel
theorem dX12_mourner_18 : decode cX12_mourner 18 = .ok (.iconst 0, 1) := by decide +kernel
theorem dX12_mourner_19 : decode cX12_mourner 19 = .ok (.bipush 99, 2) := by decide +kernel
theorem dX12_mourner_21 : decode cX12_mourner 21 = .ok (.invokevirtual 165, 3) := by decide +kernel
theorem dX12_mourner_24 : decode cX12_mourner 24 = .ok (.ifCond .eq 23, 3) := by decide +kernel
theorem dX12_mourner_27 : decode cX12_mourner 27 = .ok (.aload_n 0, 1) := by decide +kernel
theorem dX12_mourner_28 : decode cX12_mourner 28 = .ok (.iload_n 3, 1) := by decide +kernel
theorem dX12_mourner_29 : decode cX12_mourner 29 = .ok (.iconst 1, 1) := by decide +kernel
theorem dX12_mourner_30 : decode cX12_mourner 30 = .ok (.bipush 9, 2) := by decide +kernel
theorem dX12_mourner_32 : decode cX12_mourner 32 = .ok (.invokevirtual 165, 3) := by decide +kernel
theorem dX12_mourner_35 : decode cX12_mourner 35 = .ok (.ifCond .eq 12, 3) := by decide +kernel
theorem dX12_mourner_38 : decode cX12_mourner 38 = .ok (.aload_n 0, 1) := by decide +kernel
theorem dX12_mourner_39 : decode cX12_mourner 39 = .ok (.getfield 162, 3) := by decide +kernel
theorem dX12_mourner_42 : decode cX12_mourner 42 = .ok (.bipush 10, 2) := by decide +kernel
theorem dX12_mourner_44 : decode cX12_mourner 44 = .ok (.if_icmp .ne 5, 3) := by decide +kernel
theorem dX12_mourner_47 : decode cX12_mourner 47 = .ok (.iconst (-1), 1) := by decide +kernel
theorem dX12_mourner_48 : decode cX12_mourner 48 = .ok (.ireturn, 1) := by decide +kernel
theorem dX12_mourner_49 : decode cX12_mourner 49 = .ok (.aload_n 0, 1) := by decide +kernel
theorem dX12_mourner_50 : decode cX12_mourner 50 = .ok (.getfield 25, 3) := by decide +kernel
theorem dX12_mourner_53 : decode cX12_mourner 53 = .ok (.aload_n 0, 1) := by decide +kernel
theorem dX12_mourner_54 : decode cX12_mourner 54 = .ok (.getfield 162, 3) := by decide +kernel
theorem dX12_mourner_57 : decode cX12_mourner 57 = .ok (.iload_n 1, 1) := by decide +kernel
theorem dX12_mourner_58 : decode cX12_mourner 58 = .ok (.iastore, 1) := by decide +kernel
theorem dX12_mourner_59 : decode cX12_mourner 59 = .ok (.aload_n 0, 1) := by decide +kernel
theorem dX12_mourner_60 : decode cX12_mourner 60 = .ok (.getfield 28, 3) := by decide +kernel
theorem dX12_mourner_63 : decode cX12_mourner 63 = .ok (.aload_n 0, 1) := by decide +kernel
theorem dX12_mourner_64 : decode cX12_mourner 64 = .ok (.getfield 162, 3) := by decide +kernel
theorem dX12_mourner_67 : decode cX12_mourner 67 = .ok (.iload_n 3, 1) := by decide +kernel
theorem dX12_mourner_68 : decode cX12_mourner 68 = .ok (.iastore, 1) := by decide +kernel
theorem dX12_mourner_69 : decode cX12_mourner 69 = .ok (.aload_n 0, 1) := by decide +kernel
theorem dX12_mourner_70 : decode cX12_mourner 70 = .ok (.getfield 7, 3) := by decide +kernel
theorem dX12_mourner_73 : decode cX12_mourner 73 = .ok (.bipush 63, 2) := by decide +kernel
theorem dX12_mourner_75 : decode cX12_mourner 75 = .ok (.aload_n 0, 1) := by decide +kernel
theorem dX12_mourner_76 : decode cX12_mourner 76 = .ok (.getfield 162, 3) := by decide +kernel
theorem dX12_mourner_79 : decode cX12_mourner 79 = .ok (.iadd, 1) := by decide +kernel
theorem dX12_mourner_80 : decode cX12_mourner 80 = .ok (.iload_n 2, 1) := by decide +kernel
theorem dX12_mourner_81 : decode cX12_mourner 81 = .ok (.iastore, 1) := by decide +kernel
theorem dX12_mourner_82 : decode cX12_mourner 82 = .ok (.aload_n 0, 1) := by decide +kernel
theorem dX12_mourner_83 : decode cX12_mourner 83 = .ok (.getfield 7, 3) := by decide +kernel
theorem dX12_mourner_86 : decode cX12_mourner 86 = .ok (.bipush 73, 2) := by decide +kernel
theorem dX12_mourner_88 : decode cX12_mourner 88 = .ok (.aload_n 0, 1) := by decide +kernel
theorem dX12_mourner_89 : decode cX12_mourner 89 = .ok (.getfield 162, 3) := by decide +kernel
theorem dX12_mourner_92 : decode cX12_mourner 92 = .ok (.iadd, 1) := by decide +kernel
theorem dX12_mourner_93 : decode cX12_mourner 93 = .ok (.iconst 0, 1) := by decide +kernel
theorem dX12_mourner_94 : decode cX12_mourner 94 = .ok (.iastore, 1) := by decide +kernel
theorem dX12_mourner_95 : decode cX12_mourner 95 = .ok (.aload_n 0, 1) := by decide +kernel
theorem dX12_mourner_96 : decode cX12_mourner 96 = .ok (.getfield 7, 3) := by decide +kernel
theorem dX12_mourner_99 : decode cX12_mourner 99 = .ok (.bipush 83, 2) := by decide +kernel
theorem dX12_mourner_101 : decode cX12_mourner 101 = .ok (.aload_n 0, 1) := by decide +kernel
theorem dX12_mourner_102 : decode cX12_mourner 102 = .ok (.getfield 162, 3) := by decide +kernel
theorem dX12_mourner_105 : decode cX12_mourner 105 = .ok (.iadd, 1) := by decide +kernel
theorem dX12_mourner_106 : decode cX12_mourner 106 = .ok (.iconst 0, 1) := by decide +kernel
theorem dX12_mourner_107 : decode cX12_mourner 107 = .ok (.iastore, 1) := by decide +kernel
theorem dX12_mourner_108 : decode cX12_mourner 108 = .ok (.aload_n 0, 1) := by decide +kernel
theorem dX12_mourner_109 : decode cX12_mourner 109 = .ok (.aload_n 0, 1) := by decide +kernel
theorem dX12_mourner_110 : decode cX12_mourner 110 = .ok (.getfield 162, 3) := by decide +kernel
theorem dX12_mourner_113 : decode cX12_mourner 113 = .ok (.iconst 1, 1) := by decide +kernel
theorem dX12_mourner_114 : decode cX12_mourner 114 = .ok (.iadd, 1) := by decide +kernel
theorem dX12_mourner_115 : decode cX12_mourner 115 = .ok (.putfield 162, 3) := by decide +kernel
theorem dX12_mourner_118 : decode cX12_mourner 118 = .ok (.aload_n 0, 1) := by decide +kernel
theorem dX12_mourner_119 : decode cX12_mourner 119 = .ok (.iconst 0, 1) := by decide +kernel
theorem dX12_mourner_120 : decode cX12_mourner 120 = .ok (.putfield 147, 3) := by decide +kernel
theorem dX12_mourner_123 : decode cX12_mourner 123 = .ok (.aload_n 0, 1) := by decide +kernel
theorem dX12_mourner_124 : decode cX12_mourner 124 = .ok (.getfield 162, 3) := by decide +kernel
theorem dX12_mourner_127 : decode cX12_mourner 127 = .ok (.iconst 1, 1) := by decide +kernel
theorem dX12_mourner_128 : decode cX12_mourner 128 = .ok (.isub, 1) := by decide +kernel
theorem dX12_mourner_129 : decode cX12_mourner 129 = .ok (.ireturn, 1) := by decide +kernel
theorem dX12_canSet_0 : decode cX12_canSet 0 = .ok (.iload_n 1, 1) := by decide +kernel
theorem dX12_canSet_1 : decode cX12_canSet 1 = .ok (.ifCond .ne 39, 3) := by decide +kernel
theorem dX12_canSet_4 : decode cX12_canSet 4 = .ok (.aload_n 0, 1) := by decide +kernel
theorem dX12_canSet_5 : decode cX12_canSet 5 = .ok (.iload_n 2, 1) := by decide +kernel
theorem dX12_canSet_6 : decode cX12_canSet 6 = .ok (.invokevirtual 169, 3) := by decide +kernel
theorem dX12_canSet_9 : decode cX12_canSet 9 = .ok (.ifCond .eq 29, 3) := by decide +kernel
theorem dX12_canSet_12 : decode cX12_canSet 12 = .ok (.aload_n 0, 1) := by decide +kernel
theorem dX12_canSet_13 : decode cX12_canSet 13 = .ok (.iload_n 2, 1) := by decide +kernel
theorem dX12_canSet_14 : decode cX12_canSet 14 = .ok (.invokevirtual 173, 3) := by decide +kernel
theorem dX12_canSet_17 : decode cX12_canSet 17 = .ok (.ifCond .ne 21, 3) := by decide +kernel
theorem dX12_canSet_20 : decode cX12_canSet 20 = .ok (.aload_n 0, 1) := by decide +kernel
theorem dX12_canSet_21 : decode cX12_canSet 21 = .ok (.iload_n 3, 1) := by decide +kernel
theorem dX12_canSet_22 : decode cX12_canSet 22 = .ok (.iconst 0, 1) := by decide +kernel
theorem dX12_canSet_23 : decode cX12_canSet 23 = .ok (.aload_n 0, 1) := by decide +kernel
theorem dX12_canSet_24 : decode cX12_canSet 24 = .ok (.iload_n 2, 1) := by decide +kernel
theorem dX12_canSet_25 : decode cX12_canSet 25 = .ok (.invokevirtual 176, 3) := by decide +kernel
theorem dX12_canSet_28 : decode cX12_canSet 28 = .ok (.invokevirtual 165, 3) := by decide +kernel
theorem dX12_canSet_31 : decode cX12_canSet 31 = .ok (.ifCond .eq 7, 3) := by decide +kernel
theorem dX12_canSet_34 : decode cX12_canSet 34 = .ok (.iconst 1, 1) := by decide +kernel
theorem dX12_canSet_35 : decode cX12_canSet 35 = .ok (.goto 4, 3) := by decide +kernel
theorem dX12_canSet_38 : decode cX12_canSet 38 = .ok (.iconst 0, 1) := by decide +kernel
theorem dX12_canSet_39 : decode cX12_canSet 39 = .ok (.ireturn, 1) := by decide +kernel
theorem dX12_canSet_40 : decode cX12_canSet 40 = .ok (.iload_n 1, 1) := by decide +kernel
theorem dX12_canSet_41 : decode cX12_canSet 41 = .ok (.iconst 1, 1) := by decide +kernel
theorem dX12_canSet_42 : decode cX12_canSet 42 = .ok (.if_icmp .ne 28, 3) := by decide +kernel
theorem dX12_canSet_45 : decode cX12_canSet 45 = .ok (.aload_n 0, 1) := by decide +kernel
theorem dX12_canSet_46 : decode cX12_canSet 46 = .ok (.iload_n 2, 1) := by decide +kernel
theorem dX12_canSet_47 : decode cX12_canSet 47 = .ok (.invokevirtual 179, 3) := by decide +kernel
theorem dX12_canSet_50 : decode cX12_canSet 50 = .ok (.ifCond .eq 18, 3) := by decide +kernel
theorem dX12_canSet_53 : decode cX12_canSet 53 = .ok (.aload_n 0, 1) := by decide +kernel
theorem dX12_canSet_54 : decode cX12_canSet 54 = .ok (.iload_n 3, 1) := by decide +kernel
theorem dX12_canSet_55 : decode cX12_canSet 55 = .ok (.iconst 0, 1) := by decide +kernel
theorem dX12_canSet_56 : decode cX12_canSet 56 = .ok (.bipush 40, 2) := by decide +kernel
theorem dX12_canSet_58 : decode cX12_canSet 58 = .ok (.invokevirtual 165, 3) := by decide +kernel
theorem dX12_canSet_61 : decode cX12_canSet 61 = .ok (.ifCond .eq 7, 3) := by decide +kernel
theorem dX12_canSet_64 : decode cX12_canSet 64 = .ok (.iconst 1, 1) := by decide +kernel
theorem dX12_canSet_65 : decode cX12_canSet 65 = .ok (.goto 4, 3) := by decide +kernel
theorem dX12_canSet_68 : decode cX12_canSet 68 = .ok (.iconst 0, 1) := by decide +kernel
theorem dX12_canSet_69 : decode cX12_canSet 69 = .ok (.ireturn, 1) := by decide +kernel
theorem dX12_canSet_70 : decode cX12_canSet 70 = .ok (.iload_n 1, 1) := by decide +kernel
theorem dX12_canSet_71 : decode cX12_canSet 71 = .ok (.iconst 2, 1) := by decide +kernel
theorem dX12_canSet_72 : decode cX12_canSet 72 = .ok (.if_icmp .ne 28, 3) := by decide +kernel
theorem dX12_canSet_75 : decode cX12_canSet 75 = .ok (.aload_n 0, 1) := by decide +kernel
theorem dX12_canSet_76 : decode cX12_canSet 76 = .ok (.iload_n 2, 1) := by decide +kernel
theorem dX12_canSet_77 : decode cX12_canSet 77 = .ok (.invokevirtual 182, 3) := by decide +kernel
theorem dX12_canSet_80 : decode cX12_canSet 80 = .ok (.ifCond .eq 18, 3) := by decide +kernel
theorem dX12_canSet_83 : decode cX12_canSet 83 = .ok (.aload_n 0, 1) := by decide +kernel
theorem dX12_canSet_84 : decode cX12_canSet 84 = .ok (.iload_n 3, 1) := by decide +kernel
theorem dX12_canSet_85 : decode cX12_canSet 85 = .ok (.iconst 0, 1) := by decide +kernel
theorem dX12_canSet_86 : decode cX12_canSet 86 = .ok (.bipush 99, 2) := by decide +kernel
theorem dX12_canSet_88 : decode cX12_canSet 88 = .ok (.invokevirtual 165, 3) := by decide +kernel
theorem dX12_canSet_91 : decode cX12_canSet 91 = .ok (.ifCond .eq 7, 3) := by decide +kernel
theorem dX12_canSet_94 : decode cX12_canSet 94 = .ok (.iconst 1, 1) := by decide +kernel
theorem dX12_canSet_95 : decode cX12_canSet 95 = .ok (.goto 4, 3) := by decide +kernel
theorem dX12_canSet_98 : decode cX12_canSet 98 = .ok (.iconst 0, 1) := by decide +kernel
theorem dX12_canSet_99 : decode cX12_canSet 99 = .ok (.ireturn, 1) := by decide +kernel
theorem dX12_canSet_100 : decode cX12_canSet 100 = .ok (.aload_n 0, 1) := by decide +kernel
theorem dX12_canSet_101 : decode cX12_canSet 101 = .ok (.iload_n 1, 1) := by decide +kernel
theorem dX12_canSet_102 : decode cX12_canSet 102 = .ok (.iconst 3, 1) := by decide +kernel
theorem dX12_canSet_103 : decode cX12_canSet 103 = .ok (.iconst 5, 1) := by decide +kernel
theorem dX12_canSet_104 : decode cX12_canSet 104 = .ok (.invokevirtual 165, 3) := by decide +kernel
theorem dX12_canSet_107 : decode cX12_canSet 107 = .ok (.ifCond .eq 18, 3) := by decide +kernel
theorem dX12_canSet_110 : decode cX12_canSet 110 = .ok (.aload_n 0, 1) := by decide +kernel
theorem dX12_canSet_111 : decode cX12_canSet 111 = .ok (.iload_n 3, 1) := by decide +kernel
theorem dX12_canSet_112 : decode cX12_canSet 112 = .ok (.iconst 0, 1) := by decide +kernel
theorem dX12_canSet_113 : decode cX12_canSet 113 = .ok (.bipush 9, 2) := by decide +kernel
theorem dX12_canSet_115 : decode cX12_canSet 115 = .ok (.invokevirtual 165, 3) := by decide +kernel
theorem dX12_canSet_118 : decode cX12_canSet 118 = .ok (.ifCond .eq 7, 3) := by decide +kernel
theorem dX12_canSet_121 : decode cX12_canSet 121 = .ok (.iconst 1, 1) := by decide +kernel
theorem dX12_canSet_122 : decode cX12_canSet 122 = .ok (.goto 4, 3) := by decide +kernel
theorem dX12_canSet_125 : decode cX12_canSet 125 = .ok (.iconst 0, 1) := by decide +kernel
theorem dX12_canSet_126 : decode cX12_canSet 126 = .ok (.ireturn, 1) := by decide +kernel
theorem dX12_set_0 : decode cX12_set 0 = .ok (.aload_n 0, 1) := by decide +kernel
theorem dX12_set_1 : decode cX12_set 1 = .ok (.iconst 0, 1) := by decide +kernel
theorem dX12_set_2 : decode cX12_set 2 = .ok (.putfield 140, 3) := by decide +kernel
theorem dX12_set_5 : decode cX12_set 5 = .ok (.aload_n 0, 1) := by decide +kernel
theorem dX12_set_6 : decode cX12_set 6 = .ok (.iload_n 1, 1) := by decide +kernel
theorem dX12_set_7 : decode cX12_set 7 = .ok (.iload_n 2, 1) := by decide +kernel
theorem dX12_set_8 : decode cX12_set 8 = .ok (.iload_n 3, 1) := by decide +kernel
theorem dX12_set_9 : decode cX12_set 9 = .ok (.invokevirtual 185, 3) := by decide +kernel
theorem dX12_set_12 : decode cX12_set 12 = .ok (.ifCond .ne 5, 3) := by decide +kernel
theorem dX12_set_15 : decode cX12_set 15 = .ok (.iconst 0, 1) := by decide +kernel
theorem dX12_set_16 : decode cX12_set 16 = .ok (.ireturn, 1) := by decide +kernel
theorem dX12_set_17 : decode cX12_set 17 = .ok (.iload_n 1, 1) := by decide +kernel
theorem dX12_set_18 : decode cX12_set 18 = .ok (.ifCond .ne 13, 3) := by decide +kernel
theorem dX12_set_21 : decode cX12_set 21 = .ok (.aload_n 0, 1) := by decide +kernel
theorem dX12_set_22 : decode cX12_set 22 = .ok (.getfield 7, 3) := by decide +kernel
theorem dX12_set_25 : decode cX12_set 25 = .ok (.bipush 7, 2) := by decide +kernel
theorem dX12_set_27 : decode cX12_set 27 = .ok (.iload_n 2, 1) := by decide +kernel
theorem dX12_set_28 : decode cX12_set 28 = .ok (.iadd, 1) := by decide +kernel
theorem dX12_set_29 : decode cX12_set 29 = .ok (.iload_n 3, 1) := by decide +kernel
theorem dX12_set_30 : decode cX12_set 30 = .ok (.iastore, 1) := by decide +kernel
theorem dX12_set_31 : decode cX12_set 31 = .ok (.iload_n 1, 1) := by decide +kernel
theorem dX12_set_32 : decode cX12_set 32 = .ok (.iconst 1, 1) := by decide +kernel
theorem dX12_set_33 : decode cX12_set 33 = .ok (.if_icmp .ne 13, 3) := by decide +kernel
theorem dX12_set_36 : decode cX12_set 36 = .ok (.aload_n 0, 1) := by decide +kernel
theorem dX12_set_37 : decode cX12_set 37 = .ok (.getfield 7, 3) := by decide +kernel
theorem dX12_set_40 : decode cX12_set 40 = .ok (.bipush 47, 2) := by decide +kernel
theorem dX12_set_42 : decode cX12_set 42 = .ok (.iload_n 2, 1) := by decide +kernel
theorem dX12_set_43 : decode cX12_set 43 = .ok (.iadd, 1) := by decide +kernel
theorem dX12_set_44 : decode cX12_set 44 = .ok (.iload_n 3, 1) := by decide +kernel
theorem dX12_set_45 : decode cX12_set 45 = .ok (.iastore, 1) := by decide +kernel
theorem dX12_set_46 : decode cX12_set 46 = .ok (.iload_n 1, 1) := by decide +kernel
theorem dX12_set_47 : decode cX12_set 47 = .ok (.iconst 2, 1) := by decide +kernel
theorem dX12_set_48 : decode cX12_set 48 = .ok (.if_icmp .ne 13, 3) := by decide +kernel
theorem dX12_set_51 : decode cX12_set 51 = .ok (.aload_n 0, 1) := by decide +kernel
theorem dX12_set_52 : decode cX12_set 52 = .ok (.getfield 7, 3) := by decide +kernel
theorem dX12_set_55 : decode cX12_set 55 = .ok (.bipush 63, 2) := by decide +kernel
theorem dX12_set_57 : decode cX12_set 57 = .ok (.iload_n 2, 1) := by decide +kernel
theorem dX12_set_58 : decode cX12_set 58 = .ok (.iadd, 1) := by decide +kernel
theorem dX12_set_59 : decode cX12_set 59 = .ok (.iload_n 3, 1) := by decide +kernel
theorem dX12_set_60 : decode cX12_set 60 = .ok (.iastore, 1) := by decide +kernel
theorem dX12_set_61 : decode cX12_set 61 = .ok (.iload_n 1, 1) := by decide +kernel
theorem dX12_set_62 : decode cX12_set 62 = .ok (.iconst 2, 1) := by decide +kernel
theorem dX12_set_63 : decode cX12_set 63 = .ok (.if_icmp .le 14, 3) := by decide +kernel
theorem dX12_set_66 : decode cX12_set 66 = .ok (.aload_n 0, 1) := by decide +kernel
theorem dX12_set_67 : decode cX12_set 67 = .ok (.getfield 7, 3) := by decide +kernel
theorem dX12_set_70 : decode cX12_set 70 = .ok (.iconst 3, 1) := by decide +kernel
theorem dX12_set_71 : decode cX12_set 71 = .ok (.iload_n 1, 1) := by decide +kernel
theorem dX12_set_72 : decode cX12_set 72 = .ok (.iadd, 1) := by decide +kernel
theorem dX12_set_73 : decode cX12_set 73 = .ok (.iconst 3, 1) := by decide +kernel
theorem dX12_set_74 : decode cX12_set 74 = .ok (.isub, 1) := by decide +kernel
theorem dX12_set_75 : decode cX12_set 75 = .ok (.iload_n 3, 1) := by decide +kernel
theorem dX12_set_76 : decode cX12_set 76 = .ok (.iastore, 1) := by decide +kernel
theorem dX12_set_77 : decode cX12_set 77 = .ok (.aload_n 0, 1) := by decide +kernel
theorem dX12_set_78 : decode cX12_set 78 = .ok (.iconst 0, 1) := by decide +kernel
theorem dX12_set_79 : decode cX12_set 79 = .ok (.putfield 147, 3) := by decide +kernel
theorem dX12_set_82 : decode cX12_set 82 = .ok (.iconst 1, 1) := by decide +kernel
theorem dX12_set_83 : decode cX12_set 83 = .ok (.ireturn, 1) := by decide +kernel
theorem dX12_types_0 : decode cX12_types 0 = .ok (.bipush 24, 2) := by decide +kernel
theorem dX12_types_2 : decode cX12_types 2 = .ok (.istore_n 2, 1) := by decide +kernel
theorem dX12_types_3 : decode cX12_types 3 = .ok (.iload_n 2, 1) := by decide +kernel
theorem dX12_types_4 : decode cX12_types 4 = .ok (.ifCond .lt 35, 3) := by decide +kernel
theorem dX12_types_7 : decode cX12_types 7 = .ok (.aload_n 0, 1) := by decide +kernel
theorem dX12_types_8 : decode cX12_types 8 = .ok (.getfield 34, 3) := by decide +kernel
theorem dX12_types_11 : decode cX12_types 11 = .ok (.aload_n 0, 1) := by decide +kernel
theorem dX12_types_12 : decode cX12_types 12 = .ok (.getfield 188, 3) := by decide +kernel
theorem dX12_types_15 : decode cX12_types 15 = .ok (.iload_n 1, 1) := by decide +kernel
theorem dX12_types_16 : decode cX12_types 16 = .ok (.iload_n 2, 1) := by decide +kernel
theorem dX12_types_17 : decode cX12_types 17 = .ok (.ishr, 1) := by decide +kernel
theorem dX12_types_18 : decode cX12_types 18 = .ok (.sipush 255, 3) := by decide +kernel
theorem dX12_types_21 : decode cX12_types 21 = .ok (.iand, 1) := by decide +kernel
theorem dX12_types_22 : decode cX12_types 22 = .ok (.iastore, 1) := by decide +kernel
theorem dX12_types_23 : decode cX12_types 23 = .ok (.aload_n 0, 1) := by decide +kernel
theorem dX12_types_24 : decode cX12_types 24 = .ok (.aload_n 0, 1) := by decide +kernel
theorem dX12_types_25 : decode cX12_types 25 = .ok (.getfield 188, 3) := by decide +kernel
theorem dX12_types_28 : decode cX12_types 28 = .ok (.iconst 1, 1) := by decide +kernel
theorem dX12_types_29 : decode cX12_types 29 = .ok (.iadd, 1) := by decide +kernel
theorem dX12_types_30 : decode cX12_types 30 = .ok (.putfield 188, 3) := by decide +kernel
theorem dX12_types_33 : decode cX12_types 33 = .ok (.iinc 2 (-8), 3) := by decide +kernel
theorem dX12_types_36 : decode cX12_types 36 = .ok (.goto (-33), 3) := by decide +kernel
theorem dX12_types_39 : decode cX12_types 39 = .ok (.return_, 1) := by decide +kernel
theorem dX12_feed_0 : decode cX12_feed 0 = .ok (.aload_n 0, 1) := by decide +kernel
theorem dX12_feed_1 : decode cX12_feed 1 = .ok (.iconst 0, 1) := by decide +kernel
theorem dX12_feed_2 : decode cX12_feed 2 = .ok (.putfield 140, 3) := by decide +kernel
theorem dX12_feed_5 : decode cX12_feed 5 = .ok (.aload_n 0, 1) := by decide +kernel
theorem dX12_feed_6 : decode cX12_feed 6 = .ok (.getfield 188, 3) := by decide +kernel
theorem dX12_feed_9 : decode cX12_feed 9 = .ok (.sipush 380, 3) := by decide +kernel
theorem dX12_feed_12 : decode cX12_feed 12 = .ok (.if_icmp .le 5, 3) := by decide +kernel
theorem dX12_feed_15 : decode cX12_feed 15 = .ok (.iconst (-1), 1) := by decide +kernel
theorem dX12_feed_16 : decode cX12_feed 16 = .ok (.ireturn, 1) := by decide +kernel
theorem dX12_feed_17 : decode cX12_feed 17 = .ok (.aload_n 0, 1) := by decide +kernel
theorem dX12_feed_18 : decode cX12_feed 18 = .ok (.iload_n 1, 1) := by decide +kernel
theorem dX12_feed_19 : decode cX12_feed 19 = .ok (.invokevirtual 191, 3) := by decide +kernel
theorem dX12_feed_22 : decode cX12_feed 22 = .ok (.aload_n 0, 1) := by decide +kernel
theorem dX12_feed_23 : decode cX12_feed 23 = .ok (.iload_n 2, 1) := by decide +kernel
theorem dX12_feed_24 : decode cX12_feed 24 = .ok (.invokevirtual 191, 3) := by decide +kernel
theorem dX12_feed_27 : decode cX12_feed 27 = .ok (.aload_n 0, 1) := by decide +kernel
theorem dX12_feed_28 : decode cX12_feed 28 = .ok (.iload_n 3, 1) := by decide +kernel
theorem dX12_feed_29 : decode cX12_feed 29 = .ok (.invokevirtual 191, 3) := by decide +kernel
theorem dX12_feed_32 : decode cX12_feed 32 = .ok (.aload_n 0, 1) := by decide +kernel
theorem dX12_feed_33 : decode cX12_feed 33 = .ok (.iload 4, 2) := by decide +kernel
theorem dX12_feed_35 : decode cX12_feed 35 = .ok (.invokevirtual 191, 3) := by decide +kernel
theorem dX12_feed_38 : decode cX12_feed 38 = .ok (.aload_n 0, 1) := by decide +kernel
theorem dX12_feed_39 : decode cX12_feed 39 = .ok (.iload 5, 2) := by decide +kernel
theorem dX12_feed_41 : decode cX12_feed 41 = .ok (.invokevirtual 191, 3) := by decide +kernel
theorem dX12_feed_44 : decode cX12_feed 44 = .ok (.aload_n 0, 1) := by decide +kernel
theorem dX12_feed_45 : decode cX12_feed 45 = .ok (.getfield 188, 3) := by decide +kernel
theorem dX12_feed_48 : decode cX12_feed 48 = .ok (.ireturn, 1) := by decide +kernel
theorem dX12_end_0 : decode cX12_end 0 = .ok (.aload_n 0, 1) := by decide +kernel
theorem dX12_end_1 : decode cX12_end 1 = .ok (.iconst 0, 1) := by decide +kernel
theorem dX12_end_2 : decode cX12_end 2 = .ok (.putfield 140, 3) := by decide +kernel
theorem dX12_end_5 : decode cX12_end 5 = .ok (.aload_n 0, 1) := by decide +kernel
theorem dX12_end_6 : decode cX12_end 6 = .ok (.iload_n 1, 1) := by decide +kernel
theorem dX12_end_7 : decode cX12_end 7 = .ok (.iconst 0, 1) := by decide +kernel
theorem dX12_end_8 : decode cX12_end 8 = .ok (.aload_n 0, 1) := by decide +kernel
theorem dX12_end_9 : decode cX12_end 9 = .ok (.getfield 188, 3) := by decide +kernel
theorem dX12_end_12 : decode cX12_end 12 = .ok (.invokevirtual 165, 3) := by decide +kernel
theorem dX12_end_15 : decode cX12_end 15 = .ok (.ifCond .ne 5, 3) := by decide +kernel
theorem dX12_end_18 : decode cX12_end 18 = .ok (.iconst 0, 1) := by decide +kernel
theorem dX12_end_19 : decode cX12_end 19 = .ok (.ireturn, 1) := by decide +kernel
theorem dX12_end_20 : decode cX12_end 20 = .ok (.aload_n 0, 1) := by decide +kernel
theorem dX12_end_21 : decode cX12_end 21 = .ok (.iload_n 1, 1) := by decide +kernel
theorem dX12_end_22 : decode cX12_end 22 = .ok (.putfield 188, 3) := by decide +kernel
theorem dX12_end_25 : decode cX12_end 25 = .ok (.iconst 1, 1) := by decide +kernel
theorem dX12_end_26 : decode cX12_end 26 = .ok (.ireturn, 1) := by decide +kernel
theorem dX12_raw_0 : decode cX12_raw 0 = .ok (.iload_n 1, 1) := by decide +kernel
theorem dX12_raw_1 : decode cX12_raw 1 = .ok (.aload_n 0, 1) := by decide +kernel
theorem dX12_raw_2 : decode cX12_raw 2 = .ok (.getfield 188, 3) := by decide +kernel
theorem dX12_raw_5 : decode cX12_raw 5 = .ok (.if_icmp .ge 12, 3) := by decide +kernel
theorem dX12_raw_8 : decode cX12_raw 8 = .ok (.aload_n 0, 1) := by decide +kernel
theorem dX12_raw_9 : decode cX12_raw 9 = .ok (.getfield 34, 3) := by decide +kernel
theorem dX12_raw_12 : decode cX12_raw 12 = .ok (.iload_n 1, 1) := by decide +kernel
theorem dX12_raw_13 : decode cX12_raw 13 = .ok (.iaload, 1) := by decide +kernel
theorem dX12_raw_14 : decode cX12_raw 14 = .ok (.goto 4, 3) := by decide +kernel
theorem dX12_raw_17 : decode cX12_raw 17 = .ok (.iconst (-1), 1) := by decide +kernel
theorem dX12_raw_18 : decode cX12_raw 18 = .ok (.ireturn, 1) := by decide +kernel
theorem dX12_isLetter_0 : decode cX12_isLetter 0 = .ok (.aload_n 0, 1) := by decide +kernel
theorem dX12_isLetter_1 : decode cX12_isLetter 1 = .ok (.iload_n 1, 1) := by decide +kernel
theorem dX12_isLetter_2 : decode cX12_isLetter 2 = .ok (.bipush 97, 2) := by decide +kernel
theorem dX12_isLetter_4 : decode cX12_isLetter 4 = .ok (.bipush 122, 2) := by decide +kernel
theorem dX12_isLetter_6 : decode cX12_isLetter 6 = .ok (.invokevirtual 165, 3) := by decide +kernel
theorem dX12_isLetter_9 : decode cX12_isLetter 9 = .ok (.ifCond .ne 15, 3) := by decide +kernel
theorem dX12_isLetter_12 : decode cX12_isLetter 12 = .ok (.aload_n 0, 1) := by decide +kernel
theorem dX12_isLetter_13 : decode cX12_isLetter 13 = .ok (.iload_n 1, 1) := by decide +kernel
theorem dX12_isLetter_14 : decode cX12_isLetter 14 = .ok (.bipush 65, 2) := by decide +kernel
theorem dX12_isLetter_16 : decode cX12_isLetter 16 = .ok (.bipush 90, 2) := by decide +kernel
theorem dX12_isLetter_18 : decode cX12_isLetter 18 = .ok (.invokevirtual 165, 3) := by decide +kernel
theorem dX12_isLetter_21 : decode cX12_isLetter 21 = .ok (.ifCond .eq 7, 3) := by decide +kernel
theorem dX12_isLetter_24 : decode cX12_isLetter 24 = .ok (.iconst 1, 1) := by decide +kernel
theorem dX12_isLetter_25 : decode cX12_isLetter 25 = .ok (.goto 4, 3) := by decide +kernel
theorem dX12_isLetter_28 : decode cX12_isLetter 28 = .ok (.iconst 0, 1) := by decide +kernel
theorem dX12_isLetter_29 : decode cX12_isLetter 29 = .ok (.ireturn, 1) := by decide +kernel
theorem dX12_isDigit_0 : decode cX12_isDigit 0 = .ok (.aload_n 0, 1) := by decide +kernel
theorem dX12_isDigit_1 : decode cX12_isDigit 1 = .ok (.iload_n 1, 1) := by decide +kernel
theorem dX12_isDigit_2 : decode cX12_isDigit 2 = .ok (.bipush 48, 2) := by decide +kernel
theorem dX12_isDigit_4 : decode cX12_isDigit 4 = .ok (.bipush 57, 2) := by decide +kernel
theorem dX12_isDigit_6 : decode cX12_isDigit 6 = .ok (.invokevirtual 165, 3) := by decide +kernel
theorem dX12_isDigit_9 : decode cX12_isDigit 9 = .ok (.ireturn, 1) := by decide +kernel
theorem dX12_isMarkSign_0 : decode cX12_isMarkSign 0 = .ok (.iload_n 1, 1) := by decide +kernel
theorem dX12_isMarkSign_1 : decode cX12_isMarkSign 1 = .ok (.bipush 59, 2) := by decide +kernel
theorem dX12_isMarkSign_3 : decode cX12_isMarkSign 3 = .ok (.if_icmp .eq 57, 3) := by decide +kernel
theorem dX12_isMarkSign_6 : decode cX12_isMarkSign 6 = .ok (.iload_n 1, 1) := by decide +kernel
theorem dX12_isMarkSign_7 : decode cX12_isMarkSign 7 = .ok (.bipush 43, 2) := by decide +kernel
theorem dX12_isMarkSign_9 : decode cX12_isMarkSign 9 = .ok (.if_icmp .eq 51, 3) := by decide +kernel
theorem dX12_isMarkSign_12 : decode cX12_isMarkSign 12 = .ok (.iload_n 1, 1) := by decide +kernel
theorem dX12_isMarkSign_13 : decode cX12_isMarkSign 13 = .ok (.bipush 45, 2) := by decide +kernel
theorem dX12_isMarkSign_15 : decode cX12_isMarkSign 15 = .ok (.if_icmp .eq 45, 3) := by decide +kernel
theorem dX12_isMarkSign_18 : decode cX12_isMarkSign 18 = .ok (.iload_n 1, 1) := by decide +kernel
theorem dX12_isMarkSign_19 : decode cX12_isMarkSign 19 = .ok (.bipush 42, 2) := by decide +kernel
theorem dX12_isMarkSign_21 : decode cX12_isMarkSign 21 = .ok (.if_icmp .eq 39, 3) := by decide +kernel
theorem dX12_isMarkSign_24 : decode cX12_isMarkSign 24 = .ok (.iload_n 1, 1) := by decide +kernel
theorem dX12_isMarkSign_25 : decode cX12_isMarkSign 25 = .ok (.bipush 47, 2) := by decide +kernel
theorem dX12_isMarkSign_27 : decode cX12_isMarkSign 27 = .ok (.if_icmp .eq 33, 3) := by decide +kernel
theorem dX12_isMarkSign_30 : decode cX12_isMarkSign 30 = .ok (.iload_n 1, 1) := by decide +kernel
theorem dX12_isMarkSign_31 : decode cX12_isMarkSign 31 = .ok (.bipush 40, 2) := by decide +kernel
theorem dX12_isMarkSign_33 : decode cX12_isMarkSign 33 = .ok (.if_icmp .eq 27, 3) := by decide +kernel
theorem dX12_isMarkSign_36 : decode cX12_isMarkSign 36 = .ok (.iload_n 1, 1) := by decide +kernel
theorem dX12_isMarkSign_37 : decode cX12_isMarkSign 37 = .ok (.bipush 41, 2) := by decide +kernel
theorem dX12_isMarkSign_39 : decode cX12_isMarkSign 39 = .ok (.if_icmp .eq 21, 3) := by decide +kernel
theorem dX12_isMarkSign_42 : decode cX12_isMarkSign 42 = .ok (.iload_n 1, 1) := by decide +kernel
theorem dX12_isMarkSign_43 : decode cX12_isMarkSign 43 = .ok (.bipush 60, 2) := by decide +kernel
theorem dX12_isMarkSign_45 : decode cX12_isMarkSign 45 = .ok (.if_icmp .eq 15, 3) := by decide +kernel
theorem dX12_isMarkSign_48 : decode cX12_isMarkSign 48 = .ok (.iload_n 1, 1) := by decide +kernel
theorem dX12_isMarkSign_49 : decode cX12_isMarkSign 49 = .ok (.bipush 61, 2) := by decide +kernel
theorem dX12_isMarkSign_51 : decode cX12_isMarkSign 51 = .ok (.if_icmp .eq 9, 3) := by decide +kernel
theorem dX12_isMarkSign_54 : decode cX12_isMarkSign 54 = .ok (.iload_n 1, 1) := by decide +kernel
theorem dX12_isMarkSign_55 : decode cX12_isMarkSign 55 = .ok (.bipush 62, 2) := by decide +kernel
theorem dX12_isMarkSign_57 : decode cX12_isMarkSign 57 = .ok (.if_icmp .ne 7, 3) := by decide +kernel
theorem dX12_isMarkSign_60 : decode cX12_isMarkSign 60 = .ok (.iconst 1, 1) := by decide +kernel
theorem dX12_isMarkSign_61 : decode cX12_isMarkSign 61 = .ok (.goto 4, 3) := by decide +kernel
theorem dX12_isMarkSign_64 : decode cX12_isMarkSign 64 = .ok (.iconst 0, 1) := by decide +kernel
theorem dX12_isMarkSign_65 : decode cX12_isMarkSign 65 = .ok (.ireturn, 1) := by decide +kernel
theorem dX12_wordAt_0 : decode cX12_wordAt 0 = .ok (.iconst (-1), 1) := by decide +kernel
theorem dX12_wordAt_1 : decode cX12_wordAt 1 = .ok (.istore_n 3, 1) := by decide +kernel
theorem dX12_wordAt_2 : decode cX12_wordAt 2 = .ok (.iconst 0, 1) := by decide +kernel
theorem dX12_wordAt_3 : decode cX12_wordAt 3 = .ok (.istore 4, 2) := by decide +kernel
theorem dX12_wordAt_5 : decode cX12_wordAt 5 = .ok (.iload 4, 2) := by decide +kernel
theorem dX12_wordAt_7 : decode cX12_wordAt 7 = .ok (.bipush 116, 2) := by decide +kernel
theorem dX12_wordAt_9 : decode cX12_wordAt 9 = .ok (.if_icmp .ge 108, 3) := by decide +kernel
theorem dX12_wordAt_12 : decode cX12_wordAt 12 = .ok (.iconst 0, 1) := by decide +kernel
theorem dX12_wordAt_13 : decode cX12_wordAt 13 = .ok (.istore 5, 2) := by decide +kernel
theorem dX12_wordAt_15 : decode cX12_wordAt 15 = .ok (.iload_n 3, 1) := by decide +kernel
theorem dX12_wordAt_16 : decode cX12_wordAt 16 = .ok (.iconst 1, 1) := by decide +kernel
theorem dX12_wordAt_17 : decode cX12_wordAt 17 = .ok (.iadd, 1) := by decide +kernel
theorem dX12_wordAt_18 : decode cX12_wordAt 18 = .ok (.istore_n 3, 1) := by decide +kernel
theorem dX12_wordAt_19 : decode cX12_wordAt 19 = .ok (.iload_n 1, 1) := by decide +kernel
theorem dX12_wordAt_20 : decode cX12_wordAt 20 = .ok (.iload 5, 2) := by decide +kernel
theorem dX12_wordAt_22 : decode cX12_wordAt 22 = .ok (.iadd, 1) := by decide +kernel
theorem dX12_wordAt_23 : decode cX12_wordAt 23 = .ok (.iload_n 2, 1) := by decide +kernel
theorem dX12_wordAt_24 : decode cX12_wordAt 24 = .ok (.if_icmp .ge 36, 3) := by decide +kernel
theorem dX12_wordAt_27 : decode cX12_wordAt 27 = .ok (.aload_n 0, 1) := by decide +kernel
theorem dX12_wordAt_28 : decode cX12_wordAt 28 = .ok (.getfield 37, 3) := by decide +kernel
theorem dX12_wordAt_31 : decode cX12_wordAt 31 = .ok (.iload 4, 2) := by decide +kernel
theorem dX12_wordAt_33 : decode cX12_wordAt 33 = .ok (.iconst 1, 1) := by decide +kernel
theorem dX12_wordAt_34 : decode cX12_wordAt 34 = .ok (.iadd, 1) := by decide +kernel
theorem dX12_wordAt_35 : decode cX12_wordAt 35 = .ok (.iload 5, 2) := by decide +kernel
theorem dX12_wordAt_37 : decode cX12_wordAt 37 = .ok (.iadd, 1) := by decide +kernel
theorem dX12_wordAt_38 : decode cX12_wordAt 38 = .ok (.iaload, 1) := by decide +kernel
theorem dX12_wordAt_39 : decode cX12_wordAt 39 = .ok (.aload_n 0, 1) := by decide +kernel
theorem dX12_wordAt_40 : decode cX12_wordAt 40 = .ok (.getfield 34, 3) := by decide +kernel
theorem dX12_wordAt_43 : decode cX12_wordAt 43 = .ok (.iload_n 1, 1) := by decide +kernel
theorem dX12_wordAt_44 : decode cX12_wordAt 44 = .ok (.iload 5, 2) := by decide +kernel
theorem dX12_wordAt_46 : decode cX12_wordAt 46 = .ok (.iadd, 1) := by decide +kernel
theorem dX12_wordAt_47 : decode cX12_wordAt 47 = .ok (.iaload, 1) := by decide +kernel
theorem dX12_wordAt_48 : decode cX12_wordAt 48 = .ok (.if_icmp .ne 12, 3) := by decide +kernel
theorem dX12_wordAt_51 : decode cX12_wordAt 51 = .ok (.iload 5, 2) := by decide +kernel
theorem dX12_wordAt_53 : decode cX12_wordAt 53 = .ok (.iconst 1, 1) := by decide +kernel
theorem dX12_wordAt_54 : decode cX12_wordAt 54 = .ok (.iadd, 1) := by decide +kernel
theorem dX12_wordAt_55 : decode cX12_wordAt 55 = .ok (.istore 5, 2) := by decide +kernel
theorem dX12_wordAt_57 : decode cX12_wordAt 57 = .ok (.goto (-38), 3) := by decide +kernel
theorem dX12_wordAt_60 : decode cX12_wordAt 60 = .ok (.iload_n 1, 1) := by decide +kernel
theorem dX12_wordAt_61 : decode cX12_wordAt 61 = .ok (.iload 5, 2) := by decide +kernel
theorem dX12_wordAt_63 : decode cX12_wordAt 63 = .ok (.iadd, 1) := by decide +kernel
theorem dX12_wordAt_64 : decode cX12_wordAt 64 = .ok (.iload_n 2, 1) := by decide +kernel
theorem dX12_wordAt_65 : decode cX12_wordAt 65 = .ok (.if_icmp .ne 22, 3) := by decide +kernel
theorem dX12_wordAt_68 : decode cX12_wordAt 68 = .ok (.aload_n 0, 1) := by decide +kernel
theorem dX12_wordAt_69 : decode cX12_wordAt 69 = .ok (.getfield 37, 3) := by decide +kernel
theorem dX12_wordAt_72 : decode cX12_wordAt 72 = .ok (.iload 4, 2) := by decide +kernel
theorem dX12_wordAt_74 : decode cX12_wordAt 74 = .ok (.iconst 1, 1) := by decide +kernel
theorem dX12_wordAt_75 : decode cX12_wordAt 75 = .ok (.iadd, 1) := by decide +kernel
theorem dX12_wordAt_76 : decode cX12_wordAt 76 = .ok (.iload 5, 2) := by decide +kernel
theorem dX12_wordAt_78 : decode cX12_wordAt 78 = .ok (.iadd, 1) := by decide +kernel
theorem dX12_wordAt_79 : decode cX12_wordAt 79 = .ok (.iaload, 1) := by decide +kernel
theorem dX12_wordAt_80 : decode cX12_wordAt 80 = .ok (.bipush 32, 2) := by decide +kernel
theorem dX12_wordAt_82 : decode cX12_wordAt 82 = .ok (.if_icmp .ne 5, 3) := by decide +kernel
theorem dX12_wordAt_85 : decode cX12_wordAt 85 = .ok (.iload_n 3, 1) := by decide +kernel
theorem dX12_wordAt_86 : decode cX12_wordAt 86 = .ok (.ireturn, 1) := by decide +kernel
theorem dX12_wordAt_87 : decode cX12_wordAt 87 = .ok (.iload 4, 2) := by decide +kernel
theorem dX12_wordAt_89 : decode cX12_wordAt 89 = .ok (.iconst 1, 1) := by decide +kernel
theorem dX12_wordAt_90 : decode cX12_wordAt 90 = .ok (.iadd, 1) := by decide +kernel
theorem dX12_wordAt_91 : decode cX12_wordAt 91 = .ok (.istore 4, 2) := by decide +kernel
theorem dX12_wordAt_93 : decode cX12_wordAt 93 = .ok (.aload_n 0, 1) := by decide +kernel
theorem dX12_wordAt_94 : decode cX12_wordAt 94 = .ok (.getfield 37, 3) := by decide +kernel
theorem dX12_wordAt_97 : decode cX12_wordAt 97 = .ok (.iload 4, 2) := by decide +kernel
theorem dX12_wordAt_99 : decode cX12_wordAt 99 = .ok (.iaload, 1) := by decide +kernel
theorem dX12_wordAt_100 : decode cX12_wordAt 100 = .ok (.bipush 32, 2) := by decide +kernel
theorem dX12_wordAt_102 : decode cX12_wordAt 102 = .ok (.if_icmp .eq 12, 3) := by decide +kernel
theorem dX12_wordAt_105 : decode cX12_wordAt 105 = .ok (.iload 4, 2) := by decide +kernel
theorem dX12_wordAt_107 : decode cX12_wordAt 107 = .ok (.iconst 1, 1) := by decide +kernel
theorem dX12_wordAt_108 : decode cX12_wordAt 108 = .ok (.iadd, 1) := by decide +kernel
theorem dX12_wordAt_109 : decode cX12_wordAt 109 = .ok (.istore 4, 2) := by decide +kernel
theorem dX12_wordAt_111 : decode cX12_wordAt 111 = .ok (.goto (-18), 3) := by decide +kernel
theorem dX12_wordAt_114 : decode cX12_wordAt 114 = .ok (.goto (-109), 3) := by decide +kernel
theorem dX12_wordAt_117 : decode cX12_wordAt 117 = .ok (.iconst (-1), 1) := by decide +kernel
theorem dX12_wordAt_118 : decode cX12_wordAt 118 = .ok (.ireturn, 1) := by decide +kernel
theorem dX12_reads_0 : decode cX12_reads 0 = .ok (.aload_n 0, 1) := by decide +kernel
theorem dX12_reads_1 : decode cX12_reads 1 = .ok (.aload_n 0, 1) := by decide +kernel
theorem dX12_reads_2 : decode cX12_reads 2 = .ok (.getfield 195, 3) := by decide +kernel
theorem dX12_reads_5 : decode cX12_reads 5 = .ok (.invokevirtual 198, 3) := by decide +kernel
theorem dX12_reads_8 : decode cX12_reads 8 = .ok (.bipush 32, 2) := by decide +kernel
theorem dX12_reads_10 : decode cX12_reads 10 = .ok (.if_icmp .eq 16, 3) := by decide +kernel
theorem dX12_reads_13 : decode cX12_reads 13 = .ok (.aload_n 0, 1) := by decide +kernel
theorem dX12_reads_14 : decode cX12_reads 14 = .ok (.aload_n 0, 1) := by decide +kernel
theorem dX12_reads_15 : decode cX12_reads 15 = .ok (.getfield 195, 3) := by decide +kernel
theorem dX12_reads_18 : decode cX12_reads 18 = .ok (.invokevirtual 198, 3) := by decide +kernel
theorem dX12_reads_21 : decode cX12_reads 21 = .ok (.bipush 10, 2) := by decide +kernel
theorem dX12_reads_23 : decode cX12_reads 23 = .ok (.if_icmp .ne 16, 3) := by decide +kernel
theorem dX12_reads_26 : decode cX12_reads 26 = .ok (.aload_n 0, 1) := by decide +kernel
theorem dX12_reads_27 : decode cX12_reads 27 = .ok (.aload_n 0, 1) := by decide +kernel
theorem dX12_reads_28 : decode cX12_reads 28 = .ok (.getfield 195, 3) := by decide +kernel
theorem dX12_reads_31 : decode cX12_reads 31 = .ok (.iconst 1, 1) := by decide +kernel
theorem dX12_reads_32 : decode cX12_reads 32 = .ok (.iadd, 1) := by decide +kernel
theorem dX12_reads_33 : decode cX12_reads 33 = .ok (.putfield 195, 3) := by decide +kernel
theorem dX12_reads_36 : decode cX12_reads 36 = .ok (.goto (-36), 3) := by decide +kernel
theorem dX12_reads_39 : decode cX12_reads 39 = .ok (.aload_n 0, 1) := by decide +kernel
theorem dX12_reads_40 : decode cX12_reads 40 = .ok (.aload_n 0, 1) := by decide +kernel
theorem dX12_reads_41 : decode cX12_reads 41 = .ok (.getfield 195, 3) := by decide +kernel
theorem dX12_reads_44 : decode cX12_reads 44 = .ok (.putfield 201, 3) := by decide +kernel
theorem dX12_reads_47 : decode cX12_reads 47 = .ok (.aload_n 0, 1) := by decide +kernel
theorem dX12_reads_48 : decode cX12_reads 48 = .ok (.iconst 1, 1) := by decide +kernel
theorem dX12_reads_49 : decode cX12_reads 49 = .ok (.putfield 204, 3) := by decide +kernel
theorem dX12_reads_52 : decode cX12_reads 52 = .ok (.aload_n 0, 1) := by decide +kernel
theorem dX12_reads_53 : decode cX12_reads 53 = .ok (.aload_n 0, 1) := by decide +kernel
theorem dX12_reads_54 : decode cX12_reads 54 = .ok (.getfield 195, 3) := by decide +kernel
theorem dX12_reads_57 : decode cX12_reads 57 = .ok (.invokevirtual 198, 3) := by decide +kernel
theorem dX12_reads_60 : decode cX12_reads 60 = .ok (.istore_n 1, 1) := by decide +kernel
theorem dX12_reads_61 : decode cX12_reads 61 = .ok (.iload_n 1, 1) := by decide +kernel
theorem dX12_reads_62 : decode cX12_reads 62 = .ok (.iconst (-1), 1) := by decide +kernel
theorem dX12_reads_63 : decode cX12_reads 63 = .ok (.if_icmp .ne 9, 3) := by decide +kernel
theorem dX12_reads_66 : decode cX12_reads 66 = .ok (.aload_n 0, 1) := by decide +kernel
theorem dX12_reads_67 : decode cX12_reads 67 = .ok (.iconst 0, 1) := by decide +kernel
theorem dX12_reads_68 : decode cX12_reads 68 = .ok (.putfield 204, 3) := by decide +kernel
theorem dX12_reads_71 : decode cX12_reads 71 = .ok (.return_, 1) := by decide +kernel
theorem dX12_reads_72 : decode cX12_reads 72 = .ok (.aload_n 0, 1) := by decide +kernel
theorem dX12_reads_73 : decode cX12_reads 73 = .ok (.aload_n 0, 1) := by decide +kernel
theorem dX12_reads_74 : decode cX12_reads 74 = .ok (.getfield 195, 3) := by decide +kernel
theorem dX12_reads_77 : decode cX12_reads 77 = .ok (.iconst 1, 1) := by decide +kernel
theorem dX12_reads_78 : decode cX12_reads 78 = .ok (.iadd, 1) := by decide +kernel
theorem dX12_reads_79 : decode cX12_reads 79 = .ok (.putfield 195, 3) := by decide +kernel
theorem dX12_reads_82 : decode cX12_reads 82 = .ok (.aload_n 0, 1) := by decide +kernel
theorem dX12_reads_83 : decode cX12_reads 83 = .ok (.iload_n 1, 1) := by decide +kernel
theorem dX12_reads_84 : decode cX12_reads 84 = .ok (.putfield 207, 3) := by decide +kernel
theorem dX12_reads_87 : decode cX12_reads 87 = .ok (.aload_n 0, 1) := by decide +kernel
theorem dX12_reads_88 : decode cX12_reads 88 = .ok (.iload_n 1, 1) := by decide +kernel
theorem dX12_reads_89 : decode cX12_reads 89 = .ok (.invokevirtual 210, 3) := by decide +kernel
theorem dX12_reads_92 : decode cX12_reads 92 = .ok (.ifCond .eq 63, 3) := by decide +kernel
theorem dX12_reads_95 : decode cX12_reads 95 = .ok (.aload_n 0, 1) := by decide +kernel
theorem dX12_reads_96 : decode cX12_reads 96 = .ok (.aload_n 0, 1) := by decide +kernel
theorem dX12_reads_97 : decode cX12_reads 97 = .ok (.aload_n 0, 1) := by decide +kernel
theorem dX12_reads_98 : decode cX12_reads 98 = .ok (.getfield 195, 3) := by decide +kernel
theorem dX12_reads_101 : decode cX12_reads 101 = .ok (.invokevirtual 198, 3) := by decide +kernel
theorem dX12_reads_104 : decode cX12_reads 104 = .ok (.invokevirtual 210, 3) := by decide +kernel
theorem dX12_reads_107 : decode cX12_reads 107 = .ok (.ifCond .eq 16, 3) := by decide +kernel
theorem dX12_reads_110 : decode cX12_reads 110 = .ok (.aload_n 0, 1) := by decide +kernel
theorem dX12_reads_111 : decode cX12_reads 111 = .ok (.aload_n 0, 1) := by decide +kernel
theorem dX12_reads_112 : decode cX12_reads 112 = .ok (.getfield 195, 3) := by decide +kernel
theorem dX12_reads_115 : decode cX12_reads 115 = .ok (.iconst 1, 1) := by decide +kernel
theorem dX12_reads_116 : decode cX12_reads 116 = .ok (.iadd, 1) := by decide +kernel
theorem dX12_reads_117 : decode cX12_reads 117 = .ok (.putfield 195, 3) := by decide +kernel
theorem dX12_reads_120 : decode cX12_reads 120 = .ok (.goto (-25), 3) := by decide +kernel
theorem dX12_reads_123 : decode cX12_reads 123 = .ok (.aload_n 0, 1) := by decide +kernel
theorem dX12_reads_124 : decode cX12_reads 124 = .ok (.aload_n 0, 1) := by decide +kernel
theorem dX12_reads_125 : decode cX12_reads 125 = .ok (.aload_n 0, 1) := by decide +kernel
theorem dX12_reads_126 : decode cX12_reads 126 = .ok (.getfield 201, 3) := by decide +kernel
theorem dX12_reads_129 : decode cX12_reads 129 = .ok (.aload_n 0, 1) := by decide +kernel
theorem dX12_reads_130 : decode cX12_reads 130 = .ok (.getfield 195, 3) := by decide +kernel
theorem dX12_reads_133 : decode cX12_reads 133 = .ok (.invokevirtual 213, 3) := by decide +kernel
theorem dX12_reads_136 : decode cX12_reads 136 = .ok (.putfield 207, 3) := by decide +kernel
theorem dX12_reads_139 : decode cX12_reads 139 = .ok (.aload_n 0, 1) := by decide +kernel
theorem dX12_reads_140 : decode cX12_reads 140 = .ok (.getfield 207, 3) := by decide +kernel
theorem dX12_reads_143 : decode cX12_reads 143 = .ok (.iconst (-1), 1) := by decide +kernel
theorem dX12_reads_144 : decode cX12_reads 144 = .ok (.if_icmp .eq 129, 3) := by decide +kernel
theorem dX12_reads_147 : decode cX12_reads 147 = .ok (.aload_n 0, 1) := by decide +kernel
theorem dX12_reads_148 : decode cX12_reads 148 = .ok (.iconst 2, 1) := by decide +kernel
theorem dX12_reads_149 : decode cX12_reads 149 = .ok (.putfield 204, 3) := by decide +kernel
theorem dX12_reads_152 : decode cX12_reads 152 = .ok (.goto 121, 3) := by decide +kernel
theorem dX12_reads_155 : decode cX12_reads 155 = .ok (.aload_n 0, 1) := by decide +kernel
theorem dX12_reads_156 : decode cX12_reads 156 = .ok (.iload_n 1, 1) := by decide +kernel
theorem dX12_reads_157 : decode cX12_reads 157 = .ok (.invokevirtual 217, 3) := by decide +kernel
theorem dX12_reads_160 : decode cX12_reads 160 = .ok (.ifCond .eq 100, 3) := by decide +kernel
theorem dX12_reads_163 : decode cX12_reads 163 = .ok (.aload_n 0, 1) := by decide +kernel
theorem dX12_reads_164 : decode cX12_reads 164 = .ok (.iload_n 1, 1) := by decide +kernel
theorem dX12_reads_165 : decode cX12_reads 165 = .ok (.bipush 48, 2) := by decide +kernel
theorem dX12_reads_167 : decode cX12_reads 167 = .ok (.isub, 1) := by decide +kernel
theorem dX12_reads_168 : decode cX12_reads 168 = .ok (.putfield 207, 3) := by decide +kernel
theorem dX12_reads_171 : decode cX12_reads 171 = .ok (.aload_n 0, 1) := by decide +kernel
theorem dX12_reads_172 : decode cX12_reads 172 = .ok (.aload_n 0, 1) := by decide +kernel
theorem dX12_reads_173 : decode cX12_reads 173 = .ok (.aload_n 0, 1) := by decide +kernel
theorem dX12_reads_174 : decode cX12_reads 174 = .ok (.getfield 195, 3) := by decide +kernel
theorem dX12_reads_177 : decode cX12_reads 177 = .ok (.invokevirtual 198, 3) := by decide +kernel
theorem dX12_reads_180 : decode cX12_reads 180 = .ok (.invokevirtual 217, 3) := by decide +kernel
theorem dX12_reads_183 : decode cX12_reads 183 = .ok (.ifCond .eq 56, 3) := by decide +kernel
theorem dX12_reads_186 : decode cX12_reads 186 = .ok (.aload_n 0, 1) := by decide +kernel
theorem dX12_reads_187 : decode cX12_reads 187 = .ok (.aload_n 0, 1) := by decide +kernel
theorem dX12_reads_188 : decode cX12_reads 188 = .ok (.getfield 207, 3) := by decide +kernel
theorem dX12_reads_191 : decode cX12_reads 191 = .ok (.sipush 10000, 3) := by decide +kernel
theorem dX12_reads_194 : decode cX12_reads 194 = .ok (.if_icmp .ge 25, 3) := by decide +kernel
theorem dX12_reads_197 : decode cX12_reads 197 = .ok (.bipush 10, 2) := by decide +kernel
theorem dX12_reads_199 : decode cX12_reads 199 = .ok (.aload_n 0, 1) := by decide +kernel
theorem dX12_reads_200 : decode cX12_reads 200 = .ok (.getfield 207, 3) := by decide +kernel
theorem dX12_reads_203 : decode cX12_reads 203 = .ok (.imul, 1) := by decide +kernel
theorem dX12_reads_204 : decode cX12_reads 204 = .ok (.aload_n 0, 1) := by decide +kernel
theorem dX12_reads_205 : decode cX12_reads 205 = .ok (.aload_n 0, 1) := by decide +kernel
theorem dX12_reads_206 : decode cX12_reads 206 = .ok (.getfield 195, 3) := by decide +kernel
theorem dX12_reads_209 : decode cX12_reads 209 = .ok (.invokevirtual 198, 3) := by decide +kernel
theorem dX12_reads_212 : decode cX12_reads 212 = .ok (.iadd, 1) := by decide +kernel
theorem dX12_reads_213 : decode cX12_reads 213 = .ok (.bipush 48, 2) := by decide +kernel
theorem dX12_reads_215 : decode cX12_reads 215 = .ok (.isub, 1) := by decide +kernel
theorem dX12_reads_216 : decode cX12_reads 216 = .ok (.goto 7, 3) := by decide +kernel
theorem dX12_reads_219 : decode cX12_reads 219 = .ok (.aload_n 0, 1) := by decide +kernel
theorem dX12_reads_220 : decode cX12_reads 220 = .ok (.getfield 207, 3) := by decide +kernel
theorem dX12_reads_223 : decode cX12_reads 223 = .ok (.putfield 207, 3) := by decide +kernel
theorem dX12_reads_226 : decode cX12_reads 226 = .ok (.aload_n 0, 1) := by decide +kernel
theorem dX12_reads_227 : decode cX12_reads 227 = .ok (.aload_n 0, 1) := by decide +kernel
theorem dX12_reads_228 : decode cX12_reads 228 = .ok (.getfield 195, 3) := by decide +kernel
theorem dX12_reads_231 : decode cX12_reads 231 = .ok (.iconst 1, 1) := by decide +kernel
theorem dX12_reads_232 : decode cX12_reads 232 = .ok (.iadd, 1) := by decide +kernel
theorem dX12_reads_233 : decode cX12_reads 233 = .ok (.putfield 195, 3) := by decide +kernel
theorem dX12_reads_236 : decode cX12_reads 236 = .ok (.goto (-65), 3) := by decide +kernel
theorem dX12_reads_239 : decode cX12_reads 239 = .ok (.aload_n 0, 1) := by decide +kernel
theorem dX12_reads_240 : decode cX12_reads 240 = .ok (.getfield 195, 3) := by decide +kernel
theorem dX12_reads_243 : decode cX12_reads 243 = .ok (.aload_n 0, 1) := by decide +kernel
theorem dX12_reads_244 : decode cX12_reads 244 = .ok (.getfield 201, 3) := by decide +kernel
theorem dX12_reads_247 : decode cX12_reads 247 = .ok (.isub, 1) := by decide +kernel
theorem dX12_reads_248 : decode cX12_reads 248 = .ok (.iconst 5, 1) := by decide +kernel
theorem dX12_reads_249 : decode cX12_reads 249 = .ok (.if_icmp .ge 24, 3) := by decide +kernel
theorem dX12_reads_252 : decode cX12_reads 252 = .ok (.aload_n 0, 1) := by decide +kernel
theorem dX12_reads_253 : decode cX12_reads 253 = .ok (.iconst 3, 1) := by decide +kernel
theorem dX12_reads_254 : decode cX12_reads 254 = .ok (.putfield 204, 3) := by decide +kernel
theorem dX12_reads_257 : decode cX12_reads 257 = .ok (.goto 16, 3) := by decide +kernel
theorem dX12_reads_260 : decode cX12_reads 260 = .ok (.aload_n 0, 1) := by decide +kernel
theorem dX12_reads_261 : decode cX12_reads 261 = .ok (.iload_n 1, 1) := by decide +kernel
theorem dX12_reads_262 : decode cX12_reads 262 = .ok (.invokevirtual 220, 3) := by decide +kernel
theorem dX12_reads_265 : decode cX12_reads 265 = .ok (.ifCond .eq 8, 3) := by decide +kernel
theorem dX12_reads_268 : decode cX12_reads 268 = .ok (.aload_n 0, 1) := by decide +kernel
theorem dX12_reads_269 : decode cX12_reads 269 = .ok (.iconst 4, 1) := by decide +kernel
theorem dX12_reads_270 : decode cX12_reads 270 = .ok (.putfield 204, 3) := by decide +kernel
theorem dX12_reads_273 : decode cX12_reads 273 = .ok (.return_, 1) := by decide +kernel
theorem dX12_errs_0 : decode cX12_errs 0 = .ok (.aload_n 0, 1) := by decide +kernel
theorem dX12_errs_1 : decode cX12_errs 1 = .ok (.iload_n 1, 1) := by decide +kernel
theorem dX12_errs_2 : decode cX12_errs 2 = .ok (.putfield 223, 3) := by decide +kernel
theorem dX12_errs_5 : decode cX12_errs 5 = .ok (.aload_n 0, 1) := by decide +kernel
theorem dX12_errs_6 : decode cX12_errs 6 = .ok (.aload_n 0, 1) := by decide +kernel
theorem dX12_errs_7 : decode cX12_errs 7 = .ok (.getfield 201, 3) := by decide +kernel
theorem dX12_errs_10 : decode cX12_errs 10 = .ok (.putfield 226, 3) := by decide +kernel
theorem dX12_errs_13 : decode cX12_errs 13 = .ok (.iconst (-1), 1) := by decide +kernel
theorem dX12_errs_14 : decode cX12_errs 14 = .ok (.ireturn, 1) := by decide +kernel
theorem dX12_isWord_0 : decode cX12_isWord 0 = .ok (.aload_n 0, 1) := by decide +kernel
theorem dX12_isWord_1 : decode cX12_isWord 1 = .ok (.getfield 204, 3) := by decide +kernel
theorem dX12_isWord_4 : decode cX12_isWord 4 = .ok (.iconst 2, 1) := by decide +kernel
theorem dX12_isWord_5 : decode cX12_isWord 5 = .ok (.if_icmp .ne 15, 3) := by decide +kernel
theorem dX12_isWord_8 : decode cX12_isWord 8 = .ok (.aload_n 0, 1) := by decide +kernel
theorem dX12_isWord_9 : decode cX12_isWord 9 = .ok (.getfield 207, 3) := by decide +kernel
theorem dX12_isWord_12 : decode cX12_isWord 12 = .ok (.iload_n 1, 1) := by decide +kernel
theorem dX12_isWord_13 : decode cX12_isWord 13 = .ok (.if_icmp .ne 7, 3) := by decide +kernel
theorem dX12_isWord_16 : decode cX12_isWord 16 = .ok (.iconst 1, 1) := by decide +kernel
theorem dX12_isWord_17 : decode cX12_isWord 17 = .ok (.goto 4, 3) := by decide +kernel
theorem dX12_isWord_20 : decode cX12_isWord 20 = .ok (.iconst 0, 1) := by decide +kernel
theorem dX12_isWord_21 : decode cX12_isWord 21 = .ok (.ireturn, 1) := by decide +kernel
theorem dX12_isSign_0 : decode cX12_isSign 0 = .ok (.aload_n 0, 1) := by decide +kernel
theorem dX12_isSign_1 : decode cX12_isSign 1 = .ok (.getfield 204, 3) := by decide +kernel
theorem dX12_isSign_4 : decode cX12_isSign 4 = .ok (.iconst 4, 1) := by decide +kernel
theorem dX12_isSign_5 : decode cX12_isSign 5 = .ok (.if_icmp .ne 15, 3) := by decide +kernel
theorem dX12_isSign_8 : decode cX12_isSign 8 = .ok (.aload_n 0, 1) := by decide +kernel
theorem dX12_isSign_9 : decode cX12_isSign 9 = .ok (.getfield 207, 3) := by decide +kernel
theorem dX12_isSign_12 : decode cX12_isSign 12 = .ok (.iload_n 1, 1) := by decide +kernel
theorem dX12_isSign_13 : decode cX12_isSign 13 = .ok (.if_icmp .ne 7, 3) := by decide +kernel
theorem dX12_isSign_16 : decode cX12_isSign 16 = .ok (.iconst 1, 1) := by decide +kernel
theorem dX12_isSign_17 : decode cX12_isSign 17 = .ok (.goto 4, 3) := by decide +kernel
theorem dX12_isSign_20 : decode cX12_isSign 20 = .ok (.iconst 0, 1) := by decide +kernel
theorem dX12_isSign_21 : decode cX12_isSign 21 = .ok (.ireturn, 1) := by decide +kernel
theorem dX12_emits_0 : decode cX12_emits 0 = .ok (.aload_n 0, 1) := by decide +kernel
theorem dX12_emits_1 : decode cX12_emits 1 = .ok (.getfield 55, 3) := by decide +kernel
theorem dX12_emits_4 : decode cX12_emits 4 = .ok (.sipush 800, 3) := by decide +kernel
theorem dX12_emits_7 : decode cX12_emits 7 = .ok (.aload_n 0, 1) := by decide +kernel
theorem dX12_emits_8 : decode cX12_emits 8 = .ok (.getfield 229, 3) := by decide +kernel
theorem dX12_emits_11 : decode cX12_emits 11 = .ok (.iadd, 1) := by decide +kernel
theorem dX12_emits_12 : decode cX12_emits 12 = .ok (.iload_n 1, 1) := by decide +kernel
theorem dX12_emits_13 : decode cX12_emits 13 = .ok (.iastore, 1) := by decide +kernel
theorem dX12_emits_14 : decode cX12_emits 14 = .ok (.aload_n 0, 1) := by decide +kernel
theorem dX12_emits_15 : decode cX12_emits 15 = .ok (.getfield 58, 3) := by decide +kernel
theorem dX12_emits_18 : decode cX12_emits 18 = .ok (.sipush 800, 3) := by decide +kernel
theorem dX12_emits_21 : decode cX12_emits 21 = .ok (.aload_n 0, 1) := by decide +kernel
theorem dX12_emits_22 : decode cX12_emits 22 = .ok (.getfield 229, 3) := by decide +kernel
theorem dX12_emits_25 : decode cX12_emits 25 = .ok (.iadd, 1) := by decide +kernel
theorem dX12_emits_26 : decode cX12_emits 26 = .ok (.iload_n 2, 1) := by decide +kernel
theorem dX12_emits_27 : decode cX12_emits 27 = .ok (.iastore, 1) := by decide +kernel
theorem dX12_emits_28 : decode cX12_emits 28 = .ok (.aload_n 0, 1) := by decide +kernel
theorem dX12_emits_29 : decode cX12_emits 29 = .ok (.aload_n 0, 1) := by decide +kernel
theorem dX12_emits_30 : decode cX12_emits 30 = .ok (.getfield 229, 3) := by decide +kernel
theorem dX12_emits_33 : decode cX12_emits 33 = .ok (.iconst 1, 1) := by decide +kernel
theorem dX12_emits_34 : decode cX12_emits 34 = .ok (.iadd, 1) := by decide +kernel
theorem dX12_emits_35 : decode cX12_emits 35 = .ok (.putfield 229, 3) := by decide +kernel
theorem dX12_emits_38 : decode cX12_emits 38 = .ok (.return_, 1) := by decide +kernel
theorem dX12_canAsk_0 : decode cX12_canAsk 0 = .ok (.aload_n 0, 1) := by decide +kernel
theorem dX12_canAsk_1 : decode cX12_canAsk 1 = .ok (.iload_n 1, 1) := by decide +kernel
theorem dX12_canAsk_2 : decode cX12_canAsk 2 = .ok (.bipush 7, 2) := by decide +kernel
theorem dX12_canAsk_4 : decode cX12_canAsk 4 = .ok (.bipush 15, 2) := by decide +kernel
theorem dX12_canAsk_6 : decode cX12_canAsk 6 = .ok (.invokevirtual 165, 3) := by decide +kernel
theorem dX12_canAsk_9 : decode cX12_canAsk 9 = .ok (.ireturn, 1) := by decide +kernel
theorem dX12_readUnit_0 : decode cX12_readUnit 0 = .ok (.aload_n 0, 1) := by decide +kernel
theorem dX12_readUnit_1 : decode cX12_readUnit 1 = .ok (.getfield 204, 3) := by decide +kernel
theorem dX12_readUnit_4 : decode cX12_readUnit 4 = .ok (.iconst 2, 1) := by decide +kernel
theorem dX12_readUnit_5 : decode cX12_readUnit 5 = .ok (.if_icmp .ne 18, 3) := by decide +kernel
theorem dX12_readUnit_8 : decode cX12_readUnit 8 = .ok (.aload_n 0, 1) := by decide +kernel
theorem dX12_readUnit_9 : decode cX12_readUnit 9 = .ok (.aload_n 0, 1) := by decide +kernel
theorem dX12_readUnit_10 : decode cX12_readUnit 10 = .ok (.getfield 207, 3) := by decide +kernel
theorem dX12_readUnit_13 : decode cX12_readUnit 13 = .ok (.invokevirtual 232, 3) := by decide +kernel
theorem dX12_readUnit_16 : decode cX12_readUnit 16 = .ok (.ifCond .eq 7, 3) := by decide +kernel
theorem dX12_readUnit_19 : decode cX12_readUnit 19 = .ok (.iconst 1, 1) := by decide +kernel
theorem dX12_readUnit_20 : decode cX12_readUnit 20 = .ok (.goto 4, 3) := by decide +kernel
theorem dX12_readUnit_23 : decode cX12_readUnit 23 = .ok (.iconst 0, 1) := by decide +kernel
theorem dX12_readUnit_24 : decode cX12_readUnit 24 = .ok (.istore_n 1, 1) := by decide +kernel
theorem dX12_readUnit_25 : decode cX12_readUnit 25 = .ok (.iload_n 1, 1) := by decide +kernel
theorem dX12_readUnit_26 : decode cX12_readUnit 26 = .ok (.ifCond .ne 17, 3) := by decide +kernel
theorem dX12_readUnit_29 : decode cX12_readUnit 29 = .ok (.aload_n 0, 1) := by decide +kernel
theorem dX12_readUnit_30 : decode cX12_readUnit 30 = .ok (.getfield 204, 3) := by decide +kernel
theorem dX12_readUnit_33 : decode cX12_readUnit 33 = .ok (.iconst 3, 1) := by decide +kernel
theorem dX12_readUnit_34 : decode cX12_readUnit 34 = .ok (.if_icmp .eq 9, 3) := by decide +kernel
theorem dX12_readUnit_37 : decode cX12_readUnit 37 = .ok (.aload_n 0, 1) := by decide +kernel
theorem dX12_readUnit_38 : decode cX12_readUnit 38 = .ok (.iconst 1, 1) := by decide +kernel
theorem dX12_readUnit_39 : decode cX12_readUnit 39 = .ok (.invokevirtual 235, 3) := by decide +kernel
theorem dX12_readUnit_42 : decode cX12_readUnit 42 = .ok (.ireturn, 1) := by decide +kernel
theorem dX12_readUnit_43 : decode cX12_readUnit 43 = .ok (.aload_n 0, 1) := by decide +kernel
theorem dX12_readUnit_44 : decode cX12_readUnit 44 = .ok (.iload_n 1, 1) := by decide +kernel
theorem dX12_readUnit_45 : decode cX12_readUnit 45 = .ok (.ifCond .eq 7, 3) := by decide +kernel
theorem dX12_readUnit_48 : decode cX12_readUnit 48 = .ok (.iconst 1, 1) := by decide +kernel
theorem dX12_readUnit_49 : decode cX12_readUnit 49 = .ok (.goto 4, 3) := by decide +kernel
theorem dX12_readUnit_52 : decode cX12_readUnit 52 = .ok (.iconst 0, 1) := by decide +kernel
theorem dX12_readUnit_53 : decode cX12_readUnit 53 = .ok (.iload_n 1, 1) := by decide +kernel
theorem dX12_readUnit_54 : decode cX12_readUnit 54 = .ok (.ifCond .eq 13, 3) := by decide +kernel
theorem dX12_readUnit_57 : decode cX12_readUnit 57 = .ok (.aload_n 0, 1) := by decide +kernel
theorem dX12_readUnit_58 : decode cX12_readUnit 58 = .ok (.getfield 207, 3) := by decide +kernel
theorem dX12_readUnit_61 : decode cX12_readUnit 61 = .ok (.bipush 7, 2) := by decide +kernel
theorem dX12_readUnit_63 : decode cX12_readUnit 63 = .ok (.isub, 1) := by decide +kernel
theorem dX12_readUnit_64 : decode cX12_readUnit 64 = .ok (.goto 7, 3) := by decide +kernel
theorem dX12_readUnit_67 : decode cX12_readUnit 67 = .ok (.aload_n 0, 1) := by decide +kernel
theorem dX12_readUnit_68 : decode cX12_readUnit 68 = .ok (.getfield 207, 3) := by decide +kernel
theorem dX12_readUnit_71 : decode cX12_readUnit 71 = .ok (.invokevirtual 238, 3) := by decide +kernel
theorem dX12_readUnit_74 : decode cX12_readUnit 74 = .ok (.aload_n 0, 1) := by decide +kernel
theorem dX12_readUnit_75 : decode cX12_readUnit 75 = .ok (.invokevirtual 242, 3) := by decide +kernel
theorem dX12_readUnit_78 : decode cX12_readUnit 78 = .ok (.iconst 0, 1) := by decide +kernel
theorem dX12_readUnit_79 : decode cX12_readUnit 79 = .ok (.ireturn, 1) := by decide +kernel
theorem dX12_readProduct_0 : decode cX12_readProduct 0 = .ok (.aload_n 0, 1) := by decide +kernel
theorem dX12_readProduct_1 : decode cX12_readProduct 1 = .ok (.invokevirtual 245, 3) := by decide +kernel
theorem dX12_readProduct_4 : decode cX12_readProduct 4 = .ok (.iconst (-1), 1) := by decide +kernel
theorem dX12_readProduct_5 : decode cX12_readProduct 5 = .ok (.if_icmp .ne 5, 3) := by decide +kernel
theorem dX12_readProduct_8 : decode cX12_readProduct 8 = .ok (.iconst (-1), 1) := by decide +kernel
theorem dX12_readProduct_9 : decode cX12_readProduct 9 = .ok (.ireturn, 1) := by decide +kernel
theorem dX12_readProduct_10 : decode cX12_readProduct 10 = .ok (.aload_n 0, 1) := by decide +kernel
theorem dX12_readProduct_11 : decode cX12_readProduct 11 = .ok (.bipush 42, 2) := by decide +kernel
theorem dX12_readProduct_13 : decode cX12_readProduct 13 = .ok (.invokevirtual 249, 3) := by decide +kernel
theorem dX12_readProduct_16 : decode cX12_readProduct 16 = .ok (.ifCond .ne 12, 3) := by decide +kernel
theorem dX12_readProduct_19 : decode cX12_readProduct 19 = .ok (.aload_n 0, 1) := by decide +kernel
theorem dX12_readProduct_20 : decode cX12_readProduct 20 = .ok (.bipush 47, 2) := by decide +kernel
theorem dX12_readProduct_22 : decode cX12_readProduct 22 = .ok (.invokevirtual 249, 3) := by decide +kernel
theorem dX12_readProduct_25 : decode cX12_readProduct 25 = .ok (.ifCond .eq 76, 3) := by decide +kernel
theorem dX12_readProduct_28 : decode cX12_readProduct 28 = .ok (.aload_n 0, 1) := by decide +kernel
theorem dX12_readProduct_29 : decode cX12_readProduct 29 = .ok (.bipush 42, 2) := by decide +kernel
theorem dX12_readProduct_31 : decode cX12_readProduct 31 = .ok (.invokevirtual 249, 3) := by decide +kernel
theorem dX12_readProduct_34 : decode cX12_readProduct 34 = .ok (.istore_n 1, 1) := by decide +kernel
theorem dX12_readProduct_35 : decode cX12_readProduct 35 = .ok (.aload_n 0, 1) := by decide +kernel
theorem dX12_readProduct_36 : decode cX12_readProduct 36 = .ok (.invokevirtual 242, 3) := by decide +kernel
theorem dX12_readProduct_39 : decode cX12_readProduct 39 = .ok (.iload_n 1, 1) := by decide +kernel
theorem dX12_readProduct_40 : decode cX12_readProduct 40 = .ok (.ifCond .ne 17, 3) := by decide +kernel
theorem dX12_readProduct_43 : decode cX12_readProduct 43 = .ok (.aload_n 0, 1) := by decide +kernel
theorem dX12_readProduct_44 : decode cX12_readProduct 44 = .ok (.getfield 204, 3) := by decide +kernel
theorem dX12_readProduct_47 : decode cX12_readProduct 47 = .ok (.iconst 3, 1) := by decide +kernel
theorem dX12_readProduct_48 : decode cX12_readProduct 48 = .ok (.if_icmp .eq 9, 3) := by decide +kernel
theorem dX12_readProduct_51 : decode cX12_readProduct 51 = .ok (.aload_n 0, 1) := by decide +kernel
theorem dX12_readProduct_52 : decode cX12_readProduct 52 = .ok (.iconst 1, 1) := by decide +kernel
theorem dX12_readProduct_53 : decode cX12_readProduct 53 = .ok (.invokevirtual 235, 3) := by decide +kernel
theorem dX12_readProduct_56 : decode cX12_readProduct 56 = .ok (.ireturn, 1) := by decide +kernel
theorem dX12_readProduct_57 : decode cX12_readProduct 57 = .ok (.iload_n 1, 1) := by decide +kernel
theorem dX12_readProduct_58 : decode cX12_readProduct 58 = .ok (.ifCond .ne 16, 3) := by decide +kernel
theorem dX12_readProduct_61 : decode cX12_readProduct 61 = .ok (.aload_n 0, 1) := by decide +kernel
theorem dX12_readProduct_62 : decode cX12_readProduct 62 = .ok (.getfield 207, 3) := by decide +kernel
theorem dX12_readProduct_65 : decode cX12_readProduct 65 = .ok (.ifCond .ne 9, 3) := by decide +kernel
theorem dX12_readProduct_68 : decode cX12_readProduct 68 = .ok (.aload_n 0, 1) := by decide +kernel
theorem dX12_readProduct_69 : decode cX12_readProduct 69 = .ok (.iconst 2, 1) := by decide +kernel
theorem dX12_readProduct_70 : decode cX12_readProduct 70 = .ok (.invokevirtual 235, 3) := by decide +kernel
theorem dX12_readProduct_73 : decode cX12_readProduct 73 = .ok (.ireturn, 1) := by decide +kernel
theorem dX12_readProduct_74 : decode cX12_readProduct 74 = .ok (.aload_n 0, 1) := by decide +kernel
theorem dX12_readProduct_75 : decode cX12_readProduct 75 = .ok (.invokevirtual 245, 3) := by decide +kernel
theorem dX12_readProduct_78 : decode cX12_readProduct 78 = .ok (.iconst (-1), 1) := by decide +kernel
theorem dX12_readProduct_79 : decode cX12_readProduct 79 = .ok (.if_icmp .ne 5, 3) := by decide +kernel
theorem dX12_readProduct_82 : decode cX12_readProduct 82 = .ok (.iconst (-1), 1) := by decide +kernel
theorem dX12_readProduct_83 : decode cX12_readProduct 83 = .ok (.ireturn, 1) := by decide +kernel
theorem dX12_readProduct_84 : decode cX12_readProduct 84 = .ok (.aload_n 0, 1) := by decide +kernel
theorem dX12_readProduct_85 : decode cX12_readProduct 85 = .ok (.iload_n 1, 1) := by decide +kernel
theorem dX12_readProduct_86 : decode cX12_readProduct 86 = .ok (.ifCond .eq 7, 3) := by decide +kernel
theorem dX12_readProduct_89 : decode cX12_readProduct 89 = .ok (.iconst 4, 1) := by decide +kernel
theorem dX12_readProduct_90 : decode cX12_readProduct 90 = .ok (.goto 4, 3) := by decide +kernel
theorem dX12_readProduct_93 : decode cX12_readProduct 93 = .ok (.iconst 5, 1) := by decide +kernel
theorem dX12_readProduct_94 : decode cX12_readProduct 94 = .ok (.iconst 0, 1) := by decide +kernel
theorem dX12_readProduct_95 : decode cX12_readProduct 95 = .ok (.invokevirtual 238, 3) := by decide +kernel
theorem dX12_readProduct_98 : decode cX12_readProduct 98 = .ok (.goto (-88), 3) := by decide +kernel
theorem dX12_readProduct_101 : decode cX12_readProduct 101 = .ok (.iconst 0, 1) := by decide +kernel
theorem dX12_readProduct_102 : decode cX12_readProduct 102 = .ok (.ireturn, 1) := by decide +kernel
theorem dX12_readSum_0 : decode cX12_readSum 0 = .ok (.aload_n 0, 1) := by decide +kernel
theorem dX12_readSum_1 : decode cX12_readSum 1 = .ok (.invokevirtual 252, 3) := by decide +kernel
theorem dX12_readSum_4 : decode cX12_readSum 4 = .ok (.iconst (-1), 1) := by decide +kernel
theorem dX12_readSum_5 : decode cX12_readSum 5 = .ok (.if_icmp .ne 5, 3) := by decide +kernel
theorem dX12_readSum_8 : decode cX12_readSum 8 = .ok (.iconst (-1), 1) := by decide +kernel
theorem dX12_readSum_9 : decode cX12_readSum 9 = .ok (.ireturn, 1) := by decide +kernel
theorem dX12_readSum_10 : decode cX12_readSum 10 = .ok (.aload_n 0, 1) := by decide +kernel
theorem dX12_readSum_11 : decode cX12_readSum 11 = .ok (.bipush 43, 2) := by decide +kernel
theorem dX12_readSum_13 : decode cX12_readSum 13 = .ok (.invokevirtual 249, 3) := by decide +kernel
theorem dX12_readSum_16 : decode cX12_readSum 16 = .ok (.ifCond .ne 12, 3) := by decide +kernel
theorem dX12_readSum_19 : decode cX12_readSum 19 = .ok (.aload_n 0, 1) := by decide +kernel
theorem dX12_readSum_20 : decode cX12_readSum 20 = .ok (.bipush 45, 2) := by decide +kernel
theorem dX12_readSum_22 : decode cX12_readSum 22 = .ok (.invokevirtual 249, 3) := by decide +kernel
theorem dX12_readSum_25 : decode cX12_readSum 25 = .ok (.ifCond .eq 41, 3) := by decide +kernel
theorem dX12_readSum_28 : decode cX12_readSum 28 = .ok (.aload_n 0, 1) := by decide +kernel
theorem dX12_readSum_29 : decode cX12_readSum 29 = .ok (.getfield 207, 3) := by decide +kernel
theorem dX12_readSum_32 : decode cX12_readSum 32 = .ok (.bipush 43, 2) := by decide +kernel
theorem dX12_readSum_34 : decode cX12_readSum 34 = .ok (.if_icmp .ne 7, 3) := by decide +kernel
theorem dX12_readSum_37 : decode cX12_readSum 37 = .ok (.iconst 2, 1) := by decide +kernel
theorem dX12_readSum_38 : decode cX12_readSum 38 = .ok (.goto 4, 3) := by decide +kernel
theorem dX12_readSum_41 : decode cX12_readSum 41 = .ok (.iconst 3, 1) := by decide +kernel
theorem dX12_readSum_42 : decode cX12_readSum 42 = .ok (.istore_n 1, 1) := by decide +kernel
theorem dX12_readSum_43 : decode cX12_readSum 43 = .ok (.aload_n 0, 1) := by decide +kernel
theorem dX12_readSum_44 : decode cX12_readSum 44 = .ok (.invokevirtual 242, 3) := by decide +kernel
theorem dX12_readSum_47 : decode cX12_readSum 47 = .ok (.aload_n 0, 1) := by decide +kernel
theorem dX12_readSum_48 : decode cX12_readSum 48 = .ok (.invokevirtual 252, 3) := by decide +kernel
theorem dX12_readSum_51 : decode cX12_readSum 51 = .ok (.iconst (-1), 1) := by decide +kernel
theorem dX12_readSum_52 : decode cX12_readSum 52 = .ok (.if_icmp .ne 5, 3) := by decide +kernel
theorem dX12_readSum_55 : decode cX12_readSum 55 = .ok (.iconst (-1), 1) := by decide +kernel
theorem dX12_readSum_56 : decode cX12_readSum 56 = .ok (.ireturn, 1) := by decide +kernel
theorem dX12_readSum_57 : decode cX12_readSum 57 = .ok (.aload_n 0, 1) := by decide +kernel
theorem dX12_readSum_58 : decode cX12_readSum 58 = .ok (.iload_n 1, 1) := by decide +kernel
theorem dX12_readSum_59 : decode cX12_readSum 59 = .ok (.iconst 0, 1) := by decide +kernel
theorem dX12_readSum_60 : decode cX12_readSum 60 = .ok (.invokevirtual 238, 3) := by decide +kernel
theorem dX12_readSum_63 : decode cX12_readSum 63 = .ok (.goto (-53), 3) := by decide +kernel
theorem dX12_readSum_66 : decode cX12_readSum 66 = .ok (.iconst 0, 1) := by decide +kernel
theorem dX12_readSum_67 : decode cX12_readSum 67 = .ok (.ireturn, 1) := by decide +kernel
theorem dX12_readCompared_0 : decode cX12_readCompared 0 = .ok (.aload_n 0, 1) := by decide +kernel
theorem dX12_readCompared_1 : decode cX12_readCompared 1 = .ok (.invokevirtual 255, 3) := by decide +kernel
theorem dX12_readCompared_4 : decode cX12_readCompared 4 = .ok (.iconst (-1), 1) := by decide +kernel
theorem dX12_readCompared_5 : decode cX12_readCompared 5 = .ok (.if_icmp .ne 5, 3) := by decide +kernel
theorem dX12_readCompared_8 : decode cX12_readCompared 8 = .ok (.iconst (-1), 1) := by decide +kernel
theorem dX12_readCompared_9 : decode cX12_readCompared 9 = .ok (.ireturn, 1) := by decide +kernel
theorem dX12_readCompared_10 : decode cX12_readCompared 10 = .ok (.aload_n 0, 1) := by decide +kernel
theorem dX12_readCompared_11 : decode cX12_readCompared 11 = .ok (.bipush 60, 2) := by decide +kernel
theorem dX12_readCompared_13 : decode cX12_readCompared 13 = .ok (.invokevirtual 249, 3) := by decide +kernel
theorem dX12_readCompared_16 : decode cX12_readCompared 16 = .ok (.ifCond .ne 27, 3) := by decide +kernel
theorem dX12_readCompared_19 : decode cX12_readCompared 19 = .ok (.aload_n 0, 1) := by decide +kernel
theorem dX12_readCompared_20 : decode cX12_readCompared 20 = .ok (.bipush 61, 2) := by decide +kernel
theorem dX12_readCompared_22 : decode cX12_readCompared 22 = .ok (.invokevirtual 249, 3) := by decide +kernel
theorem dX12_readCompared_25 : decode cX12_readCompared 25 = .ok (.ifCond .ne 18, 3) := by decide +kernel
theorem dX12_readCompared_28 : decode cX12_readCompared 28 = .ok (.aload_n 0, 1) := by decide +kernel
theorem dX12_readCompared_29 : decode cX12_readCompared 29 = .ok (.bipush 62, 2) := by decide +kernel
theorem dX12_readCompared_31 : decode cX12_readCompared 31 = .ok (.invokevirtual 249, 3) := by decide +kernel
theorem dX12_readCompared_34 : decode cX12_readCompared 34 = .ok (.ifCond .ne 9, 3) := by decide +kernel
theorem dX12_readCompared_37 : decode cX12_readCompared 37 = .ok (.aload_n 0, 1) := by decide +kernel
theorem dX12_readCompared_38 : decode cX12_readCompared 38 = .ok (.iconst 1, 1) := by decide +kernel
theorem dX12_readCompared_39 : decode cX12_readCompared 39 = .ok (.invokevirtual 235, 3) := by decide +kernel
theorem dX12_readCompared_42 : decode cX12_readCompared 42 = .ok (.ireturn, 1) := by decide +kernel
theorem dX12_readCompared_43 : decode cX12_readCompared 43 = .ok (.aload_n 0, 1) := by decide +kernel
theorem dX12_readCompared_44 : decode cX12_readCompared 44 = .ok (.getfield 207, 3) := by decide +kernel
theorem dX12_readCompared_47 : decode cX12_readCompared 47 = .ok (.bipush 60, 2) := by decide +kernel
theorem dX12_readCompared_49 : decode cX12_readCompared 49 = .ok (.if_icmp .ne 8, 3) := by decide +kernel
theorem dX12_readCompared_52 : decode cX12_readCompared 52 = .ok (.bipush 6, 2) := by decide +kernel
theorem dX12_readCompared_54 : decode cX12_readCompared 54 = .ok (.goto 19, 3) := by decide +kernel
theorem dX12_readCompared_57 : decode cX12_readCompared 57 = .ok (.aload_n 0, 1) := by decide +kernel
theorem dX12_readCompared_58 : decode cX12_readCompared 58 = .ok (.getfield 207, 3) := by decide +kernel
theorem dX12_readCompared_61 : decode cX12_readCompared 61 = .ok (.bipush 61, 2) := by decide +kernel
theorem dX12_readCompared_63 : decode cX12_readCompared 63 = .ok (.if_icmp .ne 8, 3) := by decide +kernel
theorem dX12_readCompared_66 : decode cX12_readCompared 66 = .ok (.bipush 7, 2) := by decide +kernel
theorem dX12_readCompared_68 : decode cX12_readCompared 68 = .ok (.goto 5, 3) := by decide +kernel
theorem dX12_readCompared_71 : decode cX12_readCompared 71 = .ok (.bipush 8, 2) := by decide +kernel
theorem dX12_readCompared_73 : decode cX12_readCompared 73 = .ok (.istore_n 1, 1) := by decide +kernel
theorem dX12_readCompared_74 : decode cX12_readCompared 74 = .ok (.aload_n 0, 1) := by decide +kernel
theorem dX12_readCompared_75 : decode cX12_readCompared 75 = .ok (.invokevirtual 242, 3) := by decide +kernel
theorem dX12_readCompared_78 : decode cX12_readCompared 78 = .ok (.aload_n 0, 1) := by decide +kernel
theorem dX12_readCompared_79 : decode cX12_readCompared 79 = .ok (.invokevirtual 255, 3) := by decide +kernel
theorem dX12_readCompared_82 : decode cX12_readCompared 82 = .ok (.iconst (-1), 1) := by decide +kernel
theorem dX12_readCompared_83 : decode cX12_readCompared 83 = .ok (.if_icmp .ne 5, 3) := by decide +kernel
theorem dX12_readCompared_86 : decode cX12_readCompared 86 = .ok (.iconst (-1), 1) := by decide +kernel
theorem dX12_readCompared_87 : decode cX12_readCompared 87 = .ok (.ireturn, 1) := by decide +kernel
theorem dX12_readCompared_88 : decode cX12_readCompared 88 = .ok (.aload_n 0, 1) := by decide +kernel
theorem dX12_readCompared_89 : decode cX12_readCompared 89 = .ok (.iload_n 1, 1) := by decide +kernel
theorem dX12_readCompared_90 : decode cX12_readCompared 90 = .ok (.iconst 0, 1) := by decide +kernel
theorem dX12_readCompared_91 : decode cX12_readCompared 91 = .ok (.invokevirtual 238, 3) := by decide +kernel
theorem dX12_readCompared_94 : decode cX12_readCompared 94 = .ok (.iconst 0, 1) := by decide +kernel
theorem dX12_readCompared_95 : decode cX12_readCompared 95 = .ok (.ireturn, 1) := by decide +kernel
theorem dX12_waits_0 : decode cX12_waits 0 = .ok (.aload_n 0, 1) := by decide +kernel
theorem dX12_waits_1 : decode cX12_waits 1 = .ok (.getfield 61, 3) := by decide +kernel
theorem dX12_waits_4 : decode cX12_waits 4 = .ok (.aload_n 0, 1) := by decide +kernel
theorem dX12_waits_5 : decode cX12_waits 5 = .ok (.getfield 258, 3) := by decide +kernel
theorem dX12_waits_8 : decode cX12_waits 8 = .ok (.iload_n 1, 1) := by decide +kernel
theorem dX12_waits_9 : decode cX12_waits 9 = .ok (.iastore, 1) := by decide +kernel
theorem dX12_waits_10 : decode cX12_waits 10 = .ok (.aload_n 0, 1) := by decide +kernel
theorem dX12_waits_11 : decode cX12_waits 11 = .ok (.aload_n 0, 1) := by decide +kernel
theorem dX12_waits_12 : decode cX12_waits 12 = .ok (.getfield 258, 3) := by decide +kernel
theorem dX12_waits_15 : decode cX12_waits 15 = .ok (.iconst 1, 1) := by decide +kernel
theorem dX12_waits_16 : decode cX12_waits 16 = .ok (.iadd, 1) := by decide +kernel
theorem dX12_waits_17 : decode cX12_waits 17 = .ok (.putfield 258, 3) := by decide +kernel
theorem dX12_waits_20 : decode cX12_waits 20 = .ok (.return_, 1) := by decide +kernel
theorem dX12_settles_0 : decode cX12_settles 0 = .ok (.aload_n 0, 1) := by decide +kernel
theorem dX12_settles_1 : decode cX12_settles 1 = .ok (.getfield 258, 3) := by decide +kernel
theorem dX12_settles_4 : decode cX12_settles 4 = .ok (.ifCond .le 53, 3) := by decide +kernel
theorem dX12_settles_7 : decode cX12_settles 7 = .ok (.aload_n 0, 1) := by decide +kernel
theorem dX12_settles_8 : decode cX12_settles 8 = .ok (.getfield 61, 3) := by decide +kernel
theorem dX12_settles_11 : decode cX12_settles 11 = .ok (.aload_n 0, 1) := by decide +kernel
theorem dX12_settles_12 : decode cX12_settles 12 = .ok (.getfield 258, 3) := by decide +kernel
theorem dX12_settles_15 : decode cX12_settles 15 = .ok (.iconst 1, 1) := by decide +kernel
theorem dX12_settles_16 : decode cX12_settles 16 = .ok (.isub, 1) := by decide +kernel
theorem dX12_settles_17 : decode cX12_settles 17 = .ok (.iaload, 1) := by decide +kernel
theorem dX12_settles_18 : decode cX12_settles 18 = .ok (.iload_n 1, 1) := by decide +kernel
theorem dX12_settles_19 : decode cX12_settles 19 = .ok (.if_icmp .ne 38, 3) := by decide +kernel
theorem dX12_settles_22 : decode cX12_settles 22 = .ok (.aload_n 0, 1) := by decide +kernel
theorem dX12_settles_23 : decode cX12_settles 23 = .ok (.aload_n 0, 1) := by decide +kernel
theorem dX12_settles_24 : decode cX12_settles 24 = .ok (.getfield 258, 3) := by decide +kernel
theorem dX12_settles_27 : decode cX12_settles 27 = .ok (.iconst 1, 1) := by decide +kernel
theorem dX12_settles_28 : decode cX12_settles 28 = .ok (.isub, 1) := by decide +kernel
theorem dX12_settles_29 : decode cX12_settles 29 = .ok (.putfield 258, 3) := by decide +kernel
theorem dX12_settles_32 : decode cX12_settles 32 = .ok (.aload_n 0, 1) := by decide +kernel
theorem dX12_settles_33 : decode cX12_settles 33 = .ok (.iload_n 1, 1) := by decide +kernel
theorem dX12_settles_34 : decode cX12_settles 34 = .ok (.iconst 0, 1) := by decide +kernel
theorem dX12_settles_35 : decode cX12_settles 35 = .ok (.invokevirtual 238, 3) := by decide +kernel
theorem dX12_settles_38 : decode cX12_settles 38 = .ok (.iload_n 1, 1) := by decide +kernel
theorem dX12_settles_39 : decode cX12_settles 39 = .ok (.bipush 9, 2) := by decide +kernel
theorem dX12_settles_41 : decode cX12_settles 41 = .ok (.if_icmp .ne (-41), 3) := by decide +kernel
theorem dX12_settles_44 : decode cX12_settles 44 = .ok (.aload_n 0, 1) := by decide +kernel
theorem dX12_settles_45 : decode cX12_settles 45 = .ok (.aload_n 0, 1) := by decide +kernel
theorem dX12_settles_46 : decode cX12_settles 46 = .ok (.getfield 261, 3) := by decide +kernel
theorem dX12_settles_49 : decode cX12_settles 49 = .ok (.iconst 1, 1) := by decide +kernel
theorem dX12_settles_50 : decode cX12_settles 50 = .ok (.isub, 1) := by decide +kernel
theorem dX12_settles_51 : decode cX12_settles 51 = .ok (.putfield 261, 3) := by decide +kernel
theorem dX12_settles_54 : decode cX12_settles 54 = .ok (.goto (-54), 3) := by decide +kernel
theorem dX12_settles_57 : decode cX12_settles 57 = .ok (.return_, 1) := by decide +kernel
theorem dX12_readAny_0 : decode cX12_readAny 0 = .ok (.iconst 0, 1) := by decide +kernel
theorem dX12_readAny_1 : decode cX12_readAny 1 = .ok (.istore_n 1, 1) := by decide +kernel
theorem dX12_readAny_2 : decode cX12_readAny 2 = .ok (.aload_n 0, 1) := by decide +kernel
theorem dX12_readAny_3 : decode cX12_readAny 3 = .ok (.iconst 0, 1) := by decide +kernel
theorem dX12_readAny_4 : decode cX12_readAny 4 = .ok (.putfield 258, 3) := by decide +kernel
theorem dX12_readAny_7 : decode cX12_readAny 7 = .ok (.iconst 1, 1) := by decide +kernel
theorem dX12_readAny_8 : decode cX12_readAny 8 = .ok (.istore_n 2, 1) := by decide +kernel
theorem dX12_readAny_9 : decode cX12_readAny 9 = .ok (.iload_n 2, 1) := by decide +kernel
theorem dX12_readAny_10 : decode cX12_readAny 10 = .ok (.ifCond .eq 99, 3) := by decide +kernel
theorem dX12_readAny_13 : decode cX12_readAny 13 = .ok (.aload_n 0, 1) := by decide +kernel
theorem dX12_readAny_14 : decode cX12_readAny 14 = .ok (.bipush 6, 2) := by decide +kernel
theorem dX12_readAny_16 : decode cX12_readAny 16 = .ok (.invokevirtual 264, 3) := by decide +kernel
theorem dX12_readAny_19 : decode cX12_readAny 19 = .ok (.istore_n 3, 1) := by decide +kernel
theorem dX12_readAny_20 : decode cX12_readAny 20 = .ok (.iload_n 3, 1) := by decide +kernel
theorem dX12_readAny_21 : decode cX12_readAny 21 = .ok (.ifCond .ne 12, 3) := by decide +kernel
theorem dX12_readAny_24 : decode cX12_readAny 24 = .ok (.aload_n 0, 1) := by decide +kernel
theorem dX12_readAny_25 : decode cX12_readAny 25 = .ok (.bipush 40, 2) := by decide +kernel
theorem dX12_readAny_27 : decode cX12_readAny 27 = .ok (.invokevirtual 249, 3) := by decide +kernel
theorem dX12_readAny_30 : decode cX12_readAny 30 = .ok (.ifCond .eq 58, 3) := by decide +kernel
theorem dX12_readAny_33 : decode cX12_readAny 33 = .ok (.aload_n 0, 1) := by decide +kernel
theorem dX12_readAny_34 : decode cX12_readAny 34 = .ok (.getfield 261, 3) := by decide +kernel
theorem dX12_readAny_37 : decode cX12_readAny 37 = .ok (.bipush 8, 2) := by decide +kernel
theorem dX12_readAny_39 : decode cX12_readAny 39 = .ok (.if_icmp .ne 9, 3) := by decide +kernel
theorem dX12_readAny_42 : decode cX12_readAny 42 = .ok (.aload_n 0, 1) := by decide +kernel
theorem dX12_readAny_43 : decode cX12_readAny 43 = .ok (.iconst 3, 1) := by decide +kernel
theorem dX12_readAny_44 : decode cX12_readAny 44 = .ok (.invokevirtual 235, 3) := by decide +kernel
theorem dX12_readAny_47 : decode cX12_readAny 47 = .ok (.ireturn, 1) := by decide +kernel
theorem dX12_readAny_48 : decode cX12_readAny 48 = .ok (.aload_n 0, 1) := by decide +kernel
theorem dX12_readAny_49 : decode cX12_readAny 49 = .ok (.aload_n 0, 1) := by decide +kernel
theorem dX12_readAny_50 : decode cX12_readAny 50 = .ok (.getfield 261, 3) := by decide +kernel
theorem dX12_readAny_53 : decode cX12_readAny 53 = .ok (.iconst 1, 1) := by decide +kernel
theorem dX12_readAny_54 : decode cX12_readAny 54 = .ok (.iadd, 1) := by decide +kernel
theorem dX12_readAny_55 : decode cX12_readAny 55 = .ok (.putfield 261, 3) := by decide +kernel
theorem dX12_readAny_58 : decode cX12_readAny 58 = .ok (.iload_n 3, 1) := by decide +kernel
theorem dX12_readAny_59 : decode cX12_readAny 59 = .ok (.ifCond .ne 7, 3) := by decide +kernel
theorem dX12_readAny_62 : decode cX12_readAny 62 = .ok (.iload_n 1, 1) := by decide +kernel
theorem dX12_readAny_63 : decode cX12_readAny 63 = .ok (.iconst 1, 1) := by decide +kernel
theorem dX12_readAny_64 : decode cX12_readAny 64 = .ok (.iadd, 1) := by decide +kernel
theorem dX12_readAny_65 : decode cX12_readAny 65 = .ok (.istore_n 1, 1) := by decide +kernel
theorem dX12_readAny_66 : decode cX12_readAny 66 = .ok (.aload_n 0, 1) := by decide +kernel
theorem dX12_readAny_67 : decode cX12_readAny 67 = .ok (.iload_n 3, 1) := by decide +kernel
theorem dX12_readAny_68 : decode cX12_readAny 68 = .ok (.ifCond .eq 8, 3) := by decide +kernel
theorem dX12_readAny_71 : decode cX12_readAny 71 = .ok (.bipush 9, 2) := by decide +kernel
theorem dX12_readAny_73 : decode cX12_readAny 73 = .ok (.goto 5, 3) := by decide +kernel
theorem dX12_readAny_76 : decode cX12_readAny 76 = .ok (.bipush 12, 2) := by decide +kernel
theorem dX12_readAny_78 : decode cX12_readAny 78 = .ok (.invokevirtual 267, 3) := by decide +kernel
theorem dX12_readAny_81 : decode cX12_readAny 81 = .ok (.aload_n 0, 1) := by decide +kernel
theorem dX12_readAny_82 : decode cX12_readAny 82 = .ok (.invokevirtual 242, 3) := by decide +kernel
theorem dX12_readAny_85 : decode cX12_readAny 85 = .ok (.goto (-76), 3) := by decide +kernel
theorem dX12_readAny_88 : decode cX12_readAny 88 = .ok (.aload_n 0, 1) := by decide +kernel
theorem dX12_readAny_89 : decode cX12_readAny 89 = .ok (.invokevirtual 270, 3) := by decide +kernel
theorem dX12_readAny_92 : decode cX12_readAny 92 = .ok (.iconst (-1), 1) := by decide +kernel
theorem dX12_readAny_93 : decode cX12_readAny 93 = .ok (.if_icmp .ne 5, 3) := by decide +kernel
theorem dX12_readAny_96 : decode cX12_readAny 96 = .ok (.iconst (-1), 1) := by decide +kernel
theorem dX12_readAny_97 : decode cX12_readAny 97 = .ok (.ireturn, 1) := by decide +kernel
theorem dX12_readAny_98 : decode cX12_readAny 98 = .ok (.aload_n 0, 1) := by decide +kernel
theorem dX12_readAny_99 : decode cX12_readAny 99 = .ok (.bipush 9, 2) := by decide +kernel
theorem dX12_readAny_101 : decode cX12_readAny 101 = .ok (.invokevirtual 273, 3) := by decide +kernel
theorem dX12_readAny_104 : decode cX12_readAny 104 = .ok (.iconst 0, 1) := by decide +kernel
theorem dX12_readAny_105 : decode cX12_readAny 105 = .ok (.istore_n 2, 1) := by decide +kernel
theorem dX12_readAny_106 : decode cX12_readAny 106 = .ok (.goto (-97), 3) := by decide +kernel
theorem dX12_readAny_109 : decode cX12_readAny 109 = .ok (.aload_n 0, 1) := by decide +kernel
theorem dX12_readAny_110 : decode cX12_readAny 110 = .ok (.iconst 5, 1) := by decide +kernel
theorem dX12_readAny_111 : decode cX12_readAny 111 = .ok (.invokevirtual 264, 3) := by decide +kernel
theorem dX12_readAny_114 : decode cX12_readAny 114 = .ok (.ifCond .eq 24, 3) := by decide +kernel
theorem dX12_readAny_117 : decode cX12_readAny 117 = .ok (.aload_n 0, 1) := by decide +kernel
theorem dX12_readAny_118 : decode cX12_readAny 118 = .ok (.bipush 10, 2) := by decide +kernel
theorem dX12_readAny_120 : decode cX12_readAny 120 = .ok (.invokevirtual 273, 3) := by decide +kernel
theorem dX12_readAny_123 : decode cX12_readAny 123 = .ok (.aload_n 0, 1) := by decide +kernel
theorem dX12_readAny_124 : decode cX12_readAny 124 = .ok (.bipush 10, 2) := by decide +kernel
theorem dX12_readAny_126 : decode cX12_readAny 126 = .ok (.invokevirtual 267, 3) := by decide +kernel
theorem dX12_readAny_129 : decode cX12_readAny 129 = .ok (.aload_n 0, 1) := by decide +kernel
theorem dX12_readAny_130 : decode cX12_readAny 130 = .ok (.invokevirtual 242, 3) := by decide +kernel
theorem dX12_readAny_133 : decode cX12_readAny 133 = .ok (.iconst 1, 1) := by decide +kernel
theorem dX12_readAny_134 : decode cX12_readAny 134 = .ok (.istore_n 2, 1) := by decide +kernel
theorem dX12_readAny_135 : decode cX12_readAny 135 = .ok (.goto (-126), 3) := by decide +kernel
theorem dX12_readAny_138 : decode cX12_readAny 138 = .ok (.aload_n 0, 1) := by decide +kernel
theorem dX12_readAny_139 : decode cX12_readAny 139 = .ok (.iconst 4, 1) := by decide +kernel
theorem dX12_readAny_140 : decode cX12_readAny 140 = .ok (.invokevirtual 264, 3) := by decide +kernel
theorem dX12_readAny_143 : decode cX12_readAny 143 = .ok (.ifCond .eq 30, 3) := by decide +kernel
theorem dX12_readAny_146 : decode cX12_readAny 146 = .ok (.aload_n 0, 1) := by decide +kernel
theorem dX12_readAny_147 : decode cX12_readAny 147 = .ok (.bipush 10, 2) := by decide +kernel
theorem dX12_readAny_149 : decode cX12_readAny 149 = .ok (.invokevirtual 273, 3) := by decide +kernel
theorem dX12_readAny_152 : decode cX12_readAny 152 = .ok (.aload_n 0, 1) := by decide +kernel
theorem dX12_readAny_153 : decode cX12_readAny 153 = .ok (.bipush 11, 2) := by decide +kernel
theorem dX12_readAny_155 : decode cX12_readAny 155 = .ok (.invokevirtual 273, 3) := by decide +kernel
theorem dX12_readAny_158 : decode cX12_readAny 158 = .ok (.aload_n 0, 1) := by decide +kernel
theorem dX12_readAny_159 : decode cX12_readAny 159 = .ok (.bipush 11, 2) := by decide +kernel
theorem dX12_readAny_161 : decode cX12_readAny 161 = .ok (.invokevirtual 267, 3) := by decide +kernel
theorem dX12_readAny_164 : decode cX12_readAny 164 = .ok (.aload_n 0, 1) := by decide +kernel
theorem dX12_readAny_165 : decode cX12_readAny 165 = .ok (.invokevirtual 242, 3) := by decide +kernel
theorem dX12_readAny_168 : decode cX12_readAny 168 = .ok (.iconst 1, 1) := by decide +kernel
theorem dX12_readAny_169 : decode cX12_readAny 169 = .ok (.istore_n 2, 1) := by decide +kernel
theorem dX12_readAny_170 : decode cX12_readAny 170 = .ok (.goto (-161), 3) := by decide +kernel
theorem dX12_readAny_173 : decode cX12_readAny 173 = .ok (.aload_n 0, 1) := by decide +kernel
theorem dX12_readAny_174 : decode cX12_readAny 174 = .ok (.bipush 10, 2) := by decide +kernel
theorem dX12_readAny_176 : decode cX12_readAny 176 = .ok (.invokevirtual 273, 3) := by decide +kernel
theorem dX12_readAny_179 : decode cX12_readAny 179 = .ok (.aload_n 0, 1) := by decide +kernel
theorem dX12_readAny_180 : decode cX12_readAny 180 = .ok (.bipush 11, 2) := by decide +kernel
theorem dX12_readAny_182 : decode cX12_readAny 182 = .ok (.invokevirtual 273, 3) := by decide +kernel
theorem dX12_readAny_185 : decode cX12_readAny 185 = .ok (.iload_n 1, 1) := by decide +kernel
theorem dX12_readAny_186 : decode cX12_readAny 186 = .ok (.ifCond .ne 5, 3) := by decide +kernel
theorem dX12_readAny_189 : decode cX12_readAny 189 = .ok (.iconst 0, 1) := by decide +kernel
theorem dX12_readAny_190 : decode cX12_readAny 190 = .ok (.ireturn, 1) := by decide +kernel
theorem dX12_readAny_191 : decode cX12_readAny 191 = .ok (.aload_n 0, 1) := by decide +kernel
theorem dX12_readAny_192 : decode cX12_readAny 192 = .ok (.bipush 41, 2) := by decide +kernel
theorem dX12_readAny_194 : decode cX12_readAny 194 = .ok (.invokevirtual 249, 3) := by decide +kernel
theorem dX12_readAny_197 : decode cX12_readAny 197 = .ok (.ifCond .ne 9, 3) := by decide +kernel
theorem dX12_readAny_200 : decode cX12_readAny 200 = .ok (.aload_n 0, 1) := by decide +kernel
theorem dX12_readAny_201 : decode cX12_readAny 201 = .ok (.iconst 1, 1) := by decide +kernel
theorem dX12_readAny_202 : decode cX12_readAny 202 = .ok (.invokevirtual 235, 3) := by decide +kernel
theorem dX12_readAny_205 : decode cX12_readAny 205 = .ok (.ireturn, 1) := by decide +kernel
theorem dX12_readAny_206 : decode cX12_readAny 206 = .ok (.aload_n 0, 1) := by decide +kernel
theorem dX12_readAny_207 : decode cX12_readAny 207 = .ok (.aload_n 0, 1) := by decide +kernel
theorem dX12_readAny_208 : decode cX12_readAny 208 = .ok (.getfield 258, 3) := by decide +kernel
theorem dX12_readAny_211 : decode cX12_readAny 211 = .ok (.iconst 1, 1) := by decide +kernel
theorem dX12_readAny_212 : decode cX12_readAny 212 = .ok (.isub, 1) := by decide +kernel
theorem dX12_readAny_213 : decode cX12_readAny 213 = .ok (.putfield 258, 3) := by decide +kernel
theorem dX12_readAny_216 : decode cX12_readAny 216 = .ok (.iload_n 1, 1) := by decide +kernel
theorem dX12_readAny_217 : decode cX12_readAny 217 = .ok (.iconst 1, 1) := by decide +kernel
theorem dX12_readAny_218 : decode cX12_readAny 218 = .ok (.isub, 1) := by decide +kernel
theorem dX12_readAny_219 : decode cX12_readAny 219 = .ok (.istore_n 1, 1) := by decide +kernel
theorem dX12_readAny_220 : decode cX12_readAny 220 = .ok (.aload_n 0, 1) := by decide +kernel
theorem dX12_readAny_221 : decode cX12_readAny 221 = .ok (.aload_n 0, 1) := by decide +kernel
theorem dX12_readAny_222 : decode cX12_readAny 222 = .ok (.getfield 261, 3) := by decide +kernel
theorem dX12_readAny_225 : decode cX12_readAny 225 = .ok (.iconst 1, 1) := by decide +kernel
theorem dX12_readAny_226 : decode cX12_readAny 226 = .ok (.isub, 1) := by decide +kernel
theorem dX12_readAny_227 : decode cX12_readAny 227 = .ok (.putfield 261, 3) := by decide +kernel
theorem dX12_readAny_230 : decode cX12_readAny 230 = .ok (.aload_n 0, 1) := by decide +kernel
theorem dX12_readAny_231 : decode cX12_readAny 231 = .ok (.bipush 9, 2) := by decide +kernel
theorem dX12_readAny_233 : decode cX12_readAny 233 = .ok (.invokevirtual 273, 3) := by decide +kernel
theorem dX12_readAny_236 : decode cX12_readAny 236 = .ok (.aload_n 0, 1) := by decide +kernel
theorem dX12_readAny_237 : decode cX12_readAny 237 = .ok (.invokevirtual 242, 3) := by decide +kernel
theorem dX12_readAny_240 : decode cX12_readAny 240 = .ok (.goto (-231), 3) := by decide +kernel
theorem dX12_isLineWord_0 : decode cX12_isLineWord 0 = .ok (.aload_n 0, 1) := by decide +kernel
theorem dX12_isLineWord_1 : decode cX12_isLineWord 1 = .ok (.getfield 204, 3) := by decide +kernel
theorem dX12_isLineWord_4 : decode cX12_isLineWord 4 = .ok (.iconst 2, 1) := by decide +kernel
theorem dX12_isLineWord_5 : decode cX12_isLineWord 5 = .ok (.if_icmp .ne 20, 3) := by decide +kernel
theorem dX12_isLineWord_8 : decode cX12_isLineWord 8 = .ok (.aload_n 0, 1) := by decide +kernel
theorem dX12_isLineWord_9 : decode cX12_isLineWord 9 = .ok (.aload_n 0, 1) := by decide +kernel
theorem dX12_isLineWord_10 : decode cX12_isLineWord 10 = .ok (.getfield 207, 3) := by decide +kernel
theorem dX12_isLineWord_13 : decode cX12_isLineWord 13 = .ok (.iconst 0, 1) := by decide +kernel
theorem dX12_isLineWord_14 : decode cX12_isLineWord 14 = .ok (.iconst 2, 1) := by decide +kernel
theorem dX12_isLineWord_15 : decode cX12_isLineWord 15 = .ok (.invokevirtual 165, 3) := by decide +kernel
theorem dX12_isLineWord_18 : decode cX12_isLineWord 18 = .ok (.ifCond .eq 7, 3) := by decide +kernel
theorem dX12_isLineWord_21 : decode cX12_isLineWord 21 = .ok (.iconst 1, 1) := by decide +kernel
theorem dX12_isLineWord_22 : decode cX12_isLineWord 22 = .ok (.goto 4, 3) := by decide +kernel
theorem dX12_isLineWord_25 : decode cX12_isLineWord 25 = .ok (.iconst 0, 1) := by decide +kernel
theorem dX12_isLineWord_26 : decode cX12_isLineWord 26 = .ok (.ireturn, 1) := by decide +kernel
theorem dX12_readLaw_0 : decode cX12_readLaw 0 = .ok (.iconst 0, 1) := by decide +kernel
theorem dX12_readLaw_1 : decode cX12_readLaw 1 = .ok (.istore_n 1, 1) := by decide +kernel
theorem dX12_readLaw_2 : decode cX12_readLaw 2 = .ok (.aload_n 0, 1) := by decide +kernel
theorem dX12_readLaw_3 : decode cX12_readLaw 3 = .ok (.invokevirtual 276, 3) := by decide +kernel
theorem dX12_readLaw_6 : decode cX12_readLaw 6 = .ok (.ifCond .eq 122, 3) := by decide +kernel
theorem dX12_readLaw_9 : decode cX12_readLaw 9 = .ok (.iload_n 1, 1) := by decide +kernel
theorem dX12_readLaw_10 : decode cX12_readLaw 10 = .ok (.bipush 16, 2) := by decide +kernel
theorem dX12_readLaw_12 : decode cX12_readLaw 12 = .ok (.if_icmp .ne 9, 3) := by decide +kernel
theorem dX12_readLaw_15 : decode cX12_readLaw 15 = .ok (.aload_n 0, 1) := by decide +kernel
theorem dX12_readLaw_16 : decode cX12_readLaw 16 = .ok (.iconst 3, 1) := by decide +kernel
theorem dX12_readLaw_17 : decode cX12_readLaw 17 = .ok (.invokevirtual 235, 3) := by decide +kernel
theorem dX12_readLaw_20 : decode cX12_readLaw 20 = .ok (.ireturn, 1) := by decide +kernel
theorem dX12_readLaw_21 : decode cX12_readLaw 21 = .ok (.bipush 32, 2) := by decide +kernel
theorem dX12_readLaw_23 : decode cX12_readLaw 23 = .ok (.iload_n 1, 1) := by decide +kernel
theorem dX12_readLaw_24 : decode cX12_readLaw 24 = .ok (.iadd, 1) := by decide +kernel
theorem dX12_readLaw_25 : decode cX12_readLaw 25 = .ok (.istore_n 2, 1) := by decide +kernel
theorem dX12_readLaw_26 : decode cX12_readLaw 26 = .ok (.aload_n 0, 1) := by decide +kernel
theorem dX12_readLaw_27 : decode cX12_readLaw 27 = .ok (.getfield 43, 3) := by decide +kernel
theorem dX12_readLaw_30 : decode cX12_readLaw 30 = .ok (.iload_n 2, 1) := by decide +kernel
theorem dX12_readLaw_31 : decode cX12_readLaw 31 = .ok (.aload_n 0, 1) := by decide +kernel
theorem dX12_readLaw_32 : decode cX12_readLaw 32 = .ok (.getfield 207, 3) := by decide +kernel
theorem dX12_readLaw_35 : decode cX12_readLaw 35 = .ok (.iastore, 1) := by decide +kernel
theorem dX12_readLaw_36 : decode cX12_readLaw 36 = .ok (.aload_n 0, 1) := by decide +kernel
theorem dX12_readLaw_37 : decode cX12_readLaw 37 = .ok (.invokevirtual 242, 3) := by decide +kernel
theorem dX12_readLaw_40 : decode cX12_readLaw 40 = .ok (.aload_n 0, 1) := by decide +kernel
theorem dX12_readLaw_41 : decode cX12_readLaw 41 = .ok (.getfield 46, 3) := by decide +kernel
theorem dX12_readLaw_44 : decode cX12_readLaw 44 = .ok (.iload_n 2, 1) := by decide +kernel
theorem dX12_readLaw_45 : decode cX12_readLaw 45 = .ok (.aload_n 0, 1) := by decide +kernel
theorem dX12_readLaw_46 : decode cX12_readLaw 46 = .ok (.getfield 229, 3) := by decide +kernel
theorem dX12_readLaw_49 : decode cX12_readLaw 49 = .ok (.iastore, 1) := by decide +kernel
theorem dX12_readLaw_50 : decode cX12_readLaw 50 = .ok (.aload_n 0, 1) := by decide +kernel
theorem dX12_readLaw_51 : decode cX12_readLaw 51 = .ok (.invokevirtual 255, 3) := by decide +kernel
theorem dX12_readLaw_54 : decode cX12_readLaw 54 = .ok (.iconst (-1), 1) := by decide +kernel
theorem dX12_readLaw_55 : decode cX12_readLaw 55 = .ok (.if_icmp .ne 5, 3) := by decide +kernel
theorem dX12_readLaw_58 : decode cX12_readLaw 58 = .ok (.iconst (-1), 1) := by decide +kernel
theorem dX12_readLaw_59 : decode cX12_readLaw 59 = .ok (.ireturn, 1) := by decide +kernel
theorem dX12_readLaw_60 : decode cX12_readLaw 60 = .ok (.aload_n 0, 1) := by decide +kernel
theorem dX12_readLaw_61 : decode cX12_readLaw 61 = .ok (.getfield 49, 3) := by decide +kernel
theorem dX12_readLaw_64 : decode cX12_readLaw 64 = .ok (.iload_n 2, 1) := by decide +kernel
theorem dX12_readLaw_65 : decode cX12_readLaw 65 = .ok (.aload_n 0, 1) := by decide +kernel
theorem dX12_readLaw_66 : decode cX12_readLaw 66 = .ok (.getfield 229, 3) := by decide +kernel
theorem dX12_readLaw_69 : decode cX12_readLaw 69 = .ok (.iastore, 1) := by decide +kernel
theorem dX12_readLaw_70 : decode cX12_readLaw 70 = .ok (.aload_n 0, 1) := by decide +kernel
theorem dX12_readLaw_71 : decode cX12_readLaw 71 = .ok (.iconst 3, 1) := by decide +kernel
theorem dX12_readLaw_72 : decode cX12_readLaw 72 = .ok (.invokevirtual 264, 3) := by decide +kernel
theorem dX12_readLaw_75 : decode cX12_readLaw 75 = .ok (.ifCond .eq 17, 3) := by decide +kernel
theorem dX12_readLaw_78 : decode cX12_readLaw 78 = .ok (.aload_n 0, 1) := by decide +kernel
theorem dX12_readLaw_79 : decode cX12_readLaw 79 = .ok (.invokevirtual 242, 3) := by decide +kernel
theorem dX12_readLaw_82 : decode cX12_readLaw 82 = .ok (.aload_n 0, 1) := by decide +kernel
theorem dX12_readLaw_83 : decode cX12_readLaw 83 = .ok (.invokevirtual 280, 3) := by decide +kernel
theorem dX12_readLaw_86 : decode cX12_readLaw 86 = .ok (.iconst (-1), 1) := by decide +kernel
theorem dX12_readLaw_87 : decode cX12_readLaw 87 = .ok (.if_icmp .ne 5, 3) := by decide +kernel
theorem dX12_readLaw_90 : decode cX12_readLaw 90 = .ok (.iconst (-1), 1) := by decide +kernel
theorem dX12_readLaw_91 : decode cX12_readLaw 91 = .ok (.ireturn, 1) := by decide +kernel
theorem dX12_readLaw_92 : decode cX12_readLaw 92 = .ok (.aload_n 0, 1) := by decide +kernel
theorem dX12_readLaw_93 : decode cX12_readLaw 93 = .ok (.getfield 52, 3) := by decide +kernel
theorem dX12_readLaw_96 : decode cX12_readLaw 96 = .ok (.iload_n 2, 1) := by decide +kernel
theorem dX12_readLaw_97 : decode cX12_readLaw 97 = .ok (.aload_n 0, 1) := by decide +kernel
theorem dX12_readLaw_98 : decode cX12_readLaw 98 = .ok (.getfield 229, 3) := by decide +kernel
theorem dX12_readLaw_101 : decode cX12_readLaw 101 = .ok (.iastore, 1) := by decide +kernel
theorem dX12_readLaw_102 : decode cX12_readLaw 102 = .ok (.aload_n 0, 1) := by decide +kernel
theorem dX12_readLaw_103 : decode cX12_readLaw 103 = .ok (.bipush 59, 2) := by decide +kernel
theorem dX12_readLaw_105 : decode cX12_readLaw 105 = .ok (.invokevirtual 249, 3) := by decide +kernel
theorem dX12_readLaw_108 : decode cX12_readLaw 108 = .ok (.ifCond .ne 9, 3) := by decide +kernel
theorem dX12_readLaw_111 : decode cX12_readLaw 111 = .ok (.aload_n 0, 1) := by decide +kernel
theorem dX12_readLaw_112 : decode cX12_readLaw 112 = .ok (.iconst 1, 1) := by decide +kernel
theorem dX12_readLaw_113 : decode cX12_readLaw 113 = .ok (.invokevirtual 235, 3) := by decide +kernel
theorem dX12_readLaw_116 : decode cX12_readLaw 116 = .ok (.ireturn, 1) := by decide +kernel
theorem dX12_readLaw_117 : decode cX12_readLaw 117 = .ok (.aload_n 0, 1) := by decide +kernel
theorem dX12_readLaw_118 : decode cX12_readLaw 118 = .ok (.invokevirtual 242, 3) := by decide +kernel
theorem dX12_readLaw_121 : decode cX12_readLaw 121 = .ok (.iload_n 1, 1) := by decide +kernel
theorem dX12_readLaw_122 : decode cX12_readLaw 122 = .ok (.iconst 1, 1) := by decide +kernel
theorem dX12_readLaw_123 : decode cX12_readLaw 123 = .ok (.iadd, 1) := by decide +kernel
theorem dX12_readLaw_124 : decode cX12_readLaw 124 = .ok (.istore_n 1, 1) := by decide +kernel
theorem dX12_readLaw_125 : decode cX12_readLaw 125 = .ok (.goto (-123), 3) := by decide +kernel
theorem dX12_readLaw_128 : decode cX12_readLaw 128 = .ok (.aload_n 0, 1) := by decide +kernel
theorem dX12_readLaw_129 : decode cX12_readLaw 129 = .ok (.getfield 204, 3) := by decide +kernel
theorem dX12_readLaw_132 : decode cX12_readLaw 132 = .ok (.ifCond .ne 7, 3) := by decide +kernel
theorem dX12_readLaw_135 : decode cX12_readLaw 135 = .ok (.iload_n 1, 1) := by decide +kernel
theorem dX12_readLaw_136 : decode cX12_readLaw 136 = .ok (.goto 8, 3) := by decide +kernel
theorem dX12_readLaw_139 : decode cX12_readLaw 139 = .ok (.aload_n 0, 1) := by decide +kernel
theorem dX12_readLaw_140 : decode cX12_readLaw 140 = .ok (.iconst 1, 1) := by decide +kernel
theorem dX12_readLaw_141 : decode cX12_readLaw 141 = .ok (.invokevirtual 235, 3) := by decide +kernel
theorem dX12_readLaw_144 : decode cX12_readLaw 144 = .ok (.ireturn, 1) := by decide +kernel
theorem dX12_takesLaw_0 : decode cX12_takesLaw 0 = .ok (.iconst 0, 1) := by decide +kernel
theorem dX12_takesLaw_1 : decode cX12_takesLaw 1 = .ok (.istore_n 2, 1) := by decide +kernel
theorem dX12_takesLaw_2 : decode cX12_takesLaw 2 = .ok (.iload_n 2, 1) := by decide +kernel
theorem dX12_takesLaw_3 : decode cX12_takesLaw 3 = .ok (.iload_n 1, 1) := by decide +kernel
theorem dX12_takesLaw_4 : decode cX12_takesLaw 4 = .ok (.if_icmp .ge 101, 3) := by decide +kernel
theorem dX12_takesLaw_7 : decode cX12_takesLaw 7 = .ok (.aload_n 0, 1) := by decide +kernel
theorem dX12_takesLaw_8 : decode cX12_takesLaw 8 = .ok (.getfield 43, 3) := by decide +kernel
theorem dX12_takesLaw_11 : decode cX12_takesLaw 11 = .ok (.bipush 16, 2) := by decide +kernel
theorem dX12_takesLaw_13 : decode cX12_takesLaw 13 = .ok (.aload_n 0, 1) := by decide +kernel
theorem dX12_takesLaw_14 : decode cX12_takesLaw 14 = .ok (.getfield 283, 3) := by decide +kernel
theorem dX12_takesLaw_17 : decode cX12_takesLaw 17 = .ok (.imul, 1) := by decide +kernel
theorem dX12_takesLaw_18 : decode cX12_takesLaw 18 = .ok (.iload_n 2, 1) := by decide +kernel
theorem dX12_takesLaw_19 : decode cX12_takesLaw 19 = .ok (.iadd, 1) := by decide +kernel
theorem dX12_takesLaw_20 : decode cX12_takesLaw 20 = .ok (.aload_n 0, 1) := by decide +kernel
theorem dX12_takesLaw_21 : decode cX12_takesLaw 21 = .ok (.getfield 43, 3) := by decide +kernel
theorem dX12_takesLaw_24 : decode cX12_takesLaw 24 = .ok (.bipush 32, 2) := by decide +kernel
theorem dX12_takesLaw_26 : decode cX12_takesLaw 26 = .ok (.iload_n 2, 1) := by decide +kernel
theorem dX12_takesLaw_27 : decode cX12_takesLaw 27 = .ok (.iadd, 1) := by decide +kernel
theorem dX12_takesLaw_28 : decode cX12_takesLaw 28 = .ok (.iaload, 1) := by decide +kernel
theorem dX12_takesLaw_29 : decode cX12_takesLaw 29 = .ok (.iastore, 1) := by decide +kernel
theorem dX12_takesLaw_30 : decode cX12_takesLaw 30 = .ok (.aload_n 0, 1) := by decide +kernel
theorem dX12_takesLaw_31 : decode cX12_takesLaw 31 = .ok (.getfield 46, 3) := by decide +kernel
theorem dX12_takesLaw_34 : decode cX12_takesLaw 34 = .ok (.bipush 16, 2) := by decide +kernel
theorem dX12_takesLaw_36 : decode cX12_takesLaw 36 = .ok (.aload_n 0, 1) := by decide +kernel
theorem dX12_takesLaw_37 : decode cX12_takesLaw 37 = .ok (.getfield 283, 3) := by decide +kernel
theorem dX12_takesLaw_40 : decode cX12_takesLaw 40 = .ok (.imul, 1) := by decide +kernel
theorem dX12_takesLaw_41 : decode cX12_takesLaw 41 = .ok (.iload_n 2, 1) := by decide +kernel
theorem dX12_takesLaw_42 : decode cX12_takesLaw 42 = .ok (.iadd, 1) := by decide +kernel
theorem dX12_takesLaw_43 : decode cX12_takesLaw 43 = .ok (.aload_n 0, 1) := by decide +kernel
theorem dX12_takesLaw_44 : decode cX12_takesLaw 44 = .ok (.getfield 46, 3) := by decide +kernel
theorem dX12_takesLaw_47 : decode cX12_takesLaw 47 = .ok (.bipush 32, 2) := by decide +kernel
theorem dX12_takesLaw_49 : decode cX12_takesLaw 49 = .ok (.iload_n 2, 1) := by decide +kernel
theorem dX12_takesLaw_50 : decode cX12_takesLaw 50 = .ok (.iadd, 1) := by decide +kernel
theorem dX12_takesLaw_51 : decode cX12_takesLaw 51 = .ok (.iaload, 1) := by decide +kernel
theorem dX12_takesLaw_52 : decode cX12_takesLaw 52 = .ok (.iastore, 1) := by decide +kernel
theorem dX12_takesLaw_53 : decode cX12_takesLaw 53 = .ok (.aload_n 0, 1) := by decide +kernel
theorem dX12_takesLaw_54 : decode cX12_takesLaw 54 = .ok (.getfield 49, 3) := by decide +kernel
theorem dX12_takesLaw_57 : decode cX12_takesLaw 57 = .ok (.bipush 16, 2) := by decide +kernel
theorem dX12_takesLaw_59 : decode cX12_takesLaw 59 = .ok (.aload_n 0, 1) := by decide +kernel
theorem dX12_takesLaw_60 : decode cX12_takesLaw 60 = .ok (.getfield 283, 3) := by decide +kernel
theorem dX12_takesLaw_63 : decode cX12_takesLaw 63 = .ok (.imul, 1) := by decide +kernel
theorem dX12_takesLaw_64 : decode cX12_takesLaw 64 = .ok (.iload_n 2, 1) := by decide +kernel
theorem dX12_takesLaw_65 : decode cX12_takesLaw 65 = .ok (.iadd, 1) := by decide +kernel
theorem dX12_takesLaw_66 : decode cX12_takesLaw 66 = .ok (.aload_n 0, 1) := by decide +kernel
theorem dX12_takesLaw_67 : decode cX12_takesLaw 67 = .ok (.getfield 49, 3) := by decide +kernel
theorem dX12_takesLaw_70 : decode cX12_takesLaw 70 = .ok (.bipush 32, 2) := by decide +kernel
theorem dX12_takesLaw_72 : decode cX12_takesLaw 72 = .ok (.iload_n 2, 1) := by decide +kernel
theorem dX12_takesLaw_73 : decode cX12_takesLaw 73 = .ok (.iadd, 1) := by decide +kernel
theorem dX12_takesLaw_74 : decode cX12_takesLaw 74 = .ok (.iaload, 1) := by decide +kernel
theorem dX12_takesLaw_75 : decode cX12_takesLaw 75 = .ok (.iastore, 1) := by decide +kernel
theorem dX12_takesLaw_76 : decode cX12_takesLaw 76 = .ok (.aload_n 0, 1) := by decide +kernel
theorem dX12_takesLaw_77 : decode cX12_takesLaw 77 = .ok (.getfield 52, 3) := by decide +kernel
theorem dX12_takesLaw_80 : decode cX12_takesLaw 80 = .ok (.bipush 16, 2) := by decide +kernel
theorem dX12_takesLaw_82 : decode cX12_takesLaw 82 = .ok (.aload_n 0, 1) := by decide +kernel
theorem dX12_takesLaw_83 : decode cX12_takesLaw 83 = .ok (.getfield 283, 3) := by decide +kernel
theorem dX12_takesLaw_86 : decode cX12_takesLaw 86 = .ok (.imul, 1) := by decide +kernel
theorem dX12_takesLaw_87 : decode cX12_takesLaw 87 = .ok (.iload_n 2, 1) := by decide +kernel
theorem dX12_takesLaw_88 : decode cX12_takesLaw 88 = .ok (.iadd, 1) := by decide +kernel
theorem dX12_takesLaw_89 : decode cX12_takesLaw 89 = .ok (.aload_n 0, 1) := by decide +kernel
theorem dX12_takesLaw_90 : decode cX12_takesLaw 90 = .ok (.getfield 52, 3) := by decide +kernel
theorem dX12_takesLaw_93 : decode cX12_takesLaw 93 = .ok (.bipush 32, 2) := by decide +kernel
theorem dX12_takesLaw_95 : decode cX12_takesLaw 95 = .ok (.iload_n 2, 1) := by decide +kernel
theorem dX12_takesLaw_96 : decode cX12_takesLaw 96 = .ok (.iadd, 1) := by decide +kernel
theorem dX12_takesLaw_97 : decode cX12_takesLaw 97 = .ok (.iaload, 1) := by decide +kernel
theorem dX12_takesLaw_98 : decode cX12_takesLaw 98 = .ok (.iastore, 1) := by decide +kernel
theorem dX12_takesLaw_99 : decode cX12_takesLaw 99 = .ok (.iinc 2 1, 3) := by decide +kernel
theorem dX12_takesLaw_102 : decode cX12_takesLaw 102 = .ok (.goto (-100), 3) := by decide +kernel
theorem dX12_takesLaw_105 : decode cX12_takesLaw 105 = .ok (.iconst 0, 1) := by decide +kernel
theorem dX12_takesLaw_106 : decode cX12_takesLaw 106 = .ok (.istore_n 2, 1) := by decide +kernel
theorem dX12_takesLaw_107 : decode cX12_takesLaw 107 = .ok (.iload_n 2, 1) := by decide +kernel
theorem dX12_takesLaw_108 : decode cX12_takesLaw 108 = .ok (.aload_n 0, 1) := by decide +kernel
theorem dX12_takesLaw_109 : decode cX12_takesLaw 109 = .ok (.getfield 229, 3) := by decide +kernel
theorem dX12_takesLaw_112 : decode cX12_takesLaw 112 = .ok (.if_icmp .ge 59, 3) := by decide +kernel
theorem dX12_takesLaw_115 : decode cX12_takesLaw 115 = .ok (.aload_n 0, 1) := by decide +kernel
theorem dX12_takesLaw_116 : decode cX12_takesLaw 116 = .ok (.getfield 55, 3) := by decide +kernel
theorem dX12_takesLaw_119 : decode cX12_takesLaw 119 = .ok (.sipush 400, 3) := by decide +kernel
theorem dX12_takesLaw_122 : decode cX12_takesLaw 122 = .ok (.aload_n 0, 1) := by decide +kernel
theorem dX12_takesLaw_123 : decode cX12_takesLaw 123 = .ok (.getfield 283, 3) := by decide +kernel
theorem dX12_takesLaw_126 : decode cX12_takesLaw 126 = .ok (.imul, 1) := by decide +kernel
theorem dX12_takesLaw_127 : decode cX12_takesLaw 127 = .ok (.iload_n 2, 1) := by decide +kernel
theorem dX12_takesLaw_128 : decode cX12_takesLaw 128 = .ok (.iadd, 1) := by decide +kernel
theorem dX12_takesLaw_129 : decode cX12_takesLaw 129 = .ok (.aload_n 0, 1) := by decide +kernel
theorem dX12_takesLaw_130 : decode cX12_takesLaw 130 = .ok (.getfield 55, 3) := by decide +kernel
theorem dX12_takesLaw_133 : decode cX12_takesLaw 133 = .ok (.sipush 800, 3) := by decide +kernel
theorem dX12_takesLaw_136 : decode cX12_takesLaw 136 = .ok (.iload_n 2, 1) := by decide +kernel
theorem dX12_takesLaw_137 : decode cX12_takesLaw 137 = .ok (.iadd, 1) := by decide +kernel
theorem dX12_takesLaw_138 : decode cX12_takesLaw 138 = .ok (.iaload, 1) := by decide +kernel
theorem dX12_takesLaw_139 : decode cX12_takesLaw 139 = .ok (.iastore, 1) := by decide +kernel
theorem dX12_takesLaw_140 : decode cX12_takesLaw 140 = .ok (.aload_n 0, 1) := by decide +kernel
theorem dX12_takesLaw_141 : decode cX12_takesLaw 141 = .ok (.getfield 58, 3) := by decide +kernel
theorem dX12_takesLaw_144 : decode cX12_takesLaw 144 = .ok (.sipush 400, 3) := by decide +kernel
theorem dX12_takesLaw_147 : decode cX12_takesLaw 147 = .ok (.aload_n 0, 1) := by decide +kernel
theorem dX12_takesLaw_148 : decode cX12_takesLaw 148 = .ok (.getfield 283, 3) := by decide +kernel
theorem dX12_takesLaw_151 : decode cX12_takesLaw 151 = .ok (.imul, 1) := by decide +kernel
theorem dX12_takesLaw_152 : decode cX12_takesLaw 152 = .ok (.iload_n 2, 1) := by decide +kernel
theorem dX12_takesLaw_153 : decode cX12_takesLaw 153 = .ok (.iadd, 1) := by decide +kernel
theorem dX12_takesLaw_154 : decode cX12_takesLaw 154 = .ok (.aload_n 0, 1) := by decide +kernel
theorem dX12_takesLaw_155 : decode cX12_takesLaw 155 = .ok (.getfield 58, 3) := by decide +kernel
theorem dX12_takesLaw_158 : decode cX12_takesLaw 158 = .ok (.sipush 800, 3) := by decide +kernel
theorem dX12_takesLaw_161 : decode cX12_takesLaw 161 = .ok (.iload_n 2, 1) := by decide +kernel
theorem dX12_takesLaw_162 : decode cX12_takesLaw 162 = .ok (.iadd, 1) := by decide +kernel
theorem dX12_takesLaw_163 : decode cX12_takesLaw 163 = .ok (.iaload, 1) := by decide +kernel
theorem dX12_takesLaw_164 : decode cX12_takesLaw 164 = .ok (.iastore, 1) := by decide +kernel
theorem dX12_takesLaw_165 : decode cX12_takesLaw 165 = .ok (.iinc 2 1, 3) := by decide +kernel
theorem dX12_takesLaw_168 : decode cX12_takesLaw 168 = .ok (.goto (-61), 3) := by decide +kernel
theorem dX12_takesLaw_171 : decode cX12_takesLaw 171 = .ok (.aload_n 0, 1) := by decide +kernel
theorem dX12_takesLaw_172 : decode cX12_takesLaw 172 = .ok (.getfield 40, 3) := by decide +kernel
theorem dX12_takesLaw_175 : decode cX12_takesLaw 175 = .ok (.aload_n 0, 1) := by decide +kernel
theorem dX12_takesLaw_176 : decode cX12_takesLaw 176 = .ok (.getfield 283, 3) := by decide +kernel
theorem dX12_takesLaw_179 : decode cX12_takesLaw 179 = .ok (.iload_n 1, 1) := by decide +kernel
theorem dX12_takesLaw_180 : decode cX12_takesLaw 180 = .ok (.iastore, 1) := by decide +kernel
theorem dX12_takesLaw_181 : decode cX12_takesLaw 181 = .ok (.return_, 1) := by decide +kernel
theorem dX12_readNumber_0 : decode cX12_readNumber 0 = .ok (.aload_n 0, 1) := by decide +kernel
theorem dX12_readNumber_1 : decode cX12_readNumber 1 = .ok (.getfield 204, 3) := by decide +kernel
theorem dX12_readNumber_4 : decode cX12_readNumber 4 = .ok (.iconst 3, 1) := by decide +kernel
theorem dX12_readNumber_5 : decode cX12_readNumber 5 = .ok (.if_icmp .eq 9, 3) := by decide +kernel
theorem dX12_readNumber_8 : decode cX12_readNumber 8 = .ok (.aload_n 0, 1) := by decide +kernel
theorem dX12_readNumber_9 : decode cX12_readNumber 9 = .ok (.iconst 1, 1) := by decide +kernel
theorem dX12_readNumber_10 : decode cX12_readNumber 10 = .ok (.invokevirtual 235, 3) := by decide +kernel
theorem dX12_readNumber_13 : decode cX12_readNumber 13 = .ok (.ireturn, 1) := by decide +kernel
theorem dX12_readNumber_14 : decode cX12_readNumber 14 = .ok (.aload_n 0, 1) := by decide +kernel
theorem dX12_readNumber_15 : decode cX12_readNumber 15 = .ok (.aload_n 0, 1) := by decide +kernel
theorem dX12_readNumber_16 : decode cX12_readNumber 16 = .ok (.getfield 207, 3) := by decide +kernel
theorem dX12_readNumber_19 : decode cX12_readNumber 19 = .ok (.iload_n 1, 1) := by decide +kernel
theorem dX12_readNumber_20 : decode cX12_readNumber 20 = .ok (.iload_n 2, 1) := by decide +kernel
theorem dX12_readNumber_21 : decode cX12_readNumber 21 = .ok (.invokevirtual 165, 3) := by decide +kernel
theorem dX12_readNumber_24 : decode cX12_readNumber 24 = .ok (.ifCond .ne 9, 3) := by decide +kernel
theorem dX12_readNumber_27 : decode cX12_readNumber 27 = .ok (.aload_n 0, 1) := by decide +kernel
theorem dX12_readNumber_28 : decode cX12_readNumber 28 = .ok (.iconst 2, 1) := by decide +kernel
theorem dX12_readNumber_29 : decode cX12_readNumber 29 = .ok (.invokevirtual 235, 3) := by decide +kernel
theorem dX12_readNumber_32 : decode cX12_readNumber 32 = .ok (.ireturn, 1) := by decide +kernel
theorem dX12_readNumber_33 : decode cX12_readNumber 33 = .ok (.aload_n 0, 1) := by decide +kernel
theorem dX12_readNumber_34 : decode cX12_readNumber 34 = .ok (.getfield 207, 3) := by decide +kernel
theorem dX12_readNumber_37 : decode cX12_readNumber 37 = .ok (.istore_n 3, 1) := by decide +kernel
theorem dX12_readNumber_38 : decode cX12_readNumber 38 = .ok (.aload_n 0, 1) := by decide +kernel
theorem dX12_readNumber_39 : decode cX12_readNumber 39 = .ok (.invokevirtual 242, 3) := by decide +kernel
theorem dX12_readNumber_42 : decode cX12_readNumber 42 = .ok (.iload_n 3, 1) := by decide +kernel
theorem dX12_readNumber_43 : decode cX12_readNumber 43 = .ok (.ireturn, 1) := by decide +kernel
theorem dX12_readMark_0 : decode cX12_readMark 0 = .ok (.aload_n 0, 1) := by decide +kernel
theorem dX12_readMark_1 : decode cX12_readMark 1 = .ok (.iload_n 1, 1) := by decide +kernel
theorem dX12_readMark_2 : decode cX12_readMark 2 = .ok (.invokevirtual 249, 3) := by decide +kernel
theorem dX12_readMark_5 : decode cX12_readMark 5 = .ok (.ifCond .ne 9, 3) := by decide +kernel
theorem dX12_readMark_8 : decode cX12_readMark 8 = .ok (.aload_n 0, 1) := by decide +kernel
theorem dX12_readMark_9 : decode cX12_readMark 9 = .ok (.iconst 1, 1) := by decide +kernel
theorem dX12_readMark_10 : decode cX12_readMark 10 = .ok (.invokevirtual 235, 3) := by decide +kernel
theorem dX12_readMark_13 : decode cX12_readMark 13 = .ok (.ireturn, 1) := by decide +kernel
theorem dX12_readMark_14 : decode cX12_readMark 14 = .ok (.aload_n 0, 1) := by decide +kernel
theorem dX12_readMark_15 : decode cX12_readMark 15 = .ok (.invokevirtual 242, 3) := by decide +kernel
theorem dX12_readMark_18 : decode cX12_readMark 18 = .ok (.iconst 0, 1) := by decide +kernel
theorem dX12_readMark_19 : decode cX12_readMark 19 = .ok (.ireturn, 1) := by decide +kernel
theorem dX12_readTold_0 : decode cX12_readTold 0 = .ok (.aload_n 0, 1) := by decide +kernel
theorem dX12_readTold_1 : decode cX12_readTold 1 = .ok (.iload_n 1, 1) := by decide +kernel
theorem dX12_readTold_2 : decode cX12_readTold 2 = .ok (.invokevirtual 264, 3) := by decide +kernel
theorem dX12_readTold_5 : decode cX12_readTold 5 = .ok (.ifCond .ne 9, 3) := by decide +kernel
theorem dX12_readTold_8 : decode cX12_readTold 8 = .ok (.aload_n 0, 1) := by decide +kernel
theorem dX12_readTold_9 : decode cX12_readTold 9 = .ok (.iconst 1, 1) := by decide +kernel
theorem dX12_readTold_10 : decode cX12_readTold 10 = .ok (.invokevirtual 235, 3) := by decide +kernel
theorem dX12_readTold_13 : decode cX12_readTold 13 = .ok (.ireturn, 1) := by decide +kernel
theorem dX12_readTold_14 : decode cX12_readTold 14 = .ok (.aload_n 0, 1) := by decide +kernel
theorem dX12_readTold_15 : decode cX12_readTold 15 = .ok (.invokevirtual 242, 3) := by decide +kernel
theorem dX12_readTold_18 : decode cX12_readTold 18 = .ok (.aload_n 0, 1) := by decide +kernel
theorem dX12_readTold_19 : decode cX12_readTold 19 = .ok (.iload_n 2, 1) := by decide +kernel
theorem dX12_readTold_20 : decode cX12_readTold 20 = .ok (.iload_n 3, 1) := by decide +kernel
theorem dX12_readTold_21 : decode cX12_readTold 21 = .ok (.invokevirtual 286, 3) := by decide +kernel
theorem dX12_readTold_24 : decode cX12_readTold 24 = .ok (.ireturn, 1) := by decide +kernel
theorem dX12_readPath_0 : decode cX12_readPath 0 = .ok (.aload_n 0, 1) := by decide +kernel
theorem dX12_readPath_1 : decode cX12_readPath 1 = .ok (.getfield 68, 3) := by decide +kernel
theorem dX12_readPath_4 : decode cX12_readPath 4 = .ok (.iload_n 1, 1) := by decide +kernel
theorem dX12_readPath_5 : decode cX12_readPath 5 = .ok (.aload_n 0, 1) := by decide +kernel
theorem dX12_readPath_6 : decode cX12_readPath 6 = .ok (.bipush 16, 2) := by decide +kernel
theorem dX12_readPath_8 : decode cX12_readPath 8 = .ok (.iconst 0, 1) := by decide +kernel
theorem dX12_readPath_9 : decode cX12_readPath 9 = .ok (.sipush 999, 3) := by decide +kernel
theorem dX12_readPath_12 : decode cX12_readPath 12 = .ok (.invokevirtual 289, 3) := by decide +kernel
theorem dX12_readPath_15 : decode cX12_readPath 15 = .ok (.iastore, 1) := by decide +kernel
theorem dX12_readPath_16 : decode cX12_readPath 16 = .ok (.aload_n 0, 1) := by decide +kernel
theorem dX12_readPath_17 : decode cX12_readPath 17 = .ok (.getfield 68, 3) := by decide +kernel
theorem dX12_readPath_20 : decode cX12_readPath 20 = .ok (.iload_n 1, 1) := by decide +kernel
theorem dX12_readPath_21 : decode cX12_readPath 21 = .ok (.iaload, 1) := by decide +kernel
theorem dX12_readPath_22 : decode cX12_readPath 22 = .ok (.iconst (-1), 1) := by decide +kernel
theorem dX12_readPath_23 : decode cX12_readPath 23 = .ok (.if_icmp .ne 5, 3) := by decide +kernel
theorem dX12_readPath_26 : decode cX12_readPath 26 = .ok (.iconst (-1), 1) := by decide +kernel
theorem dX12_readPath_27 : decode cX12_readPath 27 = .ok (.ireturn, 1) := by decide +kernel
theorem dX12_readPath_28 : decode cX12_readPath 28 = .ok (.aload_n 0, 1) := by decide +kernel
theorem dX12_readPath_29 : decode cX12_readPath 29 = .ok (.getfield 68, 3) := by decide +kernel
theorem dX12_readPath_32 : decode cX12_readPath 32 = .ok (.iload_n 1, 1) := by decide +kernel
theorem dX12_readPath_33 : decode cX12_readPath 33 = .ok (.iconst 1, 1) := by decide +kernel
theorem dX12_readPath_34 : decode cX12_readPath 34 = .ok (.iadd, 1) := by decide +kernel
theorem dX12_readPath_35 : decode cX12_readPath 35 = .ok (.aload_n 0, 1) := by decide +kernel
theorem dX12_readPath_36 : decode cX12_readPath 36 = .ok (.bipush 17, 2) := by decide +kernel
theorem dX12_readPath_38 : decode cX12_readPath 38 = .ok (.iconst 0, 1) := by decide +kernel
theorem dX12_readPath_39 : decode cX12_readPath 39 = .ok (.aload_n 0, 1) := by decide +kernel
theorem dX12_readPath_40 : decode cX12_readPath 40 = .ok (.getfield 159, 3) := by decide +kernel
theorem dX12_readPath_43 : decode cX12_readPath 43 = .ok (.iconst 1, 1) := by decide +kernel
theorem dX12_readPath_44 : decode cX12_readPath 44 = .ok (.isub, 1) := by decide +kernel
theorem dX12_readPath_45 : decode cX12_readPath 45 = .ok (.invokevirtual 289, 3) := by decide +kernel
theorem dX12_readPath_48 : decode cX12_readPath 48 = .ok (.iastore, 1) := by decide +kernel
theorem dX12_readPath_49 : decode cX12_readPath 49 = .ok (.aload_n 0, 1) := by decide +kernel
theorem dX12_readPath_50 : decode cX12_readPath 50 = .ok (.getfield 68, 3) := by decide +kernel
theorem dX12_readPath_53 : decode cX12_readPath 53 = .ok (.iload_n 1, 1) := by decide +kernel
theorem dX12_readPath_54 : decode cX12_readPath 54 = .ok (.iconst 1, 1) := by decide +kernel
theorem dX12_readPath_55 : decode cX12_readPath 55 = .ok (.iadd, 1) := by decide +kernel
theorem dX12_readPath_56 : decode cX12_readPath 56 = .ok (.iaload, 1) := by decide +kernel
theorem dX12_readPath_57 : decode cX12_readPath 57 = .ok (.iconst (-1), 1) := by decide +kernel
theorem dX12_readPath_58 : decode cX12_readPath 58 = .ok (.if_icmp .ne 5, 3) := by decide +kernel
theorem dX12_readPath_61 : decode cX12_readPath 61 = .ok (.iconst (-1), 1) := by decide +kernel
theorem dX12_readPath_62 : decode cX12_readPath 62 = .ok (.ireturn, 1) := by decide +kernel
theorem dX12_readPath_63 : decode cX12_readPath 63 = .ok (.aload_n 0, 1) := by decide +kernel
theorem dX12_readPath_64 : decode cX12_readPath 64 = .ok (.getfield 204, 3) := by decide +kernel
theorem dX12_readPath_67 : decode cX12_readPath 67 = .ok (.iconst 2, 1) := by decide +kernel
theorem dX12_readPath_68 : decode cX12_readPath 68 = .ok (.if_icmp .ne 18, 3) := by decide +kernel
theorem dX12_readPath_71 : decode cX12_readPath 71 = .ok (.aload_n 0, 1) := by decide +kernel
theorem dX12_readPath_72 : decode cX12_readPath 72 = .ok (.aload_n 0, 1) := by decide +kernel
theorem dX12_readPath_73 : decode cX12_readPath 73 = .ok (.getfield 207, 3) := by decide +kernel
theorem dX12_readPath_76 : decode cX12_readPath 76 = .ok (.bipush 18, 2) := by decide +kernel
theorem dX12_readPath_78 : decode cX12_readPath 78 = .ok (.bipush 20, 2) := by decide +kernel
theorem dX12_readPath_80 : decode cX12_readPath 80 = .ok (.invokevirtual 165, 3) := by decide +kernel
theorem dX12_readPath_83 : decode cX12_readPath 83 = .ok (.ifCond .ne 9, 3) := by decide +kernel
theorem dX12_readPath_86 : decode cX12_readPath 86 = .ok (.aload_n 0, 1) := by decide +kernel
theorem dX12_readPath_87 : decode cX12_readPath 87 = .ok (.iconst 1, 1) := by decide +kernel
theorem dX12_readPath_88 : decode cX12_readPath 88 = .ok (.invokevirtual 235, 3) := by decide +kernel
theorem dX12_readPath_91 : decode cX12_readPath 91 = .ok (.ireturn, 1) := by decide +kernel
theorem dX12_readPath_92 : decode cX12_readPath 92 = .ok (.aload_n 0, 1) := by decide +kernel
theorem dX12_readPath_93 : decode cX12_readPath 93 = .ok (.getfield 207, 3) := by decide +kernel
theorem dX12_readPath_96 : decode cX12_readPath 96 = .ok (.bipush 18, 2) := by decide +kernel
theorem dX12_readPath_98 : decode cX12_readPath 98 = .ok (.isub, 1) := by decide +kernel
theorem dX12_readPath_99 : decode cX12_readPath 99 = .ok (.istore_n 2, 1) := by decide +kernel
theorem dX12_readPath_100 : decode cX12_readPath 100 = .ok (.aload_n 0, 1) := by decide +kernel
theorem dX12_readPath_101 : decode cX12_readPath 101 = .ok (.invokevirtual 242, 3) := by decide +kernel
theorem dX12_readPath_104 : decode cX12_readPath 104 = .ok (.aload_n 0, 1) := by decide +kernel
theorem dX12_readPath_105 : decode cX12_readPath 105 = .ok (.getfield 68, 3) := by decide +kernel
theorem dX12_readPath_108 : decode cX12_readPath 108 = .ok (.iload_n 1, 1) := by decide +kernel
theorem dX12_readPath_109 : decode cX12_readPath 109 = .ok (.iconst 2, 1) := by decide +kernel
theorem dX12_readPath_110 : decode cX12_readPath 110 = .ok (.iadd, 1) := by decide +kernel
theorem dX12_readPath_111 : decode cX12_readPath 111 = .ok (.iload_n 2, 1) := by decide +kernel
theorem dX12_readPath_112 : decode cX12_readPath 112 = .ok (.iastore, 1) := by decide +kernel
theorem dX12_readPath_113 : decode cX12_readPath 113 = .ok (.aload_n 0, 1) := by decide +kernel
theorem dX12_readPath_114 : decode cX12_readPath 114 = .ok (.getfield 68, 3) := by decide +kernel
theorem dX12_readPath_117 : decode cX12_readPath 117 = .ok (.iload_n 1, 1) := by decide +kernel
theorem dX12_readPath_118 : decode cX12_readPath 118 = .ok (.iconst 3, 1) := by decide +kernel
theorem dX12_readPath_119 : decode cX12_readPath 119 = .ok (.iadd, 1) := by decide +kernel
theorem dX12_readPath_120 : decode cX12_readPath 120 = .ok (.iload_n 2, 1) := by decide +kernel
theorem dX12_readPath_121 : decode cX12_readPath 121 = .ok (.ifCond .ne 13, 3) := by decide +kernel
theorem dX12_readPath_124 : decode cX12_readPath 124 = .ok (.aload_n 0, 1) := by decide +kernel
theorem dX12_readPath_125 : decode cX12_readPath 125 = .ok (.iconst 0, 1) := by decide +kernel
theorem dX12_readPath_126 : decode cX12_readPath 126 = .ok (.bipush 19, 2) := by decide +kernel
theorem dX12_readPath_128 : decode cX12_readPath 128 = .ok (.invokevirtual 286, 3) := by decide +kernel
theorem dX12_readPath_131 : decode cX12_readPath 131 = .ok (.goto 29, 3) := by decide +kernel
theorem dX12_readPath_134 : decode cX12_readPath 134 = .ok (.iload_n 2, 1) := by decide +kernel
theorem dX12_readPath_135 : decode cX12_readPath 135 = .ok (.iconst 1, 1) := by decide +kernel
theorem dX12_readPath_136 : decode cX12_readPath 136 = .ok (.if_icmp .ne 13, 3) := by decide +kernel
theorem dX12_readPath_139 : decode cX12_readPath 139 = .ok (.aload_n 0, 1) := by decide +kernel
theorem dX12_readPath_140 : decode cX12_readPath 140 = .ok (.iconst 1, 1) := by decide +kernel
theorem dX12_readPath_141 : decode cX12_readPath 141 = .ok (.bipush 40, 2) := by decide +kernel
theorem dX12_readPath_143 : decode cX12_readPath 143 = .ok (.invokevirtual 286, 3) := by decide +kernel
theorem dX12_readPath_146 : decode cX12_readPath 146 = .ok (.goto 14, 3) := by decide +kernel
theorem dX12_readPath_149 : decode cX12_readPath 149 = .ok (.aload_n 0, 1) := by decide +kernel
theorem dX12_readPath_150 : decode cX12_readPath 150 = .ok (.iconst 0, 1) := by decide +kernel
theorem dX12_readPath_151 : decode cX12_readPath 151 = .ok (.aload_n 0, 1) := by decide +kernel
theorem dX12_readPath_152 : decode cX12_readPath 152 = .ok (.getfield 162, 3) := by decide +kernel
theorem dX12_readPath_155 : decode cX12_readPath 155 = .ok (.iconst 1, 1) := by decide +kernel
theorem dX12_readPath_156 : decode cX12_readPath 156 = .ok (.isub, 1) := by decide +kernel
theorem dX12_readPath_157 : decode cX12_readPath 157 = .ok (.invokevirtual 286, 3) := by decide +kernel
theorem dX12_readPath_160 : decode cX12_readPath 160 = .ok (.iastore, 1) := by decide +kernel
theorem dX12_readPath_161 : decode cX12_readPath 161 = .ok (.aload_n 0, 1) := by decide +kernel
theorem dX12_readPath_162 : decode cX12_readPath 162 = .ok (.getfield 68, 3) := by decide +kernel
theorem dX12_readPath_165 : decode cX12_readPath 165 = .ok (.iload_n 1, 1) := by decide +kernel
theorem dX12_readPath_166 : decode cX12_readPath 166 = .ok (.iconst 3, 1) := by decide +kernel
theorem dX12_readPath_167 : decode cX12_readPath 167 = .ok (.iadd, 1) := by decide +kernel
theorem dX12_readPath_168 : decode cX12_readPath 168 = .ok (.iaload, 1) := by decide +kernel
theorem dX12_readPath_169 : decode cX12_readPath 169 = .ok (.iconst (-1), 1) := by decide +kernel
theorem dX12_readPath_170 : decode cX12_readPath 170 = .ok (.if_icmp .ne 5, 3) := by decide +kernel
theorem dX12_readPath_173 : decode cX12_readPath 173 = .ok (.iconst (-1), 1) := by decide +kernel
theorem dX12_readPath_174 : decode cX12_readPath 174 = .ok (.ireturn, 1) := by decide +kernel
theorem dX12_readPath_175 : decode cX12_readPath 175 = .ok (.aload_n 0, 1) := by decide +kernel
theorem dX12_readPath_176 : decode cX12_readPath 176 = .ok (.getfield 68, 3) := by decide +kernel
theorem dX12_readPath_179 : decode cX12_readPath 179 = .ok (.iload_n 1, 1) := by decide +kernel
theorem dX12_readPath_180 : decode cX12_readPath 180 = .ok (.iconst 4, 1) := by decide +kernel
theorem dX12_readPath_181 : decode cX12_readPath 181 = .ok (.iadd, 1) := by decide +kernel
theorem dX12_readPath_182 : decode cX12_readPath 182 = .ok (.iload_n 2, 1) := by decide +kernel
theorem dX12_readPath_183 : decode cX12_readPath 183 = .ok (.iconst 2, 1) := by decide +kernel
theorem dX12_readPath_184 : decode cX12_readPath 184 = .ok (.if_icmp .ne 13, 3) := by decide +kernel
theorem dX12_readPath_187 : decode cX12_readPath 187 = .ok (.aload_n 0, 1) := by decide +kernel
theorem dX12_readPath_188 : decode cX12_readPath 188 = .ok (.iconst 1, 1) := by decide +kernel
theorem dX12_readPath_189 : decode cX12_readPath 189 = .ok (.bipush 40, 2) := by decide +kernel
theorem dX12_readPath_191 : decode cX12_readPath 191 = .ok (.invokevirtual 286, 3) := by decide +kernel
theorem dX12_readPath_194 : decode cX12_readPath 194 = .ok (.goto 4, 3) := by decide +kernel
theorem dX12_readPath_197 : decode cX12_readPath 197 = .ok (.iconst 0, 1) := by decide +kernel
theorem dX12_readPath_198 : decode cX12_readPath 198 = .ok (.iastore, 1) := by decide +kernel
theorem dX12_readPath_199 : decode cX12_readPath 199 = .ok (.aload_n 0, 1) := by decide +kernel
theorem dX12_readPath_200 : decode cX12_readPath 200 = .ok (.getfield 68, 3) := by decide +kernel
theorem dX12_readPath_203 : decode cX12_readPath 203 = .ok (.iload_n 1, 1) := by decide +kernel
theorem dX12_readPath_204 : decode cX12_readPath 204 = .ok (.iconst 4, 1) := by decide +kernel
theorem dX12_readPath_205 : decode cX12_readPath 205 = .ok (.iadd, 1) := by decide +kernel
theorem dX12_readPath_206 : decode cX12_readPath 206 = .ok (.iaload, 1) := by decide +kernel
theorem dX12_readPath_207 : decode cX12_readPath 207 = .ok (.iconst (-1), 1) := by decide +kernel
theorem dX12_readPath_208 : decode cX12_readPath 208 = .ok (.if_icmp .ne 7, 3) := by decide +kernel
theorem dX12_readPath_211 : decode cX12_readPath 211 = .ok (.iconst (-1), 1) := by decide +kernel
theorem dX12_readPath_212 : decode cX12_readPath 212 = .ok (.goto 9, 3) := by decide +kernel
theorem dX12_readPath_215 : decode cX12_readPath 215 = .ok (.aload_n 0, 1) := by decide +kernel
theorem dX12_readPath_216 : decode cX12_readPath 216 = .ok (.bipush 59, 2) := by decide +kernel
theorem dX12_readPath_218 : decode cX12_readPath 218 = .ok (.invokevirtual 293, 3) := by decide +kernel
theorem dX12_readPath_221 : decode cX12_readPath 221 = .ok (.ireturn, 1) := by decide +kernel
theorem dX12_readPaths_0 : decode cX12_readPaths 0 = .ok (.iconst 0, 1) := by decide +kernel
theorem dX12_readPaths_1 : decode cX12_readPaths 1 = .ok (.istore_n 1, 1) := by decide +kernel
theorem dX12_readPaths_2 : decode cX12_readPaths 2 = .ok (.aload_n 0, 1) := by decide +kernel
theorem dX12_readPaths_3 : decode cX12_readPaths 3 = .ok (.bipush 16, 2) := by decide +kernel
theorem dX12_readPaths_5 : decode cX12_readPaths 5 = .ok (.invokevirtual 264, 3) := by decide +kernel
theorem dX12_readPaths_8 : decode cX12_readPaths 8 = .ok (.ifCond .eq 38, 3) := by decide +kernel
theorem dX12_readPaths_11 : decode cX12_readPaths 11 = .ok (.iload_n 1, 1) := by decide +kernel
theorem dX12_readPaths_12 : decode cX12_readPaths 12 = .ok (.bipush 16, 2) := by decide +kernel
theorem dX12_readPaths_14 : decode cX12_readPaths 14 = .ok (.if_icmp .ne 9, 3) := by decide +kernel
theorem dX12_readPaths_17 : decode cX12_readPaths 17 = .ok (.aload_n 0, 1) := by decide +kernel
theorem dX12_readPaths_18 : decode cX12_readPaths 18 = .ok (.iconst 3, 1) := by decide +kernel
theorem dX12_readPaths_19 : decode cX12_readPaths 19 = .ok (.invokevirtual 235, 3) := by decide +kernel
theorem dX12_readPaths_22 : decode cX12_readPaths 22 = .ok (.ireturn, 1) := by decide +kernel
theorem dX12_readPaths_23 : decode cX12_readPaths 23 = .ok (.aload_n 0, 1) := by decide +kernel
theorem dX12_readPaths_24 : decode cX12_readPaths 24 = .ok (.bipush 80, 2) := by decide +kernel
theorem dX12_readPaths_26 : decode cX12_readPaths 26 = .ok (.iconst 5, 1) := by decide +kernel
theorem dX12_readPaths_27 : decode cX12_readPaths 27 = .ok (.iload_n 1, 1) := by decide +kernel
theorem dX12_readPaths_28 : decode cX12_readPaths 28 = .ok (.imul, 1) := by decide +kernel
theorem dX12_readPaths_29 : decode cX12_readPaths 29 = .ok (.iadd, 1) := by decide +kernel
theorem dX12_readPaths_30 : decode cX12_readPaths 30 = .ok (.invokevirtual 296, 3) := by decide +kernel
theorem dX12_readPaths_33 : decode cX12_readPaths 33 = .ok (.iconst (-1), 1) := by decide +kernel
theorem dX12_readPaths_34 : decode cX12_readPaths 34 = .ok (.if_icmp .ne 5, 3) := by decide +kernel
theorem dX12_readPaths_37 : decode cX12_readPaths 37 = .ok (.iconst (-1), 1) := by decide +kernel
theorem dX12_readPaths_38 : decode cX12_readPaths 38 = .ok (.ireturn, 1) := by decide +kernel
theorem dX12_readPaths_39 : decode cX12_readPaths 39 = .ok (.iload_n 1, 1) := by decide +kernel
theorem dX12_readPaths_40 : decode cX12_readPaths 40 = .ok (.iconst 1, 1) := by decide +kernel
theorem dX12_readPaths_41 : decode cX12_readPaths 41 = .ok (.iadd, 1) := by decide +kernel
theorem dX12_readPaths_42 : decode cX12_readPaths 42 = .ok (.istore_n 1, 1) := by decide +kernel
theorem dX12_readPaths_43 : decode cX12_readPaths 43 = .ok (.goto (-41), 3) := by decide +kernel
theorem dX12_readPaths_46 : decode cX12_readPaths 46 = .ok (.aload_n 0, 1) := by decide +kernel
theorem dX12_readPaths_47 : decode cX12_readPaths 47 = .ok (.getfield 204, 3) := by decide +kernel
theorem dX12_readPaths_50 : decode cX12_readPaths 50 = .ok (.ifCond .ne 7, 3) := by decide +kernel
theorem dX12_readPaths_53 : decode cX12_readPaths 53 = .ok (.iload_n 1, 1) := by decide +kernel
theorem dX12_readPaths_54 : decode cX12_readPaths 54 = .ok (.goto 8, 3) := by decide +kernel
theorem dX12_readPaths_57 : decode cX12_readPaths 57 = .ok (.aload_n 0, 1) := by decide +kernel
theorem dX12_readPaths_58 : decode cX12_readPaths 58 = .ok (.iconst 1, 1) := by decide +kernel
theorem dX12_readPaths_59 : decode cX12_readPaths 59 = .ok (.invokevirtual 235, 3) := by decide +kernel
theorem dX12_readPaths_62 : decode cX12_readPaths 62 = .ok (.ireturn, 1) := by decide +kernel
theorem dX12_kindOfSky_0 : decode cX12_kindOfSky 0 = .ok (.aload_n 0, 1) := by decide +kernel
theorem dX12_kindOfSky_1 : decode cX12_kindOfSky 1 = .ok (.bipush 21, 2) := by decide +kernel
theorem dX12_kindOfSky_3 : decode cX12_kindOfSky 3 = .ok (.invokevirtual 264, 3) := by decide +kernel
theorem dX12_kindOfSky_6 : decode cX12_kindOfSky 6 = .ok (.ifCond .eq 5, 3) := by decide +kernel
theorem dX12_kindOfSky_9 : decode cX12_kindOfSky 9 = .ok (.iconst 3, 1) := by decide +kernel
theorem dX12_kindOfSky_10 : decode cX12_kindOfSky 10 = .ok (.ireturn, 1) := by decide +kernel
theorem dX12_kindOfSky_11 : decode cX12_kindOfSky 11 = .ok (.aload_n 0, 1) := by decide +kernel
theorem dX12_kindOfSky_12 : decode cX12_kindOfSky 12 = .ok (.getfield 204, 3) := by decide +kernel
theorem dX12_kindOfSky_15 : decode cX12_kindOfSky 15 = .ok (.iconst 2, 1) := by decide +kernel
theorem dX12_kindOfSky_16 : decode cX12_kindOfSky 16 = .ok (.if_icmp .ne 28, 3) := by decide +kernel
theorem dX12_kindOfSky_19 : decode cX12_kindOfSky 19 = .ok (.aload_n 0, 1) := by decide +kernel
theorem dX12_kindOfSky_20 : decode cX12_kindOfSky 20 = .ok (.aload_n 0, 1) := by decide +kernel
theorem dX12_kindOfSky_21 : decode cX12_kindOfSky 21 = .ok (.getfield 207, 3) := by decide +kernel
theorem dX12_kindOfSky_24 : decode cX12_kindOfSky 24 = .ok (.bipush 12, 2) := by decide +kernel
theorem dX12_kindOfSky_26 : decode cX12_kindOfSky 26 = .ok (.bipush 14, 2) := by decide +kernel
theorem dX12_kindOfSky_28 : decode cX12_kindOfSky 28 = .ok (.invokevirtual 165, 3) := by decide +kernel
theorem dX12_kindOfSky_31 : decode cX12_kindOfSky 31 = .ok (.ifCond .eq 13, 3) := by decide +kernel
theorem dX12_kindOfSky_34 : decode cX12_kindOfSky 34 = .ok (.aload_n 0, 1) := by decide +kernel
theorem dX12_kindOfSky_35 : decode cX12_kindOfSky 35 = .ok (.getfield 207, 3) := by decide +kernel
theorem dX12_kindOfSky_38 : decode cX12_kindOfSky 38 = .ok (.bipush 12, 2) := by decide +kernel
theorem dX12_kindOfSky_40 : decode cX12_kindOfSky 40 = .ok (.isub, 1) := by decide +kernel
theorem dX12_kindOfSky_41 : decode cX12_kindOfSky 41 = .ok (.goto 4, 3) := by decide +kernel
theorem dX12_kindOfSky_44 : decode cX12_kindOfSky 44 = .ok (.iconst (-1), 1) := by decide +kernel
theorem dX12_kindOfSky_45 : decode cX12_kindOfSky 45 = .ok (.ireturn, 1) := by decide +kernel
theorem dX12_readSkyLine_0 : decode cX12_readSkyLine 0 = .ok (.aload_n 0, 1) := by decide +kernel
theorem dX12_readSkyLine_1 : decode cX12_readSkyLine 1 = .ok (.getfield 71, 3) := by decide +kernel
theorem dX12_readSkyLine_4 : decode cX12_readSkyLine 4 = .ok (.iload_n 1, 1) := by decide +kernel
theorem dX12_readSkyLine_5 : decode cX12_readSkyLine 5 = .ok (.aload_n 0, 1) := by decide +kernel
theorem dX12_readSkyLine_6 : decode cX12_readSkyLine 6 = .ok (.bipush 16, 2) := by decide +kernel
theorem dX12_readSkyLine_8 : decode cX12_readSkyLine 8 = .ok (.iconst 0, 1) := by decide +kernel
theorem dX12_readSkyLine_9 : decode cX12_readSkyLine 9 = .ok (.sipush 999, 3) := by decide +kernel
theorem dX12_readSkyLine_12 : decode cX12_readSkyLine 12 = .ok (.invokevirtual 289, 3) := by decide +kernel
theorem dX12_readSkyLine_15 : decode cX12_readSkyLine 15 = .ok (.iastore, 1) := by decide +kernel
theorem dX12_readSkyLine_16 : decode cX12_readSkyLine 16 = .ok (.aload_n 0, 1) := by decide +kernel
theorem dX12_readSkyLine_17 : decode cX12_readSkyLine 17 = .ok (.getfield 71, 3) := by decide +kernel
theorem dX12_readSkyLine_20 : decode cX12_readSkyLine 20 = .ok (.iload_n 1, 1) := by decide +kernel
theorem dX12_readSkyLine_21 : decode cX12_readSkyLine 21 = .ok (.iaload, 1) := by decide +kernel
theorem dX12_readSkyLine_22 : decode cX12_readSkyLine 22 = .ok (.iconst (-1), 1) := by decide +kernel
theorem dX12_readSkyLine_23 : decode cX12_readSkyLine 23 = .ok (.if_icmp .ne 5, 3) := by decide +kernel
theorem dX12_readSkyLine_26 : decode cX12_readSkyLine 26 = .ok (.iconst (-1), 1) := by decide +kernel
theorem dX12_readSkyLine_27 : decode cX12_readSkyLine 27 = .ok (.ireturn, 1) := by decide +kernel
theorem dX12_readSkyLine_28 : decode cX12_readSkyLine 28 = .ok (.aload_n 0, 1) := by decide +kernel
theorem dX12_readSkyLine_29 : decode cX12_readSkyLine 29 = .ok (.invokevirtual 299, 3) := by decide +kernel
theorem dX12_readSkyLine_32 : decode cX12_readSkyLine 32 = .ok (.istore_n 2, 1) := by decide +kernel
theorem dX12_readSkyLine_33 : decode cX12_readSkyLine 33 = .ok (.iload_n 2, 1) := by decide +kernel
theorem dX12_readSkyLine_34 : decode cX12_readSkyLine 34 = .ok (.iconst (-1), 1) := by decide +kernel
theorem dX12_readSkyLine_35 : decode cX12_readSkyLine 35 = .ok (.if_icmp .ne 9, 3) := by decide +kernel
theorem dX12_readSkyLine_38 : decode cX12_readSkyLine 38 = .ok (.aload_n 0, 1) := by decide +kernel
theorem dX12_readSkyLine_39 : decode cX12_readSkyLine 39 = .ok (.iconst 1, 1) := by decide +kernel
theorem dX12_readSkyLine_40 : decode cX12_readSkyLine 40 = .ok (.invokevirtual 235, 3) := by decide +kernel
theorem dX12_readSkyLine_43 : decode cX12_readSkyLine 43 = .ok (.ireturn, 1) := by decide +kernel
theorem dX12_readSkyLine_44 : decode cX12_readSkyLine 44 = .ok (.aload_n 0, 1) := by decide +kernel
theorem dX12_readSkyLine_45 : decode cX12_readSkyLine 45 = .ok (.invokevirtual 242, 3) := by decide +kernel
theorem dX12_readSkyLine_48 : decode cX12_readSkyLine 48 = .ok (.aload_n 0, 1) := by decide +kernel
theorem dX12_readSkyLine_49 : decode cX12_readSkyLine 49 = .ok (.getfield 71, 3) := by decide +kernel
theorem dX12_readSkyLine_52 : decode cX12_readSkyLine 52 = .ok (.iload_n 1, 1) := by decide +kernel
theorem dX12_readSkyLine_53 : decode cX12_readSkyLine 53 = .ok (.iconst 1, 1) := by decide +kernel
theorem dX12_readSkyLine_54 : decode cX12_readSkyLine 54 = .ok (.iadd, 1) := by decide +kernel
theorem dX12_readSkyLine_55 : decode cX12_readSkyLine 55 = .ok (.iload_n 2, 1) := by decide +kernel
theorem dX12_readSkyLine_56 : decode cX12_readSkyLine 56 = .ok (.iastore, 1) := by decide +kernel
theorem dX12_readSkyLine_57 : decode cX12_readSkyLine 57 = .ok (.aload_n 0, 1) := by decide +kernel
theorem dX12_readSkyLine_58 : decode cX12_readSkyLine 58 = .ok (.getfield 71, 3) := by decide +kernel
theorem dX12_readSkyLine_61 : decode cX12_readSkyLine 61 = .ok (.iload_n 1, 1) := by decide +kernel
theorem dX12_readSkyLine_62 : decode cX12_readSkyLine 62 = .ok (.iconst 2, 1) := by decide +kernel
theorem dX12_readSkyLine_63 : decode cX12_readSkyLine 63 = .ok (.iadd, 1) := by decide +kernel
theorem dX12_readSkyLine_64 : decode cX12_readSkyLine 64 = .ok (.aload_n 0, 1) := by decide +kernel
theorem dX12_readSkyLine_65 : decode cX12_readSkyLine 65 = .ok (.iconst 0, 1) := by decide +kernel
theorem dX12_readSkyLine_66 : decode cX12_readSkyLine 66 = .ok (.iload_n 2, 1) := by decide +kernel
theorem dX12_readSkyLine_67 : decode cX12_readSkyLine 67 = .ok (.iconst 3, 1) := by decide +kernel
theorem dX12_readSkyLine_68 : decode cX12_readSkyLine 68 = .ok (.if_icmp .ne 12, 3) := by decide +kernel
theorem dX12_readSkyLine_71 : decode cX12_readSkyLine 71 = .ok (.aload_n 0, 1) := by decide +kernel
theorem dX12_readSkyLine_72 : decode cX12_readSkyLine 72 = .ok (.getfield 156, 3) := by decide +kernel
theorem dX12_readSkyLine_75 : decode cX12_readSkyLine 75 = .ok (.iconst 1, 1) := by decide +kernel
theorem dX12_readSkyLine_76 : decode cX12_readSkyLine 76 = .ok (.isub, 1) := by decide +kernel
theorem dX12_readSkyLine_77 : decode cX12_readSkyLine 77 = .ok (.goto 5, 3) := by decide +kernel
theorem dX12_readSkyLine_80 : decode cX12_readSkyLine 80 = .ok (.bipush 9, 2) := by decide +kernel
theorem dX12_readSkyLine_82 : decode cX12_readSkyLine 82 = .ok (.invokevirtual 286, 3) := by decide +kernel
theorem dX12_readSkyLine_85 : decode cX12_readSkyLine 85 = .ok (.iastore, 1) := by decide +kernel
theorem dX12_readSkyLine_86 : decode cX12_readSkyLine 86 = .ok (.aload_n 0, 1) := by decide +kernel
theorem dX12_readSkyLine_87 : decode cX12_readSkyLine 87 = .ok (.getfield 71, 3) := by decide +kernel
theorem dX12_readSkyLine_90 : decode cX12_readSkyLine 90 = .ok (.iload_n 1, 1) := by decide +kernel
theorem dX12_readSkyLine_91 : decode cX12_readSkyLine 91 = .ok (.iconst 2, 1) := by decide +kernel
theorem dX12_readSkyLine_92 : decode cX12_readSkyLine 92 = .ok (.iadd, 1) := by decide +kernel
theorem dX12_readSkyLine_93 : decode cX12_readSkyLine 93 = .ok (.iaload, 1) := by decide +kernel
theorem dX12_readSkyLine_94 : decode cX12_readSkyLine 94 = .ok (.iconst (-1), 1) := by decide +kernel
theorem dX12_readSkyLine_95 : decode cX12_readSkyLine 95 = .ok (.if_icmp .ne 7, 3) := by decide +kernel
theorem dX12_readSkyLine_98 : decode cX12_readSkyLine 98 = .ok (.iconst (-1), 1) := by decide +kernel
theorem dX12_readSkyLine_99 : decode cX12_readSkyLine 99 = .ok (.goto 9, 3) := by decide +kernel
theorem dX12_readSkyLine_102 : decode cX12_readSkyLine 102 = .ok (.aload_n 0, 1) := by decide +kernel
theorem dX12_readSkyLine_103 : decode cX12_readSkyLine 103 = .ok (.bipush 59, 2) := by decide +kernel
theorem dX12_readSkyLine_105 : decode cX12_readSkyLine 105 = .ok (.invokevirtual 293, 3) := by decide +kernel
theorem dX12_readSkyLine_108 : decode cX12_readSkyLine 108 = .ok (.ireturn, 1) := by decide +kernel
theorem dX12_readSky_0 : decode cX12_readSky 0 = .ok (.iconst 0, 1) := by decide +kernel
theorem dX12_readSky_1 : decode cX12_readSky 1 = .ok (.istore_n 1, 1) := by decide +kernel
theorem dX12_readSky_2 : decode cX12_readSky 2 = .ok (.aload_n 0, 1) := by decide +kernel
theorem dX12_readSky_3 : decode cX12_readSky 3 = .ok (.bipush 16, 2) := by decide +kernel
theorem dX12_readSky_5 : decode cX12_readSky 5 = .ok (.invokevirtual 264, 3) := by decide +kernel
theorem dX12_readSky_8 : decode cX12_readSky 8 = .ok (.ifCond .eq 38, 3) := by decide +kernel
theorem dX12_readSky_11 : decode cX12_readSky 11 = .ok (.iload_n 1, 1) := by decide +kernel
theorem dX12_readSky_12 : decode cX12_readSky 12 = .ok (.bipush 16, 2) := by decide +kernel
theorem dX12_readSky_14 : decode cX12_readSky 14 = .ok (.if_icmp .ne 9, 3) := by decide +kernel
theorem dX12_readSky_17 : decode cX12_readSky 17 = .ok (.aload_n 0, 1) := by decide +kernel
theorem dX12_readSky_18 : decode cX12_readSky 18 = .ok (.iconst 3, 1) := by decide +kernel
theorem dX12_readSky_19 : decode cX12_readSky 19 = .ok (.invokevirtual 235, 3) := by decide +kernel
theorem dX12_readSky_22 : decode cX12_readSky 22 = .ok (.ireturn, 1) := by decide +kernel
theorem dX12_readSky_23 : decode cX12_readSky 23 = .ok (.aload_n 0, 1) := by decide +kernel
theorem dX12_readSky_24 : decode cX12_readSky 24 = .ok (.bipush 48, 2) := by decide +kernel
theorem dX12_readSky_26 : decode cX12_readSky 26 = .ok (.iconst 3, 1) := by decide +kernel
theorem dX12_readSky_27 : decode cX12_readSky 27 = .ok (.iload_n 1, 1) := by decide +kernel
theorem dX12_readSky_28 : decode cX12_readSky 28 = .ok (.imul, 1) := by decide +kernel
theorem dX12_readSky_29 : decode cX12_readSky 29 = .ok (.iadd, 1) := by decide +kernel
theorem dX12_readSky_30 : decode cX12_readSky 30 = .ok (.invokevirtual 302, 3) := by decide +kernel
theorem dX12_readSky_33 : decode cX12_readSky 33 = .ok (.iconst (-1), 1) := by decide +kernel
theorem dX12_readSky_34 : decode cX12_readSky 34 = .ok (.if_icmp .ne 5, 3) := by decide +kernel
theorem dX12_readSky_37 : decode cX12_readSky 37 = .ok (.iconst (-1), 1) := by decide +kernel
theorem dX12_readSky_38 : decode cX12_readSky 38 = .ok (.ireturn, 1) := by decide +kernel
theorem dX12_readSky_39 : decode cX12_readSky 39 = .ok (.iload_n 1, 1) := by decide +kernel
theorem dX12_readSky_40 : decode cX12_readSky 40 = .ok (.iconst 1, 1) := by decide +kernel
theorem dX12_readSky_41 : decode cX12_readSky 41 = .ok (.iadd, 1) := by decide +kernel
theorem dX12_readSky_42 : decode cX12_readSky 42 = .ok (.istore_n 1, 1) := by decide +kernel
theorem dX12_readSky_43 : decode cX12_readSky 43 = .ok (.goto (-41), 3) := by decide +kernel
theorem dX12_readSky_46 : decode cX12_readSky 46 = .ok (.aload_n 0, 1) := by decide +kernel
theorem dX12_readSky_47 : decode cX12_readSky 47 = .ok (.getfield 204, 3) := by decide +kernel
theorem dX12_readSky_50 : decode cX12_readSky 50 = .ok (.ifCond .ne 7, 3) := by decide +kernel
theorem dX12_readSky_53 : decode cX12_readSky 53 = .ok (.iload_n 1, 1) := by decide +kernel
theorem dX12_readSky_54 : decode cX12_readSky 54 = .ok (.goto 8, 3) := by decide +kernel
theorem dX12_readSky_57 : decode cX12_readSky 57 = .ok (.aload_n 0, 1) := by decide +kernel
theorem dX12_readSky_58 : decode cX12_readSky 58 = .ok (.iconst 1, 1) := by decide +kernel
theorem dX12_readSky_59 : decode cX12_readSky 59 = .ok (.invokevirtual 235, 3) := by decide +kernel
theorem dX12_readSky_62 : decode cX12_readSky 62 = .ok (.ireturn, 1) := by decide +kernel
theorem dX12_readNearOne_0 : decode cX12_readNearOne 0 = .ok (.aload_n 0, 1) := by decide +kernel
theorem dX12_readNearOne_1 : decode cX12_readNearOne 1 = .ok (.bipush 22, 2) := by decide +kernel
theorem dX12_readNearOne_3 : decode cX12_readNearOne 3 = .ok (.iconst 0, 1) := by decide +kernel
theorem dX12_readNearOne_4 : decode cX12_readNearOne 4 = .ok (.aload_n 0, 1) := by decide +kernel
theorem dX12_readNearOne_5 : decode cX12_readNearOne 5 = .ok (.getfield 156, 3) := by decide +kernel
theorem dX12_readNearOne_8 : decode cX12_readNearOne 8 = .ok (.iconst 1, 1) := by decide +kernel
theorem dX12_readNearOne_9 : decode cX12_readNearOne 9 = .ok (.isub, 1) := by decide +kernel
theorem dX12_readNearOne_10 : decode cX12_readNearOne 10 = .ok (.invokevirtual 289, 3) := by decide +kernel
theorem dX12_readNearOne_13 : decode cX12_readNearOne 13 = .ok (.istore_n 1, 1) := by decide +kernel
theorem dX12_readNearOne_14 : decode cX12_readNearOne 14 = .ok (.iload_n 1, 1) := by decide +kernel
theorem dX12_readNearOne_15 : decode cX12_readNearOne 15 = .ok (.iconst (-1), 1) := by decide +kernel
theorem dX12_readNearOne_16 : decode cX12_readNearOne 16 = .ok (.if_icmp .ne 5, 3) := by decide +kernel
theorem dX12_readNearOne_19 : decode cX12_readNearOne 19 = .ok (.iconst (-1), 1) := by decide +kernel
theorem dX12_readNearOne_20 : decode cX12_readNearOne 20 = .ok (.ireturn, 1) := by decide +kernel
theorem dX12_readNearOne_21 : decode cX12_readNearOne 21 = .ok (.aload_n 0, 1) := by decide +kernel
theorem dX12_readNearOne_22 : decode cX12_readNearOne 22 = .ok (.bipush 10, 2) := by decide +kernel
theorem dX12_readNearOne_24 : decode cX12_readNearOne 24 = .ok (.invokevirtual 264, 3) := by decide +kernel
theorem dX12_readNearOne_27 : decode cX12_readNearOne 27 = .ok (.ifCond .ne 9, 3) := by decide +kernel
theorem dX12_readNearOne_30 : decode cX12_readNearOne 30 = .ok (.aload_n 0, 1) := by decide +kernel
theorem dX12_readNearOne_31 : decode cX12_readNearOne 31 = .ok (.iconst 1, 1) := by decide +kernel
theorem dX12_readNearOne_32 : decode cX12_readNearOne 32 = .ok (.invokevirtual 235, 3) := by decide +kernel
theorem dX12_readNearOne_35 : decode cX12_readNearOne 35 = .ok (.ireturn, 1) := by decide +kernel
theorem dX12_readNearOne_36 : decode cX12_readNearOne 36 = .ok (.aload_n 0, 1) := by decide +kernel
theorem dX12_readNearOne_37 : decode cX12_readNearOne 37 = .ok (.invokevirtual 242, 3) := by decide +kernel
theorem dX12_readNearOne_40 : decode cX12_readNearOne 40 = .ok (.aload_n 0, 1) := by decide +kernel
theorem dX12_readNearOne_41 : decode cX12_readNearOne 41 = .ok (.getfield 204, 3) := by decide +kernel
theorem dX12_readNearOne_44 : decode cX12_readNearOne 44 = .ok (.iconst 3, 1) := by decide +kernel
theorem dX12_readNearOne_45 : decode cX12_readNearOne 45 = .ok (.if_icmp .ne 17, 3) := by decide +kernel
theorem dX12_readNearOne_48 : decode cX12_readNearOne 48 = .ok (.aload_n 0, 1) := by decide +kernel
theorem dX12_readNearOne_49 : decode cX12_readNearOne 49 = .ok (.getfield 207, 3) := by decide +kernel
theorem dX12_readNearOne_52 : decode cX12_readNearOne 52 = .ok (.iload_n 1, 1) := by decide +kernel
theorem dX12_readNearOne_53 : decode cX12_readNearOne 53 = .ok (.if_icmp .ne 9, 3) := by decide +kernel
theorem dX12_readNearOne_56 : decode cX12_readNearOne 56 = .ok (.aload_n 0, 1) := by decide +kernel
theorem dX12_readNearOne_57 : decode cX12_readNearOne 57 = .ok (.iconst 2, 1) := by decide +kernel
theorem dX12_readNearOne_58 : decode cX12_readNearOne 58 = .ok (.invokevirtual 235, 3) := by decide +kernel
theorem dX12_readNearOne_61 : decode cX12_readNearOne 61 = .ok (.ireturn, 1) := by decide +kernel
theorem dX12_readNearOne_62 : decode cX12_readNearOne 62 = .ok (.aload_n 0, 1) := by decide +kernel
theorem dX12_readNearOne_63 : decode cX12_readNearOne 63 = .ok (.iconst 0, 1) := by decide +kernel
theorem dX12_readNearOne_64 : decode cX12_readNearOne 64 = .ok (.aload_n 0, 1) := by decide +kernel
theorem dX12_readNearOne_65 : decode cX12_readNearOne 65 = .ok (.getfield 156, 3) := by decide +kernel
theorem dX12_readNearOne_68 : decode cX12_readNearOne 68 = .ok (.iconst 1, 1) := by decide +kernel
theorem dX12_readNearOne_69 : decode cX12_readNearOne 69 = .ok (.isub, 1) := by decide +kernel
theorem dX12_readNearOne_70 : decode cX12_readNearOne 70 = .ok (.invokevirtual 286, 3) := by decide +kernel
theorem dX12_readNearOne_73 : decode cX12_readNearOne 73 = .ok (.istore_n 2, 1) := by decide +kernel
theorem dX12_readNearOne_74 : decode cX12_readNearOne 74 = .ok (.iload_n 2, 1) := by decide +kernel
theorem dX12_readNearOne_75 : decode cX12_readNearOne 75 = .ok (.iconst (-1), 1) := by decide +kernel
theorem dX12_readNearOne_76 : decode cX12_readNearOne 76 = .ok (.if_icmp .ne 5, 3) := by decide +kernel
theorem dX12_readNearOne_79 : decode cX12_readNearOne 79 = .ok (.iconst (-1), 1) := by decide +kernel
theorem dX12_readNearOne_80 : decode cX12_readNearOne 80 = .ok (.ireturn, 1) := by decide +kernel
theorem dX12_readNearOne_81 : decode cX12_readNearOne 81 = .ok (.aload_n 0, 1) := by decide +kernel
theorem dX12_readNearOne_82 : decode cX12_readNearOne 82 = .ok (.getfield 74, 3) := by decide +kernel
theorem dX12_readNearOne_85 : decode cX12_readNearOne 85 = .ok (.bipush 12, 2) := by decide +kernel
theorem dX12_readNearOne_87 : decode cX12_readNearOne 87 = .ok (.iload_n 1, 1) := by decide +kernel
theorem dX12_readNearOne_88 : decode cX12_readNearOne 88 = .ok (.iadd, 1) := by decide +kernel
theorem dX12_readNearOne_89 : decode cX12_readNearOne 89 = .ok (.aload_n 0, 1) := by decide +kernel
theorem dX12_readNearOne_90 : decode cX12_readNearOne 90 = .ok (.getfield 74, 3) := by decide +kernel
theorem dX12_readNearOne_93 : decode cX12_readNearOne 93 = .ok (.bipush 12, 2) := by decide +kernel
theorem dX12_readNearOne_95 : decode cX12_readNearOne 95 = .ok (.iload_n 1, 1) := by decide +kernel
theorem dX12_readNearOne_96 : decode cX12_readNearOne 96 = .ok (.iadd, 1) := by decide +kernel
theorem dX12_readNearOne_97 : decode cX12_readNearOne 97 = .ok (.iaload, 1) := by decide +kernel
theorem dX12_readNearOne_98 : decode cX12_readNearOne 98 = .ok (.iconst 1, 1) := by decide +kernel
theorem dX12_readNearOne_99 : decode cX12_readNearOne 99 = .ok (.iload_n 2, 1) := by decide +kernel
theorem dX12_readNearOne_100 : decode cX12_readNearOne 100 = .ok (.ishl, 1) := by decide +kernel
theorem dX12_readNearOne_101 : decode cX12_readNearOne 101 = .ok (.ior, 1) := by decide +kernel
theorem dX12_readNearOne_102 : decode cX12_readNearOne 102 = .ok (.iastore, 1) := by decide +kernel
theorem dX12_readNearOne_103 : decode cX12_readNearOne 103 = .ok (.aload_n 0, 1) := by decide +kernel
theorem dX12_readNearOne_104 : decode cX12_readNearOne 104 = .ok (.getfield 74, 3) := by decide +kernel
theorem dX12_readNearOne_107 : decode cX12_readNearOne 107 = .ok (.bipush 12, 2) := by decide +kernel
theorem dX12_readNearOne_109 : decode cX12_readNearOne 109 = .ok (.iload_n 2, 1) := by decide +kernel
theorem dX12_readNearOne_110 : decode cX12_readNearOne 110 = .ok (.iadd, 1) := by decide +kernel
theorem dX12_readNearOne_111 : decode cX12_readNearOne 111 = .ok (.aload_n 0, 1) := by decide +kernel
theorem dX12_readNearOne_112 : decode cX12_readNearOne 112 = .ok (.getfield 74, 3) := by decide +kernel
theorem dX12_readNearOne_115 : decode cX12_readNearOne 115 = .ok (.bipush 12, 2) := by decide +kernel
theorem dX12_readNearOne_117 : decode cX12_readNearOne 117 = .ok (.iload_n 2, 1) := by decide +kernel
theorem dX12_readNearOne_118 : decode cX12_readNearOne 118 = .ok (.iadd, 1) := by decide +kernel
theorem dX12_readNearOne_119 : decode cX12_readNearOne 119 = .ok (.iaload, 1) := by decide +kernel
theorem dX12_readNearOne_120 : decode cX12_readNearOne 120 = .ok (.iconst 1, 1) := by decide +kernel
theorem dX12_readNearOne_121 : decode cX12_readNearOne 121 = .ok (.iload_n 1, 1) := by decide +kernel
theorem dX12_readNearOne_122 : decode cX12_readNearOne 122 = .ok (.ishl, 1) := by decide +kernel
theorem dX12_readNearOne_123 : decode cX12_readNearOne 123 = .ok (.ior, 1) := by decide +kernel
theorem dX12_readNearOne_124 : decode cX12_readNearOne 124 = .ok (.iastore, 1) := by decide +kernel
theorem dX12_readNearOne_125 : decode cX12_readNearOne 125 = .ok (.aload_n 0, 1) := by decide +kernel
theorem dX12_readNearOne_126 : decode cX12_readNearOne 126 = .ok (.bipush 59, 2) := by decide +kernel
theorem dX12_readNearOne_128 : decode cX12_readNearOne 128 = .ok (.invokevirtual 293, 3) := by decide +kernel
theorem dX12_readNearOne_131 : decode cX12_readNearOne 131 = .ok (.ireturn, 1) := by decide +kernel
theorem dX12_readNear_0 : decode cX12_readNear 0 = .ok (.iconst 0, 1) := by decide +kernel
theorem dX12_readNear_1 : decode cX12_readNear 1 = .ok (.istore_n 1, 1) := by decide +kernel
theorem dX12_readNear_2 : decode cX12_readNear 2 = .ok (.iload_n 1, 1) := by decide +kernel
theorem dX12_readNear_3 : decode cX12_readNear 3 = .ok (.bipush 12, 2) := by decide +kernel
theorem dX12_readNear_5 : decode cX12_readNear 5 = .ok (.if_icmp .ge 19, 3) := by decide +kernel
theorem dX12_readNear_8 : decode cX12_readNear 8 = .ok (.aload_n 0, 1) := by decide +kernel
theorem dX12_readNear_9 : decode cX12_readNear 9 = .ok (.getfield 74, 3) := by decide +kernel
theorem dX12_readNear_12 : decode cX12_readNear 12 = .ok (.bipush 12, 2) := by decide +kernel
theorem dX12_readNear_14 : decode cX12_readNear 14 = .ok (.iload_n 1, 1) := by decide +kernel
theorem dX12_readNear_15 : decode cX12_readNear 15 = .ok (.iadd, 1) := by decide +kernel
theorem dX12_readNear_16 : decode cX12_readNear 16 = .ok (.iconst 0, 1) := by decide +kernel
theorem dX12_readNear_17 : decode cX12_readNear 17 = .ok (.iastore, 1) := by decide +kernel
theorem dX12_readNear_18 : decode cX12_readNear 18 = .ok (.iinc 1 1, 3) := by decide +kernel
theorem dX12_readNear_21 : decode cX12_readNear 21 = .ok (.goto (-19), 3) := by decide +kernel
theorem dX12_readNear_24 : decode cX12_readNear 24 = .ok (.iconst 0, 1) := by decide +kernel
theorem dX12_readNear_25 : decode cX12_readNear 25 = .ok (.istore_n 1, 1) := by decide +kernel
theorem dX12_readNear_26 : decode cX12_readNear 26 = .ok (.aload_n 0, 1) := by decide +kernel
theorem dX12_readNear_27 : decode cX12_readNear 27 = .ok (.bipush 22, 2) := by decide +kernel
theorem dX12_readNear_29 : decode cX12_readNear 29 = .ok (.invokevirtual 264, 3) := by decide +kernel
theorem dX12_readNear_32 : decode cX12_readNear 32 = .ok (.ifCond .eq 32, 3) := by decide +kernel
theorem dX12_readNear_35 : decode cX12_readNear 35 = .ok (.iload_n 1, 1) := by decide +kernel
theorem dX12_readNear_36 : decode cX12_readNear 36 = .ok (.bipush 16, 2) := by decide +kernel
theorem dX12_readNear_38 : decode cX12_readNear 38 = .ok (.if_icmp .ne 9, 3) := by decide +kernel
theorem dX12_readNear_41 : decode cX12_readNear 41 = .ok (.aload_n 0, 1) := by decide +kernel
theorem dX12_readNear_42 : decode cX12_readNear 42 = .ok (.iconst 3, 1) := by decide +kernel
theorem dX12_readNear_43 : decode cX12_readNear 43 = .ok (.invokevirtual 235, 3) := by decide +kernel
theorem dX12_readNear_46 : decode cX12_readNear 46 = .ok (.ireturn, 1) := by decide +kernel
theorem dX12_readNear_47 : decode cX12_readNear 47 = .ok (.aload_n 0, 1) := by decide +kernel
theorem dX12_readNear_48 : decode cX12_readNear 48 = .ok (.invokevirtual 305, 3) := by decide +kernel
theorem dX12_readNear_51 : decode cX12_readNear 51 = .ok (.iconst (-1), 1) := by decide +kernel
theorem dX12_readNear_52 : decode cX12_readNear 52 = .ok (.if_icmp .ne 5, 3) := by decide +kernel
theorem dX12_readNear_55 : decode cX12_readNear 55 = .ok (.iconst (-1), 1) := by decide +kernel
theorem dX12_readNear_56 : decode cX12_readNear 56 = .ok (.ireturn, 1) := by decide +kernel
theorem dX12_readNear_57 : decode cX12_readNear 57 = .ok (.iload_n 1, 1) := by decide +kernel
theorem dX12_readNear_58 : decode cX12_readNear 58 = .ok (.iconst 1, 1) := by decide +kernel
theorem dX12_readNear_59 : decode cX12_readNear 59 = .ok (.iadd, 1) := by decide +kernel
theorem dX12_readNear_60 : decode cX12_readNear 60 = .ok (.istore_n 1, 1) := by decide +kernel
theorem dX12_readNear_61 : decode cX12_readNear 61 = .ok (.goto (-35), 3) := by decide +kernel
theorem dX12_readNear_64 : decode cX12_readNear 64 = .ok (.aload_n 0, 1) := by decide +kernel
theorem dX12_readNear_65 : decode cX12_readNear 65 = .ok (.getfield 204, 3) := by decide +kernel
theorem dX12_readNear_68 : decode cX12_readNear 68 = .ok (.ifCond .ne 7, 3) := by decide +kernel
theorem dX12_readNear_71 : decode cX12_readNear 71 = .ok (.iload_n 1, 1) := by decide +kernel
theorem dX12_readNear_72 : decode cX12_readNear 72 = .ok (.goto 8, 3) := by decide +kernel
theorem dX12_readNear_75 : decode cX12_readNear 75 = .ok (.aload_n 0, 1) := by decide +kernel
theorem dX12_readNear_76 : decode cX12_readNear 76 = .ok (.iconst 1, 1) := by decide +kernel
theorem dX12_readNear_77 : decode cX12_readNear 77 = .ok (.invokevirtual 235, 3) := by decide +kernel
theorem dX12_readNear_80 : decode cX12_readNear 80 = .ok (.ireturn, 1) := by decide +kernel
theorem dX12_readsText_0 : decode cX12_readsText 0 = .ok (.aload_n 0, 1) := by decide +kernel
theorem dX12_readsText_1 : decode cX12_readsText 1 = .ok (.iconst 0, 1) := by decide +kernel
theorem dX12_readsText_2 : decode cX12_readsText 2 = .ok (.putfield 283, 3) := by decide +kernel
theorem dX12_readsText_5 : decode cX12_readsText 5 = .ok (.aload_n 0, 1) := by decide +kernel
theorem dX12_readsText_6 : decode cX12_readsText 6 = .ok (.invokevirtual 242, 3) := by decide +kernel
theorem dX12_readsText_9 : decode cX12_readsText 9 = .ok (.iload_n 1, 1) := by decide +kernel
theorem dX12_readsText_10 : decode cX12_readsText 10 = .ok (.iconst 1, 1) := by decide +kernel
theorem dX12_readsText_11 : decode cX12_readsText 11 = .ok (.if_icmp .ne 8, 3) := by decide +kernel
theorem dX12_readsText_14 : decode cX12_readsText 14 = .ok (.aload_n 0, 1) := by decide +kernel
theorem dX12_readsText_15 : decode cX12_readsText 15 = .ok (.invokevirtual 308, 3) := by decide +kernel
theorem dX12_readsText_18 : decode cX12_readsText 18 = .ok (.ireturn, 1) := by decide +kernel
theorem dX12_readsText_19 : decode cX12_readsText 19 = .ok (.iload_n 1, 1) := by decide +kernel
theorem dX12_readsText_20 : decode cX12_readsText 20 = .ok (.iconst 2, 1) := by decide +kernel
theorem dX12_readsText_21 : decode cX12_readsText 21 = .ok (.if_icmp .ne 8, 3) := by decide +kernel
theorem dX12_readsText_24 : decode cX12_readsText 24 = .ok (.aload_n 0, 1) := by decide +kernel
theorem dX12_readsText_25 : decode cX12_readsText 25 = .ok (.invokevirtual 311, 3) := by decide +kernel
theorem dX12_readsText_28 : decode cX12_readsText 28 = .ok (.ireturn, 1) := by decide +kernel
theorem dX12_readsText_29 : decode cX12_readsText 29 = .ok (.iload_n 1, 1) := by decide +kernel
theorem dX12_readsText_30 : decode cX12_readsText 30 = .ok (.iconst 3, 1) := by decide +kernel
theorem dX12_readsText_31 : decode cX12_readsText 31 = .ok (.if_icmp .ne 10, 3) := by decide +kernel
theorem dX12_readsText_34 : decode cX12_readsText 34 = .ok (.aload_n 0, 1) := by decide +kernel
theorem dX12_readsText_35 : decode cX12_readsText 35 = .ok (.invokevirtual 314, 3) := by decide +kernel
theorem dX12_readsText_38 : decode cX12_readsText 38 = .ok (.goto 7, 3) := by decide +kernel
theorem dX12_readsText_41 : decode cX12_readsText 41 = .ok (.aload_n 0, 1) := by decide +kernel
theorem dX12_readsText_42 : decode cX12_readsText 42 = .ok (.invokevirtual 317, 3) := by decide +kernel
theorem dX12_readsText_45 : decode cX12_readsText 45 = .ok (.ireturn, 1) := by decide +kernel
theorem dX12_takesOther_0 : decode cX12_takesOther 0 = .ok (.iload_n 1, 1) := by decide +kernel
theorem dX12_takesOther_1 : decode cX12_takesOther 1 = .ok (.iconst 3, 1) := by decide +kernel
theorem dX12_takesOther_2 : decode cX12_takesOther 2 = .ok (.if_icmp .ne 38, 3) := by decide +kernel
theorem dX12_takesOther_5 : decode cX12_takesOther 5 = .ok (.iconst 0, 1) := by decide +kernel
theorem dX12_takesOther_6 : decode cX12_takesOther 6 = .ok (.istore_n 3, 1) := by decide +kernel
theorem dX12_takesOther_7 : decode cX12_takesOther 7 = .ok (.iload_n 3, 1) := by decide +kernel
theorem dX12_takesOther_8 : decode cX12_takesOther 8 = .ok (.bipush 12, 2) := by decide +kernel
theorem dX12_takesOther_10 : decode cX12_takesOther 10 = .ok (.if_icmp .ge 24, 3) := by decide +kernel
theorem dX12_takesOther_13 : decode cX12_takesOther 13 = .ok (.aload_n 0, 1) := by decide +kernel
theorem dX12_takesOther_14 : decode cX12_takesOther 14 = .ok (.getfield 74, 3) := by decide +kernel
theorem dX12_takesOther_17 : decode cX12_takesOther 17 = .ok (.iload_n 3, 1) := by decide +kernel
theorem dX12_takesOther_18 : decode cX12_takesOther 18 = .ok (.aload_n 0, 1) := by decide +kernel
theorem dX12_takesOther_19 : decode cX12_takesOther 19 = .ok (.getfield 74, 3) := by decide +kernel
theorem dX12_takesOther_22 : decode cX12_takesOther 22 = .ok (.bipush 12, 2) := by decide +kernel
theorem dX12_takesOther_24 : decode cX12_takesOther 24 = .ok (.iload_n 3, 1) := by decide +kernel
theorem dX12_takesOther_25 : decode cX12_takesOther 25 = .ok (.iadd, 1) := by decide +kernel
theorem dX12_takesOther_26 : decode cX12_takesOther 26 = .ok (.iaload, 1) := by decide +kernel
theorem dX12_takesOther_27 : decode cX12_takesOther 27 = .ok (.iastore, 1) := by decide +kernel
theorem dX12_takesOther_28 : decode cX12_takesOther 28 = .ok (.iinc 3 1, 3) := by decide +kernel
theorem dX12_takesOther_31 : decode cX12_takesOther 31 = .ok (.goto (-24), 3) := by decide +kernel
theorem dX12_takesOther_34 : decode cX12_takesOther 34 = .ok (.aload_n 0, 1) := by decide +kernel
theorem dX12_takesOther_35 : decode cX12_takesOther 35 = .ok (.iload_n 2, 1) := by decide +kernel
theorem dX12_takesOther_36 : decode cX12_takesOther 36 = .ok (.putfield 320, 3) := by decide +kernel
theorem dX12_takesOther_39 : decode cX12_takesOther 39 = .ok (.return_, 1) := by decide +kernel
theorem dX12_takesOther_40 : decode cX12_takesOther 40 = .ok (.iconst 0, 1) := by decide +kernel
theorem dX12_takesOther_41 : decode cX12_takesOther 41 = .ok (.istore_n 3, 1) := by decide +kernel
theorem dX12_takesOther_42 : decode cX12_takesOther 42 = .ok (.iload_n 3, 1) := by decide +kernel
theorem dX12_takesOther_43 : decode cX12_takesOther 43 = .ok (.iconst 5, 1) := by decide +kernel
theorem dX12_takesOther_44 : decode cX12_takesOther 44 = .ok (.iload_n 2, 1) := by decide +kernel
theorem dX12_takesOther_45 : decode cX12_takesOther 45 = .ok (.imul, 1) := by decide +kernel
theorem dX12_takesOther_46 : decode cX12_takesOther 46 = .ok (.if_icmp .ge 29, 3) := by decide +kernel
theorem dX12_takesOther_49 : decode cX12_takesOther 49 = .ok (.iload_n 1, 1) := by decide +kernel
theorem dX12_takesOther_50 : decode cX12_takesOther 50 = .ok (.iconst 1, 1) := by decide +kernel
theorem dX12_takesOther_51 : decode cX12_takesOther 51 = .ok (.if_icmp .ne 24, 3) := by decide +kernel
theorem dX12_takesOther_54 : decode cX12_takesOther 54 = .ok (.aload_n 0, 1) := by decide +kernel
theorem dX12_takesOther_55 : decode cX12_takesOther 55 = .ok (.getfield 68, 3) := by decide +kernel
theorem dX12_takesOther_58 : decode cX12_takesOther 58 = .ok (.iload_n 3, 1) := by decide +kernel
theorem dX12_takesOther_59 : decode cX12_takesOther 59 = .ok (.aload_n 0, 1) := by decide +kernel
theorem dX12_takesOther_60 : decode cX12_takesOther 60 = .ok (.getfield 68, 3) := by decide +kernel
theorem dX12_takesOther_63 : decode cX12_takesOther 63 = .ok (.bipush 80, 2) := by decide +kernel
theorem dX12_takesOther_65 : decode cX12_takesOther 65 = .ok (.iload_n 3, 1) := by decide +kernel
theorem dX12_takesOther_66 : decode cX12_takesOther 66 = .ok (.iadd, 1) := by decide +kernel
theorem dX12_takesOther_67 : decode cX12_takesOther 67 = .ok (.iaload, 1) := by decide +kernel
theorem dX12_takesOther_68 : decode cX12_takesOther 68 = .ok (.iastore, 1) := by decide +kernel
theorem dX12_takesOther_69 : decode cX12_takesOther 69 = .ok (.iinc 3 1, 3) := by decide +kernel
theorem dX12_takesOther_72 : decode cX12_takesOther 72 = .ok (.goto (-30), 3) := by decide +kernel
theorem dX12_takesOther_75 : decode cX12_takesOther 75 = .ok (.iconst 0, 1) := by decide +kernel
theorem dX12_takesOther_76 : decode cX12_takesOther 76 = .ok (.istore_n 3, 1) := by decide +kernel
theorem dX12_takesOther_77 : decode cX12_takesOther 77 = .ok (.iload_n 3, 1) := by decide +kernel
theorem dX12_takesOther_78 : decode cX12_takesOther 78 = .ok (.iconst 3, 1) := by decide +kernel
theorem dX12_takesOther_79 : decode cX12_takesOther 79 = .ok (.iload_n 2, 1) := by decide +kernel
theorem dX12_takesOther_80 : decode cX12_takesOther 80 = .ok (.imul, 1) := by decide +kernel
theorem dX12_takesOther_81 : decode cX12_takesOther 81 = .ok (.if_icmp .ge 29, 3) := by decide +kernel
theorem dX12_takesOther_84 : decode cX12_takesOther 84 = .ok (.iload_n 1, 1) := by decide +kernel
theorem dX12_takesOther_85 : decode cX12_takesOther 85 = .ok (.iconst 2, 1) := by decide +kernel
theorem dX12_takesOther_86 : decode cX12_takesOther 86 = .ok (.if_icmp .ne 24, 3) := by decide +kernel
theorem dX12_takesOther_89 : decode cX12_takesOther 89 = .ok (.aload_n 0, 1) := by decide +kernel
theorem dX12_takesOther_90 : decode cX12_takesOther 90 = .ok (.getfield 71, 3) := by decide +kernel
theorem dX12_takesOther_93 : decode cX12_takesOther 93 = .ok (.iload_n 3, 1) := by decide +kernel
theorem dX12_takesOther_94 : decode cX12_takesOther 94 = .ok (.aload_n 0, 1) := by decide +kernel
theorem dX12_takesOther_95 : decode cX12_takesOther 95 = .ok (.getfield 71, 3) := by decide +kernel
theorem dX12_takesOther_98 : decode cX12_takesOther 98 = .ok (.bipush 48, 2) := by decide +kernel
theorem dX12_takesOther_100 : decode cX12_takesOther 100 = .ok (.iload_n 3, 1) := by decide +kernel
theorem dX12_takesOther_101 : decode cX12_takesOther 101 = .ok (.iadd, 1) := by decide +kernel
theorem dX12_takesOther_102 : decode cX12_takesOther 102 = .ok (.iaload, 1) := by decide +kernel
theorem dX12_takesOther_103 : decode cX12_takesOther 103 = .ok (.iastore, 1) := by decide +kernel
theorem dX12_takesOther_104 : decode cX12_takesOther 104 = .ok (.iinc 3 1, 3) := by decide +kernel
theorem dX12_takesOther_107 : decode cX12_takesOther 107 = .ok (.goto (-30), 3) := by decide +kernel
theorem dX12_takesOther_110 : decode cX12_takesOther 110 = .ok (.iload_n 1, 1) := by decide +kernel
theorem dX12_takesOther_111 : decode cX12_takesOther 111 = .ok (.iconst 1, 1) := by decide +kernel
theorem dX12_takesOther_112 : decode cX12_takesOther 112 = .ok (.if_icmp .ne 8, 3) := by decide +kernel
theorem dX12_takesOther_115 : decode cX12_takesOther 115 = .ok (.aload_n 0, 1) := by decide +kernel
theorem dX12_takesOther_116 : decode cX12_takesOther 116 = .ok (.iload_n 2, 1) := by decide +kernel
theorem dX12_takesOther_117 : decode cX12_takesOther 117 = .ok (.putfield 323, 3) := by decide +kernel
theorem dX12_takesOther_120 : decode cX12_takesOther 120 = .ok (.iload_n 1, 1) := by decide +kernel
theorem dX12_takesOther_121 : decode cX12_takesOther 121 = .ok (.iconst 2, 1) := by decide +kernel
theorem dX12_takesOther_122 : decode cX12_takesOther 122 = .ok (.if_icmp .ne 8, 3) := by decide +kernel
theorem dX12_takesOther_125 : decode cX12_takesOther 125 = .ok (.aload_n 0, 1) := by decide +kernel
theorem dX12_takesOther_126 : decode cX12_takesOther 126 = .ok (.iload_n 2, 1) := by decide +kernel
theorem dX12_takesOther_127 : decode cX12_takesOther 127 = .ok (.putfield 326, 3) := by decide +kernel
theorem dX12_takesOther_130 : decode cX12_takesOther 130 = .ok (.aload_n 0, 1) := by decide +kernel
theorem dX12_takesOther_131 : decode cX12_takesOther 131 = .ok (.iconst 0, 1) := by decide +kernel
theorem dX12_takesOther_132 : decode cX12_takesOther 132 = .ok (.putfield 147, 3) := by decide +kernel
theorem dX12_takesOther_135 : decode cX12_takesOther 135 = .ok (.return_, 1) := by decide +kernel
theorem dX12_text_0 : decode cX12_text 0 = .ok (.aload_n 0, 1) := by decide +kernel
theorem dX12_text_1 : decode cX12_text 1 = .ok (.iconst 0, 1) := by decide +kernel
theorem dX12_text_2 : decode cX12_text 2 = .ok (.putfield 140, 3) := by decide +kernel
theorem dX12_text_5 : decode cX12_text 5 = .ok (.aload_n 0, 1) := by decide +kernel
theorem dX12_text_6 : decode cX12_text 6 = .ok (.iconst 0, 1) := by decide +kernel
theorem dX12_text_7 : decode cX12_text 7 = .ok (.putfield 329, 3) := by decide +kernel
theorem dX12_text_10 : decode cX12_text 10 = .ok (.aload_n 0, 1) := by decide +kernel
theorem dX12_text_11 : decode cX12_text 11 = .ok (.iconst (-1), 1) := by decide +kernel
theorem dX12_text_12 : decode cX12_text 12 = .ok (.putfield 64, 3) := by decide +kernel
theorem dX12_text_15 : decode cX12_text 15 = .ok (.aload_n 0, 1) := by decide +kernel
theorem dX12_text_16 : decode cX12_text 16 = .ok (.iconst 0, 1) := by decide +kernel
theorem dX12_text_17 : decode cX12_text 17 = .ok (.putfield 195, 3) := by decide +kernel
theorem dX12_text_20 : decode cX12_text 20 = .ok (.aload_n 0, 1) := by decide +kernel
theorem dX12_text_21 : decode cX12_text 21 = .ok (.iconst 0, 1) := by decide +kernel
theorem dX12_text_22 : decode cX12_text 22 = .ok (.putfield 229, 3) := by decide +kernel
theorem dX12_text_25 : decode cX12_text 25 = .ok (.aload_n 0, 1) := by decide +kernel
theorem dX12_text_26 : decode cX12_text 26 = .ok (.iconst 0, 1) := by decide +kernel
theorem dX12_text_27 : decode cX12_text 27 = .ok (.putfield 261, 3) := by decide +kernel
theorem dX12_text_30 : decode cX12_text 30 = .ok (.iconst (-1), 1) := by decide +kernel
theorem dX12_text_31 : decode cX12_text 31 = .ok (.istore_n 2, 1) := by decide +kernel
theorem dX12_text_32 : decode cX12_text 32 = .ok (.aload_n 0, 1) := by decide +kernel
theorem dX12_text_33 : decode cX12_text 33 = .ok (.iload_n 1, 1) := by decide +kernel
theorem dX12_text_34 : decode cX12_text 34 = .ok (.iconst 0, 1) := by decide +kernel
theorem dX12_text_35 : decode cX12_text 35 = .ok (.iconst 3, 1) := by decide +kernel
theorem dX12_text_36 : decode cX12_text 36 = .ok (.invokevirtual 165, 3) := by decide +kernel
theorem dX12_text_39 : decode cX12_text 39 = .ok (.ifCond .eq 30, 3) := by decide +kernel
theorem dX12_text_42 : decode cX12_text 42 = .ok (.aload_n 0, 1) := by decide +kernel
theorem dX12_text_43 : decode cX12_text 43 = .ok (.iload_n 1, 1) := by decide +kernel
theorem dX12_text_44 : decode cX12_text 44 = .ok (.invokevirtual 332, 3) := by decide +kernel
theorem dX12_text_47 : decode cX12_text 47 = .ok (.istore_n 2, 1) := by decide +kernel
theorem dX12_text_48 : decode cX12_text 48 = .ok (.iload_n 2, 1) := by decide +kernel
theorem dX12_text_49 : decode cX12_text 49 = .ok (.iconst (-1), 1) := by decide +kernel
theorem dX12_text_50 : decode cX12_text 50 = .ok (.if_icmp .ne 19, 3) := by decide +kernel
theorem dX12_text_53 : decode cX12_text 53 = .ok (.aload_n 0, 1) := by decide +kernel
theorem dX12_text_54 : decode cX12_text 54 = .ok (.aload_n 0, 1) := by decide +kernel
theorem dX12_text_55 : decode cX12_text 55 = .ok (.getfield 223, 3) := by decide +kernel
theorem dX12_text_58 : decode cX12_text 58 = .ok (.putfield 329, 3) := by decide +kernel
theorem dX12_text_61 : decode cX12_text 61 = .ok (.aload_n 0, 1) := by decide +kernel
theorem dX12_text_62 : decode cX12_text 62 = .ok (.aload_n 0, 1) := by decide +kernel
theorem dX12_text_63 : decode cX12_text 63 = .ok (.getfield 226, 3) := by decide +kernel
theorem dX12_text_66 : decode cX12_text 66 = .ok (.putfield 64, 3) := by decide +kernel
theorem dX12_text_69 : decode cX12_text 69 = .ok (.aload_n 0, 1) := by decide +kernel
theorem dX12_text_70 : decode cX12_text 70 = .ok (.iconst 0, 1) := by decide +kernel
theorem dX12_text_71 : decode cX12_text 71 = .ok (.putfield 188, 3) := by decide +kernel
theorem dX12_text_74 : decode cX12_text 74 = .ok (.iload_n 2, 1) := by decide +kernel
theorem dX12_text_75 : decode cX12_text 75 = .ok (.iconst (-1), 1) := by decide +kernel
theorem dX12_text_76 : decode cX12_text 76 = .ok (.if_icmp .ne 5, 3) := by decide +kernel
theorem dX12_text_79 : decode cX12_text 79 = .ok (.iconst (-1), 1) := by decide +kernel
theorem dX12_text_80 : decode cX12_text 80 = .ok (.ireturn, 1) := by decide +kernel
theorem dX12_text_81 : decode cX12_text 81 = .ok (.iload_n 1, 1) := by decide +kernel
theorem dX12_text_82 : decode cX12_text 82 = .ok (.ifCond .ne 11, 3) := by decide +kernel
theorem dX12_text_85 : decode cX12_text 85 = .ok (.aload_n 0, 1) := by decide +kernel
theorem dX12_text_86 : decode cX12_text 86 = .ok (.iload_n 2, 1) := by decide +kernel
theorem dX12_text_87 : decode cX12_text 87 = .ok (.invokevirtual 335, 3) := by decide +kernel
theorem dX12_text_90 : decode cX12_text 90 = .ok (.goto 9, 3) := by decide +kernel
theorem dX12_text_93 : decode cX12_text 93 = .ok (.aload_n 0, 1) := by decide +kernel
theorem dX12_text_94 : decode cX12_text 94 = .ok (.iload_n 1, 1) := by decide +kernel
theorem dX12_text_95 : decode cX12_text 95 = .ok (.iload_n 2, 1) := by decide +kernel
theorem dX12_text_96 : decode cX12_text 96 = .ok (.invokevirtual 338, 3) := by decide +kernel
theorem dX12_text_99 : decode cX12_text 99 = .ok (.iload_n 2, 1) := by decide +kernel
theorem dX12_text_100 : decode cX12_text 100 = .ok (.ireturn, 1) := by decide +kernel
theorem dX12_fault_0 : decode cX12_fault 0 = .ok (.aload_n 0, 1) := by decide +kernel
theorem dX12_fault_1 : decode cX12_fault 1 = .ok (.iconst 0, 1) := by decide +kernel
theorem dX12_fault_2 : decode cX12_fault 2 = .ok (.putfield 140, 3) := by decide +kernel
theorem dX12_fault_5 : decode cX12_fault 5 = .ok (.iload_n 1, 1) := by decide +kernel
theorem dX12_fault_6 : decode cX12_fault 6 = .ok (.ifCond .ne 10, 3) := by decide +kernel
theorem dX12_fault_9 : decode cX12_fault 9 = .ok (.aload_n 0, 1) := by decide +kernel
theorem dX12_fault_10 : decode cX12_fault 10 = .ok (.getfield 329, 3) := by decide +kernel
theorem dX12_fault_13 : decode cX12_fault 13 = .ok (.goto 16, 3) := by decide +kernel
theorem dX12_fault_16 : decode cX12_fault 16 = .ok (.iload_n 1, 1) := by decide +kernel
theorem dX12_fault_17 : decode cX12_fault 17 = .ok (.iconst 1, 1) := by decide +kernel
theorem dX12_fault_18 : decode cX12_fault 18 = .ok (.if_icmp .ne 10, 3) := by decide +kernel
theorem dX12_fault_21 : decode cX12_fault 21 = .ok (.aload_n 0, 1) := by decide +kernel
theorem dX12_fault_22 : decode cX12_fault 22 = .ok (.getfield 64, 3) := by decide +kernel
theorem dX12_fault_25 : decode cX12_fault 25 = .ok (.goto 4, 3) := by decide +kernel
theorem dX12_fault_28 : decode cX12_fault 28 = .ok (.iconst (-1), 1) := by decide +kernel
theorem dX12_fault_29 : decode cX12_fault 29 = .ok (.ireturn, 1) := by decide +kernel
theorem dX12_twoOf_0 : decode cX12_twoOf 0 = .ok (.iload_n 1, 1) := by decide +kernel
theorem dX12_twoOf_1 : decode cX12_twoOf 1 = .ok (.iconst 2, 1) := by decide +kernel
theorem dX12_twoOf_2 : decode cX12_twoOf 2 = .ok (.if_icmp .ne 7, 3) := by decide +kernel
theorem dX12_twoOf_5 : decode cX12_twoOf 5 = .ok (.iload_n 2, 1) := by decide +kernel
theorem dX12_twoOf_6 : decode cX12_twoOf 6 = .ok (.iload_n 3, 1) := by decide +kernel
theorem dX12_twoOf_7 : decode cX12_twoOf 7 = .ok (.iadd, 1) := by decide +kernel
theorem dX12_twoOf_8 : decode cX12_twoOf 8 = .ok (.ireturn, 1) := by decide +kernel
theorem dX12_twoOf_9 : decode cX12_twoOf 9 = .ok (.iload_n 1, 1) := by decide +kernel
theorem dX12_twoOf_10 : decode cX12_twoOf 10 = .ok (.iconst 3, 1) := by decide +kernel
theorem dX12_twoOf_11 : decode cX12_twoOf 11 = .ok (.if_icmp .ne 7, 3) := by decide +kernel
theorem dX12_twoOf_14 : decode cX12_twoOf 14 = .ok (.iload_n 2, 1) := by decide +kernel
theorem dX12_twoOf_15 : decode cX12_twoOf 15 = .ok (.iload_n 3, 1) := by decide +kernel
theorem dX12_twoOf_16 : decode cX12_twoOf 16 = .ok (.isub, 1) := by decide +kernel
theorem dX12_twoOf_17 : decode cX12_twoOf 17 = .ok (.ireturn, 1) := by decide +kernel
theorem dX12_twoOf_18 : decode cX12_twoOf 18 = .ok (.iload_n 1, 1) := by decide +kernel
theorem dX12_twoOf_19 : decode cX12_twoOf 19 = .ok (.iconst 4, 1) := by decide +kernel
theorem dX12_twoOf_20 : decode cX12_twoOf 20 = .ok (.if_icmp .ne 7, 3) := by decide +kernel
theorem dX12_twoOf_23 : decode cX12_twoOf 23 = .ok (.iload_n 2, 1) := by decide +kernel
theorem dX12_twoOf_24 : decode cX12_twoOf 24 = .ok (.iload_n 3, 1) := by decide +kernel
theorem dX12_twoOf_25 : decode cX12_twoOf 25 = .ok (.imul, 1) := by decide +kernel
theorem dX12_twoOf_26 : decode cX12_twoOf 26 = .ok (.ireturn, 1) := by decide +kernel
theorem dX12_twoOf_27 : decode cX12_twoOf 27 = .ok (.iload_n 1, 1) := by decide +kernel
theorem dX12_twoOf_28 : decode cX12_twoOf 28 = .ok (.iconst 5, 1) := by decide +kernel
theorem dX12_twoOf_29 : decode cX12_twoOf 29 = .ok (.if_icmp .ne 7, 3) := by decide +kernel
theorem dX12_twoOf_32 : decode cX12_twoOf 32 = .ok (.iload_n 2, 1) := by decide +kernel
