theorem dX8_image_0 : decode cX8_image 0 = .ok (.aload_n 0, 1) := by decide +kernel
theorem dX8_image_1 : decode cX8_image 1 = .ok (.iconst 1, 1) := by decide +kernel
theorem dX8_image_2 : decode cX8_image 2 = .ok (.putfield 153, 3) := by decide +kernel
theorem dX8_image_5 : decode cX8_image 5 = .ok (.aload_n 0, 1) := by decide +kernel
theorem dX8_image_6 : decode cX8_image 6 = .ok (.aload_n 0, 1) := by decide +kernel
theorem dX8_image_7 : decode cX8_image 7 = .ok (.getfield 50, 3) := by decide +kernel
theorem dX8_image_10 : decode cX8_image 10 = .ok (.putfield 157, 3) := by decide +kernel
theorem dX8_image_13 : decode cX8_image 13 = .ok (.aload_n 0, 1) := by decide +kernel
theorem dX8_image_14 : decode cX8_image 14 = .ok (.aload_n 0, 1) := by decide +kernel
theorem dX8_image_15 : decode cX8_image 15 = .ok (.getfield 7, 3) := by decide +kernel
theorem dX8_image_18 : decode cX8_image 18 = .ok (.putfield 160, 3) := by decide +kernel
theorem dX8_image_21 : decode cX8_image 21 = .ok (.aload_n 0, 1) := by decide +kernel
theorem dX8_image_22 : decode cX8_image 22 = .ok (.aload_n 0, 1) := by decide +kernel
theorem dX8_image_23 : decode cX8_image 23 = .ok (.getfield 13, 3) := by decide +kernel
theorem dX8_image_26 : decode cX8_image 26 = .ok (.putfield 163, 3) := by decide +kernel
theorem dX8_image_29 : decode cX8_image 29 = .ok (.aload_n 0, 1) := by decide +kernel
theorem dX8_image_30 : decode cX8_image 30 = .ok (.aload_n 0, 1) := by decide +kernel
theorem dX8_image_31 : decode cX8_image 31 = .ok (.getfield 16, 3) := by decide +kernel
theorem dX8_image_34 : decode cX8_image 34 = .ok (.putfield 166, 3) := by decide +kernel
theorem dX8_image_37 : decode cX8_image 37 = .ok (.aload_n 0, 1) := by decide +kernel
theorem dX8_image_38 : decode cX8_image 38 = .ok (.aload_n 0, 1) := by decide +kernel
theorem dX8_image_39 : decode cX8_image 39 = .ok (.getfield 19, 3) := by decide +kernel
theorem dX8_image_42 : decode cX8_image 42 = .ok (.putfield 169, 3) := by decide +kernel
theorem dX8_image_45 : decode cX8_image 45 = .ok (.aload_n 0, 1) := by decide +kernel
theorem dX8_image_46 : decode cX8_image 46 = .ok (.aload_n 0, 1) := by decide +kernel
theorem dX8_image_47 : decode cX8_image 47 = .ok (.getfield 22, 3) := by decide +kernel
theorem dX8_image_50 : decode cX8_image 50 = .ok (.putfield 172, 3) := by decide +kernel
theorem dX8_image_53 : decode cX8_image 53 = .ok (.aload_n 0, 1) := by decide +kernel
theorem dX8_image_54 : decode cX8_image 54 = .ok (.aload_n 0, 1) := by decide +kernel
theorem dX8_image_55 : decode cX8_image 55 = .ok (.getfield 123, 3) := by decide +kernel
theorem dX8_image_58 : decode cX8_image 58 = .ok (.putfield 175, 3) := by decide +kernel
theorem dX8_image_61 : decode cX8_image 61 = .ok (.aload_n 0, 1) := by decide +kernel
theorem dX8_image_62 : decode cX8_image 62 = .ok (.aload_n 0, 1) := by decide +kernel
theorem dX8_image_63 : decode cX8_image 63 = .ok (.getfield 135, 3) := by decide +kernel
theorem dX8_image_66 : decode cX8_image 66 = .ok (.putfield 178, 3) := by decide +kernel
theorem dX8_image_69 : decode cX8_image 69 = .ok (.aload_n 0, 1) := by decide +kernel
theorem dX8_image_70 : decode cX8_image 70 = .ok (.aload_n 0, 1) := by decide +kernel
theorem dX8_image_71 : decode cX8_image 71 = .ok (.getfield 138, 3) := by decide +kernel
theorem dX8_image_74 : decode cX8_image 74 = .ok (.putfield 181, 3) := by decide +kernel
theorem dX8_image_77 : decode cX8_image 77 = .ok (.iconst 0, 1) := by decide +kernel
theorem dX8_image_78 : decode cX8_image 78 = .ok (.istore_n 1, 1) := by decide +kernel
theorem dX8_image_79 : decode cX8_image 79 = .ok (.iload_n 1, 1) := by decide +kernel
theorem dX8_image_80 : decode cX8_image 80 = .ok (.bipush 6, 2) := by decide +kernel
theorem dX8_image_82 : decode cX8_image 82 = .ok (.if_icmp .ge 57, 3) := by decide +kernel
theorem dX8_image_85 : decode cX8_image 85 = .ok (.aload_n 0, 1) := by decide +kernel
theorem dX8_image_86 : decode cX8_image 86 = .ok (.getfield 184, 3) := by decide +kernel
theorem dX8_image_89 : decode cX8_image 89 = .ok (.iload_n 1, 1) := by decide +kernel
theorem dX8_image_90 : decode cX8_image 90 = .ok (.aload_n 0, 1) := by decide +kernel
theorem dX8_image_91 : decode cX8_image 91 = .ok (.getfield 25, 3) := by decide +kernel
theorem dX8_image_94 : decode cX8_image 94 = .ok (.iload_n 1, 1) := by decide +kernel
theorem dX8_image_95 : decode cX8_image 95 = .ok (.iaload, 1) := by decide +kernel
theorem dX8_image_96 : decode cX8_image 96 = .ok (.iastore, 1) := by decide +kernel
theorem dX8_image_97 : decode cX8_image 97 = .ok (.aload_n 0, 1) := by decide +kernel
theorem dX8_image_98 : decode cX8_image 98 = .ok (.getfield 187, 3) := by decide +kernel
theorem dX8_image_101 : decode cX8_image 101 = .ok (.iload_n 1, 1) := by decide +kernel
theorem dX8_image_102 : decode cX8_image 102 = .ok (.aload_n 0, 1) := by decide +kernel
theorem dX8_image_103 : decode cX8_image 103 = .ok (.getfield 29, 3) := by decide +kernel
theorem dX8_image_106 : decode cX8_image 106 = .ok (.iload_n 1, 1) := by decide +kernel
theorem dX8_image_107 : decode cX8_image 107 = .ok (.iaload, 1) := by decide +kernel
theorem dX8_image_108 : decode cX8_image 108 = .ok (.iastore, 1) := by decide +kernel
theorem dX8_image_109 : decode cX8_image 109 = .ok (.aload_n 0, 1) := by decide +kernel
theorem dX8_image_110 : decode cX8_image 110 = .ok (.getfield 190, 3) := by decide +kernel
theorem dX8_image_113 : decode cX8_image 113 = .ok (.iload_n 1, 1) := by decide +kernel
theorem dX8_image_114 : decode cX8_image 114 = .ok (.aload_n 0, 1) := by decide +kernel
theorem dX8_image_115 : decode cX8_image 115 = .ok (.getfield 32, 3) := by decide +kernel
theorem dX8_image_118 : decode cX8_image 118 = .ok (.iload_n 1, 1) := by decide +kernel
theorem dX8_image_119 : decode cX8_image 119 = .ok (.iaload, 1) := by decide +kernel
theorem dX8_image_120 : decode cX8_image 120 = .ok (.iastore, 1) := by decide +kernel
theorem dX8_image_121 : decode cX8_image 121 = .ok (.aload_n 0, 1) := by decide +kernel
theorem dX8_image_122 : decode cX8_image 122 = .ok (.getfield 193, 3) := by decide +kernel
theorem dX8_image_125 : decode cX8_image 125 = .ok (.iload_n 1, 1) := by decide +kernel
theorem dX8_image_126 : decode cX8_image 126 = .ok (.aload_n 0, 1) := by decide +kernel
theorem dX8_image_127 : decode cX8_image 127 = .ok (.getfield 35, 3) := by decide +kernel
theorem dX8_image_130 : decode cX8_image 130 = .ok (.iload_n 1, 1) := by decide +kernel
theorem dX8_image_131 : decode cX8_image 131 = .ok (.iaload, 1) := by decide +kernel
theorem dX8_image_132 : decode cX8_image 132 = .ok (.iastore, 1) := by decide +kernel
theorem dX8_image_133 : decode cX8_image 133 = .ok (.iinc 1 1, 3) := by decide +kernel
theorem dX8_image_136 : decode cX8_image 136 = .ok (.goto (-57), 3) := by decide +kernel
theorem dX8_image_139 : decode cX8_image 139 = .ok (.iconst 0, 1) := by decide +kernel
theorem dX8_image_140 : decode cX8_image 140 = .ok (.istore_n 1, 1) := by decide +kernel
theorem dX8_image_141 : decode cX8_image 141 = .ok (.iload_n 1, 1) := by decide +kernel
theorem dX8_image_142 : decode cX8_image 142 = .ok (.bipush 24, 2) := by decide +kernel
theorem dX8_image_144 : decode cX8_image 144 = .ok (.if_icmp .ge 21, 3) := by decide +kernel
theorem dX8_image_147 : decode cX8_image 147 = .ok (.aload_n 0, 1) := by decide +kernel
theorem dX8_image_148 : decode cX8_image 148 = .ok (.getfield 196, 3) := by decide +kernel
theorem dX8_image_151 : decode cX8_image 151 = .ok (.iload_n 1, 1) := by decide +kernel
theorem dX8_image_152 : decode cX8_image 152 = .ok (.aload_n 0, 1) := by decide +kernel
theorem dX8_image_153 : decode cX8_image 153 = .ok (.getfield 38, 3) := by decide +kernel
theorem dX8_image_156 : decode cX8_image 156 = .ok (.iload_n 1, 1) := by decide +kernel
theorem dX8_image_157 : decode cX8_image 157 = .ok (.iaload, 1) := by decide +kernel
theorem dX8_image_158 : decode cX8_image 158 = .ok (.iastore, 1) := by decide +kernel
theorem dX8_image_159 : decode cX8_image 159 = .ok (.iinc 1 1, 3) := by decide +kernel
theorem dX8_image_162 : decode cX8_image 162 = .ok (.goto (-21), 3) := by decide +kernel
theorem dX8_image_165 : decode cX8_image 165 = .ok (.iconst 0, 1) := by decide +kernel
theorem dX8_image_166 : decode cX8_image 166 = .ok (.istore_n 1, 1) := by decide +kernel
theorem dX8_image_167 : decode cX8_image 167 = .ok (.iload_n 1, 1) := by decide +kernel
theorem dX8_image_168 : decode cX8_image 168 = .ok (.iconst 5, 1) := by decide +kernel
theorem dX8_image_169 : decode cX8_image 169 = .ok (.if_icmp .ge 45, 3) := by decide +kernel
theorem dX8_image_172 : decode cX8_image 172 = .ok (.aload_n 0, 1) := by decide +kernel
theorem dX8_image_173 : decode cX8_image 173 = .ok (.getfield 205, 3) := by decide +kernel
theorem dX8_image_176 : decode cX8_image 176 = .ok (.iload_n 1, 1) := by decide +kernel
theorem dX8_image_177 : decode cX8_image 177 = .ok (.aload_n 0, 1) := by decide +kernel
theorem dX8_image_178 : decode cX8_image 178 = .ok (.getfield 126, 3) := by decide +kernel
theorem dX8_image_181 : decode cX8_image 181 = .ok (.iload_n 1, 1) := by decide +kernel
theorem dX8_image_182 : decode cX8_image 182 = .ok (.iaload, 1) := by decide +kernel
theorem dX8_image_183 : decode cX8_image 183 = .ok (.iastore, 1) := by decide +kernel
theorem dX8_image_184 : decode cX8_image 184 = .ok (.aload_n 0, 1) := by decide +kernel
theorem dX8_image_185 : decode cX8_image 185 = .ok (.getfield 208, 3) := by decide +kernel
theorem dX8_image_188 : decode cX8_image 188 = .ok (.iload_n 1, 1) := by decide +kernel
theorem dX8_image_189 : decode cX8_image 189 = .ok (.aload_n 0, 1) := by decide +kernel
theorem dX8_image_190 : decode cX8_image 190 = .ok (.getfield 129, 3) := by decide +kernel
theorem dX8_image_193 : decode cX8_image 193 = .ok (.iload_n 1, 1) := by decide +kernel
theorem dX8_image_194 : decode cX8_image 194 = .ok (.iaload, 1) := by decide +kernel
theorem dX8_image_195 : decode cX8_image 195 = .ok (.iastore, 1) := by decide +kernel
theorem dX8_image_196 : decode cX8_image 196 = .ok (.aload_n 0, 1) := by decide +kernel
theorem dX8_image_197 : decode cX8_image 197 = .ok (.getfield 211, 3) := by decide +kernel
theorem dX8_image_200 : decode cX8_image 200 = .ok (.iload_n 1, 1) := by decide +kernel
theorem dX8_image_201 : decode cX8_image 201 = .ok (.aload_n 0, 1) := by decide +kernel
theorem dX8_image_202 : decode cX8_image 202 = .ok (.getfield 132, 3) := by decide +kernel
theorem dX8_image_205 : decode cX8_image 205 = .ok (.iload_n 1, 1) := by decide +kernel
theorem dX8_image_206 : decode cX8_image 206 = .ok (.iaload, 1) := by decide +kernel
theorem dX8_image_207 : decode cX8_image 207 = .ok (.iastore, 1) := by decide +kernel
theorem dX8_image_208 : decode cX8_image 208 = .ok (.iinc 1 1, 3) := by decide +kernel
theorem dX8_image_211 : decode cX8_image 211 = .ok (.goto (-44), 3) := by decide +kernel
theorem dX8_image_214 : decode cX8_image 214 = .ok (.iconst 0, 1) := by decide +kernel
theorem dX8_image_215 : decode cX8_image 215 = .ok (.istore_n 1, 1) := by decide +kernel
theorem dX8_image_216 : decode cX8_image 216 = .ok (.iload_n 1, 1) := by decide +kernel
theorem dX8_image_217 : decode cX8_image 217 = .ok (.bipush 10, 2) := by decide +kernel
theorem dX8_image_219 : decode cX8_image 219 = .ok (.if_icmp .ge 33, 3) := by decide +kernel
theorem dX8_image_222 : decode cX8_image 222 = .ok (.aload_n 0, 1) := by decide +kernel
theorem dX8_image_223 : decode cX8_image 223 = .ok (.getfield 214, 3) := by decide +kernel
theorem dX8_image_226 : decode cX8_image 226 = .ok (.iload_n 1, 1) := by decide +kernel
theorem dX8_image_227 : decode cX8_image 227 = .ok (.aload_n 0, 1) := by decide +kernel
theorem dX8_image_228 : decode cX8_image 228 = .ok (.getfield 141, 3) := by decide +kernel
theorem dX8_image_231 : decode cX8_image 231 = .ok (.iload_n 1, 1) := by decide +kernel
theorem dX8_image_232 : decode cX8_image 232 = .ok (.iaload, 1) := by decide +kernel
theorem dX8_image_233 : decode cX8_image 233 = .ok (.iastore, 1) := by decide +kernel
theorem dX8_image_234 : decode cX8_image 234 = .ok (.aload_n 0, 1) := by decide +kernel
theorem dX8_image_235 : decode cX8_image 235 = .ok (.getfield 217, 3) := by decide +kernel
theorem dX8_image_238 : decode cX8_image 238 = .ok (.iload_n 1, 1) := by decide +kernel
theorem dX8_image_239 : decode cX8_image 239 = .ok (.aload_n 0, 1) := by decide +kernel
theorem dX8_image_240 : decode cX8_image 240 = .ok (.getfield 144, 3) := by decide +kernel
theorem dX8_image_243 : decode cX8_image 243 = .ok (.iload_n 1, 1) := by decide +kernel
theorem dX8_image_244 : decode cX8_image 244 = .ok (.iaload, 1) := by decide +kernel
theorem dX8_image_245 : decode cX8_image 245 = .ok (.iastore, 1) := by decide +kernel
theorem dX8_image_246 : decode cX8_image 246 = .ok (.iinc 1 1, 3) := by decide +kernel
theorem dX8_image_249 : decode cX8_image 249 = .ok (.goto (-33), 3) := by decide +kernel
theorem dX8_image_252 : decode cX8_image 252 = .ok (.iconst 0, 1) := by decide +kernel
theorem dX8_image_253 : decode cX8_image 253 = .ok (.istore_n 1, 1) := by decide +kernel
theorem dX8_image_254 : decode cX8_image 254 = .ok (.iload_n 1, 1) := by decide +kernel
theorem dX8_image_255 : decode cX8_image 255 = .ok (.bipush 8, 2) := by decide +kernel
theorem dX8_image_257 : decode cX8_image 257 = .ok (.if_icmp .ge 57, 3) := by decide +kernel
theorem dX8_image_260 : decode cX8_image 260 = .ok (.aload_n 0, 1) := by decide +kernel
theorem dX8_image_261 : decode cX8_image 261 = .ok (.getfield 199, 3) := by decide +kernel
theorem dX8_image_264 : decode cX8_image 264 = .ok (.iload_n 1, 1) := by decide +kernel
theorem dX8_image_265 : decode cX8_image 265 = .ok (.aload_n 0, 1) := by decide +kernel
theorem dX8_image_266 : decode cX8_image 266 = .ok (.getfield 44, 3) := by decide +kernel
theorem dX8_image_269 : decode cX8_image 269 = .ok (.iload_n 1, 1) := by decide +kernel
theorem dX8_image_270 : decode cX8_image 270 = .ok (.iaload, 1) := by decide +kernel
theorem dX8_image_271 : decode cX8_image 271 = .ok (.iastore, 1) := by decide +kernel
theorem dX8_image_272 : decode cX8_image 272 = .ok (.aload_n 0, 1) := by decide +kernel
theorem dX8_image_273 : decode cX8_image 273 = .ok (.getfield 202, 3) := by decide +kernel
theorem dX8_image_276 : decode cX8_image 276 = .ok (.iload_n 1, 1) := by decide +kernel
theorem dX8_image_277 : decode cX8_image 277 = .ok (.aload_n 0, 1) := by decide +kernel
theorem dX8_image_278 : decode cX8_image 278 = .ok (.getfield 41, 3) := by decide +kernel
theorem dX8_image_281 : decode cX8_image 281 = .ok (.iload_n 1, 1) := by decide +kernel
theorem dX8_image_282 : decode cX8_image 282 = .ok (.iaload, 1) := by decide +kernel
theorem dX8_image_283 : decode cX8_image 283 = .ok (.iastore, 1) := by decide +kernel
theorem dX8_image_284 : decode cX8_image 284 = .ok (.aload_n 0, 1) := by decide +kernel
theorem dX8_image_285 : decode cX8_image 285 = .ok (.getfield 220, 3) := by decide +kernel
theorem dX8_image_288 : decode cX8_image 288 = .ok (.iload_n 1, 1) := by decide +kernel
theorem dX8_image_289 : decode cX8_image 289 = .ok (.aload_n 0, 1) := by decide +kernel
theorem dX8_image_290 : decode cX8_image 290 = .ok (.getfield 147, 3) := by decide +kernel
theorem dX8_image_293 : decode cX8_image 293 = .ok (.iload_n 1, 1) := by decide +kernel
theorem dX8_image_294 : decode cX8_image 294 = .ok (.iaload, 1) := by decide +kernel
theorem dX8_image_295 : decode cX8_image 295 = .ok (.iastore, 1) := by decide +kernel
theorem dX8_image_296 : decode cX8_image 296 = .ok (.aload_n 0, 1) := by decide +kernel
theorem dX8_image_297 : decode cX8_image 297 = .ok (.getfield 223, 3) := by decide +kernel
theorem dX8_image_300 : decode cX8_image 300 = .ok (.iload_n 1, 1) := by decide +kernel
theorem dX8_image_301 : decode cX8_image 301 = .ok (.aload_n 0, 1) := by decide +kernel
theorem dX8_image_302 : decode cX8_image 302 = .ok (.getfield 150, 3) := by decide +kernel
theorem dX8_image_305 : decode cX8_image 305 = .ok (.iload_n 1, 1) := by decide +kernel
theorem dX8_image_306 : decode cX8_image 306 = .ok (.iaload, 1) := by decide +kernel
theorem dX8_image_307 : decode cX8_image 307 = .ok (.iastore, 1) := by decide +kernel
theorem dX8_image_308 : decode cX8_image 308 = .ok (.iinc 1 1, 3) := by decide +kernel
theorem dX8_image_311 : decode cX8_image 311 = .ok (.goto (-57), 3) := by decide +kernel
theorem dX8_image_314 : decode cX8_image 314 = .ok (.aload_n 0, 1) := by decide +kernel
theorem dX8_image_315 : decode cX8_image 315 = .ok (.getfield 7, 3) := by decide +kernel
theorem dX8_image_318 : decode cX8_image 318 = .ok (.ireturn, 1) := by decide +kernel
def f_X8_image_L254 (x1_9 : Int32) (u9 : Mem) : Option ((Int32 × Mem) ⊕ ((Int32 × Mem) ⊕ ((Int32 × Mem) ⊕ ((Int32 × Mem) ⊕ ((Int32 × Mem) ⊕ (Int32 × Mem)))))) := (if (8 : Int32) ≤ x1_9 then some (Sum.inr Sum.inr Sum.inr Sum.inr Sum.inr (gI u9 82 0, u9)) else gin x1_9 8 (gin x1_9 8 (gin x1_9 8 (gin x1_9 8 (gin x1_9 8 (gin x1_9 8 (gin x1_9 8 (gin x1_9 8 (some (Sum.inl (x1_9 + (1 : Int32), sA (sA (sA (sA u9 115 x1_9.toNatClampNeg (gA u9 89 x1_9.toNatClampNeg)) 116 x1_9.toNatClampNeg (gA (sA u9 115 x1_9.toNatClampNeg (gA u9 89 x1_9.toNatClampNeg)) 88 x1_9.toNatClampNeg)) 122 x1_9.toNatClampNeg (gA (sA (sA u9 115 x1_9.toNatClampNeg (gA u9 89 x1_9.toNatClampNeg)) 116 x1_9.toNatClampNeg (gA (sA u9 115 x1_9.toNatClampNeg (gA u9 89 x1_9.toNatClampNeg)) 88 x1_9.toNatClampNeg)) 108 x1_9.toNatClampNeg)) 123 x1_9.toNatClampNeg (gA (sA (sA (sA u9 115 x1_9.toNatClampNeg (gA u9 89 x1_9.toNatClampNeg)) 116 x1_9.toNatClampNeg (gA (sA u9 115 x1_9.toNatClampNeg (gA u9 89 x1_9.toNatClampNeg)) 88 x1_9.toNatClampNeg)) 122 x1_9.toNatClampNeg (gA (sA (sA u9 115 x1_9.toNatClampNeg (gA u9 89 x1_9.toNatClampNeg)) 116 x1_9.toNatClampNeg (gA (sA u9 115 x1_9.toNatClampNeg (gA u9 89 x1_9.toNatClampNeg)) 88 x1_9.toNatClampNeg)) 108 x1_9.toNatClampNeg)) 109 x1_9.toNatClampNeg))))))))))))
def f_X8_image_L216 (x1_7 : Int32) (u7 : Mem) : Option ((Int32 × Mem) ⊕ ((Int32 × Mem) ⊕ ((Int32 × Mem) ⊕ ((Int32 × Mem) ⊕ (Int32 × Mem))))) := (if (10 : Int32) ≤ x1_7 then whileO (fun s => f_X8_image_L254 s.1 s.2) FUEL ((0 : Int32), u7) else gin x1_7 10 (gin x1_7 10 (gin x1_7 10 (gin x1_7 10 (some (Sum.inl (x1_7 + (1 : Int32), sA (sA u7 120 x1_7.toNatClampNeg (gA u7 106 x1_7.toNatClampNeg)) 121 x1_7.toNatClampNeg (gA (sA u7 120 x1_7.toNatClampNeg (gA u7 106 x1_7.toNatClampNeg)) 107 x1_7.toNatClampNeg))))))))
def f_X8_image_L167 (x1_5 : Int32) (u5 : Mem) : Option ((Int32 × Mem) ⊕ ((Int32 × Mem) ⊕ ((Int32 × Mem) ⊕ (Int32 × Mem)))) := (if (5 : Int32) ≤ x1_5 then whileO (fun s => f_X8_image_L216 s.1 s.2) FUEL ((0 : Int32), u5) else gin x1_5 5 (gin x1_5 5 (gin x1_5 5 (gin x1_5 5 (gin x1_5 5 (gin x1_5 5 (some (Sum.inl (x1_5 + (1 : Int32), sA (sA (sA u5 117 x1_5.toNatClampNeg (gA u5 103 x1_5.toNatClampNeg)) 118 x1_5.toNatClampNeg (gA (sA u5 117 x1_5.toNatClampNeg (gA u5 103 x1_5.toNatClampNeg)) 104 x1_5.toNatClampNeg)) 119 x1_5.toNatClampNeg (gA (sA (sA u5 117 x1_5.toNatClampNeg (gA u5 103 x1_5.toNatClampNeg)) 118 x1_5.toNatClampNeg (gA (sA u5 117 x1_5.toNatClampNeg (gA u5 103 x1_5.toNatClampNeg)) 104 x1_5.toNatClampNeg)) 105 x1_5.toNatClampNeg))))))))))
def f_X8_image_L141 (x1_3 : Int32) (u3 : Mem) : Option ((Int32 × Mem) ⊕ ((Int32 × Mem) ⊕ (Int32 × Mem))) := (if (24 : Int32) ≤ x1_3 then whileO (fun s => f_X8_image_L167 s.1 s.2) FUEL ((0 : Int32), u3) else gin x1_3 24 (gin x1_3 24 (some (Sum.inl (x1_3 + (1 : Int32), sA u3 114 x1_3.toNatClampNeg (gA u3 87 x1_3.toNatClampNeg))))))
def f_X8_image_L79 (x1_1 : Int32) (u1 : Mem) : Option ((Int32 × Mem) ⊕ (Int32 × Mem)) := (if (6 : Int32) ≤ x1_1 then whileO (fun s => f_X8_image_L141 s.1 s.2) FUEL ((0 : Int32), u1) else gin x1_1 6 (gin x1_1 6 (gin x1_1 6 (gin x1_1 6 (gin x1_1 6 (gin x1_1 6 (gin x1_1 6 (gin x1_1 6 (some (Sum.inl (x1_1 + (1 : Int32), sA (sA (sA (sA u1 110 x1_1.toNatClampNeg (gA u1 83 x1_1.toNatClampNeg)) 111 x1_1.toNatClampNeg (gA (sA u1 110 x1_1.toNatClampNeg (gA u1 83 x1_1.toNatClampNeg)) 84 x1_1.toNatClampNeg)) 112 x1_1.toNatClampNeg (gA (sA (sA u1 110 x1_1.toNatClampNeg (gA u1 83 x1_1.toNatClampNeg)) 111 x1_1.toNatClampNeg (gA (sA u1 110 x1_1.toNatClampNeg (gA u1 83 x1_1.toNatClampNeg)) 84 x1_1.toNatClampNeg)) 85 x1_1.toNatClampNeg)) 113 x1_1.toNatClampNeg (gA (sA (sA (sA u1 110 x1_1.toNatClampNeg (gA u1 83 x1_1.toNatClampNeg)) 111 x1_1.toNatClampNeg (gA (sA u1 110 x1_1.toNatClampNeg (gA u1 83 x1_1.toNatClampNeg)) 84 x1_1.toNatClampNeg)) 112 x1_1.toNatClampNeg (gA (sA (sA u1 110 x1_1.toNatClampNeg (gA u1 83 x1_1.toNatClampNeg)) 111 x1_1.toNatClampNeg (gA (sA u1 110 x1_1.toNatClampNeg (gA u1 83 x1_1.toNatClampNeg)) 84 x1_1.toNatClampNeg)) 85 x1_1.toNatClampNeg)) 86 x1_1.toNatClampNeg))))))))))))
def f_X8_image (u : Mem) : Option (Int32 × Mem) := whileO (fun s => f_X8_image_L79 s.1 s.2) FUEL ((0 : Int32), sI (sI (sI (sI (sI (sI (sI (sI (sI (sI u 82 47 (1 : Int32)) 82 48 (gI (sI u 82 47 (1 : Int32)) 82 13)) 82 49 (gI (sI (sI u 82 47 (1 : Int32)) 82 48 (gI (sI u 82 47 (1 : Int32)) 82 13)) 82 0)) 82 50 (gI (sI (sI (sI u 82 47 (1 : Int32)) 82 48 (gI (sI u 82 47 (1 : Int32)) 82 13)) 82 49 (gI (sI (sI u 82 47 (1 : Int32)) 82 48 (gI (sI u 82 47 (1 : Int32)) 82 13)) 82 0)) 82 1)) 82 51 (gI (sI (sI (sI (sI u 82 47 (1 : Int32)) 82 48 (gI (sI u 82 47 (1 : Int32)) 82 13)) 82 49 (gI (sI (sI u 82 47 (1 : Int32)) 82 48 (gI (sI u 82 47 (1 : Int32)) 82 13)) 82 0)) 82 50 (gI (sI (sI (sI u 82 47 (1 : Int32)) 82 48 (gI (sI u 82 47 (1 : Int32)) 82 13)) 82 49 (gI (sI (sI u 82 47 (1 : Int32)) 82 48 (gI (sI u 82 47 (1 : Int32)) 82 13)) 82 0)) 82 1)) 82 2)) 82 52 (gI (sI (sI (sI (sI (sI u 82 47 (1 : Int32)) 82 48 (gI (sI u 82 47 (1 : Int32)) 82 13)) 82 49 (gI (sI (sI u 82 47 (1 : Int32)) 82 48 (gI (sI u 82 47 (1 : Int32)) 82 13)) 82 0)) 82 50 (gI (sI (sI (sI u 82 47 (1 : Int32)) 82 48 (gI (sI u 82 47 (1 : Int32)) 82 13)) 82 49 (gI (sI (sI u 82 47 (1 : Int32)) 82 48 (gI (sI u 82 47 (1 : Int32)) 82 13)) 82 0)) 82 1)) 82 51 (gI (sI (sI (sI (sI u 82 47 (1 : Int32)) 82 48 (gI (sI u 82 47 (1 : Int32)) 82 13)) 82 49 (gI (sI (sI u 82 47 (1 : Int32)) 82 48 (gI (sI u 82 47 (1 : Int32)) 82 13)) 82 0)) 82 50 (gI (sI (sI (sI u 82 47 (1 : Int32)) 82 48 (gI (sI u 82 47 (1 : Int32)) 82 13)) 82 49 (gI (sI (sI u 82 47 (1 : Int32)) 82 48 (gI (sI u 82 47 (1 : Int32)) 82 13)) 82 0)) 82 1)) 82 2)) 82 3)) 82 53 (gI (sI (sI (sI (sI (sI (sI u 82 47 (1 : Int32)) 82 48 (gI (sI u 82 47 (1 : Int32)) 82 13)) 82 49 (gI (sI (sI u 82 47 (1 : Int32)) 82 48 (gI (sI u 82 47 (1 : Int32)) 82 13)) 82 0)) 82 50 (gI (sI (sI (sI u 82 47 (1 : Int32)) 82 48 (gI (sI u 82 47 (1 : Int32)) 82 13)) 82 49 (gI (sI (sI u 82 47 (1 : Int32)) 82 48 (gI (sI u 82 47 (1 : Int32)) 82 13)) 82 0)) 82 1)) 82 51 (gI (sI (sI (sI (sI u 82 47 (1 : Int32)) 82 48 (gI (sI u 82 47 (1 : Int32)) 82 13)) 82 49 (gI (sI (sI u 82 47 (1 : Int32)) 82 48 (gI (sI u 82 47 (1 : Int32)) 82 13)) 82 0)) 82 50 (gI (sI (sI (sI u 82 47 (1 : Int32)) 82 48 (gI (sI u 82 47 (1 : Int32)) 82 13)) 82 49 (gI (sI (sI u 82 47 (1 : Int32)) 82 48 (gI (sI u 82 47 (1 : Int32)) 82 13)) 82 0)) 82 1)) 82 2)) 82 52 (gI (sI (sI (sI (sI (sI u 82 47 (1 : Int32)) 82 48 (gI (sI u 82 47 (1 : Int32)) 82 13)) 82 49 (gI (sI (sI u 82 47 (1 : Int32)) 82 48 (gI (sI u 82 47 (1 : Int32)) 82 13)) 82 0)) 82 50 (gI (sI (sI (sI u 82 47 (1 : Int32)) 82 48 (gI (sI u 82 47 (1 : Int32)) 82 13)) 82 49 (gI (sI (sI u 82 47 (1 : Int32)) 82 48 (gI (sI u 82 47 (1 : Int32)) 82 13)) 82 0)) 82 1)) 82 51 (gI (sI (sI (sI (sI u 82 47 (1 : Int32)) 82 48 (gI (sI u 82 47 (1 : Int32)) 82 13)) 82 49 (gI (sI (sI u 82 47 (1 : Int32)) 82 48 (gI (sI u 82 47 (1 : Int32)) 82 13)) 82 0)) 82 50 (gI (sI (sI (sI u 82 47 (1 : Int32)) 82 48 (gI (sI u 82 47 (1 : Int32)) 82 13)) 82 49 (gI (sI (sI u 82 47 (1 : Int32)) 82 48 (gI (sI u 82 47 (1 : Int32)) 82 13)) 82 0)) 82 1)) 82 2)) 82 3)) 82 4)) 82 54 (gI (sI (sI (sI (sI (sI (sI (sI u 82 47 (1 : Int32)) 82 48 (gI (sI u 82 47 (1 : Int32)) 82 13)) 82 49 (gI (sI (sI u 82 47 (1 : Int32)) 82 48 (gI (sI u 82 47 (1 : Int32)) 82 13)) 82 0)) 82 50 (gI (sI (sI (sI u 82 47 (1 : Int32)) 82 48 (gI (sI u 82 47 (1 : Int32)) 82 13)) 82 49 (gI (sI (sI u 82 47 (1 : Int32)) 82 48 (gI (sI u 82 47 (1 : Int32)) 82 13)) 82 0)) 82 1)) 82 51 (gI (sI (sI (sI (sI u 82 47 (1 : Int32)) 82 48 (gI (sI u 82 47 (1 : Int32)) 82 13)) 82 49 (gI (sI (sI u 82 47 (1 : Int32)) 82 48 (gI (sI u 82 47 (1 : Int32)) 82 13)) 82 0)) 82 50 (gI (sI (sI (sI u 82 47 (1 : Int32)) 82 48 (gI (sI u 82 47 (1 : Int32)) 82 13)) 82 49 (gI (sI (sI u 82 47 (1 : Int32)) 82 48 (gI (sI u 82 47 (1 : Int32)) 82 13)) 82 0)) 82 1)) 82 2)) 82 52 (gI (sI (sI (sI (sI (sI u 82 47 (1 : Int32)) 82 48 (gI (sI u 82 47 (1 : Int32)) 82 13)) 82 49 (gI (sI (sI u 82 47 (1 : Int32)) 82 48 (gI (sI u 82 47 (1 : Int32)) 82 13)) 82 0)) 82 50 (gI (sI (sI (sI u 82 47 (1 : Int32)) 82 48 (gI (sI u 82 47 (1 : Int32)) 82 13)) 82 49 (gI (sI (sI u 82 47 (1 : Int32)) 82 48 (gI (sI u 82 47 (1 : Int32)) 82 13)) 82 0)) 82 1)) 82 51 (gI (sI (sI (sI (sI u 82 47 (1 : Int32)) 82 48 (gI (sI u 82 47 (1 : Int32)) 82 13)) 82 49 (gI (sI (sI u 82 47 (1 : Int32)) 82 48 (gI (sI u 82 47 (1 : Int32)) 82 13)) 82 0)) 82 50 (gI (sI (sI (sI u 82 47 (1 : Int32)) 82 48 (gI (sI u 82 47 (1 : Int32)) 82 13)) 82 49 (gI (sI (sI u 82 47 (1 : Int32)) 82 48 (gI (sI u 82 47 (1 : Int32)) 82 13)) 82 0)) 82 1)) 82 2)) 82 3)) 82 53 (gI (sI (sI (sI (sI (sI (sI u 82 47 (1 : Int32)) 82 48 (gI (sI u 82 47 (1 : Int32)) 82 13)) 82 49 (gI (sI (sI u 82 47 (1 : Int32)) 82 48 (gI (sI u 82 47 (1 : Int32)) 82 13)) 82 0)) 82 50 (gI (sI (sI (sI u 82 47 (1 : Int32)) 82 48 (gI (sI u 82 47 (1 : Int32)) 82 13)) 82 49 (gI (sI (sI u 82 47 (1 : Int32)) 82 48 (gI (sI u 82 47 (1 : Int32)) 82 13)) 82 0)) 82 1)) 82 51 (gI (sI (sI (sI (sI u 82 47 (1 : Int32)) 82 48 (gI (sI u 82 47 (1 : Int32)) 82 13)) 82 49 (gI (sI (sI u 82 47 (1 : Int32)) 82 48 (gI (sI u 82 47 (1 : Int32)) 82 13)) 82 0)) 82 50 (gI (sI (sI (sI u 82 47 (1 : Int32)) 82 48 (gI (sI u 82 47 (1 : Int32)) 82 13)) 82 49 (gI (sI (sI u 82 47 (1 : Int32)) 82 48 (gI (sI u 82 47 (1 : Int32)) 82 13)) 82 0)) 82 1)) 82 2)) 82 52 (gI (sI (sI (sI (sI (sI u 82 47 (1 : Int32)) 82 48 (gI (sI u 82 47 (1 : Int32)) 82 13)) 82 49 (gI (sI (sI u 82 47 (1 : Int32)) 82 48 (gI (sI u 82 47 (1 : Int32)) 82 13)) 82 0)) 82 50 (gI (sI (sI (sI u 82 47 (1 : Int32)) 82 48 (gI (sI u 82 47 (1 : Int32)) 82 13)) 82 49 (gI (sI (sI u 82 47 (1 : Int32)) 82 48 (gI (sI u 82 47 (1 : Int32)) 82 13)) 82 0)) 82 1)) 82 51 (gI (sI (sI (sI (sI u 82 47 (1 : Int32)) 82 48 (gI (sI u 82 47 (1 : Int32)) 82 13)) 82 49 (gI (sI (sI u 82 47 (1 : Int32)) 82 48 (gI (sI u 82 47 (1 : Int32)) 82 13)) 82 0)) 82 50 (gI (sI (sI (sI u 82 47 (1 : Int32)) 82 48 (gI (sI u 82 47 (1 : Int32)) 82 13)) 82 49 (gI (sI (sI u 82 47 (1 : Int32)) 82 48 (gI (sI u 82 47 (1 : Int32)) 82 13)) 82 0)) 82 1)) 82 2)) 82 3)) 82 4)) 82 37)) 82 55 (gI (sI (sI (sI (sI (sI (sI (sI (sI u 82 47 (1 : Int32)) 82 48 (gI (sI u 82 47 (1 : Int32)) 82 13)) 82 49 (gI (sI (sI u 82 47 (1 : Int32)) 82 48 (gI (sI u 82 47 (1 : Int32)) 82 13)) 82 0)) 82 50 (gI (sI (sI (sI u 82 47 (1 : Int32)) 82 48 (gI (sI u 82 47 (1 : Int32)) 82 13)) 82 49 (gI (sI (sI u 82 47 (1 : Int32)) 82 48 (gI (sI u 82 47 (1 : Int32)) 82 13)) 82 0)) 82 1)) 82 51 (gI (sI (sI (sI (sI u 82 47 (1 : Int32)) 82 48 (gI (sI u 82 47 (1 : Int32)) 82 13)) 82 49 (gI (sI (sI u 82 47 (1 : Int32)) 82 48 (gI (sI u 82 47 (1 : Int32)) 82 13)) 82 0)) 82 50 (gI (sI (sI (sI u 82 47 (1 : Int32)) 82 48 (gI (sI u 82 47 (1 : Int32)) 82 13)) 82 49 (gI (sI (sI u 82 47 (1 : Int32)) 82 48 (gI (sI u 82 47 (1 : Int32)) 82 13)) 82 0)) 82 1)) 82 2)) 82 52 (gI (sI (sI (sI (sI (sI u 82 47 (1 : Int32)) 82 48 (gI (sI u 82 47 (1 : Int32)) 82 13)) 82 49 (gI (sI (sI u 82 47 (1 : Int32)) 82 48 (gI (sI u 82 47 (1 : Int32)) 82 13)) 82 0)) 82 50 (gI (sI (sI (sI u 82 47 (1 : Int32)) 82 48 (gI (sI u 82 47 (1 : Int32)) 82 13)) 82 49 (gI (sI (sI u 82 47 (1 : Int32)) 82 48 (gI (sI u 82 47 (1 : Int32)) 82 13)) 82 0)) 82 1)) 82 51 (gI (sI (sI (sI (sI u 82 47 (1 : Int32)) 82 48 (gI (sI u 82 47 (1 : Int32)) 82 13)) 82 49 (gI (sI (sI u 82 47 (1 : Int32)) 82 48 (gI (sI u 82 47 (1 : Int32)) 82 13)) 82 0)) 82 50 (gI (sI (sI (sI u 82 47 (1 : Int32)) 82 48 (gI (sI u 82 47 (1 : Int32)) 82 13)) 82 49 (gI (sI (sI u 82 47 (1 : Int32)) 82 48 (gI (sI u 82 47 (1 : Int32)) 82 13)) 82 0)) 82 1)) 82 2)) 82 3)) 82 53 (gI (sI (sI (sI (sI (sI (sI u 82 47 (1 : Int32)) 82 48 (gI (sI u 82 47 (1 : Int32)) 82 13)) 82 49 (gI (sI (sI u 82 47 (1 : Int32)) 82 48 (gI (sI u 82 47 (1 : Int32)) 82 13)) 82 0)) 82 50 (gI (sI (sI (sI u 82 47 (1 : Int32)) 82 48 (gI (sI u 82 47 (1 : Int32)) 82 13)) 82 49 (gI (sI (sI u 82 47 (1 : Int32)) 82 48 (gI (sI u 82 47 (1 : Int32)) 82 13)) 82 0)) 82 1)) 82 51 (gI (sI (sI (sI (sI u 82 47 (1 : Int32)) 82 48 (gI (sI u 82 47 (1 : Int32)) 82 13)) 82 49 (gI (sI (sI u 82 47 (1 : Int32)) 82 48 (gI (sI u 82 47 (1 : Int32)) 82 13)) 82 0)) 82 50 (gI (sI (sI (sI u 82 47 (1 : Int32)) 82 48 (gI (sI u 82 47 (1 : Int32)) 82 13)) 82 49 (gI (sI (sI u 82 47 (1 : Int32)) 82 48 (gI (sI u 82 47 (1 : Int32)) 82 13)) 82 0)) 82 1)) 82 2)) 82 52 (gI (sI (sI (sI (sI (sI u 82 47 (1 : Int32)) 82 48 (gI (sI u 82 47 (1 : Int32)) 82 13)) 82 49 (gI (sI (sI u 82 47 (1 : Int32)) 82 48 (gI (sI u 82 47 (1 : Int32)) 82 13)) 82 0)) 82 50 (gI (sI (sI (sI u 82 47 (1 : Int32)) 82 48 (gI (sI u 82 47 (1 : Int32)) 82 13)) 82 49 (gI (sI (sI u 82 47 (1 : Int32)) 82 48 (gI (sI u 82 47 (1 : Int32)) 82 13)) 82 0)) 82 1)) 82 51 (gI (sI (sI (sI (sI u 82 47 (1 : Int32)) 82 48 (gI (sI u 82 47 (1 : Int32)) 82 13)) 82 49 (gI (sI (sI u 82 47 (1 : Int32)) 82 48 (gI (sI u 82 47 (1 : Int32)) 82 13)) 82 0)) 82 50 (gI (sI (sI (sI u 82 47 (1 : Int32)) 82 48 (gI (sI u 82 47 (1 : Int32)) 82 13)) 82 49 (gI (sI (sI u 82 47 (1 : Int32)) 82 48 (gI (sI u 82 47 (1 : Int32)) 82 13)) 82 0)) 82 1)) 82 2)) 82 3)) 82 4)) 82 54 (gI (sI (sI (sI (sI (sI (sI (sI u 82 47 (1 : Int32)) 82 48 (gI (sI u 82 47 (1 : Int32)) 82 13)) 82 49 (gI (sI (sI u 82 47 (1 : Int32)) 82 48 (gI (sI u 82 47 (1 : Int32)) 82 13)) 82 0)) 82 50 (gI (sI (sI (sI u 82 47 (1 : Int32)) 82 48 (gI (sI u 82 47 (1 : Int32)) 82 13)) 82 49 (gI (sI (sI u 82 47 (1 : Int32)) 82 48 (gI (sI u 82 47 (1 : Int32)) 82 13)) 82 0)) 82 1)) 82 51 (gI (sI (sI (sI (sI u 82 47 (1 : Int32)) 82 48 (gI (sI u 82 47 (1 : Int32)) 82 13)) 82 49 (gI (sI (sI u 82 47 (1 : Int32)) 82 48 (gI (sI u 82 47 (1 : Int32)) 82 13)) 82 0)) 82 50 (gI (sI (sI (sI u 82 47 (1 : Int32)) 82 48 (gI (sI u 82 47 (1 : Int32)) 82 13)) 82 49 (gI (sI (sI u 82 47 (1 : Int32)) 82 48 (gI (sI u 82 47 (1 : Int32)) 82 13)) 82 0)) 82 1)) 82 2)) 82 52 (gI (sI (sI (sI (sI (sI u 82 47 (1 : Int32)) 82 48 (gI (sI u 82 47 (1 : Int32)) 82 13)) 82 49 (gI (sI (sI u 82 47 (1 : Int32)) 82 48 (gI (sI u 82 47 (1 : Int32)) 82 13)) 82 0)) 82 50 (gI (sI (sI (sI u 82 47 (1 : Int32)) 82 48 (gI (sI u 82 47 (1 : Int32)) 82 13)) 82 49 (gI (sI (sI u 82 47 (1 : Int32)) 82 48 (gI (sI u 82 47 (1 : Int32)) 82 13)) 82 0)) 82 1)) 82 51 (gI (sI (sI (sI (sI u 82 47 (1 : Int32)) 82 48 (gI (sI u 82 47 (1 : Int32)) 82 13)) 82 49 (gI (sI (sI u 82 47 (1 : Int32)) 82 48 (gI (sI u 82 47 (1 : Int32)) 82 13)) 82 0)) 82 50 (gI (sI (sI (sI u 82 47 (1 : Int32)) 82 48 (gI (sI u 82 47 (1 : Int32)) 82 13)) 82 49 (gI (sI (sI u 82 47 (1 : Int32)) 82 48 (gI (sI u 82 47 (1 : Int32)) 82 13)) 82 0)) 82 1)) 82 2)) 82 3)) 82 53 (gI (sI (sI (sI (sI (sI (sI u 82 47 (1 : Int32)) 82 48 (gI (sI u 82 47 (1 : Int32)) 82 13)) 82 49 (gI (sI (sI u 82 47 (1 : Int32)) 82 48 (gI (sI u 82 47 (1 : Int32)) 82 13)) 82 0)) 82 50 (gI (sI (sI (sI u 82 47 (1 : Int32)) 82 48 (gI (sI u 82 47 (1 : Int32)) 82 13)) 82 49 (gI (sI (sI u 82 47 (1 : Int32)) 82 48 (gI (sI u 82 47 (1 : Int32)) 82 13)) 82 0)) 82 1)) 82 51 (gI (sI (sI (sI (sI u 82 47 (1 : Int32)) 82 48 (gI (sI u 82 47 (1 : Int32)) 82 13)) 82 49 (gI (sI (sI u 82 47 (1 : Int32)) 82 48 (gI (sI u 82 47 (1 : Int32)) 82 13)) 82 0)) 82 50 (gI (sI (sI (sI u 82 47 (1 : Int32)) 82 48 (gI (sI u 82 47 (1 : Int32)) 82 13)) 82 49 (gI (sI (sI u 82 47 (1 : Int32)) 82 48 (gI (sI u 82 47 (1 : Int32)) 82 13)) 82 0)) 82 1)) 82 2)) 82 52 (gI (sI (sI (sI (sI (sI u 82 47 (1 : Int32)) 82 48 (gI (sI u 82 47 (1 : Int32)) 82 13)) 82 49 (gI (sI (sI u 82 47 (1 : Int32)) 82 48 (gI (sI u 82 47 (1 : Int32)) 82 13)) 82 0)) 82 50 (gI (sI (sI (sI u 82 47 (1 : Int32)) 82 48 (gI (sI u 82 47 (1 : Int32)) 82 13)) 82 49 (gI (sI (sI u 82 47 (1 : Int32)) 82 48 (gI (sI u 82 47 (1 : Int32)) 82 13)) 82 0)) 82 1)) 82 51 (gI (sI (sI (sI (sI u 82 47 (1 : Int32)) 82 48 (gI (sI u 82 47 (1 : Int32)) 82 13)) 82 49 (gI (sI (sI u 82 47 (1 : Int32)) 82 48 (gI (sI u 82 47 (1 : Int32)) 82 13)) 82 0)) 82 50 (gI (sI (sI (sI u 82 47 (1 : Int32)) 82 48 (gI (sI u 82 47 (1 : Int32)) 82 13)) 82 49 (gI (sI (sI u 82 47 (1 : Int32)) 82 48 (gI (sI u 82 47 (1 : Int32)) 82 13)) 82 0)) 82 1)) 82 2)) 82 3)) 82 4)) 82 37)) 82 41)) 82 56 (gI (sI (sI (sI (sI (sI (sI (sI (sI (sI u 82 47 (1 : Int32)) 82 48 (gI (sI u 82 47 (1 : Int32)) 82 13)) 82 49 (gI (sI (sI u 82 47 (1 : Int32)) 82 48 (gI (sI u 82 47 (1 : Int32)) 82 13)) 82 0)) 82 50 (gI (sI (sI (sI u 82 47 (1 : Int32)) 82 48 (gI (sI u 82 47 (1 : Int32)) 82 13)) 82 49 (gI (sI (sI u 82 47 (1 : Int32)) 82 48 (gI (sI u 82 47 (1 : Int32)) 82 13)) 82 0)) 82 1)) 82 51 (gI (sI (sI (sI (sI u 82 47 (1 : Int32)) 82 48 (gI (sI u 82 47 (1 : Int32)) 82 13)) 82 49 (gI (sI (sI u 82 47 (1 : Int32)) 82 48 (gI (sI u 82 47 (1 : Int32)) 82 13)) 82 0)) 82 50 (gI (sI (sI (sI u 82 47 (1 : Int32)) 82 48 (gI (sI u 82 47 (1 : Int32)) 82 13)) 82 49 (gI (sI (sI u 82 47 (1 : Int32)) 82 48 (gI (sI u 82 47 (1 : Int32)) 82 13)) 82 0)) 82 1)) 82 2)) 82 52 (gI (sI (sI (sI (sI (sI u 82 47 (1 : Int32)) 82 48 (gI (sI u 82 47 (1 : Int32)) 82 13)) 82 49 (gI (sI (sI u 82 47 (1 : Int32)) 82 48 (gI (sI u 82 47 (1 : Int32)) 82 13)) 82 0)) 82 50 (gI (sI (sI (sI u 82 47 (1 : Int32)) 82 48 (gI (sI u 82 47 (1 : Int32)) 82 13)) 82 49 (gI (sI (sI u 82 47 (1 : Int32)) 82 48 (gI (sI u 82 47 (1 : Int32)) 82 13)) 82 0)) 82 1)) 82 51 (gI (sI (sI (sI (sI u 82 47 (1 : Int32)) 82 48 (gI (sI u 82 47 (1 : Int32)) 82 13)) 82 49 (gI (sI (sI u 82 47 (1 : Int32)) 82 48 (gI (sI u 82 47 (1 : Int32)) 82 13)) 82 0)) 82 50 (gI (sI (sI (sI u 82 47 (1 : Int32)) 82 48 (gI (sI u 82 47 (1 : Int32)) 82 13)) 82 49 (gI (sI (sI u 82 47 (1 : Int32)) 82 48 (gI (sI u 82 47 (1 : Int32)) 82 13)) 82 0)) 82 1)) 82 2)) 82 3)) 82 53 (gI (sI (sI (sI (sI (sI (sI u 82 47 (1 : Int32)) 82 48 (gI (sI u 82 47 (1 : Int32)) 82 13)) 82 49 (gI (sI (sI u 82 47 (1 : Int32)) 82 48 (gI (sI u 82 47 (1 : Int32)) 82 13)) 82 0)) 82 50 (gI (sI (sI (sI u 82 47 (1 : Int32)) 82 48 (gI (sI u 82 47 (1 : Int32)) 82 13)) 82 49 (gI (sI (sI u 82 47 (1 : Int32)) 82 48 (gI (sI u 82 47 (1 : Int32)) 82 13)) 82 0)) 82 1)) 82 51 (gI (sI (sI (sI (sI u 82 47 (1 : Int32)) 82 48 (gI (sI u 82 47 (1 : Int32)) 82 13)) 82 49 (gI (sI (sI u 82 47 (1 : Int32)) 82 48 (gI (sI u 82 47 (1 : Int32)) 82 13)) 82 0)) 82 50 (gI (sI (sI (sI u 82 47 (1 : Int32)) 82 48 (gI (sI u 82 47 (1 : Int32)) 82 13)) 82 49 (gI (sI (sI u 82 47 (1 : Int32)) 82 48 (gI (sI u 82 47 (1 : Int32)) 82 13)) 82 0)) 82 1)) 82 2)) 82 52 (gI (sI (sI (sI (sI (sI u 82 47 (1 : Int32)) 82 48 (gI (sI u 82 47 (1 : Int32)) 82 13)) 82 49 (gI (sI (sI u 82 47 (1 : Int32)) 82 48 (gI (sI u 82 47 (1 : Int32)) 82 13)) 82 0)) 82 50 (gI (sI (sI (sI u 82 47 (1 : Int32)) 82 48 (gI (sI u 82 47 (1 : Int32)) 82 13)) 82 49 (gI (sI (sI u 82 47 (1 : Int32)) 82 48 (gI (sI u 82 47 (1 : Int32)) 82 13)) 82 0)) 82 1)) 82 51 (gI (sI (sI (sI (sI u 82 47 (1 : Int32)) 82 48 (gI (sI u 82 47 (1 : Int32)) 82 13)) 82 49 (gI (sI (sI u 82 47 (1 : Int32)) 82 48 (gI (sI u 82 47 (1 : Int32)) 82 13)) 82 0)) 82 50 (gI (sI (sI (sI u 82 47 (1 : Int32)) 82 48 (gI (sI u 82 47 (1 : Int32)) 82 13)) 82 49 (gI (sI (sI u 82 47 (1 : Int32)) 82 48 (gI (sI u 82 47 (1 : Int32)) 82 13)) 82 0)) 82 1)) 82 2)) 82 3)) 82 4)) 82 54 (gI (sI (sI (sI (sI (sI (sI (sI u 82 47 (1 : Int32)) 82 48 (gI (sI u 82 47 (1 : Int32)) 82 13)) 82 49 (gI (sI (sI u 82 47 (1 : Int32)) 82 48 (gI (sI u 82 47 (1 : Int32)) 82 13)) 82 0)) 82 50 (gI (sI (sI (sI u 82 47 (1 : Int32)) 82 48 (gI (sI u 82 47 (1 : Int32)) 82 13)) 82 49 (gI (sI (sI u 82 47 (1 : Int32)) 82 48 (gI (sI u 82 47 (1 : Int32)) 82 13)) 82 0)) 82 1)) 82 51 (gI (sI (sI (sI (sI u 82 47 (1 : Int32)) 82 48 (gI (sI u 82 47 (1 : Int32)) 82 13)) 82 49 (gI (sI (sI u 82 47 (1 : Int32)) 82 48 (gI (sI u 82 47 (1 : Int32)) 82 13)) 82 0)) 82 50 (gI (sI (sI (sI u 82 47 (1 : Int32)) 82 48 (gI (sI u 82 47 (1 : Int32)) 82 13)) 82 49 (gI (sI (sI u 82 47 (1 : Int32)) 82 48 (gI (sI u 82 47 (1 : Int32)) 82 13)) 82 0)) 82 1)) 82 2)) 82 52 (gI (sI (sI (sI (sI (sI u 82 47 (1 : Int32)) 82 48 (gI (sI u 82 47 (1 : Int32)) 82 13)) 82 49 (gI (sI (sI u 82 47 (1 : Int32)) 82 48 (gI (sI u 82 47 (1 : Int32)) 82 13)) 82 0)) 82 50 (gI (sI (sI (sI u 82 47 (1 : Int32)) 82 48 (gI (sI u 82 47 (1 : Int32)) 82 13)) 82 49 (gI (sI (sI u 82 47 (1 : Int32)) 82 48 (gI (sI u 82 47 (1 : Int32)) 82 13)) 82 0)) 82 1)) 82 51 (gI (sI (sI (sI (sI u 82 47 (1 : Int32)) 82 48 (gI (sI u 82 47 (1 : Int32)) 82 13)) 82 49 (gI (sI (sI u 82 47 (1 : Int32)) 82 48 (gI (sI u 82 47 (1 : Int32)) 82 13)) 82 0)) 82 50 (gI (sI (sI (sI u 82 47 (1 : Int32)) 82 48 (gI (sI u 82 47 (1 : Int32)) 82 13)) 82 49 (gI (sI (sI u 82 47 (1 : Int32)) 82 48 (gI (sI u 82 47 (1 : Int32)) 82 13)) 82 0)) 82 1)) 82 2)) 82 3)) 82 53 (gI (sI (sI (sI (sI (sI (sI u 82 47 (1 : Int32)) 82 48 (gI (sI u 82 47 (1 : Int32)) 82 13)) 82 49 (gI (sI (sI u 82 47 (1 : Int32)) 82 48 (gI (sI u 82 47 (1 : Int32)) 82 13)) 82 0)) 82 50 (gI (sI (sI (sI u 82 47 (1 : Int32)) 82 48 (gI (sI u 82 47 (1 : Int32)) 82 13)) 82 49 (gI (sI (sI u 82 47 (1 : Int32)) 82 48 (gI (sI u 82 47 (1 : Int32)) 82 13)) 82 0)) 82 1)) 82 51 (gI (sI (sI (sI (sI u 82 47 (1 : Int32)) 82 48 (gI (sI u 82 47 (1 : Int32)) 82 13)) 82 49 (gI (sI (sI u 82 47 (1 : Int32)) 82 48 (gI (sI u 82 47 (1 : Int32)) 82 13)) 82 0)) 82 50 (gI (sI (sI (sI u 82 47 (1 : Int32)) 82 48 (gI (sI u 82 47 (1 : Int32)) 82 13)) 82 49 (gI (sI (sI u 82 47 (1 : Int32)) 82 48 (gI (sI u 82 47 (1 : Int32)) 82 13)) 82 0)) 82 1)) 82 2)) 82 52 (gI (sI (sI (sI (sI (sI u 82 47 (1 : Int32)) 82 48 (gI (sI u 82 47 (1 : Int32)) 82 13)) 82 49 (gI (sI (sI u 82 47 (1 : Int32)) 82 48 (gI (sI u 82 47 (1 : Int32)) 82 13)) 82 0)) 82 50 (gI (sI (sI (sI u 82 47 (1 : Int32)) 82 48 (gI (sI u 82 47 (1 : Int32)) 82 13)) 82 49 (gI (sI (sI u 82 47 (1 : Int32)) 82 48 (gI (sI u 82 47 (1 : Int32)) 82 13)) 82 0)) 82 1)) 82 51 (gI (sI (sI (sI (sI u 82 47 (1 : Int32)) 82 48 (gI (sI u 82 47 (1 : Int32)) 82 13)) 82 49 (gI (sI (sI u 82 47 (1 : Int32)) 82 48 (gI (sI u 82 47 (1 : Int32)) 82 13)) 82 0)) 82 50 (gI (sI (sI (sI u 82 47 (1 : Int32)) 82 48 (gI (sI u 82 47 (1 : Int32)) 82 13)) 82 49 (gI (sI (sI u 82 47 (1 : Int32)) 82 48 (gI (sI u 82 47 (1 : Int32)) 82 13)) 82 0)) 82 1)) 82 2)) 82 3)) 82 4)) 82 37)) 82 55 (gI (sI (sI (sI (sI (sI (sI (sI (sI u 82 47 (1 : Int32)) 82 48 (gI (sI u 82 47 (1 : Int32)) 82 13)) 82 49 (gI (sI (sI u 82 47 (1 : Int32)) 82 48 (gI (sI u 82 47 (1 : Int32)) 82 13)) 82 0)) 82 50 (gI (sI (sI (sI u 82 47 (1 : Int32)) 82 48 (gI (sI u 82 47 (1 : Int32)) 82 13)) 82 49 (gI (sI (sI u 82 47 (1 : Int32)) 82 48 (gI (sI u 82 47 (1 : Int32)) 82 13)) 82 0)) 82 1)) 82 51 (gI (sI (sI (sI (sI u 82 47 (1 : Int32)) 82 48 (gI (sI u 82 47 (1 : Int32)) 82 13)) 82 49 (gI (sI (sI u 82 47 (1 : Int32)) 82 48 (gI (sI u 82 47 (1 : Int32)) 82 13)) 82 0)) 82 50 (gI (sI (sI (sI u 82 47 (1 : Int32)) 82 48 (gI (sI u 82 47 (1 : Int32)) 82 13)) 82 49 (gI (sI (sI u 82 47 (1 : Int32)) 82 48 (gI (sI u 82 47 (1 : Int32)) 82 13)) 82 0)) 82 1)) 82 2)) 82 52 (gI (sI (sI (sI (sI (sI u 82 47 (1 : Int32)) 82 48 (gI (sI u 82 47 (1 : Int32)) 82 13)) 82 49 (gI (sI (sI u 82 47 (1 : Int32)) 82 48 (gI (sI u 82 47 (1 : Int32)) 82 13)) 82 0)) 82 50 (gI (sI (sI (sI u 82 47 (1 : Int32)) 82 48 (gI (sI u 82 47 (1 : Int32)) 82 13)) 82 49 (gI (sI (sI u 82 47 (1 : Int32)) 82 48 (gI (sI u 82 47 (1 : Int32)) 82 13)) 82 0)) 82 1)) 82 51 (gI (sI (sI (sI (sI u 82 47 (1 : Int32)) 82 48 (gI (sI u 82 47 (1 : Int32)) 82 13)) 82 49 (gI (sI (sI u 82 47 (1 : Int32)) 82 48 (gI (sI u 82 47 (1 : Int32)) 82 13)) 82 0)) 82 50 (gI (sI (sI (sI u 82 47 (1 : Int32)) 82 48 (gI (sI u 82 47 (1 : Int32)) 82 13)) 82 49 (gI (sI (sI u 82 47 (1 : Int32)) 82 48 (gI (sI u 82 47 (1 : Int32)) 82 13)) 82 0)) 82 1)) 82 2)) 82 3)) 82 53 (gI (sI (sI (sI (sI (sI (sI u 82 47 (1 : Int32)) 82 48 (gI (sI u 82 47 (1 : Int32)) 82 13)) 82 49 (gI (sI (sI u 82 47 (1 : Int32)) 82 48 (gI (sI u 82 47 (1 : Int32)) 82 13)) 82 0)) 82 50 (gI (sI (sI (sI u 82 47 (1 : Int32)) 82 48 (gI (sI u 82 47 (1 : Int32)) 82 13)) 82 49 (gI (sI (sI u 82 47 (1 : Int32)) 82 48 (gI (sI u 82 47 (1 : Int32)) 82 13)) 82 0)) 82 1)) 82 51 (gI (sI (sI (sI (sI u 82 47 (1 : Int32)) 82 48 (gI (sI u 82 47 (1 : Int32)) 82 13)) 82 49 (gI (sI (sI u 82 47 (1 : Int32)) 82 48 (gI (sI u 82 47 (1 : Int32)) 82 13)) 82 0)) 82 50 (gI (sI (sI (sI u 82 47 (1 : Int32)) 82 48 (gI (sI u 82 47 (1 : Int32)) 82 13)) 82 49 (gI (sI (sI u 82 47 (1 : Int32)) 82 48 (gI (sI u 82 47 (1 : Int32)) 82 13)) 82 0)) 82 1)) 82 2)) 82 52 (gI (sI (sI (sI (sI (sI u 82 47 (1 : Int32)) 82 48 (gI (sI u 82 47 (1 : Int32)) 82 13)) 82 49 (gI (sI (sI u 82 47 (1 : Int32)) 82 48 (gI (sI u 82 47 (1 : Int32)) 82 13)) 82 0)) 82 50 (gI (sI (sI (sI u 82 47 (1 : Int32)) 82 48 (gI (sI u 82 47 (1 : Int32)) 82 13)) 82 49 (gI (sI (sI u 82 47 (1 : Int32)) 82 48 (gI (sI u 82 47 (1 : Int32)) 82 13)) 82 0)) 82 1)) 82 51 (gI (sI (sI (sI (sI u 82 47 (1 : Int32)) 82 48 (gI (sI u 82 47 (1 : Int32)) 82 13)) 82 49 (gI (sI (sI u 82 47 (1 : Int32)) 82 48 (gI (sI u 82 47 (1 : Int32)) 82 13)) 82 0)) 82 50 (gI (sI (sI (sI u 82 47 (1 : Int32)) 82 48 (gI (sI u 82 47 (1 : Int32)) 82 13)) 82 49 (gI (sI (sI u 82 47 (1 : Int32)) 82 48 (gI (sI u 82 47 (1 : Int32)) 82 13)) 82 0)) 82 1)) 82 2)) 82 3)) 82 4)) 82 54 (gI (sI (sI (sI (sI (sI (sI (sI u 82 47 (1 : Int32)) 82 48 (gI (sI u 82 47 (1 : Int32)) 82 13)) 82 49 (gI (sI (sI u 82 47 (1 : Int32)) 82 48 (gI (sI u 82 47 (1 : Int32)) 82 13)) 82 0)) 82 50 (gI (sI (sI (sI u 82 47 (1 : Int32)) 82 48 (gI (sI u 82 47 (1 : Int32)) 82 13)) 82 49 (gI (sI (sI u 82 47 (1 : Int32)) 82 48 (gI (sI u 82 47 (1 : Int32)) 82 13)) 82 0)) 82 1)) 82 51 (gI (sI (sI (sI (sI u 82 47 (1 : Int32)) 82 48 (gI (sI u 82 47 (1 : Int32)) 82 13)) 82 49 (gI (sI (sI u 82 47 (1 : Int32)) 82 48 (gI (sI u 82 47 (1 : Int32)) 82 13)) 82 0)) 82 50 (gI (sI (sI (sI u 82 47 (1 : Int32)) 82 48 (gI (sI u 82 47 (1 : Int32)) 82 13)) 82 49 (gI (sI (sI u 82 47 (1 : Int32)) 82 48 (gI (sI u 82 47 (1 : Int32)) 82 13)) 82 0)) 82 1)) 82 2)) 82 52 (gI (sI (sI (sI (sI (sI u 82 47 (1 : Int32)) 82 48 (gI (sI u 82 47 (1 : Int32)) 82 13)) 82 49 (gI (sI (sI u 82 47 (1 : Int32)) 82 48 (gI (sI u 82 47 (1 : Int32)) 82 13)) 82 0)) 82 50 (gI (sI (sI (sI u 82 47 (1 : Int32)) 82 48 (gI (sI u 82 47 (1 : Int32)) 82 13)) 82 49 (gI (sI (sI u 82 47 (1 : Int32)) 82 48 (gI (sI u 82 47 (1 : Int32)) 82 13)) 82 0)) 82 1)) 82 51 (gI (sI (sI (sI (sI u 82 47 (1 : Int32)) 82 48 (gI (sI u 82 47 (1 : Int32)) 82 13)) 82 49 (gI (sI (sI u 82 47 (1 : Int32)) 82 48 (gI (sI u 82 47 (1 : Int32)) 82 13)) 82 0)) 82 50 (gI (sI (sI (sI u 82 47 (1 : Int32)) 82 48 (gI (sI u 82 47 (1 : Int32)) 82 13)) 82 49 (gI (sI (sI u 82 47 (1 : Int32)) 82 48 (gI (sI u 82 47 (1 : Int32)) 82 13)) 82 0)) 82 1)) 82 2)) 82 3)) 82 53 (gI (sI (sI (sI (sI (sI (sI u 82 47 (1 : Int32)) 82 48 (gI (sI u 82 47 (1 : Int32)) 82 13)) 82 49 (gI (sI (sI u 82 47 (1 : Int32)) 82 48 (gI (sI u 82 47 (1 : Int32)) 82 13)) 82 0)) 82 50 (gI (sI (sI (sI u 82 47 (1 : Int32)) 82 48 (gI (sI u 82 47 (1 : Int32)) 82 13)) 82 49 (gI (sI (sI u 82 47 (1 : Int32)) 82 48 (gI (sI u 82 47 (1 : Int32)) 82 13)) 82 0)) 82 1)) 82 51 (gI (sI (sI (sI (sI u 82 47 (1 : Int32)) 82 48 (gI (sI u 82 47 (1 : Int32)) 82 13)) 82 49 (gI (sI (sI u 82 47 (1 : Int32)) 82 48 (gI (sI u 82 47 (1 : Int32)) 82 13)) 82 0)) 82 50 (gI (sI (sI (sI u 82 47 (1 : Int32)) 82 48 (gI (sI u 82 47 (1 : Int32)) 82 13)) 82 49 (gI (sI (sI u 82 47 (1 : Int32)) 82 48 (gI (sI u 82 47 (1 : Int32)) 82 13)) 82 0)) 82 1)) 82 2)) 82 52 (gI (sI (sI (sI (sI (sI u 82 47 (1 : Int32)) 82 48 (gI (sI u 82 47 (1 : Int32)) 82 13)) 82 49 (gI (sI (sI u 82 47 (1 : Int32)) 82 48 (gI (sI u 82 47 (1 : Int32)) 82 13)) 82 0)) 82 50 (gI (sI (sI (sI u 82 47 (1 : Int32)) 82 48 (gI (sI u 82 47 (1 : Int32)) 82 13)) 82 49 (gI (sI (sI u 82 47 (1 : Int32)) 82 48 (gI (sI u 82 47 (1 : Int32)) 82 13)) 82 0)) 82 1)) 82 51 (gI (sI (sI (sI (sI u 82 47 (1 : Int32)) 82 48 (gI (sI u 82 47 (1 : Int32)) 82 13)) 82 49 (gI (sI (sI u 82 47 (1 : Int32)) 82 48 (gI (sI u 82 47 (1 : Int32)) 82 13)) 82 0)) 82 50 (gI (sI (sI (sI u 82 47 (1 : Int32)) 82 48 (gI (sI u 82 47 (1 : Int32)) 82 13)) 82 49 (gI (sI (sI u 82 47 (1 : Int32)) 82 48 (gI (sI u 82 47 (1 : Int32)) 82 13)) 82 0)) 82 1)) 82 2)) 82 3)) 82 4)) 82 37)) 82 41)) 82 42))
set_option maxHeartbeats 4000000 in
set_option maxRecDepth 100000 in
theorem k_X8_image (l : Launch) (D : gDt) (base : Nat) (Z : gZt) (u : Mem) (r : Int32) (u' : Mem) (hf : f_X8_image u = some (r, u')) : Met l yX8_image (gws yX8_image cX8_image 2 (some .int)) (gRm 1 0 0) (gPc D base Z u [.ref (base + 82)]) (gQi D base r u') 0 0 (gF base) := by
  refine Met.ofW (cc := cX8_image) (maxL := 2) (ret := some .int) (by decide) rfl ?_
  intro p e s m args below meth c s₁ B hml hv
  obtain ⟨rfl, C0, hG⟩ := g_enter B hml hv
  have hr := B.returns
  have C0 : gC p s m meth c _ cX8_image 2 RX8 D base Z := C0
  have hx := C0.1
  have hb := C0.2.1
  have hl := lv_entry ([.ref (base + 82)]) (n := 2) (Nat.le_of_ble_eq_true rfl)
  rw [lg_entry_eq]
  generalize (lg_sl ([.ref (base + 82)]) ++ List.replicate (2 - (lg_sl ([.ref (base + 82)])).length) Slot.unset).toArray = ls at hl ⊢
  have hl : lv_has ls 2 [(0, .ref (base + 82))] := hl
  obtain ⟨Q, hQ⟩ : ∃ Q, Q = MQ below (gQi D base r u') ([.ref (base + 82)] : List Value).toArray s 0 0 (gF base) := ⟨_, rfl⟩
  rw [← hQ]
  change W p l e (gRm 1 0 0) s m _ below meth c _ _ _ _ _ _
  unfold f_X8_image at hf
  refine lv_aload_n hx hb dX8_image_0 rfl (lv_at hl 0 rfl) ?_
  refine lv_iconst (v := (1 : Int32)) hx hb dX8_image_1 (by decide) ?_
  refine g_putI (ty := .boolean) C0 hG (L82 hG) rfl 47 (by decide) rfl w_893 rfl (by decide) (by decide) rfl dX8_image_2 (fun H locs hG => ?_)
  refine lv_aload_n hx hb dX8_image_5 rfl (lv_at hl 0 rfl) ?_
  refine lv_aload_n hx hb dX8_image_6 rfl (lv_at hl 0 rfl) ?_
  refine g_getI C0 hG (L82 hG) rfl 13 (by decide) rfl w_859 dX8_image_7 ?_
  refine g_putI (ty := .int) C0 hG (L82 hG) rfl 48 (by decide) rfl w_894 rfl (by decide) rfl rfl dX8_image_10 (fun H locs hG => ?_)
  refine lv_aload_n hx hb dX8_image_13 rfl (lv_at hl 0 rfl) ?_
  refine lv_aload_n hx hb dX8_image_14 rfl (lv_at hl 0 rfl) ?_
  refine g_getI C0 hG (L82 hG) rfl 0 (by decide) rfl w_846 dX8_image_15 ?_
  refine g_putI (ty := .int) C0 hG (L82 hG) rfl 49 (by decide) rfl w_895 rfl (by decide) rfl rfl dX8_image_18 (fun H locs hG => ?_)
  refine lv_aload_n hx hb dX8_image_21 rfl (lv_at hl 0 rfl) ?_
  refine lv_aload_n hx hb dX8_image_22 rfl (lv_at hl 0 rfl) ?_
  refine g_getI C0 hG (L82 hG) rfl 1 (by decide) rfl w_847 dX8_image_23 ?_
  refine g_putI (ty := .int) C0 hG (L82 hG) rfl 50 (by decide) rfl w_896 rfl (by decide) rfl rfl dX8_image_26 (fun H locs hG => ?_)
  refine lv_aload_n hx hb dX8_image_29 rfl (lv_at hl 0 rfl) ?_
  refine lv_aload_n hx hb dX8_image_30 rfl (lv_at hl 0 rfl) ?_
  refine g_getI C0 hG (L82 hG) rfl 2 (by decide) rfl w_848 dX8_image_31 ?_
  refine g_putI (ty := .int) C0 hG (L82 hG) rfl 51 (by decide) rfl w_897 rfl (by decide) rfl rfl dX8_image_34 (fun H locs hG => ?_)
  refine lv_aload_n hx hb dX8_image_37 rfl (lv_at hl 0 rfl) ?_
  refine lv_aload_n hx hb dX8_image_38 rfl (lv_at hl 0 rfl) ?_
  refine g_getI C0 hG (L82 hG) rfl 3 (by decide) rfl w_849 dX8_image_39 ?_
  refine g_putI (ty := .int) C0 hG (L82 hG) rfl 52 (by decide) rfl w_898 rfl (by decide) rfl rfl dX8_image_42 (fun H locs hG => ?_)
  refine lv_aload_n hx hb dX8_image_45 rfl (lv_at hl 0 rfl) ?_
  refine lv_aload_n hx hb dX8_image_46 rfl (lv_at hl 0 rfl) ?_
  refine g_getI C0 hG (L82 hG) rfl 4 (by decide) rfl w_850 dX8_image_47 ?_
  refine g_putI (ty := .int) C0 hG (L82 hG) rfl 53 (by decide) rfl w_899 rfl (by decide) rfl rfl dX8_image_50 (fun H locs hG => ?_)
  refine lv_aload_n hx hb dX8_image_53 rfl (lv_at hl 0 rfl) ?_
  refine lv_aload_n hx hb dX8_image_54 rfl (lv_at hl 0 rfl) ?_
  refine g_getI C0 hG (L82 hG) rfl 37 (by decide) rfl w_883 dX8_image_55 ?_
  refine g_putI (ty := .int) C0 hG (L82 hG) rfl 54 (by decide) rfl w_900 rfl (by decide) rfl rfl dX8_image_58 (fun H locs hG => ?_)
  refine lv_aload_n hx hb dX8_image_61 rfl (lv_at hl 0 rfl) ?_
  refine lv_aload_n hx hb dX8_image_62 rfl (lv_at hl 0 rfl) ?_
  refine g_getI C0 hG (L82 hG) rfl 41 (by decide) rfl w_887 dX8_image_63 ?_
  refine g_putI (ty := .int) C0 hG (L82 hG) rfl 55 (by decide) rfl w_901 rfl (by decide) rfl rfl dX8_image_66 (fun H locs hG => ?_)
  refine lv_aload_n hx hb dX8_image_69 rfl (lv_at hl 0 rfl) ?_
  refine lv_aload_n hx hb dX8_image_70 rfl (lv_at hl 0 rfl) ?_
  refine g_getI C0 hG (L82 hG) rfl 42 (by decide) rfl w_888 dX8_image_71 ?_
  refine g_putI (ty := .int) C0 hG (L82 hG) rfl 56 (by decide) rfl w_902 rfl (by decide) rfl rfl dX8_image_74 (fun H locs hG => ?_)
  refine lv_iconst (v := (0 : Int32)) hx hb dX8_image_77 (by decide) ?_
  refine lv_istore_n (lv' := [(1, .int (0 : Int32)), (0, .ref (base + 82))]) hx hb dX8_image_78 rfl hl (by decide) rfl (fun ls hl => ?_)
  have loop1 : ∀ (n1 : Nat) (x1_1 : Int32) (u1 : Mem) (H : Heap) (locs : List Loc) (ls : Array Slot), gH D base s u1 H locs → lv_has ls 2 [(0, .ref (base + 82)), (1, .int x1_1)] → whileO (fun s => f_X8_image_L79 s.1 s.2) n1 (x1_1, u1) = some (r, u') → W p l e (gRm 1 0 0) s m ([.ref (base + 82)] : List Value).toArray below meth c H locs 0 0 Q (F0 m 79 ls []) := by
    intro n1
    induction n1 with
    | zero => intro x1_1 u1 H locs ls hG hl hf; cases hf
    | succ n1 ih1 =>
      intro x1_1 u1 H locs ls hG hl hf
      obtain ⟨X1, hf, hX1⟩ := while_s hf
      have hf : f_X8_image_L79 x1_1 u1 = some X1 := hf
      unfold f_X8_image_L79 at hf
      refine lv_iload_n hx hb dX8_image_79 rfl (lv_at hl 1 rfl) ?_
      refine lv_bipush (v := (6 : Int32)) hx hb dX8_image_80 (by decide) ?_
      refine lv_icmp_ge (tgt := 139) hx hb dX8_image_82 (by decide) (fun c2 => ?_) (fun c2 => ?_)
      · have hf := gif_t c2 hf
        refine lv_iconst (v := (0 : Int32)) hx hb dX8_image_139 (by decide) ?_
        refine lv_istore_n (lv' := [(1, .int (0 : Int32)), (0, .ref (base + 82))]) hx hb dX8_image_140 rfl hl (by decide) rfl (fun ls hl => ?_)
        have loop3 : ∀ (n3 : Nat) (x1_3 : Int32) (u3 : Mem) (H : Heap) (locs : List Loc) (ls : Array Slot), gH D base s u3 H locs → lv_has ls 2 [(0, .ref (base + 82)), (1, .int x1_3)] → whileO (fun s => f_X8_image_L141 s.1 s.2) n3 (x1_3, u3) = some X1 → W p l e (gRm 1 0 0) s m ([.ref (base + 82)] : List Value).toArray below meth c H locs 0 0 Q (F0 m 141 ls []) := by
          intro n3
          induction n3 with
          | zero => intro x1_3 u3 H locs ls hG hl hf; cases hf
          | succ n3 ih3 =>
            intro x1_3 u3 H locs ls hG hl hf
            obtain ⟨X3, hf, hX3⟩ := while_s hf
            have hf : f_X8_image_L141 x1_3 u3 = some X3 := hf
            unfold f_X8_image_L141 at hf
            refine lv_iload_n hx hb dX8_image_141 rfl (lv_at hl 1 rfl) ?_
            refine lv_bipush (v := (24 : Int32)) hx hb dX8_image_142 (by decide) ?_
            refine lv_icmp_ge (tgt := 165) hx hb dX8_image_144 (by decide) (fun c4 => ?_) (fun c4 => ?_)
            · have hf := gif_t c4 hf
              refine lv_iconst (v := (0 : Int32)) hx hb dX8_image_165 (by decide) ?_
              refine lv_istore_n (lv' := [(1, .int (0 : Int32)), (0, .ref (base + 82))]) hx hb dX8_image_166 rfl hl (by decide) rfl (fun ls hl => ?_)
              have loop5 : ∀ (n5 : Nat) (x1_5 : Int32) (u5 : Mem) (H : Heap) (locs : List Loc) (ls : Array Slot), gH D base s u5 H locs → lv_has ls 2 [(0, .ref (base + 82)), (1, .int x1_5)] → whileO (fun s => f_X8_image_L167 s.1 s.2) n5 (x1_5, u5) = some X3 → W p l e (gRm 1 0 0) s m ([.ref (base + 82)] : List Value).toArray below meth c H locs 0 0 Q (F0 m 167 ls []) := by
                intro n5
                induction n5 with
                | zero => intro x1_5 u5 H locs ls hG hl hf; cases hf
                | succ n5 ih5 =>
                  intro x1_5 u5 H locs ls hG hl hf
                  obtain ⟨X5, hf, hX5⟩ := while_s hf
                  have hf : f_X8_image_L167 x1_5 u5 = some X5 := hf
                  unfold f_X8_image_L167 at hf
                  refine lv_iload_n hx hb dX8_image_167 rfl (lv_at hl 1 rfl) ?_
                  refine lv_iconst (v := (5 : Int32)) hx hb dX8_image_168 (by decide) ?_
                  refine lv_icmp_ge (tgt := 214) hx hb dX8_image_169 (by decide) (fun c6 => ?_) (fun c6 => ?_)
                  · have hf := gif_t c6 hf
                    refine lv_iconst (v := (0 : Int32)) hx hb dX8_image_214 (by decide) ?_
                    refine lv_istore_n (lv' := [(1, .int (0 : Int32)), (0, .ref (base + 82))]) hx hb dX8_image_215 rfl hl (by decide) rfl (fun ls hl => ?_)
                    have loop7 : ∀ (n7 : Nat) (x1_7 : Int32) (u7 : Mem) (H : Heap) (locs : List Loc) (ls : Array Slot), gH D base s u7 H locs → lv_has ls 2 [(0, .ref (base + 82)), (1, .int x1_7)] → whileO (fun s => f_X8_image_L216 s.1 s.2) n7 (x1_7, u7) = some X5 → W p l e (gRm 1 0 0) s m ([.ref (base + 82)] : List Value).toArray below meth c H locs 0 0 Q (F0 m 216 ls []) := by
                      intro n7
                      induction n7 with
                      | zero => intro x1_7 u7 H locs ls hG hl hf; cases hf
                      | succ n7 ih7 =>
                        intro x1_7 u7 H locs ls hG hl hf
                        obtain ⟨X7, hf, hX7⟩ := while_s hf
                        have hf : f_X8_image_L216 x1_7 u7 = some X7 := hf
                        unfold f_X8_image_L216 at hf
                        refine lv_iload_n hx hb dX8_image_216 rfl (lv_at hl 1 rfl) ?_
                        refine lv_bipush (v := (10 : Int32)) hx hb dX8_image_217 (by decide) ?_
                        refine lv_icmp_ge (tgt := 252) hx hb dX8_image_219 (by decide) (fun c8 => ?_) (fun c8 => ?_)
                        · have hf := gif_t c8 hf
                          refine lv_iconst (v := (0 : Int32)) hx hb dX8_image_252 (by decide) ?_
                          refine lv_istore_n (lv' := [(1, .int (0 : Int32)), (0, .ref (base + 82))]) hx hb dX8_image_253 rfl hl (by decide) rfl (fun ls hl => ?_)
                          have loop9 : ∀ (n9 : Nat) (x1_9 : Int32) (u9 : Mem) (H : Heap) (locs : List Loc) (ls : Array Slot), gH D base s u9 H locs → lv_has ls 2 [(0, .ref (base + 82)), (1, .int x1_9)] → whileO (fun s => f_X8_image_L254 s.1 s.2) n9 (x1_9, u9) = some X7 → W p l e (gRm 1 0 0) s m ([.ref (base + 82)] : List Value).toArray below meth c H locs 0 0 Q (F0 m 254 ls []) := by
                            intro n9
                            induction n9 with
                            | zero => intro x1_9 u9 H locs ls hG hl hf; cases hf
                            | succ n9 ih9 =>
                              intro x1_9 u9 H locs ls hG hl hf
                              obtain ⟨X9, hf, hX9⟩ := while_s hf
                              have hf : f_X8_image_L254 x1_9 u9 = some X9 := hf
                              unfold f_X8_image_L254 at hf
                              refine lv_iload_n hx hb dX8_image_254 rfl (lv_at hl 1 rfl) ?_
                              refine lv_bipush (v := (8 : Int32)) hx hb dX8_image_255 (by decide) ?_
                              refine lv_icmp_ge (tgt := 314) hx hb dX8_image_257 (by decide) (fun c10 => ?_) (fun c10 => ?_)
                              · have hf := gif_t c10 hf
                                refine lv_aload_n hx hb dX8_image_314 rfl (lv_at hl 0 rfl) ?_
                                refine g_getI C0 hG (L82 hG) rfl 0 (by decide) rfl w_846 dX8_image_315 ?_
                                have hf := while_r hX9 hf
                                have hf := while_r hX7 hf
                                have hf := while_r hX5 hf
                                have hf := while_r hX3 hf
                                have hf := while_r hX1 hf
                                obtain ⟨hr1, hu⟩ := gret_s hf
                                subst hr1
                                subst hu
                                subst hQ
                                exact g_iret C0 hG hr dX8_image_318
                              · have hf := gif_f c10 hf
                                refine lv_aload_n hx hb dX8_image_260 rfl (lv_at hl 0 rfl) ?_
                                refine g_getSa (o := 33) (a := 115) C0 hG (L82 hG) rfl 62 (by decide) rfl rfl w_908 dX8_image_261 ?_
                                refine lv_iload_n hx hb dX8_image_264 rfl (lv_at hl 1 rfl) ?_
                                refine lv_aload_n hx hb dX8_image_265 rfl (lv_at hl 0 rfl) ?_
                                refine g_getSa (o := 7) (a := 89) C0 hG (L82 hG) rfl 11 (by decide) rfl rfl w_857 dX8_image_266 ?_
                                refine lv_iload_n hx hb dX8_image_269 rfl (lv_at hl 1 rfl) ?_
                                obtain ⟨h11, hf⟩ := gin_s hf
                                refine g_iald C0 hG (L89 hG) h11 dX8_image_270 ?_
                                obtain ⟨h12, hf⟩ := gin_s hf
                                refine g_iast C0 hG (L115 hG) h12 dX8_image_271 (fun H locs hG => ?_)
                                refine lv_aload_n hx hb dX8_image_272 rfl (lv_at hl 0 rfl) ?_
                                refine g_getSa (o := 34) (a := 116) C0 hG (L82 hG) rfl 63 (by decide) rfl rfl w_909 dX8_image_273 ?_
                                refine lv_iload_n hx hb dX8_image_276 rfl (lv_at hl 1 rfl) ?_
                                refine lv_aload_n hx hb dX8_image_277 rfl (lv_at hl 0 rfl) ?_
                                refine g_getSa (o := 6) (a := 88) C0 hG (L82 hG) rfl 10 (by decide) rfl rfl w_856 dX8_image_278 ?_
                                refine lv_iload_n hx hb dX8_image_281 rfl (lv_at hl 1 rfl) ?_
                                obtain ⟨h13, hf⟩ := gin_s hf
                                refine g_iald C0 hG (L88 hG) h13 dX8_image_282 ?_
                                obtain ⟨h14, hf⟩ := gin_s hf
                                refine g_iast C0 hG (L116 hG) h14 dX8_image_283 (fun H locs hG => ?_)
                                refine lv_aload_n hx hb dX8_image_284 rfl (lv_at hl 0 rfl) ?_
                                refine g_getSa (o := 40) (a := 122) C0 hG (L82 hG) rfl 69 (by decide) rfl rfl w_915 dX8_image_285 ?_
                                refine lv_iload_n hx hb dX8_image_288 rfl (lv_at hl 1 rfl) ?_
                                refine lv_aload_n hx hb dX8_image_289 rfl (lv_at hl 0 rfl) ?_
                                refine g_getSa (o := 26) (a := 108) C0 hG (L82 hG) rfl 45 (by decide) rfl rfl w_891 dX8_image_290 ?_
                                refine lv_iload_n hx hb dX8_image_293 rfl (lv_at hl 1 rfl) ?_
                                obtain ⟨h15, hf⟩ := gin_s hf
                                refine g_iald C0 hG (L108 hG) h15 dX8_image_294 ?_
                                obtain ⟨h16, hf⟩ := gin_s hf
                                refine g_iast C0 hG (L122 hG) h16 dX8_image_295 (fun H locs hG => ?_)
                                refine lv_aload_n hx hb dX8_image_296 rfl (lv_at hl 0 rfl) ?_
                                refine g_getSa (o := 41) (a := 123) C0 hG (L82 hG) rfl 70 (by decide) rfl rfl w_916 dX8_image_297 ?_
                                refine lv_iload_n hx hb dX8_image_300 rfl (lv_at hl 1 rfl) ?_
                                refine lv_aload_n hx hb dX8_image_301 rfl (lv_at hl 0 rfl) ?_
                                refine g_getSa (o := 27) (a := 109) C0 hG (L82 hG) rfl 46 (by decide) rfl rfl w_892 dX8_image_302 ?_
                                refine lv_iload_n hx hb dX8_image_305 rfl (lv_at hl 1 rfl) ?_
                                obtain ⟨h17, hf⟩ := gin_s hf
                                refine g_iald C0 hG (L109 hG) h17 dX8_image_306 ?_
                                obtain ⟨h18, hf⟩ := gin_s hf
                                refine g_iast C0 hG (L123 hG) h18 dX8_image_307 (fun H locs hG => ?_)
                                refine lv_iinc (v := x1_9 + (1 : Int32)) (lv' := [(1, .int (x1_9 + (1 : Int32))), (0, .ref (base + 82))]) hx hb dX8_image_308 hl (k := 1) rfl rfl (by decide) rfl (fun ls hl => ?_)
                                refine lv_goto (tgt := 254) hx hb dX8_image_311 (by decide) ?_
                                have hf := while_l hX9 hf
                                exact ih9 (x1_9 + (1 : Int32)) (sA (sA (sA (sA u9 115 x1_9.toNatClampNeg (gA u9 89 x1_9.toNatClampNeg)) 116 x1_9.toNatClampNeg (gA (sA u9 115 x1_9.toNatClampNeg (gA u9 89 x1_9.toNatClampNeg)) 88 x1_9.toNatClampNeg)) 122 x1_9.toNatClampNeg (gA (sA (sA u9 115 x1_9.toNatClampNeg (gA u9 89 x1_9.toNatClampNeg)) 116 x1_9.toNatClampNeg (gA (sA u9 115 x1_9.toNatClampNeg (gA u9 89 x1_9.toNatClampNeg)) 88 x1_9.toNatClampNeg)) 108 x1_9.toNatClampNeg)) 123 x1_9.toNatClampNeg (gA (sA (sA (sA u9 115 x1_9.toNatClampNeg (gA u9 89 x1_9.toNatClampNeg)) 116 x1_9.toNatClampNeg (gA (sA u9 115 x1_9.toNatClampNeg (gA u9 89 x1_9.toNatClampNeg)) 88 x1_9.toNatClampNeg)) 122 x1_9.toNatClampNeg (gA (sA (sA u9 115 x1_9.toNatClampNeg (gA u9 89 x1_9.toNatClampNeg)) 116 x1_9.toNatClampNeg (gA (sA u9 115 x1_9.toNatClampNeg (gA u9 89 x1_9.toNatClampNeg)) 88 x1_9.toNatClampNeg)) 108 x1_9.toNatClampNeg)) 109 x1_9.toNatClampNeg)) _ _ ls hG (lv_sub hl [1, 0] rfl) hf
                          exact loop9 FUEL (0 : Int32) u7 _ _ ls hG (lv_sub hl [1, 0] rfl) hf
                        · have hf := gif_f c8 hf
                          refine lv_aload_n hx hb dX8_image_222 rfl (lv_at hl 0 rfl) ?_
                          refine g_getSa (o := 38) (a := 120) C0 hG (L82 hG) rfl 67 (by decide) rfl rfl w_913 dX8_image_223 ?_
                          refine lv_iload_n hx hb dX8_image_226 rfl (lv_at hl 1 rfl) ?_
                          refine lv_aload_n hx hb dX8_image_227 rfl (lv_at hl 0 rfl) ?_
                          refine g_getSa (o := 24) (a := 106) C0 hG (L82 hG) rfl 43 (by decide) rfl rfl w_889 dX8_image_228 ?_
                          refine lv_iload_n hx hb dX8_image_231 rfl (lv_at hl 1 rfl) ?_
                          obtain ⟨h19, hf⟩ := gin_s hf
                          refine g_iald C0 hG (L106 hG) h19 dX8_image_232 ?_
                          obtain ⟨h20, hf⟩ := gin_s hf
                          refine g_iast C0 hG (L120 hG) h20 dX8_image_233 (fun H locs hG => ?_)
                          refine lv_aload_n hx hb dX8_image_234 rfl (lv_at hl 0 rfl) ?_
                          refine g_getSa (o := 39) (a := 121) C0 hG (L82 hG) rfl 68 (by decide) rfl rfl w_914 dX8_image_235 ?_
                          refine lv_iload_n hx hb dX8_image_238 rfl (lv_at hl 1 rfl) ?_
                          refine lv_aload_n hx hb dX8_image_239 rfl (lv_at hl 0 rfl) ?_
                          refine g_getSa (o := 25) (a := 107) C0 hG (L82 hG) rfl 44 (by decide) rfl rfl w_890 dX8_image_240 ?_
                          refine lv_iload_n hx hb dX8_image_243 rfl (lv_at hl 1 rfl) ?_
                          obtain ⟨h21, hf⟩ := gin_s hf
                          refine g_iald C0 hG (L107 hG) h21 dX8_image_244 ?_
                          obtain ⟨h22, hf⟩ := gin_s hf
                          refine g_iast C0 hG (L121 hG) h22 dX8_image_245 (fun H locs hG => ?_)
                          refine lv_iinc (v := x1_7 + (1 : Int32)) (lv' := [(1, .int (x1_7 + (1 : Int32))), (0, .ref (base + 82))]) hx hb dX8_image_246 hl (k := 1) rfl rfl (by decide) rfl (fun ls hl => ?_)
                          refine lv_goto (tgt := 216) hx hb dX8_image_249 (by decide) ?_
                          have hf := while_l hX7 hf
                          exact ih7 (x1_7 + (1 : Int32)) (sA (sA u7 120 x1_7.toNatClampNeg (gA u7 106 x1_7.toNatClampNeg)) 121 x1_7.toNatClampNeg (gA (sA u7 120 x1_7.toNatClampNeg (gA u7 106 x1_7.toNatClampNeg)) 107 x1_7.toNatClampNeg)) _ _ ls hG (lv_sub hl [1, 0] rfl) hf
                    exact loop7 FUEL (0 : Int32) u5 _ _ ls hG (lv_sub hl [1, 0] rfl) hf
                  · have hf := gif_f c6 hf
                    refine lv_aload_n hx hb dX8_image_172 rfl (lv_at hl 0 rfl) ?_
                    refine g_getSa (o := 35) (a := 117) C0 hG (L82 hG) rfl 64 (by decide) rfl rfl w_910 dX8_image_173 ?_
                    refine lv_iload_n hx hb dX8_image_176 rfl (lv_at hl 1 rfl) ?_
                    refine lv_aload_n hx hb dX8_image_177 rfl (lv_at hl 0 rfl) ?_
                    refine g_getSa (o := 21) (a := 103) C0 hG (L82 hG) rfl 38 (by decide) rfl rfl w_884 dX8_image_178 ?_
                    refine lv_iload_n hx hb dX8_image_181 rfl (lv_at hl 1 rfl) ?_
                    obtain ⟨h23, hf⟩ := gin_s hf
                    refine g_iald C0 hG (L103 hG) h23 dX8_image_182 ?_
                    obtain ⟨h24, hf⟩ := gin_s hf
                    refine g_iast C0 hG (L117 hG) h24 dX8_image_183 (fun H locs hG => ?_)
                    refine lv_aload_n hx hb dX8_image_184 rfl (lv_at hl 0 rfl) ?_
                    refine g_getSa (o := 36) (a := 118) C0 hG (L82 hG) rfl 65 (by decide) rfl rfl w_911 dX8_image_185 ?_
                    refine lv_iload_n hx hb dX8_image_188 rfl (lv_at hl 1 rfl) ?_
                    refine lv_aload_n hx hb dX8_image_189 rfl (lv_at hl 0 rfl) ?_
                    refine g_getSa (o := 22) (a := 104) C0 hG (L82 hG) rfl 39 (by decide) rfl rfl w_885 dX8_image_190 ?_
                    refine lv_iload_n hx hb dX8_image_193 rfl (lv_at hl 1 rfl) ?_
                    obtain ⟨h25, hf⟩ := gin_s hf
                    refine g_iald C0 hG (L104 hG) h25 dX8_image_194 ?_
                    obtain ⟨h26, hf⟩ := gin_s hf
                    refine g_iast C0 hG (L118 hG) h26 dX8_image_195 (fun H locs hG => ?_)
                    refine lv_aload_n hx hb dX8_image_196 rfl (lv_at hl 0 rfl) ?_
                    refine g_getSa (o := 37) (a := 119) C0 hG (L82 hG) rfl 66 (by decide) rfl rfl w_912 dX8_image_197 ?_
                    refine lv_iload_n hx hb dX8_image_200 rfl (lv_at hl 1 rfl) ?_
                    refine lv_aload_n hx hb dX8_image_201 rfl (lv_at hl 0 rfl) ?_
                    refine g_getSa (o := 23) (a := 105) C0 hG (L82 hG) rfl 40 (by decide) rfl rfl w_886 dX8_image_202 ?_
                    refine lv_iload_n hx hb dX8_image_205 rfl (lv_at hl 1 rfl) ?_
                    obtain ⟨h27, hf⟩ := gin_s hf
                    refine g_iald C0 hG (L105 hG) h27 dX8_image_206 ?_
                    obtain ⟨h28, hf⟩ := gin_s hf
                    refine g_iast C0 hG (L119 hG) h28 dX8_image_207 (fun H locs hG => ?_)
                    refine lv_iinc (v := x1_5 + (1 : Int32)) (lv' := [(1, .int (x1_5 + (1 : Int32))), (0, .ref (base + 82))]) hx hb dX8_image_208 hl (k := 1) rfl rfl (by decide) rfl (fun ls hl => ?_)
                    refine lv_goto (tgt := 167) hx hb dX8_image_211 (by decide) ?_
                    have hf := while_l hX5 hf
                    exact ih5 (x1_5 + (1 : Int32)) (sA (sA (sA u5 117 x1_5.toNatClampNeg (gA u5 103 x1_5.toNatClampNeg)) 118 x1_5.toNatClampNeg (gA (sA u5 117 x1_5.toNatClampNeg (gA u5 103 x1_5.toNatClampNeg)) 104 x1_5.toNatClampNeg)) 119 x1_5.toNatClampNeg (gA (sA (sA u5 117 x1_5.toNatClampNeg (gA u5 103 x1_5.toNatClampNeg)) 118 x1_5.toNatClampNeg (gA (sA u5 117 x1_5.toNatClampNeg (gA u5 103 x1_5.toNatClampNeg)) 104 x1_5.toNatClampNeg)) 105 x1_5.toNatClampNeg)) _ _ ls hG (lv_sub hl [1, 0] rfl) hf
              exact loop5 FUEL (0 : Int32) u3 _ _ ls hG (lv_sub hl [1, 0] rfl) hf
            · have hf := gif_f c4 hf
              refine lv_aload_n hx hb dX8_image_147 rfl (lv_at hl 0 rfl) ?_
              refine g_getSa (o := 32) (a := 114) C0 hG (L82 hG) rfl 61 (by decide) rfl rfl w_907 dX8_image_148 ?_
              refine lv_iload_n hx hb dX8_image_151 rfl (lv_at hl 1 rfl) ?_
              refine lv_aload_n hx hb dX8_image_152 rfl (lv_at hl 0 rfl) ?_
              refine g_getSa (o := 5) (a := 87) C0 hG (L82 hG) rfl 9 (by decide) rfl rfl w_855 dX8_image_153 ?_
              refine lv_iload_n hx hb dX8_image_156 rfl (lv_at hl 1 rfl) ?_
              obtain ⟨h29, hf⟩ := gin_s hf
              refine g_iald C0 hG (L87 hG) h29 dX8_image_157 ?_
              obtain ⟨h30, hf⟩ := gin_s hf
              refine g_iast C0 hG (L114 hG) h30 dX8_image_158 (fun H locs hG => ?_)
              refine lv_iinc (v := x1_3 + (1 : Int32)) (lv' := [(1, .int (x1_3 + (1 : Int32))), (0, .ref (base + 82))]) hx hb dX8_image_159 hl (k := 1) rfl rfl (by decide) rfl (fun ls hl => ?_)
              refine lv_goto (tgt := 141) hx hb dX8_image_162 (by decide) ?_
              have hf := while_l hX3 hf
              exact ih3 (x1_3 + (1 : Int32)) (sA u3 114 x1_3.toNatClampNeg (gA u3 87 x1_3.toNatClampNeg)) _ _ ls hG (lv_sub hl [1, 0] rfl) hf
        exact loop3 FUEL (0 : Int32) u1 _ _ ls hG (lv_sub hl [1, 0] rfl) hf
      · have hf := gif_f c2 hf
        refine lv_aload_n hx hb dX8_image_85 rfl (lv_at hl 0 rfl) ?_
        refine g_getSa (o := 28) (a := 110) C0 hG (L82 hG) rfl 57 (by decide) rfl rfl w_903 dX8_image_86 ?_
        refine lv_iload_n hx hb dX8_image_89 rfl (lv_at hl 1 rfl) ?_
        refine lv_aload_n hx hb dX8_image_90 rfl (lv_at hl 0 rfl) ?_
        refine g_getSa (o := 1) (a := 83) C0 hG (L82 hG) rfl 5 (by decide) rfl rfl w_851 dX8_image_91 ?_
        refine lv_iload_n hx hb dX8_image_94 rfl (lv_at hl 1 rfl) ?_
        obtain ⟨h31, hf⟩ := gin_s hf
        refine g_iald C0 hG (L83 hG) h31 dX8_image_95 ?_
        obtain ⟨h32, hf⟩ := gin_s hf
        refine g_iast C0 hG (L110 hG) h32 dX8_image_96 (fun H locs hG => ?_)
        refine lv_aload_n hx hb dX8_image_97 rfl (lv_at hl 0 rfl) ?_
        refine g_getSa (o := 29) (a := 111) C0 hG (L82 hG) rfl 58 (by decide) rfl rfl w_904 dX8_image_98 ?_
        refine lv_iload_n hx hb dX8_image_101 rfl (lv_at hl 1 rfl) ?_
        refine lv_aload_n hx hb dX8_image_102 rfl (lv_at hl 0 rfl) ?_
        refine g_getSa (o := 2) (a := 84) C0 hG (L82 hG) rfl 6 (by decide) rfl rfl w_852 dX8_image_103 ?_
        refine lv_iload_n hx hb dX8_image_106 rfl (lv_at hl 1 rfl) ?_
        obtain ⟨h33, hf⟩ := gin_s hf
        refine g_iald C0 hG (L84 hG) h33 dX8_image_107 ?_
        obtain ⟨h34, hf⟩ := gin_s hf
        refine g_iast C0 hG (L111 hG) h34 dX8_image_108 (fun H locs hG => ?_)
        refine lv_aload_n hx hb dX8_image_109 rfl (lv_at hl 0 rfl) ?_
        refine g_getSa (o := 30) (a := 112) C0 hG (L82 hG) rfl 59 (by decide) rfl rfl w_905 dX8_image_110 ?_
        refine lv_iload_n hx hb dX8_image_113 rfl (lv_at hl 1 rfl) ?_
        refine lv_aload_n hx hb dX8_image_114 rfl (lv_at hl 0 rfl) ?_
        refine g_getSa (o := 3) (a := 85) C0 hG (L82 hG) rfl 7 (by decide) rfl rfl w_853 dX8_image_115 ?_
        refine lv_iload_n hx hb dX8_image_118 rfl (lv_at hl 1 rfl) ?_
        obtain ⟨h35, hf⟩ := gin_s hf
        refine g_iald C0 hG (L85 hG) h35 dX8_image_119 ?_
        obtain ⟨h36, hf⟩ := gin_s hf
        refine g_iast C0 hG (L112 hG) h36 dX8_image_120 (fun H locs hG => ?_)
        refine lv_aload_n hx hb dX8_image_121 rfl (lv_at hl 0 rfl) ?_
        refine g_getSa (o := 31) (a := 113) C0 hG (L82 hG) rfl 60 (by decide) rfl rfl w_906 dX8_image_122 ?_
        refine lv_iload_n hx hb dX8_image_125 rfl (lv_at hl 1 rfl) ?_
        refine lv_aload_n hx hb dX8_image_126 rfl (lv_at hl 0 rfl) ?_
        refine g_getSa (o := 4) (a := 86) C0 hG (L82 hG) rfl 8 (by decide) rfl rfl w_854 dX8_image_127 ?_
        refine lv_iload_n hx hb dX8_image_130 rfl (lv_at hl 1 rfl) ?_
        obtain ⟨h37, hf⟩ := gin_s hf
        refine g_iald C0 hG (L86 hG) h37 dX8_image_131 ?_
        obtain ⟨h38, hf⟩ := gin_s hf
        refine g_iast C0 hG (L113 hG) h38 dX8_image_132 (fun H locs hG => ?_)
        refine lv_iinc (v := x1_1 + (1 : Int32)) (lv' := [(1, .int (x1_1 + (1 : Int32))), (0, .ref (base + 82))]) hx hb dX8_image_133 hl (k := 1) rfl rfl (by decide) rfl (fun ls hl => ?_)
        refine lv_goto (tgt := 79) hx hb dX8_image_136 (by decide) ?_
        have hf := while_l hX1 hf
        exact ih1 (x1_1 + (1 : Int32)) (sA (sA (sA (sA u1 110 x1_1.toNatClampNeg (gA u1 83 x1_1.toNatClampNeg)) 111 x1_1.toNatClampNeg (gA (sA u1 110 x1_1.toNatClampNeg (gA u1 83 x1_1.toNatClampNeg)) 84 x1_1.toNatClampNeg)) 112 x1_1.toNatClampNeg (gA (sA (sA u1 110 x1_1.toNatClampNeg (gA u1 83 x1_1.toNatClampNeg)) 111 x1_1.toNatClampNeg (gA (sA u1 110 x1_1.toNatClampNeg (gA u1 83 x1_1.toNatClampNeg)) 84 x1_1.toNatClampNeg)) 85 x1_1.toNatClampNeg)) 113 x1_1.toNatClampNeg (gA (sA (sA (sA u1 110 x1_1.toNatClampNeg (gA u1 83 x1_1.toNatClampNeg)) 111 x1_1.toNatClampNeg (gA (sA u1 110 x1_1.toNatClampNeg (gA u1 83 x1_1.toNatClampNeg)) 84 x1_1.toNatClampNeg)) 112 x1_1.toNatClampNeg (gA (sA (sA u1 110 x1_1.toNatClampNeg (gA u1 83 x1_1.toNatClampNeg)) 111 x1_1.toNatClampNeg (gA (sA u1 110 x1_1.toNatClampNeg (gA u1 83 x1_1.toNatClampNeg)) 84 x1_1.toNatClampNeg)) 85 x1_1.toNatClampNeg)) 86 x1_1.toNatClampNeg)) _ _ ls hG (lv_sub hl [1, 0] rfl) hf
  exact loop1 FUEL (0 : Int32) (sI (sI (sI (sI (sI (sI (sI (sI (sI (sI u 82 47 (1 : Int32)) 82 48 (gI (sI u 82 47 (1 : Int32)) 82 13)) 82 49 (gI (sI (sI u 82 47 (1 : Int32)) 82 48 (gI (sI u 82 47 (1 : Int32)) 82 13)) 82 0)) 82 50 (gI (sI (sI (sI u 82 47 (1 : Int32)) 82 48 (gI (sI u 82 47 (1 : Int32)) 82 13)) 82 49 (gI (sI (sI u 82 47 (1 : Int32)) 82 48 (gI (sI u 82 47 (1 : Int32)) 82 13)) 82 0)) 82 1)) 82 51 (gI (sI (sI (sI (sI u 82 47 (1 : Int32)) 82 48 (gI (sI u 82 47 (1 : Int32)) 82 13)) 82 49 (gI (sI (sI u 82 47 (1 : Int32)) 82 48 (gI (sI u 82 47 (1 : Int32)) 82 13)) 82 0)) 82 50 (gI (sI (sI (sI u 82 47 (1 : Int32)) 82 48 (gI (sI u 82 47 (1 : Int32)) 82 13)) 82 49 (gI (sI (sI u 82 47 (1 : Int32)) 82 48 (gI (sI u 82 47 (1 : Int32)) 82 13)) 82 0)) 82 1)) 82 2)) 82 52 (gI (sI (sI (sI (sI (sI u 82 47 (1 : Int32)) 82 48 (gI (sI u 82 47 (1 : Int32)) 82 13)) 82 49 (gI (sI (sI u 82 47 (1 : Int32)) 82 48 (gI (sI u 82 47 (1 : Int32)) 82 13)) 82 0)) 82 50 (gI (sI (sI (sI u 82 47 (1 : Int32)) 82 48 (gI (sI u 82 47 (1 : Int32)) 82 13)) 82 49 (gI (sI (sI u 82 47 (1 : Int32)) 82 48 (gI (sI u 82 47 (1 : Int32)) 82 13)) 82 0)) 82 1)) 82 51 (gI (sI (sI (sI (sI u 82 47 (1 : Int32)) 82 48 (gI (sI u 82 47 (1 : Int32)) 82 13)) 82 49 (gI (sI (sI u 82 47 (1 : Int32)) 82 48 (gI (sI u 82 47 (1 : Int32)) 82 13)) 82 0)) 82 50 (gI (sI (sI (sI u 82 47 (1 : Int32)) 82 48 (gI (sI u 82 47 (1 : Int32)) 82 13)) 82 49 (gI (sI (sI u 82 47 (1 : Int32)) 82 48 (gI (sI u 82 47 (1 : Int32)) 82 13)) 82 0)) 82 1)) 82 2)) 82 3)) 82 53 (gI (sI (sI (sI (sI (sI (sI u 82 47 (1 : Int32)) 82 48 (gI (sI u 82 47 (1 : Int32)) 82 13)) 82 49 (gI (sI (sI u 82 47 (1 : Int32)) 82 48 (gI (sI u 82 47 (1 : Int32)) 82 13)) 82 0)) 82 50 (gI (sI (sI (sI u 82 47 (1 : Int32)) 82 48 (gI (sI u 82 47 (1 : Int32)) 82 13)) 82 49 (gI (sI (sI u 82 47 (1 : Int32)) 82 48 (gI (sI u 82 47 (1 : Int32)) 82 13)) 82 0)) 82 1)) 82 51 (gI (sI (sI (sI (sI u 82 47 (1 : Int32)) 82 48 (gI (sI u 82 47 (1 : Int32)) 82 13)) 82 49 (gI (sI (sI u 82 47 (1 : Int32)) 82 48 (gI (sI u 82 47 (1 : Int32)) 82 13)) 82 0)) 82 50 (gI (sI (sI (sI u 82 47 (1 : Int32)) 82 48 (gI (sI u 82 47 (1 : Int32)) 82 13)) 82 49 (gI (sI (sI u 82 47 (1 : Int32)) 82 48 (gI (sI u 82 47 (1 : Int32)) 82 13)) 82 0)) 82 1)) 82 2)) 82 52 (gI (sI (sI (sI (sI (sI u 82 47 (1 : Int32)) 82 48 (gI (sI u 82 47 (1 : Int32)) 82 13)) 82 49 (gI (sI (sI u 82 47 (1 : Int32)) 82 48 (gI (sI u 82 47 (1 : Int32)) 82 13)) 82 0)) 82 50 (gI (sI (sI (sI u 82 47 (1 : Int32)) 82 48 (gI (sI u 82 47 (1 : Int32)) 82 13)) 82 49 (gI (sI (sI u 82 47 (1 : Int32)) 82 48 (gI (sI u 82 47 (1 : Int32)) 82 13)) 82 0)) 82 1)) 82 51 (gI (sI (sI (sI (sI u 82 47 (1 : Int32)) 82 48 (gI (sI u 82 47 (1 : Int32)) 82 13)) 82 49 (gI (sI (sI u 82 47 (1 : Int32)) 82 48 (gI (sI u 82 47 (1 : Int32)) 82 13)) 82 0)) 82 50 (gI (sI (sI (sI u 82 47 (1 : Int32)) 82 48 (gI (sI u 82 47 (1 : Int32)) 82 13)) 82 49 (gI (sI (sI u 82 47 (1 : Int32)) 82 48 (gI (sI u 82 47 (1 : Int32)) 82 13)) 82 0)) 82 1)) 82 2)) 82 3)) 82 4)) 82 54 (gI (sI (sI (sI (sI (sI (sI (sI u 82 47 (1 : Int32)) 82 48 (gI (sI u 82 47 (1 : Int32)) 82 13)) 82 49 (gI (sI (sI u 82 47 (1 : Int32)) 82 48 (gI (sI u 82 47 (1 : Int32)) 82 13)) 82 0)) 82 50 (gI (sI (sI (sI u 82 47 (1 : Int32)) 82 48 (gI (sI u 82 47 (1 : Int32)) 82 13)) 82 49 (gI (sI (sI u 82 47 (1 : Int32)) 82 48 (gI (sI u 82 47 (1 : Int32)) 82 13)) 82 0)) 82 1)) 82 51 (gI (sI (sI (sI (sI u 82 47 (1 : Int32)) 82 48 (gI (sI u 82 47 (1 : Int32)) 82 13)) 82 49 (gI (sI (sI u 82 47 (1 : Int32)) 82 48 (gI (sI u 82 47 (1 : Int32)) 82 13)) 82 0)) 82 50 (gI (sI (sI (sI u 82 47 (1 : Int32)) 82 48 (gI (sI u 82 47 (1 : Int32)) 82 13)) 82 49 (gI (sI (sI u 82 47 (1 : Int32)) 82 48 (gI (sI u 82 47 (1 : Int32)) 82 13)) 82 0)) 82 1)) 82 2)) 82 52 (gI (sI (sI (sI (sI (sI u 82 47 (1 : Int32)) 82 48 (gI (sI u 82 47 (1 : Int32)) 82 13)) 82 49 (gI (sI (sI u 82 47 (1 : Int32)) 82 48 (gI (sI u 82 47 (1 : Int32)) 82 13)) 82 0)) 82 50 (gI (sI (sI (sI u 82 47 (1 : Int32)) 82 48 (gI (sI u 82 47 (1 : Int32)) 82 13)) 82 49 (gI (sI (sI u 82 47 (1 : Int32)) 82 48 (gI (sI u 82 47 (1 : Int32)) 82 13)) 82 0)) 82 1)) 82 51 (gI (sI (sI (sI (sI u 82 47 (1 : Int32)) 82 48 (gI (sI u 82 47 (1 : Int32)) 82 13)) 82 49 (gI (sI (sI u 82 47 (1 : Int32)) 82 48 (gI (sI u 82 47 (1 : Int32)) 82 13)) 82 0)) 82 50 (gI (sI (sI (sI u 82 47 (1 : Int32)) 82 48 (gI (sI u 82 47 (1 : Int32)) 82 13)) 82 49 (gI (sI (sI u 82 47 (1 : Int32)) 82 48 (gI (sI u 82 47 (1 : Int32)) 82 13)) 82 0)) 82 1)) 82 2)) 82 3)) 82 53 (gI (sI (sI (sI (sI (sI (sI u 82 47 (1 : Int32)) 82 48 (gI (sI u 82 47 (1 : Int32)) 82 13)) 82 49 (gI (sI (sI u 82 47 (1 : Int32)) 82 48 (gI (sI u 82 47 (1 : Int32)) 82 13)) 82 0)) 82 50 (gI (sI (sI (sI u 82 47 (1 : Int32)) 82 48 (gI (sI u 82 47 (1 : Int32)) 82 13)) 82 49 (gI (sI (sI u 82 47 (1 : Int32)) 82 48 (gI (sI u 82 47 (1 : Int32)) 82 13)) 82 0)) 82 1)) 82 51 (gI (sI (sI (sI (sI u 82 47 (1 : Int32)) 82 48 (gI (sI u 82 47 (1 : Int32)) 82 13)) 82 49 (gI (sI (sI u 82 47 (1 : Int32)) 82 48 (gI (sI u 82 47 (1 : Int32)) 82 13)) 82 0)) 82 50 (gI (sI (sI (sI u 82 47 (1 : Int32)) 82 48 (gI (sI u 82 47 (1 : Int32)) 82 13)) 82 49 (gI (sI (sI u 82 47 (1 : Int32)) 82 48 (gI (sI u 82 47 (1 : Int32)) 82 13)) 82 0)) 82 1)) 82 2)) 82 52 (gI (sI (sI (sI (sI (sI u 82 47 (1 : Int32)) 82 48 (gI (sI u 82 47 (1 : Int32)) 82 13)) 82 49 (gI (sI (sI u 82 47 (1 : Int32)) 82 48 (gI (sI u 82 47 (1 : Int32)) 82 13)) 82 0)) 82 50 (gI (sI (sI (sI u 82 47 (1 : Int32)) 82 48 (gI (sI u 82 47 (1 : Int32)) 82 13)) 82 49 (gI (sI (sI u 82 47 (1 : Int32)) 82 48 (gI (sI u 82 47 (1 : Int32)) 82 13)) 82 0)) 82 1)) 82 51 (gI (sI (sI (sI (sI u 82 47 (1 : Int32)) 82 48 (gI (sI u 82 47 (1 : Int32)) 82 13)) 82 49 (gI (sI (sI u 82 47 (1 : Int32)) 82 48 (gI (sI u 82 47 (1 : Int32)) 82 13)) 82 0)) 82 50 (gI (sI (sI (sI u 82 47 (1 : Int32)) 82 48 (gI (sI u 82 47 (1 : Int32)) 82 13)) 82 49 (gI (sI (sI u 82 47 (1 : Int32)) 82 48 (gI (sI u 82 47 (1 : Int32)) 82 13)) 82 0)) 82 1)) 82 2)) 82 3)) 82 4)) 82 37)) 82 55 (gI (sI (sI (sI (sI (sI (sI (sI (sI u 82 47 (1 : Int32)) 82 48 (gI (sI u 82 47 (1 : Int32)) 82 13)) 82 49 (gI (sI (sI u 82 47 (1 : Int32)) 82 48 (gI (sI u 82 47 (1 : Int32)) 82 13)) 82 0)) 82 50 (gI (sI (sI (sI u 82 47 (1 : Int32)) 82 48 (gI (sI u 82 47 (1 : Int32)) 82 13)) 82 49 (gI (sI (sI u 82 47 (1 : Int32)) 82 48 (gI (sI u 82 47 (1 : Int32)) 82 13)) 82 0)) 82 1)) 82 51 (gI (sI (sI (sI (sI u 82 47 (1 : Int32)) 82 48 (gI (sI u 82 47 (1 : Int32)) 82 13)) 82 49 (gI (sI (sI u 82 47 (1 : Int32)) 82 48 (gI (sI u 82 47 (1 : Int32)) 82 13)) 82 0)) 82 50 (gI (sI (sI (sI u 82 47 (1 : Int32)) 82 48 (gI (sI u 82 47 (1 : Int32)) 82 13)) 82 49 (gI (sI (sI u 82 47 (1 : Int32)) 82 48 (gI (sI u 82 47 (1 : Int32)) 82 13)) 82 0)) 82 1)) 82 2)) 82 52 (gI (sI (sI (sI (sI (sI u 82 47 (1 : Int32)) 82 48 (gI (sI u 82 47 (1 : Int32)) 82 13)) 82 49 (gI (sI (sI u 82 47 (1 : Int32)) 82 48 (gI (sI u 82 47 (1 : Int32)) 82 13)) 82 0)) 82 50 (gI (sI (sI (sI u 82 47 (1 : Int32)) 82 48 (gI (sI u 82 47 (1 : Int32)) 82 13)) 82 49 (gI (sI (sI u 82 47 (1 : Int32)) 82 48 (gI (sI u 82 47 (1 : Int32)) 82 13)) 82 0)) 82 1)) 82 51 (gI (sI (sI (sI (sI u 82 47 (1 : Int32)) 82 48 (gI (sI u 82 47 (1 : Int32)) 82 13)) 82 49 (gI (sI (sI u 82 47 (1 : Int32)) 82 48 (gI (sI u 82 47 (1 : Int32)) 82 13)) 82 0)) 82 50 (gI (sI (sI (sI u 82 47 (1 : Int32)) 82 48 (gI (sI u 82 47 (1 : Int32)) 82 13)) 82 49 (gI (sI (sI u 82 47 (1 : Int32)) 82 48 (gI (sI u 82 47 (1 : Int32)) 82 13)) 82 0)) 82 1)) 82 2)) 82 3)) 82 53 (gI (sI (sI (sI (sI (sI (sI u 82 47 (1 : Int32)) 82 48 (gI (sI u 82 47 (1 : Int32)) 82 13)) 82 49 (gI (sI (sI u 82 47 (1 : Int32)) 82 48 (gI (sI u 82 47 (1 : Int32)) 82 13)) 82 0)) 82 50 (gI (sI (sI (sI u 82 47 (1 : Int32)) 82 48 (gI (sI u 82 47 (1 : Int32)) 82 13)) 82 49 (gI (sI (sI u 82 47 (1 : Int32)) 82 48 (gI (sI u 82 47 (1 : Int32)) 82 13)) 82 0)) 82 1)) 82 51 (gI (sI (sI (sI (sI u 82 47 (1 : Int32)) 82 48 (gI (sI u 82 47 (1 : Int32)) 82 13)) 82 49 (gI (sI (sI u 82 47 (1 : Int32)) 82 48 (gI (sI u 82 47 (1 : Int32)) 82 13)) 82 0)) 82 50 (gI (sI (sI (sI u 82 47 (1 : Int32)) 82 48 (gI (sI u 82 47 (1 : Int32)) 82 13)) 82 49 (gI (sI (sI u 82 47 (1 : Int32)) 82 48 (gI (sI u 82 47 (1 : Int32)) 82 13)) 82 0)) 82 1)) 82 2)) 82 52 (gI (sI (sI (sI (sI (sI u 82 47 (1 : Int32)) 82 48 (gI (sI u 82 47 (1 : Int32)) 82 13)) 82 49 (gI (sI (sI u 82 47 (1 : Int32)) 82 48 (gI (sI u 82 47 (1 : Int32)) 82 13)) 82 0)) 82 50 (gI (sI (sI (sI u 82 47 (1 : Int32)) 82 48 (gI (sI u 82 47 (1 : Int32)) 82 13)) 82 49 (gI (sI (sI u 82 47 (1 : Int32)) 82 48 (gI (sI u 82 47 (1 : Int32)) 82 13)) 82 0)) 82 1)) 82 51 (gI (sI (sI (sI (sI u 82 47 (1 : Int32)) 82 48 (gI (sI u 82 47 (1 : Int32)) 82 13)) 82 49 (gI (sI (sI u 82 47 (1 : Int32)) 82 48 (gI (sI u 82 47 (1 : Int32)) 82 13)) 82 0)) 82 50 (gI (sI (sI (sI u 82 47 (1 : Int32)) 82 48 (gI (sI u 82 47 (1 : Int32)) 82 13)) 82 49 (gI (sI (sI u 82 47 (1 : Int32)) 82 48 (gI (sI u 82 47 (1 : Int32)) 82 13)) 82 0)) 82 1)) 82 2)) 82 3)) 82 4)) 82 54 (gI (sI (sI (sI (sI (sI (sI (sI u 82 47 (1 : Int32)) 82 48 (gI (sI u 82 47 (1 : Int32)) 82 13)) 82 49 (gI (sI (sI u 82 47 (1 : Int32)) 82 48 (gI (sI u 82 47 (1 : Int32)) 82 13)) 82 0)) 82 50 (gI (sI (sI (sI u 82 47 (1 : Int32)) 82 48 (gI (sI u 82 47 (1 : Int32)) 82 13)) 82 49 (gI (sI (sI u 82 47 (1 : Int32)) 82 48 (gI (sI u 82 47 (1 : Int32)) 82 13)) 82 0)) 82 1)) 82 51 (gI (sI (sI (sI (sI u 82 47 (1 : Int32)) 82 48 (gI (sI u 82 47 (1 : Int32)) 82 13)) 82 49 (gI (sI (sI u 82 47 (1 : Int32)) 82 48 (gI (sI u 82 47 (1 : Int32)) 82 13)) 82 0)) 82 50 (gI (sI (sI (sI u 82 47 (1 : Int32)) 82 48 (gI (sI u 82 47 (1 : Int32)) 82 13)) 82 49 (gI (sI (sI u 82 47 (1 : Int32)) 82 48 (gI (sI u 82 47 (1 : Int32)) 82 13)) 82 0)) 82 1)) 82 2)) 82 52 (gI (sI (sI (sI (sI (sI u 82 47 (1 : Int32)) 82 48 (gI (sI u 82 47 (1 : Int32)) 82 13)) 82 49 (gI (sI (sI u 82 47 (1 : Int32)) 82 48 (gI (sI u 82 47 (1 : Int32)) 82 13)) 82 0)) 82 50 (gI (sI (sI (sI u 82 47 (1 : Int32)) 82 48 (gI (sI u 82 47 (1 : Int32)) 82 13)) 82 49 (gI (sI (sI u 82 47 (1 : Int32)) 82 48 (gI (sI u 82 47 (1 : Int32)) 82 13)) 82 0)) 82 1)) 82 51 (gI (sI (sI (sI (sI u 82 47 (1 : Int32)) 82 48 (gI (sI u 82 47 (1 : Int32)) 82 13)) 82 49 (gI (sI (sI u 82 47 (1 : Int32)) 82 48 (gI (sI u 82 47 (1 : Int32)) 82 13)) 82 0)) 82 50 (gI (sI (sI (sI u 82 47 (1 : Int32)) 82 48 (gI (sI u 82 47 (1 : Int32)) 82 13)) 82 49 (gI (sI (sI u 82 47 (1 : Int32)) 82 48 (gI (sI u 82 47 (1 : Int32)) 82 13)) 82 0)) 82 1)) 82 2)) 82 3)) 82 53 (gI (sI (sI (sI (sI (sI (sI u 82 47 (1 : Int32)) 82 48 (gI (sI u 82 47 (1 : Int32)) 82 13)) 82 49 (gI (sI (sI u 82 47 (1 : Int32)) 82 48 (gI (sI u 82 47 (1 : Int32)) 82 13)) 82 0)) 82 50 (gI (sI (sI (sI u 82 47 (1 : Int32)) 82 48 (gI (sI u 82 47 (1 : Int32)) 82 13)) 82 49 (gI (sI (sI u 82 47 (1 : Int32)) 82 48 (gI (sI u 82 47 (1 : Int32)) 82 13)) 82 0)) 82 1)) 82 51 (gI (sI (sI (sI (sI u 82 47 (1 : Int32)) 82 48 (gI (sI u 82 47 (1 : Int32)) 82 13)) 82 49 (gI (sI (sI u 82 47 (1 : Int32)) 82 48 (gI (sI u 82 47 (1 : Int32)) 82 13)) 82 0)) 82 50 (gI (sI (sI (sI u 82 47 (1 : Int32)) 82 48 (gI (sI u 82 47 (1 : Int32)) 82 13)) 82 49 (gI (sI (sI u 82 47 (1 : Int32)) 82 48 (gI (sI u 82 47 (1 : Int32)) 82 13)) 82 0)) 82 1)) 82 2)) 82 52 (gI (sI (sI (sI (sI (sI u 82 47 (1 : Int32)) 82 48 (gI (sI u 82 47 (1 : Int32)) 82 13)) 82 49 (gI (sI (sI u 82 47 (1 : Int32)) 82 48 (gI (sI u 82 47 (1 : Int32)) 82 13)) 82 0)) 82 50 (gI (sI (sI (sI u 82 47 (1 : Int32)) 82 48 (gI (sI u 82 47 (1 : Int32)) 82 13)) 82 49 (gI (sI (sI u 82 47 (1 : Int32)) 82 48 (gI (sI u 82 47 (1 : Int32)) 82 13)) 82 0)) 82 1)) 82 51 (gI (sI (sI (sI (sI u 82 47 (1 : Int32)) 82 48 (gI (sI u 82 47 (1 : Int32)) 82 13)) 82 49 (gI (sI (sI u 82 47 (1 : Int32)) 82 48 (gI (sI u 82 47 (1 : Int32)) 82 13)) 82 0)) 82 50 (gI (sI (sI (sI u 82 47 (1 : Int32)) 82 48 (gI (sI u 82 47 (1 : Int32)) 82 13)) 82 49 (gI (sI (sI u 82 47 (1 : Int32)) 82 48 (gI (sI u 82 47 (1 : Int32)) 82 13)) 82 0)) 82 1)) 82 2)) 82 3)) 82 4)) 82 37)) 82 41)) 82 56 (gI (sI (sI (sI (sI (sI (sI (sI (sI (sI u 82 47 (1 : Int32)) 82 48 (gI (sI u 82 47 (1 : Int32)) 82 13)) 82 49 (gI (sI (sI u 82 47 (1 : Int32)) 82 48 (gI (sI u 82 47 (1 : Int32)) 82 13)) 82 0)) 82 50 (gI (sI (sI (sI u 82 47 (1 : Int32)) 82 48 (gI (sI u 82 47 (1 : Int32)) 82 13)) 82 49 (gI (sI (sI u 82 47 (1 : Int32)) 82 48 (gI (sI u 82 47 (1 : Int32)) 82 13)) 82 0)) 82 1)) 82 51 (gI (sI (sI (sI (sI u 82 47 (1 : Int32)) 82 48 (gI (sI u 82 47 (1 : Int32)) 82 13)) 82 49 (gI (sI (sI u 82 47 (1 : Int32)) 82 48 (gI (sI u 82 47 (1 : Int32)) 82 13)) 82 0)) 82 50 (gI (sI (sI (sI u 82 47 (1 : Int32)) 82 48 (gI (sI u 82 47 (1 : Int32)) 82 13)) 82 49 (gI (sI (sI u 82 47 (1 : Int32)) 82 48 (gI (sI u 82 47 (1 : Int32)) 82 13)) 82 0)) 82 1)) 82 2)) 82 52 (gI (sI (sI (sI (sI (sI u 82 47 (1 : Int32)) 82 48 (gI (sI u 82 47 (1 : Int32)) 82 13)) 82 49 (gI (sI (sI u 82 47 (1 : Int32)) 82 48 (gI (sI u 82 47 (1 : Int32)) 82 13)) 82 0)) 82 50 (gI (sI (sI (sI u 82 47 (1 : Int32)) 82 48 (gI (sI u 82 47 (1 : Int32)) 82 13)) 82 49 (gI (sI (sI u 82 47 (1 : Int32)) 82 48 (gI (sI u 82 47 (1 : Int32)) 82 13)) 82 0)) 82 1)) 82 51 (gI (sI (sI (sI (sI u 82 47 (1 : Int32)) 82 48 (gI (sI u 82 47 (1 : Int32)) 82 13)) 82 49 (gI (sI (sI u 82 47 (1 : Int32)) 82 48 (gI (sI u 82 47 (1 : Int32)) 82 13)) 82 0)) 82 50 (gI (sI (sI (sI u 82 47 (1 : Int32)) 82 48 (gI (sI u 82 47 (1 : Int32)) 82 13)) 82 49 (gI (sI (sI u 82 47 (1 : Int32)) 82 48 (gI (sI u 82 47 (1 : Int32)) 82 13)) 82 0)) 82 1)) 82 2)) 82 3)) 82 53 (gI (sI (sI (sI (sI (sI (sI u 82 47 (1 : Int32)) 82 48 (gI (sI u 82 47 (1 : Int32)) 82 13)) 82 49 (gI (sI (sI u 82 47 (1 : Int32)) 82 48 (gI (sI u 82 47 (1 : Int32)) 82 13)) 82 0)) 82 50 (gI (sI (sI (sI u 82 47 (1 : Int32)) 82 48 (gI (sI u 82 47 (1 : Int32)) 82 13)) 82 49 (gI (sI (sI u 82 47 (1 : Int32)) 82 48 (gI (sI u 82 47 (1 : Int32)) 82 13)) 82 0)) 82 1)) 82 51 (gI (sI (sI (sI (sI u 82 47 (1 : Int32)) 82 48 (gI (sI u 82 47 (1 : Int32)) 82 13)) 82 49 (gI (sI (sI u 82 47 (1 : Int32)) 82 48 (gI (sI u 82 47 (1 : Int32)) 82 13)) 82 0)) 82 50 (gI (sI (sI (sI u 82 47 (1 : Int32)) 82 48 (gI (sI u 82 47 (1 : Int32)) 82 13)) 82 49 (gI (sI (sI u 82 47 (1 : Int32)) 82 48 (gI (sI u 82 47 (1 : Int32)) 82 13)) 82 0)) 82 1)) 82 2)) 82 52 (gI (sI (sI (sI (sI (sI u 82 47 (1 : Int32)) 82 48 (gI (sI u 82 47 (1 : Int32)) 82 13)) 82 49 (gI (sI (sI u 82 47 (1 : Int32)) 82 48 (gI (sI u 82 47 (1 : Int32)) 82 13)) 82 0)) 82 50 (gI (sI (sI (sI u 82 47 (1 : Int32)) 82 48 (gI (sI u 82 47 (1 : Int32)) 82 13)) 82 49 (gI (sI (sI u 82 47 (1 : Int32)) 82 48 (gI (sI u 82 47 (1 : Int32)) 82 13)) 82 0)) 82 1)) 82 51 (gI (sI (sI (sI (sI u 82 47 (1 : Int32)) 82 48 (gI (sI u 82 47 (1 : Int32)) 82 13)) 82 49 (gI (sI (sI u 82 47 (1 : Int32)) 82 48 (gI (sI u 82 47 (1 : Int32)) 82 13)) 82 0)) 82 50 (gI (sI (sI (sI u 82 47 (1 : Int32)) 82 48 (gI (sI u 82 47 (1 : Int32)) 82 13)) 82 49 (gI (sI (sI u 82 47 (1 : Int32)) 82 48 (gI (sI u 82 47 (1 : Int32)) 82 13)) 82 0)) 82 1)) 82 2)) 82 3)) 82 4)) 82 54 (gI (sI (sI (sI (sI (sI (sI (sI u 82 47 (1 : Int32)) 82 48 (gI (sI u 82 47 (1 : Int32)) 82 13)) 82 49 (gI (sI (sI u 82 47 (1 : Int32)) 82 48 (gI (sI u 82 47 (1 : Int32)) 82 13)) 82 0)) 82 50 (gI (sI (sI (sI u 82 47 (1 : Int32)) 82 48 (gI (sI u 82 47 (1 : Int32)) 82 13)) 82 49 (gI (sI (sI u 82 47 (1 : Int32)) 82 48 (gI (sI u 82 47 (1 : Int32)) 82 13)) 82 0)) 82 1)) 82 51 (gI (sI (sI (sI (sI u 82 47 (1 : Int32)) 82 48 (gI (sI u 82 47 (1 : Int32)) 82 13)) 82 49 (gI (sI (sI u 82 47 (1 : Int32)) 82 48 (gI (sI u 82 47 (1 : Int32)) 82 13)) 82 0)) 82 50 (gI (sI (sI (sI u 82 47 (1 : Int32)) 82 48 (gI (sI u 82 47 (1 : Int32)) 82 13)) 82 49 (gI (sI (sI u 82 47 (1 : Int32)) 82 48 (gI (sI u 82 47 (1 : Int32)) 82 13)) 82 0)) 82 1)) 82 2)) 82 52 (gI (sI (sI (sI (sI (sI u 82 47 (1 : Int32)) 82 48 (gI (sI u 82 47 (1 : Int32)) 82 13)) 82 49 (gI (sI (sI u 82 47 (1 : Int32)) 82 48 (gI (sI u 82 47 (1 : Int32)) 82 13)) 82 0)) 82 50 (gI (sI (sI (sI u 82 47 (1 : Int32)) 82 48 (gI (sI u 82 47 (1 : Int32)) 82 13)) 82 49 (gI (sI (sI u 82 47 (1 : Int32)) 82 48 (gI (sI u 82 47 (1 : Int32)) 82 13)) 82 0)) 82 1)) 82 51 (gI (sI (sI (sI (sI u 82 47 (1 : Int32)) 82 48 (gI (sI u 82 47 (1 : Int32)) 82 13)) 82 49 (gI (sI (sI u 82 47 (1 : Int32)) 82 48 (gI (sI u 82 47 (1 : Int32)) 82 13)) 82 0)) 82 50 (gI (sI (sI (sI u 82 47 (1 : Int32)) 82 48 (gI (sI u 82 47 (1 : Int32)) 82 13)) 82 49 (gI (sI (sI u 82 47 (1 : Int32)) 82 48 (gI (sI u 82 47 (1 : Int32)) 82 13)) 82 0)) 82 1)) 82 2)) 82 3)) 82 53 (gI (sI (sI (sI (sI (sI (sI u 82 47 (1 : Int32)) 82 48 (gI (sI u 82 47 (1 : Int32)) 82 13)) 82 49 (gI (sI (sI u 82 47 (1 : Int32)) 82 48 (gI (sI u 82 47 (1 : Int32)) 82 13)) 82 0)) 82 50 (gI (sI (sI (sI u 82 47 (1 : Int32)) 82 48 (gI (sI u 82 47 (1 : Int32)) 82 13)) 82 49 (gI (sI (sI u 82 47 (1 : Int32)) 82 48 (gI (sI u 82 47 (1 : Int32)) 82 13)) 82 0)) 82 1)) 82 51 (gI (sI (sI (sI (sI u 82 47 (1 : Int32)) 82 48 (gI (sI u 82 47 (1 : Int32)) 82 13)) 82 49 (gI (sI (sI u 82 47 (1 : Int32)) 82 48 (gI (sI u 82 47 (1 : Int32)) 82 13)) 82 0)) 82 50 (gI (sI (sI (sI u 82 47 (1 : Int32)) 82 48 (gI (sI u 82 47 (1 : Int32)) 82 13)) 82 49 (gI (sI (sI u 82 47 (1 : Int32)) 82 48 (gI (sI u 82 47 (1 : Int32)) 82 13)) 82 0)) 82 1)) 82 2)) 82 52 (gI (sI (sI (sI (sI (sI u 82 47 (1 : Int32)) 82 48 (gI (sI u 82 47 (1 : Int32)) 82 13)) 82 49 (gI (sI (sI u 82 47 (1 : Int32)) 82 48 (gI (sI u 82 47 (1 : Int32)) 82 13)) 82 0)) 82 50 (gI (sI (sI (sI u 82 47 (1 : Int32)) 82 48 (gI (sI u 82 47 (1 : Int32)) 82 13)) 82 49 (gI (sI (sI u 82 47 (1 : Int32)) 82 48 (gI (sI u 82 47 (1 : Int32)) 82 13)) 82 0)) 82 1)) 82 51 (gI (sI (sI (sI (sI u 82 47 (1 : Int32)) 82 48 (gI (sI u 82 47 (1 : Int32)) 82 13)) 82 49 (gI (sI (sI u 82 47 (1 : Int32)) 82 48 (gI (sI u 82 47 (1 : Int32)) 82 13)) 82 0)) 82 50 (gI (sI (sI (sI u 82 47 (1 : Int32)) 82 48 (gI (sI u 82 47 (1 : Int32)) 82 13)) 82 49 (gI (sI (sI u 82 47 (1 : Int32)) 82 48 (gI (sI u 82 47 (1 : Int32)) 82 13)) 82 0)) 82 1)) 82 2)) 82 3)) 82 4)) 82 37)) 82 55 (gI (sI (sI (sI (sI (sI (sI (sI (sI u 82 47 (1 : Int32)) 82 48 (gI (sI u 82 47 (1 : Int32)) 82 13)) 82 49 (gI (sI (sI u 82 47 (1 : Int32)) 82 48 (gI (sI u 82 47 (1 : Int32)) 82 13)) 82 0)) 82 50 (gI (sI (sI (sI u 82 47 (1 : Int32)) 82 48 (gI (sI u 82 47 (1 : Int32)) 82 13)) 82 49 (gI (sI (sI u 82 47 (1 : Int32)) 82 48 (gI (sI u 82 47 (1 : Int32)) 82 13)) 82 0)) 82 1)) 82 51 (gI (sI (sI (sI (sI u 82 47 (1 : Int32)) 82 48 (gI (sI u 82 47 (1 : Int32)) 82 13)) 82 49 (gI (sI (sI u 82 47 (1 : Int32)) 82 48 (gI (sI u 82 47 (1 : Int32)) 82 13)) 82 0)) 82 50 (gI (sI (sI (sI u 82 47 (1 : Int32)) 82 48 (gI (sI u 82 47 (1 : Int32)) 82 13)) 82 49 (gI (sI (sI u 82 47 (1 : Int32)) 82 48 (gI (sI u 82 47 (1 : Int32)) 82 13)) 82 0)) 82 1)) 82 2)) 82 52 (gI (sI (sI (sI (sI (sI u 82 47 (1 : Int32)) 82 48 (gI (sI u 82 47 (1 : Int32)) 82 13)) 82 49 (gI (sI (sI u 82 47 (1 : Int32)) 82 48 (gI (sI u 82 47 (1 : Int32)) 82 13)) 82 0)) 82 50 (gI (sI (sI (sI u 82 47 (1 : Int32)) 82 48 (gI (sI u 82 47 (1 : Int32)) 82 13)) 82 49 (gI (sI (sI u 82 47 (1 : Int32)) 82 48 (gI (sI u 82 47 (1 : Int32)) 82 13)) 82 0)) 82 1)) 82 51 (gI (sI (sI (sI (sI u 82 47 (1 : Int32)) 82 48 (gI (sI u 82 47 (1 : Int32)) 82 13)) 82 49 (gI (sI (sI u 82 47 (1 : Int32)) 82 48 (gI (sI u 82 47 (1 : Int32)) 82 13)) 82 0)) 82 50 (gI (sI (sI (sI u 82 47 (1 : Int32)) 82 48 (gI (sI u 82 47 (1 : Int32)) 82 13)) 82 49 (gI (sI (sI u 82 47 (1 : Int32)) 82 48 (gI (sI u 82 47 (1 : Int32)) 82 13)) 82 0)) 82 1)) 82 2)) 82 3)) 82 53 (gI (sI (sI (sI (sI (sI (sI u 82 47 (1 : Int32)) 82 48 (gI (sI u 82 47 (1 : Int32)) 82 13)) 82 49 (gI (sI (sI u 82 47 (1 : Int32)) 82 48 (gI (sI u 82 47 (1 : Int32)) 82 13)) 82 0)) 82 50 (gI (sI (sI (sI u 82 47 (1 : Int32)) 82 48 (gI (sI u 82 47 (1 : Int32)) 82 13)) 82 49 (gI (sI (sI u 82 47 (1 : Int32)) 82 48 (gI (sI u 82 47 (1 : Int32)) 82 13)) 82 0)) 82 1)) 82 51 (gI (sI (sI (sI (sI u 82 47 (1 : Int32)) 82 48 (gI (sI u 82 47 (1 : Int32)) 82 13)) 82 49 (gI (sI (sI u 82 47 (1 : Int32)) 82 48 (gI (sI u 82 47 (1 : Int32)) 82 13)) 82 0)) 82 50 (gI (sI (sI (sI u 82 47 (1 : Int32)) 82 48 (gI (sI u 82 47 (1 : Int32)) 82 13)) 82 49 (gI (sI (sI u 82 47 (1 : Int32)) 82 48 (gI (sI u 82 47 (1 : Int32)) 82 13)) 82 0)) 82 1)) 82 2)) 82 52 (gI (sI (sI (sI (sI (sI u 82 47 (1 : Int32)) 82 48 (gI (sI u 82 47 (1 : Int32)) 82 13)) 82 49 (gI (sI (sI u 82 47 (1 : Int32)) 82 48 (gI (sI u 82 47 (1 : Int32)) 82 13)) 82 0)) 82 50 (gI (sI (sI (sI u 82 47 (1 : Int32)) 82 48 (gI (sI u 82 47 (1 : Int32)) 82 13)) 82 49 (gI (sI (sI u 82 47 (1 : Int32)) 82 48 (gI (sI u 82 47 (1 : Int32)) 82 13)) 82 0)) 82 1)) 82 51 (gI (sI (sI (sI (sI u 82 47 (1 : Int32)) 82 48 (gI (sI u 82 47 (1 : Int32)) 82 13)) 82 49 (gI (sI (sI u 82 47 (1 : Int32)) 82 48 (gI (sI u 82 47 (1 : Int32)) 82 13)) 82 0)) 82 50 (gI (sI (sI (sI u 82 47 (1 : Int32)) 82 48 (gI (sI u 82 47 (1 : Int32)) 82 13)) 82 49 (gI (sI (sI u 82 47 (1 : Int32)) 82 48 (gI (sI u 82 47 (1 : Int32)) 82 13)) 82 0)) 82 1)) 82 2)) 82 3)) 82 4)) 82 54 (gI (sI (sI (sI (sI (sI (sI (sI u 82 47 (1 : Int32)) 82 48 (gI (sI u 82 47 (1 : Int32)) 82 13)) 82 49 (gI (sI (sI u 82 47 (1 : Int32)) 82 48 (gI (sI u 82 47 (1 : Int32)) 82 13)) 82 0)) 82 50 (gI (sI (sI (sI u 82 47 (1 : Int32)) 82 48 (gI (sI u 82 47 (1 : Int32)) 82 13)) 82 49 (gI (sI (sI u 82 47 (1 : Int32)) 82 48 (gI (sI u 82 47 (1 : Int32)) 82 13)) 82 0)) 82 1)) 82 51 (gI (sI (sI (sI (sI u 82 47 (1 : Int32)) 82 48 (gI (sI u 82 47 (1 : Int32)) 82 13)) 82 49 (gI (sI (sI u 82 47 (1 : Int32)) 82 48 (gI (sI u 82 47 (1 : Int32)) 82 13)) 82 0)) 82 50 (gI (sI (sI (sI u 82 47 (1 : Int32)) 82 48 (gI (sI u 82 47 (1 : Int32)) 82 13)) 82 49 (gI (sI (sI u 82 47 (1 : Int32)) 82 48 (gI (sI u 82 47 (1 : Int32)) 82 13)) 82 0)) 82 1)) 82 2)) 82 52 (gI (sI (sI (sI (sI (sI u 82 47 (1 : Int32)) 82 48 (gI (sI u 82 47 (1 : Int32)) 82 13)) 82 49 (gI (sI (sI u 82 47 (1 : Int32)) 82 48 (gI (sI u 82 47 (1 : Int32)) 82 13)) 82 0)) 82 50 (gI (sI (sI (sI u 82 47 (1 : Int32)) 82 48 (gI (sI u 82 47 (1 : Int32)) 82 13)) 82 49 (gI (sI (sI u 82 47 (1 : Int32)) 82 48 (gI (sI u 82 47 (1 : Int32)) 82 13)) 82 0)) 82 1)) 82 51 (gI (sI (sI (sI (sI u 82 47 (1 : Int32)) 82 48 (gI (sI u 82 47 (1 : Int32)) 82 13)) 82 49 (gI (sI (sI u 82 47 (1 : Int32)) 82 48 (gI (sI u 82 47 (1 : Int32)) 82 13)) 82 0)) 82 50 (gI (sI (sI (sI u 82 47 (1 : Int32)) 82 48 (gI (sI u 82 47 (1 : Int32)) 82 13)) 82 49 (gI (sI (sI u 82 47 (1 : Int32)) 82 48 (gI (sI u 82 47 (1 : Int32)) 82 13)) 82 0)) 82 1)) 82 2)) 82 3)) 82 53 (gI (sI (sI (sI (sI (sI (sI u 82 47 (1 : Int32)) 82 48 (gI (sI u 82 47 (1 : Int32)) 82 13)) 82 49 (gI (sI (sI u 82 47 (1 : Int32)) 82 48 (gI (sI u 82 47 (1 : Int32)) 82 13)) 82 0)) 82 50 (gI (sI (sI (sI u 82 47 (1 : Int32)) 82 48 (gI (sI u 82 47 (1 : Int32)) 82 13)) 82 49 (gI (sI (sI u 82 47 (1 : Int32)) 82 48 (gI (sI u 82 47 (1 : Int32)) 82 13)) 82 0)) 82 1)) 82 51 (gI (sI (sI (sI (sI u 82 47 (1 : Int32)) 82 48 (gI (sI u 82 47 (1 : Int32)) 82 13)) 82 49 (gI (sI (sI u 82 47 (1 : Int32)) 82 48 (gI (sI u 82 47 (1 : Int32)) 82 13)) 82 0)) 82 50 (gI (sI (sI (sI u 82 47 (1 : Int32)) 82 48 (gI (sI u 82 47 (1 : Int32)) 82 13)) 82 49 (gI (sI (sI u 82 47 (1 : Int32)) 82 48 (gI (sI u 82 47 (1 : Int32)) 82 13)) 82 0)) 82 1)) 82 2)) 82 52 (gI (sI (sI (sI (sI (sI u 82 47 (1 : Int32)) 82 48 (gI (sI u 82 47 (1 : Int32)) 82 13)) 82 49 (gI (sI (sI u 82 47 (1 : Int32)) 82 48 (gI (sI u 82 47 (1 : Int32)) 82 13)) 82 0)) 82 50 (gI (sI (sI (sI u 82 47 (1 : Int32)) 82 48 (gI (sI u 82 47 (1 : Int32)) 82 13)) 82 49 (gI (sI (sI u 82 47 (1 : Int32)) 82 48 (gI (sI u 82 47 (1 : Int32)) 82 13)) 82 0)) 82 1)) 82 51 (gI (sI (sI (sI (sI u 82 47 (1 : Int32)) 82 48 (gI (sI u 82 47 (1 : Int32)) 82 13)) 82 49 (gI (sI (sI u 82 47 (1 : Int32)) 82 48 (gI (sI u 82 47 (1 : Int32)) 82 13)) 82 0)) 82 50 (gI (sI (sI (sI u 82 47 (1 : Int32)) 82 48 (gI (sI u 82 47 (1 : Int32)) 82 13)) 82 49 (gI (sI (sI u 82 47 (1 : Int32)) 82 48 (gI (sI u 82 47 (1 : Int32)) 82 13)) 82 0)) 82 1)) 82 2)) 82 3)) 82 4)) 82 37)) 82 41)) 82 42)) _ _ ls hG (lv_sub hl [1, 0] rfl) hf
theorem dX8_undo_0 : decode cX8_undo 0 = .ok (.aload_n 0, 1) := by decide +kernel
theorem dX8_undo_1 : decode cX8_undo 1 = .ok (.getfield 153, 3) := by decide +kernel
theorem dX8_undo_4 : decode cX8_undo 4 = .ok (.ifCond .ne 6, 3) := by decide +kernel
theorem dX8_undo_7 : decode cX8_undo 7 = .ok (.bipush (-3), 2) := by decide +kernel
theorem dX8_undo_9 : decode cX8_undo 9 = .ok (.ireturn, 1) := by decide +kernel
theorem dX8_undo_10 : decode cX8_undo 10 = .ok (.aload_n 0, 1) := by decide +kernel
theorem dX8_undo_11 : decode cX8_undo 11 = .ok (.aload_n 0, 1) := by decide +kernel
theorem dX8_undo_12 : decode cX8_undo 12 = .ok (.getfield 157, 3) := by decide +kernel
theorem dX8_undo_15 : decode cX8_undo 15 = .ok (.putfield 50, 3) := by decide +kernel
theorem dX8_undo_18 : decode cX8_undo 18 = .ok (.aload_n 0, 1) := by decide +kernel
theorem dX8_undo_19 : decode cX8_undo 19 = .ok (.aload_n 0, 1) := by decide +kernel
theorem dX8_undo_20 : decode cX8_undo 20 = .ok (.getfield 160, 3) := by decide +kernel
theorem dX8_undo_23 : decode cX8_undo 23 = .ok (.putfield 7, 3) := by decide +kernel
theorem dX8_undo_26 : decode cX8_undo 26 = .ok (.aload_n 0, 1) := by decide +kernel
theorem dX8_undo_27 : decode cX8_undo 27 = .ok (.aload_n 0, 1) := by decide +kernel
theorem dX8_undo_28 : decode cX8_undo 28 = .ok (.getfield 163, 3) := by decide +kernel
theorem dX8_undo_31 : decode cX8_undo 31 = .ok (.putfield 13, 3) := by decide +kernel
theorem dX8_undo_34 : decode cX8_undo 34 = .ok (.aload_n 0, 1) := by decide +kernel
theorem dX8_undo_35 : decode cX8_undo 35 = .ok (.aload_n 0, 1) := by decide +kernel
theorem dX8_undo_36 : decode cX8_undo 36 = .ok (.getfield 166, 3) := by decide +kernel
theorem dX8_undo_39 : decode cX8_undo 39 = .ok (.putfield 16, 3) := by decide +kernel
theorem dX8_undo_42 : decode cX8_undo 42 = .ok (.aload_n 0, 1) := by decide +kernel
theorem dX8_undo_43 : decode cX8_undo 43 = .ok (.aload_n 0, 1) := by decide +kernel
theorem dX8_undo_44 : decode cX8_undo 44 = .ok (.getfield 169, 3) := by decide +kernel
theorem dX8_undo_47 : decode cX8_undo 47 = .ok (.putfield 19, 3) := by decide +kernel
theorem dX8_undo_50 : decode cX8_undo 50 = .ok (.aload_n 0, 1) := by decide +kernel
theorem dX8_undo_51 : decode cX8_undo 51 = .ok (.aload_n 0, 1) := by decide +kernel
theorem dX8_undo_52 : decode cX8_undo 52 = .ok (.getfield 172, 3) := by decide +kernel
theorem dX8_undo_55 : decode cX8_undo 55 = .ok (.putfield 22, 3) := by decide +kernel
theorem dX8_undo_58 : decode cX8_undo 58 = .ok (.aload_n 0, 1) := by decide +kernel
theorem dX8_undo_59 : decode cX8_undo 59 = .ok (.aload_n 0, 1) := by decide +kernel
theorem dX8_undo_60 : decode cX8_undo 60 = .ok (.getfield 175, 3) := by decide +kernel
theorem dX8_undo_63 : decode cX8_undo 63 = .ok (.putfield 123, 3) := by decide +kernel
theorem dX8_undo_66 : decode cX8_undo 66 = .ok (.aload_n 0, 1) := by decide +kernel
theorem dX8_undo_67 : decode cX8_undo 67 = .ok (.aload_n 0, 1) := by decide +kernel
theorem dX8_undo_68 : decode cX8_undo 68 = .ok (.getfield 178, 3) := by decide +kernel
theorem dX8_undo_71 : decode cX8_undo 71 = .ok (.putfield 135, 3) := by decide +kernel
theorem dX8_undo_74 : decode cX8_undo 74 = .ok (.aload_n 0, 1) := by decide +kernel
theorem dX8_undo_75 : decode cX8_undo 75 = .ok (.aload_n 0, 1) := by decide +kernel
theorem dX8_undo_76 : decode cX8_undo 76 = .ok (.getfield 181, 3) := by decide +kernel
theorem dX8_undo_79 : decode cX8_undo 79 = .ok (.putfield 138, 3) := by decide +kernel
theorem dX8_undo_82 : decode cX8_undo 82 = .ok (.iconst 0, 1) := by decide +kernel
theorem dX8_undo_83 : decode cX8_undo 83 = .ok (.istore_n 1, 1) := by decide +kernel
theorem dX8_undo_84 : decode cX8_undo 84 = .ok (.iload_n 1, 1) := by decide +kernel
theorem dX8_undo_85 : decode cX8_undo 85 = .ok (.bipush 6, 2) := by decide +kernel
theorem dX8_undo_87 : decode cX8_undo 87 = .ok (.if_icmp .ge 57, 3) := by decide +kernel
theorem dX8_undo_90 : decode cX8_undo 90 = .ok (.aload_n 0, 1) := by decide +kernel
theorem dX8_undo_91 : decode cX8_undo 91 = .ok (.getfield 25, 3) := by decide +kernel
theorem dX8_undo_94 : decode cX8_undo 94 = .ok (.iload_n 1, 1) := by decide +kernel
theorem dX8_undo_95 : decode cX8_undo 95 = .ok (.aload_n 0, 1) := by decide +kernel
theorem dX8_undo_96 : decode cX8_undo 96 = .ok (.getfield 184, 3) := by decide +kernel
theorem dX8_undo_99 : decode cX8_undo 99 = .ok (.iload_n 1, 1) := by decide +kernel
theorem dX8_undo_100 : decode cX8_undo 100 = .ok (.iaload, 1) := by decide +kernel
theorem dX8_undo_101 : decode cX8_undo 101 = .ok (.iastore, 1) := by decide +kernel
theorem dX8_undo_102 : decode cX8_undo 102 = .ok (.aload_n 0, 1) := by decide +kernel
theorem dX8_undo_103 : decode cX8_undo 103 = .ok (.getfield 29, 3) := by decide +kernel
theorem dX8_undo_106 : decode cX8_undo 106 = .ok (.iload_n 1, 1) := by decide +kernel
theorem dX8_undo_107 : decode cX8_undo 107 = .ok (.aload_n 0, 1) := by decide +kernel
theorem dX8_undo_108 : decode cX8_undo 108 = .ok (.getfield 187, 3) := by decide +kernel
theorem dX8_undo_111 : decode cX8_undo 111 = .ok (.iload_n 1, 1) := by decide +kernel
theorem dX8_undo_112 : decode cX8_undo 112 = .ok (.iaload, 1) := by decide +kernel
theorem dX8_undo_113 : decode cX8_undo 113 = .ok (.iastore, 1) := by decide +kernel
theorem dX8_undo_114 : decode cX8_undo 114 = .ok (.aload_n 0, 1) := by decide +kernel
theorem dX8_undo_115 : decode cX8_undo 115 = .ok (.getfield 32, 3) := by decide +kernel
theorem dX8_undo_118 : decode cX8_undo 118 = .ok (.iload_n 1, 1) := by decide +kernel
theorem dX8_undo_119 : decode cX8_undo 119 = .ok (.aload_n 0, 1) := by decide +kernel
theorem dX8_undo_120 : decode cX8_undo 120 = .ok (.getfield 190, 3) := by decide +kernel
theorem dX8_undo_123 : decode cX8_undo 123 = .ok (.iload_n 1, 1) := by decide +kernel
theorem dX8_undo_124 : decode cX8_undo 124 = .ok (.iaload, 1) := by decide +kernel
theorem dX8_undo_125 : decode cX8_undo 125 = .ok (.iastore, 1) := by decide +kernel
theorem dX8_undo_126 : decode cX8_undo 126 = .ok (.aload_n 0, 1) := by decide +kernel
theorem dX8_undo_127 : decode cX8_undo 127 = .ok (.getfield 35, 3) := by decide +kernel
theorem dX8_undo_130 : decode cX8_undo 130 = .ok (.iload_n 1, 1) := by decide +kernel
theorem dX8_undo_131 : decode cX8_undo 131 = .ok (.aload_n 0, 1) := by decide +kernel
theorem dX8_undo_132 : decode cX8_undo 132 = .ok (.getfield 193, 3) := by decide +kernel
theorem dX8_undo_135 : decode cX8_undo 135 = .ok (.iload_n 1, 1) := by decide +kernel
theorem dX8_undo_136 : decode cX8_undo 136 = .ok (.iaload, 1) := by decide +kernel
theorem dX8_undo_137 : decode cX8_undo 137 = .ok (.iastore, 1) := by decide +kernel
theorem dX8_undo_138 : decode cX8_undo 138 = .ok (.iinc 1 1, 3) := by decide +kernel
theorem dX8_undo_141 : decode cX8_undo 141 = .ok (.goto (-57), 3) := by decide +kernel
theorem dX8_undo_144 : decode cX8_undo 144 = .ok (.iconst 0, 1) := by decide +kernel
theorem dX8_undo_145 : decode cX8_undo 145 = .ok (.istore_n 1, 1) := by decide +kernel
theorem dX8_undo_146 : decode cX8_undo 146 = .ok (.iload_n 1, 1) := by decide +kernel
theorem dX8_undo_147 : decode cX8_undo 147 = .ok (.bipush 24, 2) := by decide +kernel
theorem dX8_undo_149 : decode cX8_undo 149 = .ok (.if_icmp .ge 21, 3) := by decide +kernel
theorem dX8_undo_152 : decode cX8_undo 152 = .ok (.aload_n 0, 1) := by decide +kernel
theorem dX8_undo_153 : decode cX8_undo 153 = .ok (.getfield 38, 3) := by decide +kernel
theorem dX8_undo_156 : decode cX8_undo 156 = .ok (.iload_n 1, 1) := by decide +kernel
theorem dX8_undo_157 : decode cX8_undo 157 = .ok (.aload_n 0, 1) := by decide +kernel
theorem dX8_undo_158 : decode cX8_undo 158 = .ok (.getfield 196, 3) := by decide +kernel
theorem dX8_undo_161 : decode cX8_undo 161 = .ok (.iload_n 1, 1) := by decide +kernel
theorem dX8_undo_162 : decode cX8_undo 162 = .ok (.iaload, 1) := by decide +kernel
theorem dX8_undo_163 : decode cX8_undo 163 = .ok (.iastore, 1) := by decide +kernel
theorem dX8_undo_164 : decode cX8_undo 164 = .ok (.iinc 1 1, 3) := by decide +kernel
theorem dX8_undo_167 : decode cX8_undo 167 = .ok (.goto (-21), 3) := by decide +kernel
theorem dX8_undo_170 : decode cX8_undo 170 = .ok (.iconst 0, 1) := by decide +kernel
theorem dX8_undo_171 : decode cX8_undo 171 = .ok (.istore_n 1, 1) := by decide +kernel
theorem dX8_undo_172 : decode cX8_undo 172 = .ok (.iload_n 1, 1) := by decide +kernel
theorem dX8_undo_173 : decode cX8_undo 173 = .ok (.iconst 5, 1) := by decide +kernel
theorem dX8_undo_174 : decode cX8_undo 174 = .ok (.if_icmp .ge 45, 3) := by decide +kernel
theorem dX8_undo_177 : decode cX8_undo 177 = .ok (.aload_n 0, 1) := by decide +kernel
theorem dX8_undo_178 : decode cX8_undo 178 = .ok (.getfield 126, 3) := by decide +kernel
theorem dX8_undo_181 : decode cX8_undo 181 = .ok (.iload_n 1, 1) := by decide +kernel
theorem dX8_undo_182 : decode cX8_undo 182 = .ok (.aload_n 0, 1) := by decide +kernel
theorem dX8_undo_183 : decode cX8_undo 183 = .ok (.getfield 205, 3) := by decide +kernel
theorem dX8_undo_186 : decode cX8_undo 186 = .ok (.iload_n 1, 1) := by decide +kernel
theorem dX8_undo_187 : decode cX8_undo 187 = .ok (.iaload, 1) := by decide +kernel
theorem dX8_undo_188 : decode cX8_undo 188 = .ok (.iastore, 1) := by decide +kernel
theorem dX8_undo_189 : decode cX8_undo 189 = .ok (.aload_n 0, 1) := by decide +kernel
theorem dX8_undo_190 : decode cX8_undo 190 = .ok (.getfield 129, 3) := by decide +kernel
theorem dX8_undo_193 : decode cX8_undo 193 = .ok (.iload_n 1, 1) := by decide +kernel
theorem dX8_undo_194 : decode cX8_undo 194 = .ok (.aload_n 0, 1) := by decide +kernel
theorem dX8_undo_195 : decode cX8_undo 195 = .ok (.getfield 208, 3) := by decide +kernel
theorem dX8_undo_198 : decode cX8_undo 198 = .ok (.iload_n 1, 1) := by decide +kernel
theorem dX8_undo_199 : decode cX8_undo 199 = .ok (.iaload, 1) := by decide +kernel
theorem dX8_undo_200 : decode cX8_undo 200 = .ok (.iastore, 1) := by decide +kernel
theorem dX8_undo_201 : decode cX8_undo 201 = .ok (.aload_n 0, 1) := by decide +kernel
theorem dX8_undo_202 : decode cX8_undo 202 = .ok (.getfield 132, 3) := by decide +kernel
theorem dX8_undo_205 : decode cX8_undo 205 = .ok (.iload_n 1, 1) := by decide +kernel
theorem dX8_undo_206 : decode cX8_undo 206 = .ok (.aload_n 0, 1) := by decide +kernel
theorem dX8_undo_207 : decode cX8_undo 207 = .ok (.getfield 211, 3) := by decide +kernel
theorem dX8_undo_210 : decode cX8_undo 210 = .ok (.iload_n 1, 1) := by decide +kernel
theorem dX8_undo_211 : decode cX8_undo 211 = .ok (.iaload, 1) := by decide +kernel
theorem dX8_undo_212 : decode cX8_undo 212 = .ok (.iastore, 1) := by decide +kernel
theorem dX8_undo_213 : decode cX8_undo 213 = .ok (.iinc 1 1, 3) := by decide +kernel
theorem dX8_undo_216 : decode cX8_undo 216 = .ok (.goto (-44), 3) := by decide +kernel
theorem dX8_undo_219 : decode cX8_undo 219 = .ok (.iconst 0, 1) := by decide +kernel
theorem dX8_undo_220 : decode cX8_undo 220 = .ok (.istore_n 1, 1) := by decide +kernel
theorem dX8_undo_221 : decode cX8_undo 221 = .ok (.iload_n 1, 1) := by decide +kernel
theorem dX8_undo_222 : decode cX8_undo 222 = .ok (.bipush 10, 2) := by decide +kernel
theorem dX8_undo_224 : decode cX8_undo 224 = .ok (.if_icmp .ge 33, 3) := by decide +kernel
theorem dX8_undo_227 : decode cX8_undo 227 = .ok (.aload_n 0, 1) := by decide +kernel
theorem dX8_undo_228 : decode cX8_undo 228 = .ok (.getfield 141, 3) := by decide +kernel
theorem dX8_undo_231 : decode cX8_undo 231 = .ok (.iload_n 1, 1) := by decide +kernel
theorem dX8_undo_232 : decode cX8_undo 232 = .ok (.aload_n 0, 1) := by decide +kernel
theorem dX8_undo_233 : decode cX8_undo 233 = .ok (.getfield 214, 3) := by decide +kernel
theorem dX8_undo_236 : decode cX8_undo 236 = .ok (.iload_n 1, 1) := by decide +kernel
theorem dX8_undo_237 : decode cX8_undo 237 = .ok (.iaload, 1) := by decide +kernel
theorem dX8_undo_238 : decode cX8_undo 238 = .ok (.iastore, 1) := by decide +kernel
theorem dX8_undo_239 : decode cX8_undo 239 = .ok (.aload_n 0, 1) := by decide +kernel
theorem dX8_undo_240 : decode cX8_undo 240 = .ok (.getfield 144, 3) := by decide +kernel
theorem dX8_undo_243 : decode cX8_undo 243 = .ok (.iload_n 1, 1) := by decide +kernel
theorem dX8_undo_244 : decode cX8_undo 244 = .ok (.aload_n 0, 1) := by decide +kernel
theorem dX8_undo_245 : decode cX8_undo 245 = .ok (.getfield 217, 3) := by decide +kernel
theorem dX8_undo_248 : decode cX8_undo 248 = .ok (.iload_n 1, 1) := by decide +kernel
theorem dX8_undo_249 : decode cX8_undo 249 = .ok (.iaload, 1) := by decide +kernel
theorem dX8_undo_250 : decode cX8_undo 250 = .ok (.iastore, 1) := by decide +kernel
theorem dX8_undo_251 : decode cX8_undo 251 = .ok (.iinc 1 1, 3) := by decide +kernel
theorem dX8_undo_254 : decode cX8_undo 254 = .ok (.goto (-33), 3) := by decide +kernel
theorem dX8_undo_257 : decode cX8_undo 257 = .ok (.iconst 0, 1) := by decide +kernel
theorem dX8_undo_258 : decode cX8_undo 258 = .ok (.istore_n 1, 1) := by decide +kernel
theorem dX8_undo_259 : decode cX8_undo 259 = .ok (.iload_n 1, 1) := by decide +kernel
theorem dX8_undo_260 : decode cX8_undo 260 = .ok (.bipush 8, 2) := by decide +kernel
theorem dX8_undo_262 : decode cX8_undo 262 = .ok (.if_icmp .ge 57, 3) := by decide +kernel
theorem dX8_undo_265 : decode cX8_undo 265 = .ok (.aload_n 0, 1) := by decide +kernel
theorem dX8_undo_266 : decode cX8_undo 266 = .ok (.getfield 44, 3) := by decide +kernel
theorem dX8_undo_269 : decode cX8_undo 269 = .ok (.iload_n 1, 1) := by decide +kernel
theorem dX8_undo_270 : decode cX8_undo 270 = .ok (.aload_n 0, 1) := by decide +kernel
theorem dX8_undo_271 : decode cX8_undo 271 = .ok (.getfield 199, 3) := by decide +kernel
theorem dX8_undo_274 : decode cX8_undo 274 = .ok (.iload_n 1, 1) := by decide +kernel
theorem dX8_undo_275 : decode cX8_undo 275 = .ok (.iaload, 1) := by decide +kernel
theorem dX8_undo_276 : decode cX8_undo 276 = .ok (.iastore, 1) := by decide +kernel
theorem dX8_undo_277 : decode cX8_undo 277 = .ok (.aload_n 0, 1) := by decide +kernel
theorem dX8_undo_278 : decode cX8_undo 278 = .ok (.getfield 41, 3) := by decide +kernel
theorem dX8_undo_281 : decode cX8_undo 281 = .ok (.iload_n 1, 1) := by decide +kernel
theorem dX8_undo_282 : decode cX8_undo 282 = .ok (.aload_n 0, 1) := by decide +kernel
theorem dX8_undo_283 : decode cX8_undo 283 = .ok (.getfield 202, 3) := by decide +kernel
theorem dX8_undo_286 : decode cX8_undo 286 = .ok (.iload_n 1, 1) := by decide +kernel
theorem dX8_undo_287 : decode cX8_undo 287 = .ok (.iaload, 1) := by decide +kernel
theorem dX8_undo_288 : decode cX8_undo 288 = .ok (.iastore, 1) := by decide +kernel
theorem dX8_undo_289 : decode cX8_undo 289 = .ok (.aload_n 0, 1) := by decide +kernel
theorem dX8_undo_290 : decode cX8_undo 290 = .ok (.getfield 147, 3) := by decide +kernel
theorem dX8_undo_293 : decode cX8_undo 293 = .ok (.iload_n 1, 1) := by decide +kernel
theorem dX8_undo_294 : decode cX8_undo 294 = .ok (.aload_n 0, 1) := by decide +kernel
theorem dX8_undo_295 : decode cX8_undo 295 = .ok (.getfield 220, 3) := by decide +kernel
theorem dX8_undo_298 : decode cX8_undo 298 = .ok (.iload_n 1, 1) := by decide +kernel
theorem dX8_undo_299 : decode cX8_undo 299 = .ok (.iaload, 1) := by decide +kernel
theorem dX8_undo_300 : decode cX8_undo 300 = .ok (.iastore, 1) := by decide +kernel
theorem dX8_undo_301 : decode cX8_undo 301 = .ok (.aload_n 0, 1) := by decide +kernel
theorem dX8_undo_302 : decode cX8_undo 302 = .ok (.getfield 150, 3) := by decide +kernel
theorem dX8_undo_305 : decode cX8_undo 305 = .ok (.iload_n 1, 1) := by decide +kernel
theorem dX8_undo_306 : decode cX8_undo 306 = .ok (.aload_n 0, 1) := by decide +kernel
theorem dX8_undo_307 : decode cX8_undo 307 = .ok (.getfield 223, 3) := by decide +kernel
theorem dX8_undo_310 : decode cX8_undo 310 = .ok (.iload_n 1, 1) := by decide +kernel
theorem dX8_undo_311 : decode cX8_undo 311 = .ok (.iaload, 1) := by decide +kernel
theorem dX8_undo_312 : decode cX8_undo 312 = .ok (.iastore, 1) := by decide +kernel
theorem dX8_undo_313 : decode cX8_undo 313 = .ok (.iinc 1 1, 3) := by decide +kernel
theorem dX8_undo_316 : decode cX8_undo 316 = .ok (.goto (-57), 3) := by decide +kernel
theorem dX8_undo_319 : decode cX8_undo 319 = .ok (.aload_n 0, 1) := by decide +kernel
theorem dX8_undo_320 : decode cX8_undo 320 = .ok (.getfield 7, 3) := by decide +kernel
theorem dX8_undo_323 : decode cX8_undo 323 = .ok (.ireturn, 1) := by decide +kernel
def f_X8_undo_L259 (x1_10 : Int32) (u10 : Mem) : Option ((Int32 × Mem) ⊕ ((Int32 × Mem) ⊕ ((Int32 × Mem) ⊕ ((Int32 × Mem) ⊕ ((Int32 × Mem) ⊕ (Int32 × Mem)))))) := (if (8 : Int32) ≤ x1_10 then some (Sum.inr Sum.inr Sum.inr Sum.inr Sum.inr (gI u10 82 0, u10)) else gin x1_10 8 (gin x1_10 8 (gin x1_10 8 (gin x1_10 8 (gin x1_10 8 (gin x1_10 8 (gin x1_10 8 (gin x1_10 8 (some (Sum.inl (x1_10 + (1 : Int32), sA (sA (sA (sA u10 89 x1_10.toNatClampNeg (gA u10 115 x1_10.toNatClampNeg)) 88 x1_10.toNatClampNeg (gA (sA u10 89 x1_10.toNatClampNeg (gA u10 115 x1_10.toNatClampNeg)) 116 x1_10.toNatClampNeg)) 108 x1_10.toNatClampNeg (gA (sA (sA u10 89 x1_10.toNatClampNeg (gA u10 115 x1_10.toNatClampNeg)) 88 x1_10.toNatClampNeg (gA (sA u10 89 x1_10.toNatClampNeg (gA u10 115 x1_10.toNatClampNeg)) 116 x1_10.toNatClampNeg)) 122 x1_10.toNatClampNeg)) 109 x1_10.toNatClampNeg (gA (sA (sA (sA u10 89 x1_10.toNatClampNeg (gA u10 115 x1_10.toNatClampNeg)) 88 x1_10.toNatClampNeg (gA (sA u10 89 x1_10.toNatClampNeg (gA u10 115 x1_10.toNatClampNeg)) 116 x1_10.toNatClampNeg)) 108 x1_10.toNatClampNeg (gA (sA (sA u10 89 x1_10.toNatClampNeg (gA u10 115 x1_10.toNatClampNeg)) 88 x1_10.toNatClampNeg (gA (sA u10 89 x1_10.toNatClampNeg (gA u10 115 x1_10.toNatClampNeg)) 116 x1_10.toNatClampNeg)) 122 x1_10.toNatClampNeg)) 123 x1_10.toNatClampNeg))))))))))))
def f_X8_undo_L221 (x1_8 : Int32) (u8 : Mem) : Option ((Int32 × Mem) ⊕ ((Int32 × Mem) ⊕ ((Int32 × Mem) ⊕ ((Int32 × Mem) ⊕ (Int32 × Mem))))) := (if (10 : Int32) ≤ x1_8 then whileO (fun s => f_X8_undo_L259 s.1 s.2) FUEL ((0 : Int32), u8) else gin x1_8 10 (gin x1_8 10 (gin x1_8 10 (gin x1_8 10 (some (Sum.inl (x1_8 + (1 : Int32), sA (sA u8 106 x1_8.toNatClampNeg (gA u8 120 x1_8.toNatClampNeg)) 107 x1_8.toNatClampNeg (gA (sA u8 106 x1_8.toNatClampNeg (gA u8 120 x1_8.toNatClampNeg)) 121 x1_8.toNatClampNeg))))))))
def f_X8_undo_L172 (x1_6 : Int32) (u6 : Mem) : Option ((Int32 × Mem) ⊕ ((Int32 × Mem) ⊕ ((Int32 × Mem) ⊕ (Int32 × Mem)))) := (if (5 : Int32) ≤ x1_6 then whileO (fun s => f_X8_undo_L221 s.1 s.2) FUEL ((0 : Int32), u6) else gin x1_6 5 (gin x1_6 5 (gin x1_6 5 (gin x1_6 5 (gin x1_6 5 (gin x1_6 5 (some (Sum.inl (x1_6 + (1 : Int32), sA (sA (sA u6 103 x1_6.toNatClampNeg (gA u6 117 x1_6.toNatClampNeg)) 104 x1_6.toNatClampNeg (gA (sA u6 103 x1_6.toNatClampNeg (gA u6 117 x1_6.toNatClampNeg)) 118 x1_6.toNatClampNeg)) 105 x1_6.toNatClampNeg (gA (sA (sA u6 103 x1_6.toNatClampNeg (gA u6 117 x1_6.toNatClampNeg)) 104 x1_6.toNatClampNeg (gA (sA u6 103 x1_6.toNatClampNeg (gA u6 117 x1_6.toNatClampNeg)) 118 x1_6.toNatClampNeg)) 119 x1_6.toNatClampNeg))))))))))
def f_X8_undo_L146 (x1_4 : Int32) (u4 : Mem) : Option ((Int32 × Mem) ⊕ ((Int32 × Mem) ⊕ (Int32 × Mem))) := (if (24 : Int32) ≤ x1_4 then whileO (fun s => f_X8_undo_L172 s.1 s.2) FUEL ((0 : Int32), u4) else gin x1_4 24 (gin x1_4 24 (some (Sum.inl (x1_4 + (1 : Int32), sA u4 87 x1_4.toNatClampNeg (gA u4 114 x1_4.toNatClampNeg))))))
def f_X8_undo_L84 (x1_2 : Int32) (u2 : Mem) : Option ((Int32 × Mem) ⊕ (Int32 × Mem)) := (if (6 : Int32) ≤ x1_2 then whileO (fun s => f_X8_undo_L146 s.1 s.2) FUEL ((0 : Int32), u2) else gin x1_2 6 (gin x1_2 6 (gin x1_2 6 (gin x1_2 6 (gin x1_2 6 (gin x1_2 6 (gin x1_2 6 (gin x1_2 6 (some (Sum.inl (x1_2 + (1 : Int32), sA (sA (sA (sA u2 83 x1_2.toNatClampNeg (gA u2 110 x1_2.toNatClampNeg)) 84 x1_2.toNatClampNeg (gA (sA u2 83 x1_2.toNatClampNeg (gA u2 110 x1_2.toNatClampNeg)) 111 x1_2.toNatClampNeg)) 85 x1_2.toNatClampNeg (gA (sA (sA u2 83 x1_2.toNatClampNeg (gA u2 110 x1_2.toNatClampNeg)) 84 x1_2.toNatClampNeg (gA (sA u2 83 x1_2.toNatClampNeg (gA u2 110 x1_2.toNatClampNeg)) 111 x1_2.toNatClampNeg)) 112 x1_2.toNatClampNeg)) 86 x1_2.toNatClampNeg (gA (sA (sA (sA u2 83 x1_2.toNatClampNeg (gA u2 110 x1_2.toNatClampNeg)) 84 x1_2.toNatClampNeg (gA (sA u2 83 x1_2.toNatClampNeg (gA u2 110 x1_2.toNatClampNeg)) 111 x1_2.toNatClampNeg)) 85 x1_2.toNatClampNeg (gA (sA (sA u2 83 x1_2.toNatClampNeg (gA u2 110 x1_2.toNatClampNeg)) 84 x1_2.toNatClampNeg (gA (sA u2 83 x1_2.toNatClampNeg (gA u2 110 x1_2.toNatClampNeg)) 111 x1_2.toNatClampNeg)) 112 x1_2.toNatClampNeg)) 113 x1_2.toNatClampNeg))))))))))))
def f_X8_undo (u : Mem) : Option (Int32 × Mem) := (if (gI u 82 47) = 0 then some ((-3 : Int32), u) else whileO (fun s => f_X8_undo_L84 s.1 s.2) FUEL ((0 : Int32), sI (sI (sI (sI (sI (sI (sI (sI (sI u 82 13 (gI u 82 48)) 82 0 (gI (sI u 82 13 (gI u 82 48)) 82 49)) 82 1 (gI (sI (sI u 82 13 (gI u 82 48)) 82 0 (gI (sI u 82 13 (gI u 82 48)) 82 49)) 82 50)) 82 2 (gI (sI (sI (sI u 82 13 (gI u 82 48)) 82 0 (gI (sI u 82 13 (gI u 82 48)) 82 49)) 82 1 (gI (sI (sI u 82 13 (gI u 82 48)) 82 0 (gI (sI u 82 13 (gI u 82 48)) 82 49)) 82 50)) 82 51)) 82 3 (gI (sI (sI (sI (sI u 82 13 (gI u 82 48)) 82 0 (gI (sI u 82 13 (gI u 82 48)) 82 49)) 82 1 (gI (sI (sI u 82 13 (gI u 82 48)) 82 0 (gI (sI u 82 13 (gI u 82 48)) 82 49)) 82 50)) 82 2 (gI (sI (sI (sI u 82 13 (gI u 82 48)) 82 0 (gI (sI u 82 13 (gI u 82 48)) 82 49)) 82 1 (gI (sI (sI u 82 13 (gI u 82 48)) 82 0 (gI (sI u 82 13 (gI u 82 48)) 82 49)) 82 50)) 82 51)) 82 52)) 82 4 (gI (sI (sI (sI (sI (sI u 82 13 (gI u 82 48)) 82 0 (gI (sI u 82 13 (gI u 82 48)) 82 49)) 82 1 (gI (sI (sI u 82 13 (gI u 82 48)) 82 0 (gI (sI u 82 13 (gI u 82 48)) 82 49)) 82 50)) 82 2 (gI (sI (sI (sI u 82 13 (gI u 82 48)) 82 0 (gI (sI u 82 13 (gI u 82 48)) 82 49)) 82 1 (gI (sI (sI u 82 13 (gI u 82 48)) 82 0 (gI (sI u 82 13 (gI u 82 48)) 82 49)) 82 50)) 82 51)) 82 3 (gI (sI (sI (sI (sI u 82 13 (gI u 82 48)) 82 0 (gI (sI u 82 13 (gI u 82 48)) 82 49)) 82 1 (gI (sI (sI u 82 13 (gI u 82 48)) 82 0 (gI (sI u 82 13 (gI u 82 48)) 82 49)) 82 50)) 82 2 (gI (sI (sI (sI u 82 13 (gI u 82 48)) 82 0 (gI (sI u 82 13 (gI u 82 48)) 82 49)) 82 1 (gI (sI (sI u 82 13 (gI u 82 48)) 82 0 (gI (sI u 82 13 (gI u 82 48)) 82 49)) 82 50)) 82 51)) 82 52)) 82 53)) 82 37 (gI (sI (sI (sI (sI (sI (sI u 82 13 (gI u 82 48)) 82 0 (gI (sI u 82 13 (gI u 82 48)) 82 49)) 82 1 (gI (sI (sI u 82 13 (gI u 82 48)) 82 0 (gI (sI u 82 13 (gI u 82 48)) 82 49)) 82 50)) 82 2 (gI (sI (sI (sI u 82 13 (gI u 82 48)) 82 0 (gI (sI u 82 13 (gI u 82 48)) 82 49)) 82 1 (gI (sI (sI u 82 13 (gI u 82 48)) 82 0 (gI (sI u 82 13 (gI u 82 48)) 82 49)) 82 50)) 82 51)) 82 3 (gI (sI (sI (sI (sI u 82 13 (gI u 82 48)) 82 0 (gI (sI u 82 13 (gI u 82 48)) 82 49)) 82 1 (gI (sI (sI u 82 13 (gI u 82 48)) 82 0 (gI (sI u 82 13 (gI u 82 48)) 82 49)) 82 50)) 82 2 (gI (sI (sI (sI u 82 13 (gI u 82 48)) 82 0 (gI (sI u 82 13 (gI u 82 48)) 82 49)) 82 1 (gI (sI (sI u 82 13 (gI u 82 48)) 82 0 (gI (sI u 82 13 (gI u 82 48)) 82 49)) 82 50)) 82 51)) 82 52)) 82 4 (gI (sI (sI (sI (sI (sI u 82 13 (gI u 82 48)) 82 0 (gI (sI u 82 13 (gI u 82 48)) 82 49)) 82 1 (gI (sI (sI u 82 13 (gI u 82 48)) 82 0 (gI (sI u 82 13 (gI u 82 48)) 82 49)) 82 50)) 82 2 (gI (sI (sI (sI u 82 13 (gI u 82 48)) 82 0 (gI (sI u 82 13 (gI u 82 48)) 82 49)) 82 1 (gI (sI (sI u 82 13 (gI u 82 48)) 82 0 (gI (sI u 82 13 (gI u 82 48)) 82 49)) 82 50)) 82 51)) 82 3 (gI (sI (sI (sI (sI u 82 13 (gI u 82 48)) 82 0 (gI (sI u 82 13 (gI u 82 48)) 82 49)) 82 1 (gI (sI (sI u 82 13 (gI u 82 48)) 82 0 (gI (sI u 82 13 (gI u 82 48)) 82 49)) 82 50)) 82 2 (gI (sI (sI (sI u 82 13 (gI u 82 48)) 82 0 (gI (sI u 82 13 (gI u 82 48)) 82 49)) 82 1 (gI (sI (sI u 82 13 (gI u 82 48)) 82 0 (gI (sI u 82 13 (gI u 82 48)) 82 49)) 82 50)) 82 51)) 82 52)) 82 53)) 82 54)) 82 41 (gI (sI (sI (sI (sI (sI (sI (sI u 82 13 (gI u 82 48)) 82 0 (gI (sI u 82 13 (gI u 82 48)) 82 49)) 82 1 (gI (sI (sI u 82 13 (gI u 82 48)) 82 0 (gI (sI u 82 13 (gI u 82 48)) 82 49)) 82 50)) 82 2 (gI (sI (sI (sI u 82 13 (gI u 82 48)) 82 0 (gI (sI u 82 13 (gI u 82 48)) 82 49)) 82 1 (gI (sI (sI u 82 13 (gI u 82 48)) 82 0 (gI (sI u 82 13 (gI u 82 48)) 82 49)) 82 50)) 82 51)) 82 3 (gI (sI (sI (sI (sI u 82 13 (gI u 82 48)) 82 0 (gI (sI u 82 13 (gI u 82 48)) 82 49)) 82 1 (gI (sI (sI u 82 13 (gI u 82 48)) 82 0 (gI (sI u 82 13 (gI u 82 48)) 82 49)) 82 50)) 82 2 (gI (sI (sI (sI u 82 13 (gI u 82 48)) 82 0 (gI (sI u 82 13 (gI u 82 48)) 82 49)) 82 1 (gI (sI (sI u 82 13 (gI u 82 48)) 82 0 (gI (sI u 82 13 (gI u 82 48)) 82 49)) 82 50)) 82 51)) 82 52)) 82 4 (gI (sI (sI (sI (sI (sI u 82 13 (gI u 82 48)) 82 0 (gI (sI u 82 13 (gI u 82 48)) 82 49)) 82 1 (gI (sI (sI u 82 13 (gI u 82 48)) 82 0 (gI (sI u 82 13 (gI u 82 48)) 82 49)) 82 50)) 82 2 (gI (sI (sI (sI u 82 13 (gI u 82 48)) 82 0 (gI (sI u 82 13 (gI u 82 48)) 82 49)) 82 1 (gI (sI (sI u 82 13 (gI u 82 48)) 82 0 (gI (sI u 82 13 (gI u 82 48)) 82 49)) 82 50)) 82 51)) 82 3 (gI (sI (sI (sI (sI u 82 13 (gI u 82 48)) 82 0 (gI (sI u 82 13 (gI u 82 48)) 82 49)) 82 1 (gI (sI (sI u 82 13 (gI u 82 48)) 82 0 (gI (sI u 82 13 (gI u 82 48)) 82 49)) 82 50)) 82 2 (gI (sI (sI (sI u 82 13 (gI u 82 48)) 82 0 (gI (sI u 82 13 (gI u 82 48)) 82 49)) 82 1 (gI (sI (sI u 82 13 (gI u 82 48)) 82 0 (gI (sI u 82 13 (gI u 82 48)) 82 49)) 82 50)) 82 51)) 82 52)) 82 53)) 82 37 (gI (sI (sI (sI (sI (sI (sI u 82 13 (gI u 82 48)) 82 0 (gI (sI u 82 13 (gI u 82 48)) 82 49)) 82 1 (gI (sI (sI u 82 13 (gI u 82 48)) 82 0 (gI (sI u 82 13 (gI u 82 48)) 82 49)) 82 50)) 82 2 (gI (sI (sI (sI u 82 13 (gI u 82 48)) 82 0 (gI (sI u 82 13 (gI u 82 48)) 82 49)) 82 1 (gI (sI (sI u 82 13 (gI u 82 48)) 82 0 (gI (sI u 82 13 (gI u 82 48)) 82 49)) 82 50)) 82 51)) 82 3 (gI (sI (sI (sI (sI u 82 13 (gI u 82 48)) 82 0 (gI (sI u 82 13 (gI u 82 48)) 82 49)) 82 1 (gI (sI (sI u 82 13 (gI u 82 48)) 82 0 (gI (sI u 82 13 (gI u 82 48)) 82 49)) 82 50)) 82 2 (gI (sI (sI (sI u 82 13 (gI u 82 48)) 82 0 (gI (sI u 82 13 (gI u 82 48)) 82 49)) 82 1 (gI (sI (sI u 82 13 (gI u 82 48)) 82 0 (gI (sI u 82 13 (gI u 82 48)) 82 49)) 82 50)) 82 51)) 82 52)) 82 4 (gI (sI (sI (sI (sI (sI u 82 13 (gI u 82 48)) 82 0 (gI (sI u 82 13 (gI u 82 48)) 82 49)) 82 1 (gI (sI (sI u 82 13 (gI u 82 48)) 82 0 (gI (sI u 82 13 (gI u 82 48)) 82 49)) 82 50)) 82 2 (gI (sI (sI (sI u 82 13 (gI u 82 48)) 82 0 (gI (sI u 82 13 (gI u 82 48)) 82 49)) 82 1 (gI (sI (sI u 82 13 (gI u 82 48)) 82 0 (gI (sI u 82 13 (gI u 82 48)) 82 49)) 82 50)) 82 51)) 82 3 (gI (sI (sI (sI (sI u 82 13 (gI u 82 48)) 82 0 (gI (sI u 82 13 (gI u 82 48)) 82 49)) 82 1 (gI (sI (sI u 82 13 (gI u 82 48)) 82 0 (gI (sI u 82 13 (gI u 82 48)) 82 49)) 82 50)) 82 2 (gI (sI (sI (sI u 82 13 (gI u 82 48)) 82 0 (gI (sI u 82 13 (gI u 82 48)) 82 49)) 82 1 (gI (sI (sI u 82 13 (gI u 82 48)) 82 0 (gI (sI u 82 13 (gI u 82 48)) 82 49)) 82 50)) 82 51)) 82 52)) 82 53)) 82 54)) 82 55)) 82 42 (gI (sI (sI (sI (sI (sI (sI (sI (sI u 82 13 (gI u 82 48)) 82 0 (gI (sI u 82 13 (gI u 82 48)) 82 49)) 82 1 (gI (sI (sI u 82 13 (gI u 82 48)) 82 0 (gI (sI u 82 13 (gI u 82 48)) 82 49)) 82 50)) 82 2 (gI (sI (sI (sI u 82 13 (gI u 82 48)) 82 0 (gI (sI u 82 13 (gI u 82 48)) 82 49)) 82 1 (gI (sI (sI u 82 13 (gI u 82 48)) 82 0 (gI (sI u 82 13 (gI u 82 48)) 82 49)) 82 50)) 82 51)) 82 3 (gI (sI (sI (sI (sI u 82 13 (gI u 82 48)) 82 0 (gI (sI u 82 13 (gI u 82 48)) 82 49)) 82 1 (gI (sI (sI u 82 13 (gI u 82 48)) 82 0 (gI (sI u 82 13 (gI u 82 48)) 82 49)) 82 50)) 82 2 (gI (sI (sI (sI u 82 13 (gI u 82 48)) 82 0 (gI (sI u 82 13 (gI u 82 48)) 82 49)) 82 1 (gI (sI (sI u 82 13 (gI u 82 48)) 82 0 (gI (sI u 82 13 (gI u 82 48)) 82 49)) 82 50)) 82 51)) 82 52)) 82 4 (gI (sI (sI (sI (sI (sI u 82 13 (gI u 82 48)) 82 0 (gI (sI u 82 13 (gI u 82 48)) 82 49)) 82 1 (gI (sI (sI u 82 13 (gI u 82 48)) 82 0 (gI (sI u 82 13 (gI u 82 48)) 82 49)) 82 50)) 82 2 (gI (sI (sI (sI u 82 13 (gI u 82 48)) 82 0 (gI (sI u 82 13 (gI u 82 48)) 82 49)) 82 1 (gI (sI (sI u 82 13 (gI u 82 48)) 82 0 (gI (sI u 82 13 (gI u 82 48)) 82 49)) 82 50)) 82 51)) 82 3 (gI (sI (sI (sI (sI u 82 13 (gI u 82 48)) 82 0 (gI (sI u 82 13 (gI u 82 48)) 82 49)) 82 1 (gI (sI (sI u 82 13 (gI u 82 48)) 82 0 (gI (sI u 82 13 (gI u 82 48)) 82 49)) 82 50)) 82 2 (gI (sI (sI (sI u 82 13 (gI u 82 48)) 82 0 (gI (sI u 82 13 (gI u 82 48)) 82 49)) 82 1 (gI (sI (sI u 82 13 (gI u 82 48)) 82 0 (gI (sI u 82 13 (gI u 82 48)) 82 49)) 82 50)) 82 51)) 82 52)) 82 53)) 82 37 (gI (sI (sI (sI (sI (sI (sI u 82 13 (gI u 82 48)) 82 0 (gI (sI u 82 13 (gI u 82 48)) 82 49)) 82 1 (gI (sI (sI u 82 13 (gI u 82 48)) 82 0 (gI (sI u 82 13 (gI u 82 48)) 82 49)) 82 50)) 82 2 (gI (sI (sI (sI u 82 13 (gI u 82 48)) 82 0 (gI (sI u 82 13 (gI u 82 48)) 82 49)) 82 1 (gI (sI (sI u 82 13 (gI u 82 48)) 82 0 (gI (sI u 82 13 (gI u 82 48)) 82 49)) 82 50)) 82 51)) 82 3 (gI (sI (sI (sI (sI u 82 13 (gI u 82 48)) 82 0 (gI (sI u 82 13 (gI u 82 48)) 82 49)) 82 1 (gI (sI (sI u 82 13 (gI u 82 48)) 82 0 (gI (sI u 82 13 (gI u 82 48)) 82 49)) 82 50)) 82 2 (gI (sI (sI (sI u 82 13 (gI u 82 48)) 82 0 (gI (sI u 82 13 (gI u 82 48)) 82 49)) 82 1 (gI (sI (sI u 82 13 (gI u 82 48)) 82 0 (gI (sI u 82 13 (gI u 82 48)) 82 49)) 82 50)) 82 51)) 82 52)) 82 4 (gI (sI (sI (sI (sI (sI u 82 13 (gI u 82 48)) 82 0 (gI (sI u 82 13 (gI u 82 48)) 82 49)) 82 1 (gI (sI (sI u 82 13 (gI u 82 48)) 82 0 (gI (sI u 82 13 (gI u 82 48)) 82 49)) 82 50)) 82 2 (gI (sI (sI (sI u 82 13 (gI u 82 48)) 82 0 (gI (sI u 82 13 (gI u 82 48)) 82 49)) 82 1 (gI (sI (sI u 82 13 (gI u 82 48)) 82 0 (gI (sI u 82 13 (gI u 82 48)) 82 49)) 82 50)) 82 51)) 82 3 (gI (sI (sI (sI (sI u 82 13 (gI u 82 48)) 82 0 (gI (sI u 82 13 (gI u 82 48)) 82 49)) 82 1 (gI (sI (sI u 82 13 (gI u 82 48)) 82 0 (gI (sI u 82 13 (gI u 82 48)) 82 49)) 82 50)) 82 2 (gI (sI (sI (sI u 82 13 (gI u 82 48)) 82 0 (gI (sI u 82 13 (gI u 82 48)) 82 49)) 82 1 (gI (sI (sI u 82 13 (gI u 82 48)) 82 0 (gI (sI u 82 13 (gI u 82 48)) 82 49)) 82 50)) 82 51)) 82 52)) 82 53)) 82 54)) 82 41 (gI (sI (sI (sI (sI (sI (sI (sI u 82 13 (gI u 82 48)) 82 0 (gI (sI u 82 13 (gI u 82 48)) 82 49)) 82 1 (gI (sI (sI u 82 13 (gI u 82 48)) 82 0 (gI (sI u 82 13 (gI u 82 48)) 82 49)) 82 50)) 82 2 (gI (sI (sI (sI u 82 13 (gI u 82 48)) 82 0 (gI (sI u 82 13 (gI u 82 48)) 82 49)) 82 1 (gI (sI (sI u 82 13 (gI u 82 48)) 82 0 (gI (sI u 82 13 (gI u 82 48)) 82 49)) 82 50)) 82 51)) 82 3 (gI (sI (sI (sI (sI u 82 13 (gI u 82 48)) 82 0 (gI (sI u 82 13 (gI u 82 48)) 82 49)) 82 1 (gI (sI (sI u 82 13 (gI u 82 48)) 82 0 (gI (sI u 82 13 (gI u 82 48)) 82 49)) 82 50)) 82 2 (gI (sI (sI (sI u 82 13 (gI u 82 48)) 82 0 (gI (sI u 82 13 (gI u 82 48)) 82 49)) 82 1 (gI (sI (sI u 82 13 (gI u 82 48)) 82 0 (gI (sI u 82 13 (gI u 82 48)) 82 49)) 82 50)) 82 51)) 82 52)) 82 4 (gI (sI (sI (sI (sI (sI u 82 13 (gI u 82 48)) 82 0 (gI (sI u 82 13 (gI u 82 48)) 82 49)) 82 1 (gI (sI (sI u 82 13 (gI u 82 48)) 82 0 (gI (sI u 82 13 (gI u 82 48)) 82 49)) 82 50)) 82 2 (gI (sI (sI (sI u 82 13 (gI u 82 48)) 82 0 (gI (sI u 82 13 (gI u 82 48)) 82 49)) 82 1 (gI (sI (sI u 82 13 (gI u 82 48)) 82 0 (gI (sI u 82 13 (gI u 82 48)) 82 49)) 82 50)) 82 51)) 82 3 (gI (sI (sI (sI (sI u 82 13 (gI u 82 48)) 82 0 (gI (sI u 82 13 (gI u 82 48)) 82 49)) 82 1 (gI (sI (sI u 82 13 (gI u 82 48)) 82 0 (gI (sI u 82 13 (gI u 82 48)) 82 49)) 82 50)) 82 2 (gI (sI (sI (sI u 82 13 (gI u 82 48)) 82 0 (gI (sI u 82 13 (gI u 82 48)) 82 49)) 82 1 (gI (sI (sI u 82 13 (gI u 82 48)) 82 0 (gI (sI u 82 13 (gI u 82 48)) 82 49)) 82 50)) 82 51)) 82 52)) 82 53)) 82 37 (gI (sI (sI (sI (sI (sI (sI u 82 13 (gI u 82 48)) 82 0 (gI (sI u 82 13 (gI u 82 48)) 82 49)) 82 1 (gI (sI (sI u 82 13 (gI u 82 48)) 82 0 (gI (sI u 82 13 (gI u 82 48)) 82 49)) 82 50)) 82 2 (gI (sI (sI (sI u 82 13 (gI u 82 48)) 82 0 (gI (sI u 82 13 (gI u 82 48)) 82 49)) 82 1 (gI (sI (sI u 82 13 (gI u 82 48)) 82 0 (gI (sI u 82 13 (gI u 82 48)) 82 49)) 82 50)) 82 51)) 82 3 (gI (sI (sI (sI (sI u 82 13 (gI u 82 48)) 82 0 (gI (sI u 82 13 (gI u 82 48)) 82 49)) 82 1 (gI (sI (sI u 82 13 (gI u 82 48)) 82 0 (gI (sI u 82 13 (gI u 82 48)) 82 49)) 82 50)) 82 2 (gI (sI (sI (sI u 82 13 (gI u 82 48)) 82 0 (gI (sI u 82 13 (gI u 82 48)) 82 49)) 82 1 (gI (sI (sI u 82 13 (gI u 82 48)) 82 0 (gI (sI u 82 13 (gI u 82 48)) 82 49)) 82 50)) 82 51)) 82 52)) 82 4 (gI (sI (sI (sI (sI (sI u 82 13 (gI u 82 48)) 82 0 (gI (sI u 82 13 (gI u 82 48)) 82 49)) 82 1 (gI (sI (sI u 82 13 (gI u 82 48)) 82 0 (gI (sI u 82 13 (gI u 82 48)) 82 49)) 82 50)) 82 2 (gI (sI (sI (sI u 82 13 (gI u 82 48)) 82 0 (gI (sI u 82 13 (gI u 82 48)) 82 49)) 82 1 (gI (sI (sI u 82 13 (gI u 82 48)) 82 0 (gI (sI u 82 13 (gI u 82 48)) 82 49)) 82 50)) 82 51)) 82 3 (gI (sI (sI (sI (sI u 82 13 (gI u 82 48)) 82 0 (gI (sI u 82 13 (gI u 82 48)) 82 49)) 82 1 (gI (sI (sI u 82 13 (gI u 82 48)) 82 0 (gI (sI u 82 13 (gI u 82 48)) 82 49)) 82 50)) 82 2 (gI (sI (sI (sI u 82 13 (gI u 82 48)) 82 0 (gI (sI u 82 13 (gI u 82 48)) 82 49)) 82 1 (gI (sI (sI u 82 13 (gI u 82 48)) 82 0 (gI (sI u 82 13 (gI u 82 48)) 82 49)) 82 50)) 82 51)) 82 52)) 82 53)) 82 54)) 82 55)) 82 56)))
set_option maxHeartbeats 4000000 in
set_option maxRecDepth 100000 in
theorem k_X8_undo (l : Launch) (D : gDt) (base : Nat) (Z : gZt) (u : Mem) (r : Int32) (u' : Mem) (hf : f_X8_undo u = some (r, u')) : Met l yX8_undo (gws yX8_undo cX8_undo 2 (some .int)) (gRm 1 0 0) (gPc D base Z u [.ref (base + 82)]) (gQi D base r u') 0 0 (gF base) := by
  refine Met.ofW (cc := cX8_undo) (maxL := 2) (ret := some .int) (by decide) rfl ?_
  intro p e s m args below meth c s₁ B hml hv
  obtain ⟨rfl, C0, hG⟩ := g_enter B hml hv
  have hr := B.returns
  have C0 : gC p s m meth c _ cX8_undo 2 RX8 D base Z := C0
  have hx := C0.1
  have hb := C0.2.1
  have hl := lv_entry ([.ref (base + 82)]) (n := 2) (Nat.le_of_ble_eq_true rfl)
  rw [lg_entry_eq]
  generalize (lg_sl ([.ref (base + 82)]) ++ List.replicate (2 - (lg_sl ([.ref (base + 82)])).length) Slot.unset).toArray = ls at hl ⊢
  have hl : lv_has ls 2 [(0, .ref (base + 82))] := hl
  obtain ⟨Q, hQ⟩ : ∃ Q, Q = MQ below (gQi D base r u') ([.ref (base + 82)] : List Value).toArray s 0 0 (gF base) := ⟨_, rfl⟩
  rw [← hQ]
  change W p l e (gRm 1 0 0) s m _ below meth c _ _ _ _ _ _
  unfold f_X8_undo at hf
  refine lv_aload_n hx hb dX8_undo_0 rfl (lv_at hl 0 rfl) ?_
  refine g_getI C0 hG (L82 hG) rfl 47 (by decide) rfl w_893 dX8_undo_1 ?_
  refine lv_if_ne (tgt := 10) hx hb dX8_undo_4 (by decide) (fun c1 => ?_) (fun c1 => ?_)
  · have hf := gif_f c1 hf
    refine lv_aload_n hx hb dX8_undo_10 rfl (lv_at hl 0 rfl) ?_
    refine lv_aload_n hx hb dX8_undo_11 rfl (lv_at hl 0 rfl) ?_
    refine g_getI C0 hG (L82 hG) rfl 48 (by decide) rfl w_894 dX8_undo_12 ?_
    refine g_putI (ty := .int) C0 hG (L82 hG) rfl 13 (by decide) rfl w_859 rfl (by decide) rfl rfl dX8_undo_15 (fun H locs hG => ?_)
    refine lv_aload_n hx hb dX8_undo_18 rfl (lv_at hl 0 rfl) ?_
    refine lv_aload_n hx hb dX8_undo_19 rfl (lv_at hl 0 rfl) ?_
    refine g_getI C0 hG (L82 hG) rfl 49 (by decide) rfl w_895 dX8_undo_20 ?_
    refine g_putI (ty := .int) C0 hG (L82 hG) rfl 0 (by decide) rfl w_846 rfl (by decide) rfl rfl dX8_undo_23 (fun H locs hG => ?_)
    refine lv_aload_n hx hb dX8_undo_26 rfl (lv_at hl 0 rfl) ?_
    refine lv_aload_n hx hb dX8_undo_27 rfl (lv_at hl 0 rfl) ?_
    refine g_getI C0 hG (L82 hG) rfl 50 (by decide) rfl w_896 dX8_undo_28 ?_
    refine g_putI (ty := .int) C0 hG (L82 hG) rfl 1 (by decide) rfl w_847 rfl (by decide) rfl rfl dX8_undo_31 (fun H locs hG => ?_)
    refine lv_aload_n hx hb dX8_undo_34 rfl (lv_at hl 0 rfl) ?_
    refine lv_aload_n hx hb dX8_undo_35 rfl (lv_at hl 0 rfl) ?_
    refine g_getI C0 hG (L82 hG) rfl 51 (by decide) rfl w_897 dX8_undo_36 ?_
    refine g_putI (ty := .int) C0 hG (L82 hG) rfl 2 (by decide) rfl w_848 rfl (by decide) rfl rfl dX8_undo_39 (fun H locs hG => ?_)
    refine lv_aload_n hx hb dX8_undo_42 rfl (lv_at hl 0 rfl) ?_
    refine lv_aload_n hx hb dX8_undo_43 rfl (lv_at hl 0 rfl) ?_
    refine g_getI C0 hG (L82 hG) rfl 52 (by decide) rfl w_898 dX8_undo_44 ?_
    refine g_putI (ty := .int) C0 hG (L82 hG) rfl 3 (by decide) rfl w_849 rfl (by decide) rfl rfl dX8_undo_47 (fun H locs hG => ?_)
    refine lv_aload_n hx hb dX8_undo_50 rfl (lv_at hl 0 rfl) ?_
    refine lv_aload_n hx hb dX8_undo_51 rfl (lv_at hl 0 rfl) ?_
    refine g_getI C0 hG (L82 hG) rfl 53 (by decide) rfl w_899 dX8_undo_52 ?_
    refine g_putI (ty := .int) C0 hG (L82 hG) rfl 4 (by decide) rfl w_850 rfl (by decide) rfl rfl dX8_undo_55 (fun H locs hG => ?_)
    refine lv_aload_n hx hb dX8_undo_58 rfl (lv_at hl 0 rfl) ?_
    refine lv_aload_n hx hb dX8_undo_59 rfl (lv_at hl 0 rfl) ?_
    refine g_getI C0 hG (L82 hG) rfl 54 (by decide) rfl w_900 dX8_undo_60 ?_
    refine g_putI (ty := .int) C0 hG (L82 hG) rfl 37 (by decide) rfl w_883 rfl (by decide) rfl rfl dX8_undo_63 (fun H locs hG => ?_)
    refine lv_aload_n hx hb dX8_undo_66 rfl (lv_at hl 0 rfl) ?_
    refine lv_aload_n hx hb dX8_undo_67 rfl (lv_at hl 0 rfl) ?_
    refine g_getI C0 hG (L82 hG) rfl 55 (by decide) rfl w_901 dX8_undo_68 ?_
    refine g_putI (ty := .int) C0 hG (L82 hG) rfl 41 (by decide) rfl w_887 rfl (by decide) rfl rfl dX8_undo_71 (fun H locs hG => ?_)
    refine lv_aload_n hx hb dX8_undo_74 rfl (lv_at hl 0 rfl) ?_
    refine lv_aload_n hx hb dX8_undo_75 rfl (lv_at hl 0 rfl) ?_
    refine g_getI C0 hG (L82 hG) rfl 56 (by decide) rfl w_902 dX8_undo_76 ?_
    refine g_putI (ty := .int) C0 hG (L82 hG) rfl 42 (by decide) rfl w_888 rfl (by decide) rfl rfl dX8_undo_79 (fun H locs hG => ?_)
    refine lv_iconst (v := (0 : Int32)) hx hb dX8_undo_82 (by decide) ?_
    refine lv_istore_n (lv' := [(1, .int (0 : Int32)), (0, .ref (base + 82))]) hx hb dX8_undo_83 rfl hl (by decide) rfl (fun ls hl => ?_)
    have loop2 : ∀ (n2 : Nat) (x1_2 : Int32) (u2 : Mem) (H : Heap) (locs : List Loc) (ls : Array Slot), gH D base s u2 H locs → lv_has ls 2 [(0, .ref (base + 82)), (1, .int x1_2)] → whileO (fun s => f_X8_undo_L84 s.1 s.2) n2 (x1_2, u2) = some (r, u') → W p l e (gRm 1 0 0) s m ([.ref (base + 82)] : List Value).toArray below meth c H locs 0 0 Q (F0 m 84 ls []) := by
      intro n2
      induction n2 with
      | zero => intro x1_2 u2 H locs ls hG hl hf; cases hf
      | succ n2 ih2 =>
        intro x1_2 u2 H locs ls hG hl hf
        obtain ⟨X2, hf, hX2⟩ := while_s hf
        have hf : f_X8_undo_L84 x1_2 u2 = some X2 := hf
        unfold f_X8_undo_L84 at hf
        refine lv_iload_n hx hb dX8_undo_84 rfl (lv_at hl 1 rfl) ?_
        refine lv_bipush (v := (6 : Int32)) hx hb dX8_undo_85 (by decide) ?_
        refine lv_icmp_ge (tgt := 144) hx hb dX8_undo_87 (by decide) (fun c3 => ?_) (fun c3 => ?_)
        · have hf := gif_t c3 hf
          refine lv_iconst (v := (0 : Int32)) hx hb dX8_undo_144 (by decide) ?_
          refine lv_istore_n (lv' := [(1, .int (0 : Int32)), (0, .ref (base + 82))]) hx hb dX8_undo_145 rfl hl (by decide) rfl (fun ls hl => ?_)
          have loop4 : ∀ (n4 : Nat) (x1_4 : Int32) (u4 : Mem) (H : Heap) (locs : List Loc) (ls : Array Slot), gH D base s u4 H locs → lv_has ls 2 [(0, .ref (base + 82)), (1, .int x1_4)] → whileO (fun s => f_X8_undo_L146 s.1 s.2) n4 (x1_4, u4) = some X2 → W p l e (gRm 1 0 0) s m ([.ref (base + 82)] : List Value).toArray below meth c H locs 0 0 Q (F0 m 146 ls []) := by
            intro n4
            induction n4 with
            | zero => intro x1_4 u4 H locs ls hG hl hf; cases hf
            | succ n4 ih4 =>
              intro x1_4 u4 H locs ls hG hl hf
              obtain ⟨X4, hf, hX4⟩ := while_s hf
              have hf : f_X8_undo_L146 x1_4 u4 = some X4 := hf
              unfold f_X8_undo_L146 at hf
              refine lv_iload_n hx hb dX8_undo_146 rfl (lv_at hl 1 rfl) ?_
              refine lv_bipush (v := (24 : Int32)) hx hb dX8_undo_147 (by decide) ?_
              refine lv_icmp_ge (tgt := 170) hx hb dX8_undo_149 (by decide) (fun c5 => ?_) (fun c5 => ?_)
              · have hf := gif_t c5 hf
                refine lv_iconst (v := (0 : Int32)) hx hb dX8_undo_170 (by decide) ?_
                refine lv_istore_n (lv' := [(1, .int (0 : Int32)), (0, .ref (base + 82))]) hx hb dX8_undo_171 rfl hl (by decide) rfl (fun ls hl => ?_)
                have loop6 : ∀ (n6 : Nat) (x1_6 : Int32) (u6 : Mem) (H : Heap) (locs : List Loc) (ls : Array Slot), gH D base s u6 H locs → lv_has ls 2 [(0, .ref (base + 82)), (1, .int x1_6)] → whileO (fun s => f_X8_undo_L172 s.1 s.2) n6 (x1_6, u6) = some X4 → W p l e (gRm 1 0 0) s m ([.ref (base + 82)] : List Value).toArray below meth c H locs 0 0 Q (F0 m 172 ls []) := by
                  intro n6
                  induction n6 with
                  | zero => intro x1_6 u6 H locs ls hG hl hf; cases hf
                  | succ n6 ih6 =>
                    intro x1_6 u6 H locs ls hG hl hf
                    obtain ⟨X6, hf, hX6⟩ := while_s hf
                    have hf : f_X8_undo_L172 x1_6 u6 = some X6 := hf
                    unfold f_X8_undo_L172 at hf
                    refine lv_iload_n hx hb dX8_undo_172 rfl (lv_at hl 1 rfl) ?_
                    refine lv_iconst (v := (5 : Int32)) hx hb dX8_undo_173 (by decide) ?_
                    refine lv_icmp_ge (tgt := 219) hx hb dX8_undo_174 (by decide) (fun c7 => ?_) (fun c7 => ?_)
                    · have hf := gif_t c7 hf
                      refine lv_iconst (v := (0 : Int32)) hx hb dX8_undo_219 (by decide) ?_
                      refine lv_istore_n (lv' := [(1, .int (0 : Int32)), (0, .ref (base + 82))]) hx hb dX8_undo_220 rfl hl (by decide) rfl (fun ls hl => ?_)
                      have loop8 : ∀ (n8 : Nat) (x1_8 : Int32) (u8 : Mem) (H : Heap) (locs : List Loc) (ls : Array Slot), gH D base s u8 H locs → lv_has ls 2 [(0, .ref (base + 82)), (1, .int x1_8)] → whileO (fun s => f_X8_undo_L221 s.1 s.2) n8 (x1_8, u8) = some X6 → W p l e (gRm 1 0 0) s m ([.ref (base + 82)] : List Value).toArray below meth c H locs 0 0 Q (F0 m 221 ls []) := by
                        intro n8
                        induction n8 with
                        | zero => intro x1_8 u8 H locs ls hG hl hf; cases hf
                        | succ n8 ih8 =>
                          intro x1_8 u8 H locs ls hG hl hf
                          obtain ⟨X8, hf, hX8⟩ := while_s hf
                          have hf : f_X8_undo_L221 x1_8 u8 = some X8 := hf
                          unfold f_X8_undo_L221 at hf
                          refine lv_iload_n hx hb dX8_undo_221 rfl (lv_at hl 1 rfl) ?_
                          refine lv_bipush (v := (10 : Int32)) hx hb dX8_undo_222 (by decide) ?_
                          refine lv_icmp_ge (tgt := 257) hx hb dX8_undo_224 (by decide) (fun c9 => ?_) (fun c9 => ?_)
                          · have hf := gif_t c9 hf
                            refine lv_iconst (v := (0 : Int32)) hx hb dX8_undo_257 (by decide) ?_
                            refine lv_istore_n (lv' := [(1, .int (0 : Int32)), (0, .ref (base + 82))]) hx hb dX8_undo_258 rfl hl (by decide) rfl (fun ls hl => ?_)
                            have loop10 : ∀ (n10 : Nat) (x1_10 : Int32) (u10 : Mem) (H : Heap) (locs : List Loc) (ls : Array Slot), gH D base s u10 H locs → lv_has ls 2 [(0, .ref (base + 82)), (1, .int x1_10)] → whileO (fun s => f_X8_undo_L259 s.1 s.2) n10 (x1_10, u10) = some X8 → W p l e (gRm 1 0 0) s m ([.ref (base + 82)] : List Value).toArray below meth c H locs 0 0 Q (F0 m 259 ls []) := by
                              intro n10
                              induction n10 with
                              | zero => intro x1_10 u10 H locs ls hG hl hf; cases hf
                              | succ n10 ih10 =>
                                intro x1_10 u10 H locs ls hG hl hf
                                obtain ⟨X10, hf, hX10⟩ := while_s hf
                                have hf : f_X8_undo_L259 x1_10 u10 = some X10 := hf
                                unfold f_X8_undo_L259 at hf
                                refine lv_iload_n hx hb dX8_undo_259 rfl (lv_at hl 1 rfl) ?_
                                refine lv_bipush (v := (8 : Int32)) hx hb dX8_undo_260 (by decide) ?_
                                refine lv_icmp_ge (tgt := 319) hx hb dX8_undo_262 (by decide) (fun c11 => ?_) (fun c11 => ?_)
                                · have hf := gif_t c11 hf
                                  refine lv_aload_n hx hb dX8_undo_319 rfl (lv_at hl 0 rfl) ?_
                                  refine g_getI C0 hG (L82 hG) rfl 0 (by decide) rfl w_846 dX8_undo_320 ?_
                                  have hf := while_r hX10 hf
                                  have hf := while_r hX8 hf
                                  have hf := while_r hX6 hf
                                  have hf := while_r hX4 hf
                                  have hf := while_r hX2 hf
                                  obtain ⟨hr1, hu⟩ := gret_s hf
                                  subst hr1
                                  subst hu
                                  subst hQ
                                  exact g_iret C0 hG hr dX8_undo_323
                                · have hf := gif_f c11 hf
                                  refine lv_aload_n hx hb dX8_undo_265 rfl (lv_at hl 0 rfl) ?_
                                  refine g_getSa (o := 7) (a := 89) C0 hG (L82 hG) rfl 11 (by decide) rfl rfl w_857 dX8_undo_266 ?_
                                  refine lv_iload_n hx hb dX8_undo_269 rfl (lv_at hl 1 rfl) ?_
                                  refine lv_aload_n hx hb dX8_undo_270 rfl (lv_at hl 0 rfl) ?_
                                  refine g_getSa (o := 33) (a := 115) C0 hG (L82 hG) rfl 62 (by decide) rfl rfl w_908 dX8_undo_271 ?_
                                  refine lv_iload_n hx hb dX8_undo_274 rfl (lv_at hl 1 rfl) ?_
                                  obtain ⟨h12, hf⟩ := gin_s hf
                                  refine g_iald C0 hG (L115 hG) h12 dX8_undo_275 ?_
                                  obtain ⟨h13, hf⟩ := gin_s hf
                                  refine g_iast C0 hG (L89 hG) h13 dX8_undo_276 (fun H locs hG => ?_)
                                  refine lv_aload_n hx hb dX8_undo_277 rfl (lv_at hl 0 rfl) ?_
                                  refine g_getSa (o := 6) (a := 88) C0 hG (L82 hG) rfl 10 (by decide) rfl rfl w_856 dX8_undo_278 ?_
                                  refine lv_iload_n hx hb dX8_undo_281 rfl (lv_at hl 1 rfl) ?_
                                  refine lv_aload_n hx hb dX8_undo_282 rfl (lv_at hl 0 rfl) ?_
                                  refine g_getSa (o := 34) (a := 116) C0 hG (L82 hG) rfl 63 (by decide) rfl rfl w_909 dX8_undo_283 ?_
                                  refine lv_iload_n hx hb dX8_undo_286 rfl (lv_at hl 1 rfl) ?_
                                  obtain ⟨h14, hf⟩ := gin_s hf
                                  refine g_iald C0 hG (L116 hG) h14 dX8_undo_287 ?_
                                  obtain ⟨h15, hf⟩ := gin_s hf
                                  refine g_iast C0 hG (L88 hG) h15 dX8_undo_288 (fun H locs hG => ?_)
                                  refine lv_aload_n hx hb dX8_undo_289 rfl (lv_at hl 0 rfl) ?_
                                  refine g_getSa (o := 26) (a := 108) C0 hG (L82 hG) rfl 45 (by decide) rfl rfl w_891 dX8_undo_290 ?_
                                  refine lv_iload_n hx hb dX8_undo_293 rfl (lv_at hl 1 rfl) ?_
                                  refine lv_aload_n hx hb dX8_undo_294 rfl (lv_at hl 0 rfl) ?_
                                  refine g_getSa (o := 40) (a := 122) C0 hG (L82 hG) rfl 69 (by decide) rfl rfl w_915 dX8_undo_295 ?_
                                  refine lv_iload_n hx hb dX8_undo_298 rfl (lv_at hl 1 rfl) ?_
                                  obtain ⟨h16, hf⟩ := gin_s hf
                                  refine g_iald C0 hG (L122 hG) h16 dX8_undo_299 ?_
                                  obtain ⟨h17, hf⟩ := gin_s hf
                                  refine g_iast C0 hG (L108 hG) h17 dX8_undo_300 (fun H locs hG => ?_)
                                  refine lv_aload_n hx hb dX8_undo_301 rfl (lv_at hl 0 rfl) ?_
                                  refine g_getSa (o := 27) (a := 109) C0 hG (L82 hG) rfl 46 (by decide) rfl rfl w_892 dX8_undo_302 ?_
                                  refine lv_iload_n hx hb dX8_undo_305 rfl (lv_at hl 1 rfl) ?_
                                  refine lv_aload_n hx hb dX8_undo_306 rfl (lv_at hl 0 rfl) ?_
                                  refine g_getSa (o := 41) (a := 123) C0 hG (L82 hG) rfl 70 (by decide) rfl rfl w_916 dX8_undo_307 ?_
                                  refine lv_iload_n hx hb dX8_undo_310 rfl (lv_at hl 1 rfl) ?_
                                  obtain ⟨h18, hf⟩ := gin_s hf
                                  refine g_iald C0 hG (L123 hG) h18 dX8_undo_311 ?_
                                  obtain ⟨h19, hf⟩ := gin_s hf
                                  refine g_iast C0 hG (L109 hG) h19 dX8_undo_312 (fun H locs hG => ?_)
                                  refine lv_iinc (v := x1_10 + (1 : Int32)) (lv' := [(1, .int (x1_10 + (1 : Int32))), (0, .ref (base + 82))]) hx hb dX8_undo_313 hl (k := 1) rfl rfl (by decide) rfl (fun ls hl => ?_)
                                  refine lv_goto (tgt := 259) hx hb dX8_undo_316 (by decide) ?_
                                  have hf := while_l hX10 hf
                                  exact ih10 (x1_10 + (1 : Int32)) (sA (sA (sA (sA u10 89 x1_10.toNatClampNeg (gA u10 115 x1_10.toNatClampNeg)) 88 x1_10.toNatClampNeg (gA (sA u10 89 x1_10.toNatClampNeg (gA u10 115 x1_10.toNatClampNeg)) 116 x1_10.toNatClampNeg)) 108 x1_10.toNatClampNeg (gA (sA (sA u10 89 x1_10.toNatClampNeg (gA u10 115 x1_10.toNatClampNeg)) 88 x1_10.toNatClampNeg (gA (sA u10 89 x1_10.toNatClampNeg (gA u10 115 x1_10.toNatClampNeg)) 116 x1_10.toNatClampNeg)) 122 x1_10.toNatClampNeg)) 109 x1_10.toNatClampNeg (gA (sA (sA (sA u10 89 x1_10.toNatClampNeg (gA u10 115 x1_10.toNatClampNeg)) 88 x1_10.toNatClampNeg (gA (sA u10 89 x1_10.toNatClampNeg (gA u10 115 x1_10.toNatClampNeg)) 116 x1_10.toNatClampNeg)) 108 x1_10.toNatClampNeg (gA (sA (sA u10 89 x1_10.toNatClampNeg (gA u10 115 x1_10.toNatClampNeg)) 88 x1_10.toNatClampNeg (gA (sA u10 89 x1_10.toNatClampNeg (gA u10 115 x1_10.toNatClampNeg)) 116 x1_10.toNatClampNeg)) 122 x1_10.toNatClampNeg)) 123 x1_10.toNatClampNeg)) _ _ ls hG (lv_sub hl [1, 0] rfl) hf
                            exact loop10 FUEL (0 : Int32) u8 _ _ ls hG (lv_sub hl [1, 0] rfl) hf
                          · have hf := gif_f c9 hf
                            refine lv_aload_n hx hb dX8_undo_227 rfl (lv_at hl 0 rfl) ?_
                            refine g_getSa (o := 24) (a := 106) C0 hG (L82 hG) rfl 43 (by decide) rfl rfl w_889 dX8_undo_228 ?_
                            refine lv_iload_n hx hb dX8_undo_231 rfl (lv_at hl 1 rfl) ?_
                            refine lv_aload_n hx hb dX8_undo_232 rfl (lv_at hl 0 rfl) ?_
                            refine g_getSa (o := 38) (a := 120) C0 hG (L82 hG) rfl 67 (by decide) rfl rfl w_913 dX8_undo_233 ?_
                            refine lv_iload_n hx hb dX8_undo_236 rfl (lv_at hl 1 rfl) ?_
                            obtain ⟨h20, hf⟩ := gin_s hf
                            refine g_iald C0 hG (L120 hG) h20 dX8_undo_237 ?_
                            obtain ⟨h21, hf⟩ := gin_s hf
                            refine g_iast C0 hG (L106 hG) h21 dX8_undo_238 (fun H locs hG => ?_)
                            refine lv_aload_n hx hb dX8_undo_239 rfl (lv_at hl 0 rfl) ?_
                            refine g_getSa (o := 25) (a := 107) C0 hG (L82 hG) rfl 44 (by decide) rfl rfl w_890 dX8_undo_240 ?_
                            refine lv_iload_n hx hb dX8_undo_243 rfl (lv_at hl 1 rfl) ?_
                            refine lv_aload_n hx hb dX8_undo_244 rfl (lv_at hl 0 rfl) ?_
                            refine g_getSa (o := 39) (a := 121) C0 hG (L82 hG) rfl 68 (by decide) rfl rfl w_914 dX8_undo_245 ?_
                            refine lv_iload_n hx hb dX8_undo_248 rfl (lv_at hl 1 rfl) ?_
                            obtain ⟨h22, hf⟩ := gin_s hf
                            refine g_iald C0 hG (L121 hG) h22 dX8_undo_249 ?_
                            obtain ⟨h23, hf⟩ := gin_s hf
                            refine g_iast C0 hG (L107 hG) h23 dX8_undo_250 (fun H locs hG => ?_)
                            refine lv_iinc (v := x1_8 + (1 : Int32)) (lv' := [(1, .int (x1_8 + (1 : Int32))), (0, .ref (base + 82))]) hx hb dX8_undo_251 hl (k := 1) rfl rfl (by decide) rfl (fun ls hl => ?_)
                            refine lv_goto (tgt := 221) hx hb dX8_undo_254 (by decide) ?_
                            have hf := while_l hX8 hf
                            exact ih8 (x1_8 + (1 : Int32)) (sA (sA u8 106 x1_8.toNatClampNeg (gA u8 120 x1_8.toNatClampNeg)) 107 x1_8.toNatClampNeg (gA (sA u8 106 x1_8.toNatClampNeg (gA u8 120 x1_8.toNatClampNeg)) 121 x1_8.toNatClampNeg)) _ _ ls hG (lv_sub hl [1, 0] rfl) hf
                      exact loop8 FUEL (0 : Int32) u6 _ _ ls hG (lv_sub hl [1, 0] rfl) hf
                    · have hf := gif_f c7 hf
                      refine lv_aload_n hx hb dX8_undo_177 rfl (lv_at hl 0 rfl) ?_
                      refine g_getSa (o := 21) (a := 103) C0 hG (L82 hG) rfl 38 (by decide) rfl rfl w_884 dX8_undo_178 ?_
                      refine lv_iload_n hx hb dX8_undo_181 rfl (lv_at hl 1 rfl) ?_
                      refine lv_aload_n hx hb dX8_undo_182 rfl (lv_at hl 0 rfl) ?_
                      refine g_getSa (o := 35) (a := 117) C0 hG (L82 hG) rfl 64 (by decide) rfl rfl w_910 dX8_undo_183 ?_
                      refine lv_iload_n hx hb dX8_undo_186 rfl (lv_at hl 1 rfl) ?_
                      obtain ⟨h24, hf⟩ := gin_s hf
                      refine g_iald C0 hG (L117 hG) h24 dX8_undo_187 ?_
                      obtain ⟨h25, hf⟩ := gin_s hf
                      refine g_iast C0 hG (L103 hG) h25 dX8_undo_188 (fun H locs hG => ?_)
                      refine lv_aload_n hx hb dX8_undo_189 rfl (lv_at hl 0 rfl) ?_
                      refine g_getSa (o := 22) (a := 104) C0 hG (L82 hG) rfl 39 (by decide) rfl rfl w_885 dX8_undo_190 ?_
                      refine lv_iload_n hx hb dX8_undo_193 rfl (lv_at hl 1 rfl) ?_
                      refine lv_aload_n hx hb dX8_undo_194 rfl (lv_at hl 0 rfl) ?_
                      refine g_getSa (o := 36) (a := 118) C0 hG (L82 hG) rfl 65 (by decide) rfl rfl w_911 dX8_undo_195 ?_
                      refine lv_iload_n hx hb dX8_undo_198 rfl (lv_at hl 1 rfl) ?_
                      obtain ⟨h26, hf⟩ := gin_s hf
                      refine g_iald C0 hG (L118 hG) h26 dX8_undo_199 ?_
                      obtain ⟨h27, hf⟩ := gin_s hf
                      refine g_iast C0 hG (L104 hG) h27 dX8_undo_200 (fun H locs hG => ?_)
                      refine lv_aload_n hx hb dX8_undo_201 rfl (lv_at hl 0 rfl) ?_
                      refine g_getSa (o := 23) (a := 105) C0 hG (L82 hG) rfl 40 (by decide) rfl rfl w_886 dX8_undo_202 ?_
                      refine lv_iload_n hx hb dX8_undo_205 rfl (lv_at hl 1 rfl) ?_
                      refine lv_aload_n hx hb dX8_undo_206 rfl (lv_at hl 0 rfl) ?_
                      refine g_getSa (o := 37) (a := 119) C0 hG (L82 hG) rfl 66 (by decide) rfl rfl w_912 dX8_undo_207 ?_
                      refine lv_iload_n hx hb dX8_undo_210 rfl (lv_at hl 1 rfl) ?_
                      obtain ⟨h28, hf⟩ := gin_s hf
                      refine g_iald C0 hG (L119 hG) h28 dX8_undo_211 ?_
                      obtain ⟨h29, hf⟩ := gin_s hf
                      refine g_iast C0 hG (L105 hG) h29 dX8_undo_212 (fun H locs hG => ?_)
                      refine lv_iinc (v := x1_6 + (1 : Int32)) (lv' := [(1, .int (x1_6 + (1 : Int32))), (0, .ref (base + 82))]) hx hb dX8_undo_213 hl (k := 1) rfl rfl (by decide) rfl (fun ls hl => ?_)
                      refine lv_goto (tgt := 172) hx hb dX8_undo_216 (by decide) ?_
                      have hf := while_l hX6 hf
                      exact ih6 (x1_6 + (1 : Int32)) (sA (sA (sA u6 103 x1_6.toNatClampNeg (gA u6 117 x1_6.toNatClampNeg)) 104 x1_6.toNatClampNeg (gA (sA u6 103 x1_6.toNatClampNeg (gA u6 117 x1_6.toNatClampNeg)) 118 x1_6.toNatClampNeg)) 105 x1_6.toNatClampNeg (gA (sA (sA u6 103 x1_6.toNatClampNeg (gA u6 117 x1_6.toNatClampNeg)) 104 x1_6.toNatClampNeg (gA (sA u6 103 x1_6.toNatClampNeg (gA u6 117 x1_6.toNatClampNeg)) 118 x1_6.toNatClampNeg)) 119 x1_6.toNatClampNeg)) _ _ ls hG (lv_sub hl [1, 0] rfl) hf
                exact loop6 FUEL (0 : Int32) u4 _ _ ls hG (lv_sub hl [1, 0] rfl) hf
              · have hf := gif_f c5 hf
                refine lv_aload_n hx hb dX8_undo_152 rfl (lv_at hl 0 rfl) ?_
                refine g_getSa (o := 5) (a := 87) C0 hG (L82 hG) rfl 9 (by decide) rfl rfl w_855 dX8_undo_153 ?_
                refine lv_iload_n hx hb dX8_undo_156 rfl (lv_at hl 1 rfl) ?_
                refine lv_aload_n hx hb dX8_undo_157 rfl (lv_at hl 0 rfl) ?_
                refine g_getSa (o := 32) (a := 114) C0 hG (L82 hG) rfl 61 (by decide) rfl rfl w_907 dX8_undo_158 ?_
                refine lv_iload_n hx hb dX8_undo_161 rfl (lv_at hl 1 rfl) ?_
                obtain ⟨h30, hf⟩ := gin_s hf
                refine g_iald C0 hG (L114 hG) h30 dX8_undo_162 ?_
                obtain ⟨h31, hf⟩ := gin_s hf
                refine g_iast C0 hG (L87 hG) h31 dX8_undo_163 (fun H locs hG => ?_)
                refine lv_iinc (v := x1_4 + (1 : Int32)) (lv' := [(1, .int (x1_4 + (1 : Int32))), (0, .ref (base + 82))]) hx hb dX8_undo_164 hl (k := 1) rfl rfl (by decide) rfl (fun ls hl => ?_)
                refine lv_goto (tgt := 146) hx hb dX8_undo_167 (by decide) ?_
                have hf := while_l hX4 hf
                exact ih4 (x1_4 + (1 : Int32)) (sA u4 87 x1_4.toNatClampNeg (gA u4 114 x1_4.toNatClampNeg)) _ _ ls hG (lv_sub hl [1, 0] rfl) hf
          exact loop4 FUEL (0 : Int32) u2 _ _ ls hG (lv_sub hl [1, 0] rfl) hf
        · have hf := gif_f c3 hf
          refine lv_aload_n hx hb dX8_undo_90 rfl (lv_at hl 0 rfl) ?_
          refine g_getSa (o := 1) (a := 83) C0 hG (L82 hG) rfl 5 (by decide) rfl rfl w_851 dX8_undo_91 ?_
          refine lv_iload_n hx hb dX8_undo_94 rfl (lv_at hl 1 rfl) ?_
          refine lv_aload_n hx hb dX8_undo_95 rfl (lv_at hl 0 rfl) ?_
          refine g_getSa (o := 28) (a := 110) C0 hG (L82 hG) rfl 57 (by decide) rfl rfl w_903 dX8_undo_96 ?_
          refine lv_iload_n hx hb dX8_undo_99 rfl (lv_at hl 1 rfl) ?_
          obtain ⟨h32, hf⟩ := gin_s hf
          refine g_iald C0 hG (L110 hG) h32 dX8_undo_100 ?_
          obtain ⟨h33, hf⟩ := gin_s hf
          refine g_iast C0 hG (L83 hG) h33 dX8_undo_101 (fun H locs hG => ?_)
          refine lv_aload_n hx hb dX8_undo_102 rfl (lv_at hl 0 rfl) ?_
          refine g_getSa (o := 2) (a := 84) C0 hG (L82 hG) rfl 6 (by decide) rfl rfl w_852 dX8_undo_103 ?_
          refine lv_iload_n hx hb dX8_undo_106 rfl (lv_at hl 1 rfl) ?_
          refine lv_aload_n hx hb dX8_undo_107 rfl (lv_at hl 0 rfl) ?_
          refine g_getSa (o := 29) (a := 111) C0 hG (L82 hG) rfl 58 (by decide) rfl rfl w_904 dX8_undo_108 ?_
          refine lv_iload_n hx hb dX8_undo_111 rfl (lv_at hl 1 rfl) ?_
          obtain ⟨h34, hf⟩ := gin_s hf
          refine g_iald C0 hG (L111 hG) h34 dX8_undo_112 ?_
          obtain ⟨h35, hf⟩ := gin_s hf
          refine g_iast C0 hG (L84 hG) h35 dX8_undo_113 (fun H locs hG => ?_)
          refine lv_aload_n hx hb dX8_undo_114 rfl (lv_at hl 0 rfl) ?_
          refine g_getSa (o := 3) (a := 85) C0 hG (L82 hG) rfl 7 (by decide) rfl rfl w_853 dX8_undo_115 ?_
          refine lv_iload_n hx hb dX8_undo_118 rfl (lv_at hl 1 rfl) ?_
          refine lv_aload_n hx hb dX8_undo_119 rfl (lv_at hl 0 rfl) ?_
          refine g_getSa (o := 30) (a := 112) C0 hG (L82 hG) rfl 59 (by decide) rfl rfl w_905 dX8_undo_120 ?_
          refine lv_iload_n hx hb dX8_undo_123 rfl (lv_at hl 1 rfl) ?_
          obtain ⟨h36, hf⟩ := gin_s hf
          refine g_iald C0 hG (L112 hG) h36 dX8_undo_124 ?_
          obtain ⟨h37, hf⟩ := gin_s hf
          refine g_iast C0 hG (L85 hG) h37 dX8_undo_125 (fun H locs hG => ?_)
          refine lv_aload_n hx hb dX8_undo_126 rfl (lv_at hl 0 rfl) ?_
          refine g_getSa (o := 4) (a := 86) C0 hG (L82 hG) rfl 8 (by decide) rfl rfl w_854 dX8_undo_127 ?_
          refine lv_iload_n hx hb dX8_undo_130 rfl (lv_at hl 1 rfl) ?_
          refine lv_aload_n hx hb dX8_undo_131 rfl (lv_at hl 0 rfl) ?_
          refine g_getSa (o := 31) (a := 113) C0 hG (L82 hG) rfl 60 (by decide) rfl rfl w_906 dX8_undo_132 ?_
          refine lv_iload_n hx hb dX8_undo_135 rfl (lv_at hl 1 rfl) ?_
          obtain ⟨h38, hf⟩ := gin_s hf
          refine g_iald C0 hG (L113 hG) h38 dX8_undo_136 ?_
          obtain ⟨h39, hf⟩ := gin_s hf
          refine g_iast C0 hG (L86 hG) h39 dX8_undo_137 (fun H locs hG => ?_)
          refine lv_iinc (v := x1_2 + (1 : Int32)) (lv' := [(1, .int (x1_2 + (1 : Int32))), (0, .ref (base + 82))]) hx hb dX8_undo_138 hl (k := 1) rfl rfl (by decide) rfl (fun ls hl => ?_)
          refine lv_goto (tgt := 84) hx hb dX8_undo_141 (by decide) ?_
          have hf := while_l hX2 hf
          exact ih2 (x1_2 + (1 : Int32)) (sA (sA (sA (sA u2 83 x1_2.toNatClampNeg (gA u2 110 x1_2.toNatClampNeg)) 84 x1_2.toNatClampNeg (gA (sA u2 83 x1_2.toNatClampNeg (gA u2 110 x1_2.toNatClampNeg)) 111 x1_2.toNatClampNeg)) 85 x1_2.toNatClampNeg (gA (sA (sA u2 83 x1_2.toNatClampNeg (gA u2 110 x1_2.toNatClampNeg)) 84 x1_2.toNatClampNeg (gA (sA u2 83 x1_2.toNatClampNeg (gA u2 110 x1_2.toNatClampNeg)) 111 x1_2.toNatClampNeg)) 112 x1_2.toNatClampNeg)) 86 x1_2.toNatClampNeg (gA (sA (sA (sA u2 83 x1_2.toNatClampNeg (gA u2 110 x1_2.toNatClampNeg)) 84 x1_2.toNatClampNeg (gA (sA u2 83 x1_2.toNatClampNeg (gA u2 110 x1_2.toNatClampNeg)) 111 x1_2.toNatClampNeg)) 85 x1_2.toNatClampNeg (gA (sA (sA u2 83 x1_2.toNatClampNeg (gA u2 110 x1_2.toNatClampNeg)) 84 x1_2.toNatClampNeg (gA (sA u2 83 x1_2.toNatClampNeg (gA u2 110 x1_2.toNatClampNeg)) 111 x1_2.toNatClampNeg)) 112 x1_2.toNatClampNeg)) 113 x1_2.toNatClampNeg)) _ _ ls hG (lv_sub hl [1, 0] rfl) hf
    exact loop2 FUEL (0 : Int32) (sI (sI (sI (sI (sI (sI (sI (sI (sI u 82 13 (gI u 82 48)) 82 0 (gI (sI u 82 13 (gI u 82 48)) 82 49)) 82 1 (gI (sI (sI u 82 13 (gI u 82 48)) 82 0 (gI (sI u 82 13 (gI u 82 48)) 82 49)) 82 50)) 82 2 (gI (sI (sI (sI u 82 13 (gI u 82 48)) 82 0 (gI (sI u 82 13 (gI u 82 48)) 82 49)) 82 1 (gI (sI (sI u 82 13 (gI u 82 48)) 82 0 (gI (sI u 82 13 (gI u 82 48)) 82 49)) 82 50)) 82 51)) 82 3 (gI (sI (sI (sI (sI u 82 13 (gI u 82 48)) 82 0 (gI (sI u 82 13 (gI u 82 48)) 82 49)) 82 1 (gI (sI (sI u 82 13 (gI u 82 48)) 82 0 (gI (sI u 82 13 (gI u 82 48)) 82 49)) 82 50)) 82 2 (gI (sI (sI (sI u 82 13 (gI u 82 48)) 82 0 (gI (sI u 82 13 (gI u 82 48)) 82 49)) 82 1 (gI (sI (sI u 82 13 (gI u 82 48)) 82 0 (gI (sI u 82 13 (gI u 82 48)) 82 49)) 82 50)) 82 51)) 82 52)) 82 4 (gI (sI (sI (sI (sI (sI u 82 13 (gI u 82 48)) 82 0 (gI (sI u 82 13 (gI u 82 48)) 82 49)) 82 1 (gI (sI (sI u 82 13 (gI u 82 48)) 82 0 (gI (sI u 82 13 (gI u 82 48)) 82 49)) 82 50)) 82 2 (gI (sI (sI (sI u 82 13 (gI u 82 48)) 82 0 (gI (sI u 82 13 (gI u 82 48)) 82 49)) 82 1 (gI (sI (sI u 82 13 (gI u 82 48)) 82 0 (gI (sI u 82 13 (gI u 82 48)) 82 49)) 82 50)) 82 51)) 82 3 (gI (sI (sI (sI (sI u 82 13 (gI u 82 48)) 82 0 (gI (sI u 82 13 (gI u 82 48)) 82 49)) 82 1 (gI (sI (sI u 82 13 (gI u 82 48)) 82 0 (gI (sI u 82 13 (gI u 82 48)) 82 49)) 82 50)) 82 2 (gI (sI (sI (sI u 82 13 (gI u 82 48)) 82 0 (gI (sI u 82 13 (gI u 82 48)) 82 49)) 82 1 (gI (sI (sI u 82 13 (gI u 82 48)) 82 0 (gI (sI u 82 13 (gI u 82 48)) 82 49)) 82 50)) 82 51)) 82 52)) 82 53)) 82 37 (gI (sI (sI (sI (sI (sI (sI u 82 13 (gI u 82 48)) 82 0 (gI (sI u 82 13 (gI u 82 48)) 82 49)) 82 1 (gI (sI (sI u 82 13 (gI u 82 48)) 82 0 (gI (sI u 82 13 (gI u 82 48)) 82 49)) 82 50)) 82 2 (gI (sI (sI (sI u 82 13 (gI u 82 48)) 82 0 (gI (sI u 82 13 (gI u 82 48)) 82 49)) 82 1 (gI (sI (sI u 82 13 (gI u 82 48)) 82 0 (gI (sI u 82 13 (gI u 82 48)) 82 49)) 82 50)) 82 51)) 82 3 (gI (sI (sI (sI (sI u 82 13 (gI u 82 48)) 82 0 (gI (sI u 82 13 (gI u 82 48)) 82 49)) 82 1 (gI (sI (sI u 82 13 (gI u 82 48)) 82 0 (gI (sI u 82 13 (gI u 82 48)) 82 49)) 82 50)) 82 2 (gI (sI (sI (sI u 82 13 (gI u 82 48)) 82 0 (gI (sI u 82 13 (gI u 82 48)) 82 49)) 82 1 (gI (sI (sI u 82 13 (gI u 82 48)) 82 0 (gI (sI u 82 13 (gI u 82 48)) 82 49)) 82 50)) 82 51)) 82 52)) 82 4 (gI (sI (sI (sI (sI (sI u 82 13 (gI u 82 48)) 82 0 (gI (sI u 82 13 (gI u 82 48)) 82 49)) 82 1 (gI (sI (sI u 82 13 (gI u 82 48)) 82 0 (gI (sI u 82 13 (gI u 82 48)) 82 49)) 82 50)) 82 2 (gI (sI (sI (sI u 82 13 (gI u 82 48)) 82 0 (gI (sI u 82 13 (gI u 82 48)) 82 49)) 82 1 (gI (sI (sI u 82 13 (gI u 82 48)) 82 0 (gI (sI u 82 13 (gI u 82 48)) 82 49)) 82 50)) 82 51)) 82 3 (gI (sI (sI (sI (sI u 82 13 (gI u 82 48)) 82 0 (gI (sI u 82 13 (gI u 82 48)) 82 49)) 82 1 (gI (sI (sI u 82 13 (gI u 82 48)) 82 0 (gI (sI u 82 13 (gI u 82 48)) 82 49)) 82 50)) 82 2 (gI (sI (sI (sI u 82 13 (gI u 82 48)) 82 0 (gI (sI u 82 13 (gI u 82 48)) 82 49)) 82 1 (gI (sI (sI u 82 13 (gI u 82 48)) 82 0 (gI (sI u 82 13 (gI u 82 48)) 82 49)) 82 50)) 82 51)) 82 52)) 82 53)) 82 54)) 82 41 (gI (sI (sI (sI (sI (sI (sI (sI u 82 13 (gI u 82 48)) 82 0 (gI (sI u 82 13 (gI u 82 48)) 82 49)) 82 1 (gI (sI (sI u 82 13 (gI u 82 48)) 82 0 (gI (sI u 82 13 (gI u 82 48)) 82 49)) 82 50)) 82 2 (gI (sI (sI (sI u 82 13 (gI u 82 48)) 82 0 (gI (sI u 82 13 (gI u 82 48)) 82 49)) 82 1 (gI (sI (sI u 82 13 (gI u 82 48)) 82 0 (gI (sI u 82 13 (gI u 82 48)) 82 49)) 82 50)) 82 51)) 82 3 (gI (sI (sI (sI (sI u 82 13 (gI u 82 48)) 82 0 (gI (sI u 82 13 (gI u 82 48)) 82 49)) 82 1 (gI (sI (sI u 82 13 (gI u 82 48)) 82 0 (gI (sI u 82 13 (gI u 82 48)) 82 49)) 82 50)) 82 2 (gI (sI (sI (sI u 82 13 (gI u 82 48)) 82 0 (gI (sI u 82 13 (gI u 82 48)) 82 49)) 82 1 (gI (sI (sI u 82 13 (gI u 82 48)) 82 0 (gI (sI u 82 13 (gI u 82 48)) 82 49)) 82 50)) 82 51)) 82 52)) 82 4 (gI (sI (sI (sI (sI (sI u 82 13 (gI u 82 48)) 82 0 (gI (sI u 82 13 (gI u 82 48)) 82 49)) 82 1 (gI (sI (sI u 82 13 (gI u 82 48)) 82 0 (gI (sI u 82 13 (gI u 82 48)) 82 49)) 82 50)) 82 2 (gI (sI (sI (sI u 82 13 (gI u 82 48)) 82 0 (gI (sI u 82 13 (gI u 82 48)) 82 49)) 82 1 (gI (sI (sI u 82 13 (gI u 82 48)) 82 0 (gI (sI u 82 13 (gI u 82 48)) 82 49)) 82 50)) 82 51)) 82 3 (gI (sI (sI (sI (sI u 82 13 (gI u 82 48)) 82 0 (gI (sI u 82 13 (gI u 82 48)) 82 49)) 82 1 (gI (sI (sI u 82 13 (gI u 82 48)) 82 0 (gI (sI u 82 13 (gI u 82 48)) 82 49)) 82 50)) 82 2 (gI (sI (sI (sI u 82 13 (gI u 82 48)) 82 0 (gI (sI u 82 13 (gI u 82 48)) 82 49)) 82 1 (gI (sI (sI u 82 13 (gI u 82 48)) 82 0 (gI (sI u 82 13 (gI u 82 48)) 82 49)) 82 50)) 82 51)) 82 52)) 82 53)) 82 37 (gI (sI (sI (sI (sI (sI (sI u 82 13 (gI u 82 48)) 82 0 (gI (sI u 82 13 (gI u 82 48)) 82 49)) 82 1 (gI (sI (sI u 82 13 (gI u 82 48)) 82 0 (gI (sI u 82 13 (gI u 82 48)) 82 49)) 82 50)) 82 2 (gI (sI (sI (sI u 82 13 (gI u 82 48)) 82 0 (gI (sI u 82 13 (gI u 82 48)) 82 49)) 82 1 (gI (sI (sI u 82 13 (gI u 82 48)) 82 0 (gI (sI u 82 13 (gI u 82 48)) 82 49)) 82 50)) 82 51)) 82 3 (gI (sI (sI (sI (sI u 82 13 (gI u 82 48)) 82 0 (gI (sI u 82 13 (gI u 82 48)) 82 49)) 82 1 (gI (sI (sI u 82 13 (gI u 82 48)) 82 0 (gI (sI u 82 13 (gI u 82 48)) 82 49)) 82 50)) 82 2 (gI (sI (sI (sI u 82 13 (gI u 82 48)) 82 0 (gI (sI u 82 13 (gI u 82 48)) 82 49)) 82 1 (gI (sI (sI u 82 13 (gI u 82 48)) 82 0 (gI (sI u 82 13 (gI u 82 48)) 82 49)) 82 50)) 82 51)) 82 52)) 82 4 (gI (sI (sI (sI (sI (sI u 82 13 (gI u 82 48)) 82 0 (gI (sI u 82 13 (gI u 82 48)) 82 49)) 82 1 (gI (sI (sI u 82 13 (gI u 82 48)) 82 0 (gI (sI u 82 13 (gI u 82 48)) 82 49)) 82 50)) 82 2 (gI (sI (sI (sI u 82 13 (gI u 82 48)) 82 0 (gI (sI u 82 13 (gI u 82 48)) 82 49)) 82 1 (gI (sI (sI u 82 13 (gI u 82 48)) 82 0 (gI (sI u 82 13 (gI u 82 48)) 82 49)) 82 50)) 82 51)) 82 3 (gI (sI (sI (sI (sI u 82 13 (gI u 82 48)) 82 0 (gI (sI u 82 13 (gI u 82 48)) 82 49)) 82 1 (gI (sI (sI u 82 13 (gI u 82 48)) 82 0 (gI (sI u 82 13 (gI u 82 48)) 82 49)) 82 50)) 82 2 (gI (sI (sI (sI u 82 13 (gI u 82 48)) 82 0 (gI (sI u 82 13 (gI u 82 48)) 82 49)) 82 1 (gI (sI (sI u 82 13 (gI u 82 48)) 82 0 (gI (sI u 82 13 (gI u 82 48)) 82 49)) 82 50)) 82 51)) 82 52)) 82 53)) 82 54)) 82 55)) 82 42 (gI (sI (sI (sI (sI (sI (sI (sI (sI u 82 13 (gI u 82 48)) 82 0 (gI (sI u 82 13 (gI u 82 48)) 82 49)) 82 1 (gI (sI (sI u 82 13 (gI u 82 48)) 82 0 (gI (sI u 82 13 (gI u 82 48)) 82 49)) 82 50)) 82 2 (gI (sI (sI (sI u 82 13 (gI u 82 48)) 82 0 (gI (sI u 82 13 (gI u 82 48)) 82 49)) 82 1 (gI (sI (sI u 82 13 (gI u 82 48)) 82 0 (gI (sI u 82 13 (gI u 82 48)) 82 49)) 82 50)) 82 51)) 82 3 (gI (sI (sI (sI (sI u 82 13 (gI u 82 48)) 82 0 (gI (sI u 82 13 (gI u 82 48)) 82 49)) 82 1 (gI (sI (sI u 82 13 (gI u 82 48)) 82 0 (gI (sI u 82 13 (gI u 82 48)) 82 49)) 82 50)) 82 2 (gI (sI (sI (sI u 82 13 (gI u 82 48)) 82 0 (gI (sI u 82 13 (gI u 82 48)) 82 49)) 82 1 (gI (sI (sI u 82 13 (gI u 82 48)) 82 0 (gI (sI u 82 13 (gI u 82 48)) 82 49)) 82 50)) 82 51)) 82 52)) 82 4 (gI (sI (sI (sI (sI (sI u 82 13 (gI u 82 48)) 82 0 (gI (sI u 82 13 (gI u 82 48)) 82 49)) 82 1 (gI (sI (sI u 82 13 (gI u 82 48)) 82 0 (gI (sI u 82 13 (gI u 82 48)) 82 49)) 82 50)) 82 2 (gI (sI (sI (sI u 82 13 (gI u 82 48)) 82 0 (gI (sI u 82 13 (gI u 82 48)) 82 49)) 82 1 (gI (sI (sI u 82 13 (gI u 82 48)) 82 0 (gI (sI u 82 13 (gI u 82 48)) 82 49)) 82 50)) 82 51)) 82 3 (gI (sI (sI (sI (sI u 82 13 (gI u 82 48)) 82 0 (gI (sI u 82 13 (gI u 82 48)) 82 49)) 82 1 (gI (sI (sI u 82 13 (gI u 82 48)) 82 0 (gI (sI u 82 13 (gI u 82 48)) 82 49)) 82 50)) 82 2 (gI (sI (sI (sI u 82 13 (gI u 82 48)) 82 0 (gI (sI u 82 13 (gI u 82 48)) 82 49)) 82 1 (gI (sI (sI u 82 13 (gI u 82 48)) 82 0 (gI (sI u 82 13 (gI u 82 48)) 82 49)) 82 50)) 82 51)) 82 52)) 82 53)) 82 37 (gI (sI (sI (sI (sI (sI (sI u 82 13 (gI u 82 48)) 82 0 (gI (sI u 82 13 (gI u 82 48)) 82 49)) 82 1 (gI (sI (sI u 82 13 (gI u 82 48)) 82 0 (gI (sI u 82 13 (gI u 82 48)) 82 49)) 82 50)) 82 2 (gI (sI (sI (sI u 82 13 (gI u 82 48)) 82 0 (gI (sI u 82 13 (gI u 82 48)) 82 49)) 82 1 (gI (sI (sI u 82 13 (gI u 82 48)) 82 0 (gI (sI u 82 13 (gI u 82 48)) 82 49)) 82 50)) 82 51)) 82 3 (gI (sI (sI (sI (sI u 82 13 (gI u 82 48)) 82 0 (gI (sI u 82 13 (gI u 82 48)) 82 49)) 82 1 (gI (sI (sI u 82 13 (gI u 82 48)) 82 0 (gI (sI u 82 13 (gI u 82 48)) 82 49)) 82 50)) 82 2 (gI (sI (sI (sI u 82 13 (gI u 82 48)) 82 0 (gI (sI u 82 13 (gI u 82 48)) 82 49)) 82 1 (gI (sI (sI u 82 13 (gI u 82 48)) 82 0 (gI (sI u 82 13 (gI u 82 48)) 82 49)) 82 50)) 82 51)) 82 52)) 82 4 (gI (sI (sI (sI (sI (sI u 82 13 (gI u 82 48)) 82 0 (gI (sI u 82 13 (gI u 82 48)) 82 49)) 82 1 (gI (sI (sI u 82 13 (gI u 82 48)) 82 0 (gI (sI u 82 13 (gI u 82 48)) 82 49)) 82 50)) 82 2 (gI (sI (sI (sI u 82 13 (gI u 82 48)) 82 0 (gI (sI u 82 13 (gI u 82 48)) 82 49)) 82 1 (gI (sI (sI u 82 13 (gI u 82 48)) 82 0 (gI (sI u 82 13 (gI u 82 48)) 82 49)) 82 50)) 82 51)) 82 3 (gI (sI (sI (sI (sI u 82 13 (gI u 82 48)) 82 0 (gI (sI u 82 13 (gI u 82 48)) 82 49)) 82 1 (gI (sI (sI u 82 13 (gI u 82 48)) 82 0 (gI (sI u 82 13 (gI u 82 48)) 82 49)) 82 50)) 82 2 (gI (sI (sI (sI u 82 13 (gI u 82 48)) 82 0 (gI (sI u 82 13 (gI u 82 48)) 82 49)) 82 1 (gI (sI (sI u 82 13 (gI u 82 48)) 82 0 (gI (sI u 82 13 (gI u 82 48)) 82 49)) 82 50)) 82 51)) 82 52)) 82 53)) 82 54)) 82 41 (gI (sI (sI (sI (sI (sI (sI (sI u 82 13 (gI u 82 48)) 82 0 (gI (sI u 82 13 (gI u 82 48)) 82 49)) 82 1 (gI (sI (sI u 82 13 (gI u 82 48)) 82 0 (gI (sI u 82 13 (gI u 82 48)) 82 49)) 82 50)) 82 2 (gI (sI (sI (sI u 82 13 (gI u 82 48)) 82 0 (gI (sI u 82 13 (gI u 82 48)) 82 49)) 82 1 (gI (sI (sI u 82 13 (gI u 82 48)) 82 0 (gI (sI u 82 13 (gI u 82 48)) 82 49)) 82 50)) 82 51)) 82 3 (gI (sI (sI (sI (sI u 82 13 (gI u 82 48)) 82 0 (gI (sI u 82 13 (gI u 82 48)) 82 49)) 82 1 (gI (sI (sI u 82 13 (gI u 82 48)) 82 0 (gI (sI u 82 13 (gI u 82 48)) 82 49)) 82 50)) 82 2 (gI (sI (sI (sI u 82 13 (gI u 82 48)) 82 0 (gI (sI u 82 13 (gI u 82 48)) 82 49)) 82 1 (gI (sI (sI u 82 13 (gI u 82 48)) 82 0 (gI (sI u 82 13 (gI u 82 48)) 82 49)) 82 50)) 82 51)) 82 52)) 82 4 (gI (sI (sI (sI (sI (sI u 82 13 (gI u 82 48)) 82 0 (gI (sI u 82 13 (gI u 82 48)) 82 49)) 82 1 (gI (sI (sI u 82 13 (gI u 82 48)) 82 0 (gI (sI u 82 13 (gI u 82 48)) 82 49)) 82 50)) 82 2 (gI (sI (sI (sI u 82 13 (gI u 82 48)) 82 0 (gI (sI u 82 13 (gI u 82 48)) 82 49)) 82 1 (gI (sI (sI u 82 13 (gI u 82 48)) 82 0 (gI (sI u 82 13 (gI u 82 48)) 82 49)) 82 50)) 82 51)) 82 3 (gI (sI (sI (sI (sI u 82 13 (gI u 82 48)) 82 0 (gI (sI u 82 13 (gI u 82 48)) 82 49)) 82 1 (gI (sI (sI u 82 13 (gI u 82 48)) 82 0 (gI (sI u 82 13 (gI u 82 48)) 82 49)) 82 50)) 82 2 (gI (sI (sI (sI u 82 13 (gI u 82 48)) 82 0 (gI (sI u 82 13 (gI u 82 48)) 82 49)) 82 1 (gI (sI (sI u 82 13 (gI u 82 48)) 82 0 (gI (sI u 82 13 (gI u 82 48)) 82 49)) 82 50)) 82 51)) 82 52)) 82 53)) 82 37 (gI (sI (sI (sI (sI (sI (sI u 82 13 (gI u 82 48)) 82 0 (gI (sI u 82 13 (gI u 82 48)) 82 49)) 82 1 (gI (sI (sI u 82 13 (gI u 82 48)) 82 0 (gI (sI u 82 13 (gI u 82 48)) 82 49)) 82 50)) 82 2 (gI (sI (sI (sI u 82 13 (gI u 82 48)) 82 0 (gI (sI u 82 13 (gI u 82 48)) 82 49)) 82 1 (gI (sI (sI u 82 13 (gI u 82 48)) 82 0 (gI (sI u 82 13 (gI u 82 48)) 82 49)) 82 50)) 82 51)) 82 3 (gI (sI (sI (sI (sI u 82 13 (gI u 82 48)) 82 0 (gI (sI u 82 13 (gI u 82 48)) 82 49)) 82 1 (gI (sI (sI u 82 13 (gI u 82 48)) 82 0 (gI (sI u 82 13 (gI u 82 48)) 82 49)) 82 50)) 82 2 (gI (sI (sI (sI u 82 13 (gI u 82 48)) 82 0 (gI (sI u 82 13 (gI u 82 48)) 82 49)) 82 1 (gI (sI (sI u 82 13 (gI u 82 48)) 82 0 (gI (sI u 82 13 (gI u 82 48)) 82 49)) 82 50)) 82 51)) 82 52)) 82 4 (gI (sI (sI (sI (sI (sI u 82 13 (gI u 82 48)) 82 0 (gI (sI u 82 13 (gI u 82 48)) 82 49)) 82 1 (gI (sI (sI u 82 13 (gI u 82 48)) 82 0 (gI (sI u 82 13 (gI u 82 48)) 82 49)) 82 50)) 82 2 (gI (sI (sI (sI u 82 13 (gI u 82 48)) 82 0 (gI (sI u 82 13 (gI u 82 48)) 82 49)) 82 1 (gI (sI (sI u 82 13 (gI u 82 48)) 82 0 (gI (sI u 82 13 (gI u 82 48)) 82 49)) 82 50)) 82 51)) 82 3 (gI (sI (sI (sI (sI u 82 13 (gI u 82 48)) 82 0 (gI (sI u 82 13 (gI u 82 48)) 82 49)) 82 1 (gI (sI (sI u 82 13 (gI u 82 48)) 82 0 (gI (sI u 82 13 (gI u 82 48)) 82 49)) 82 50)) 82 2 (gI (sI (sI (sI u 82 13 (gI u 82 48)) 82 0 (gI (sI u 82 13 (gI u 82 48)) 82 49)) 82 1 (gI (sI (sI u 82 13 (gI u 82 48)) 82 0 (gI (sI u 82 13 (gI u 82 48)) 82 49)) 82 50)) 82 51)) 82 52)) 82 53)) 82 54)) 82 55)) 82 56)) _ _ ls hG (lv_sub hl [1, 0] rfl) hf
  · have hf := gif_t c1 hf
    refine lv_bipush (v := (-3 : Int32)) hx hb dX8_undo_7 (by decide) ?_
    obtain ⟨hr1, hu⟩ := gret_s hf
    subst hr1
    subst hu
    subst hQ
    exact g_iret C0 hG hr dX8_undo_9
theorem dX8_body_0 : decode cX8_body 0 = .ok (.aload_n 0, 1) := by decide +kernel
theorem dX8_body_1 : decode cX8_body 1 = .ok (.getfield 226, 3) := by decide +kernel
theorem dX8_body_4 : decode cX8_body 4 = .ok (.bipush 20, 2) := by decide +kernel
theorem dX8_body_6 : decode cX8_body 6 = .ok (.if_icmp .ge 13, 3) := by decide +kernel
theorem dX8_body_9 : decode cX8_body 9 = .ok (.aload_n 0, 1) := by decide +kernel
theorem dX8_body_10 : decode cX8_body 10 = .ok (.getfield 229, 3) := by decide +kernel
theorem dX8_body_13 : decode cX8_body 13 = .ok (.aload_n 0, 1) := by decide +kernel
theorem dX8_body_14 : decode cX8_body 14 = .ok (.getfield 226, 3) := by decide +kernel
theorem dX8_body_17 : decode cX8_body 17 = .ok (.iload_n 1, 1) := by decide +kernel
theorem dX8_body_18 : decode cX8_body 18 = .ok (.iastore, 1) := by decide +kernel
theorem dX8_body_19 : decode cX8_body 19 = .ok (.aload_n 0, 1) := by decide +kernel
theorem dX8_body_20 : decode cX8_body 20 = .ok (.dup, 1) := by decide +kernel
theorem dX8_body_21 : decode cX8_body 21 = .ok (.getfield 226, 3) := by decide +kernel
theorem dX8_body_24 : decode cX8_body 24 = .ok (.iconst 1, 1) := by decide +kernel
theorem dX8_body_25 : decode cX8_body 25 = .ok (.iadd, 1) := by decide +kernel
theorem dX8_body_26 : decode cX8_body 26 = .ok (.putfield 226, 3) := by decide +kernel
theorem dX8_body_29 : decode cX8_body 29 = .ok (.return_, 1) := by decide +kernel
def f_X8_body (p1 : Int32) (u : Mem) : Option (Unit × Mem) := (if (20 : Int32) ≤ (gI u 82 71) then some ((), sI u 82 71 ((gI u 82 71) + (1 : Int32))) else gin (gI u 82 71) 20 (some ((), sI (sA u 124 (gI u 82 71).toNatClampNeg p1) 82 71 ((gI (sA u 124 (gI u 82 71).toNatClampNeg p1) 82 71) + (1 : Int32)))))
set_option maxHeartbeats 4000000 in
set_option maxRecDepth 100000 in
theorem k_X8_body (l : Launch) (D : gDt) (base : Nat) (Z : gZt) (u : Mem) (p1 : Int32) (u' : Mem) (hf : f_X8_body p1 u = some ((), u')) : Met l yX8_body (gws yX8_body cX8_body 2 (none)) (gRm 1 0 0) (gPc D base Z u [.ref (base + 82), .int p1]) (gQv D base u') 0 0 (gF base) := by
  refine Met.ofW (cc := cX8_body) (maxL := 2) (ret := none) (by decide) rfl ?_
  intro p e s m args below meth c s₁ B hml hv
  obtain ⟨rfl, C0, hG⟩ := g_enter B hml hv
  have hr := B.returns
  have C0 : gC p s m meth c _ cX8_body 2 RX8 D base Z := C0
  have hx := C0.1
  have hb := C0.2.1
  have hl := lv_entry ([.ref (base + 82), .int p1]) (n := 2) (Nat.le_of_ble_eq_true rfl)
  rw [lg_entry_eq]
  generalize (lg_sl ([.ref (base + 82), .int p1]) ++ List.replicate (2 - (lg_sl ([.ref (base + 82), .int p1])).length) Slot.unset).toArray = ls at hl ⊢
  have hl : lv_has ls 2 [(0, .ref (base + 82)), (1, .int p1)] := hl
  obtain ⟨Q, hQ⟩ : ∃ Q, Q = MQ below (gQv D base u') ([.ref (base + 82), .int p1] : List Value).toArray s 0 0 (gF base) := ⟨_, rfl⟩
  rw [← hQ]
  change W p l e (gRm 1 0 0) s m _ below meth c _ _ _ _ _ _
  unfold f_X8_body at hf
  refine lv_aload_n hx hb dX8_body_0 rfl (lv_at hl 0 rfl) ?_
  refine g_getI C0 hG (L82 hG) rfl 71 (by decide) rfl w_917 dX8_body_1 ?_
  refine lv_bipush (v := (20 : Int32)) hx hb dX8_body_4 (by decide) ?_
  refine lv_icmp_ge (tgt := 19) hx hb dX8_body_6 (by decide) (fun c1 => ?_) (fun c1 => ?_)
  · have hf := gif_t c1 hf
    refine lv_aload_n hx hb dX8_body_19 rfl (lv_at hl 0 rfl) ?_
    refine lv_dup hx hb dX8_body_20 rfl ?_
    refine g_getI C0 hG (L82 hG) rfl 71 (by decide) rfl w_917 dX8_body_21 ?_
    refine lv_iconst (v := (1 : Int32)) hx hb dX8_body_24 (by decide) ?_
    refine lv_iadd hx hb dX8_body_25 ?_
    refine g_putI (ty := .int) C0 hG (L82 hG) rfl 71 (by decide) rfl w_917 rfl (by decide) rfl rfl dX8_body_26 (fun H locs hG => ?_)
    obtain ⟨-, hu⟩ := gret_s hf
    subst hu
    subst hQ
    exact g_vret C0 hG hr dX8_body_29
  · have hf := gif_f c1 hf
    refine lv_aload_n hx hb dX8_body_9 rfl (lv_at hl 0 rfl) ?_
    refine g_getSa (o := 42) (a := 124) C0 hG (L82 hG) rfl 72 (by decide) rfl rfl w_918 dX8_body_10 ?_
    refine lv_aload_n hx hb dX8_body_13 rfl (lv_at hl 0 rfl) ?_
    refine g_getI C0 hG (L82 hG) rfl 71 (by decide) rfl w_917 dX8_body_14 ?_
    refine lv_iload_n hx hb dX8_body_17 rfl (lv_at hl 1 rfl) ?_
    obtain ⟨h2, hf⟩ := gin_s hf
    refine g_iast C0 hG (L124 hG) h2 dX8_body_18 (fun H locs hG => ?_)
    refine lv_aload_n hx hb dX8_body_19 rfl (lv_at hl 0 rfl) ?_
    refine lv_dup hx hb dX8_body_20 rfl ?_
    refine g_getI C0 hG (L82 hG) rfl 71 (by decide) rfl w_917 dX8_body_21 ?_
    refine lv_iconst (v := (1 : Int32)) hx hb dX8_body_24 (by decide) ?_
    refine lv_iadd hx hb dX8_body_25 ?_
    refine g_putI (ty := .int) C0 hG (L82 hG) rfl 71 (by decide) rfl w_917 rfl (by decide) rfl rfl dX8_body_26 (fun H locs hG => ?_)
    obtain ⟨-, hu⟩ := gret_s hf
    subst hu
    subst hQ
    exact g_vret C0 hG hr dX8_body_29
theorem dX8_oneHums_0 : decode cX8_oneHums 0 = .ok (.aload_n 0, 1) := by decide +kernel
theorem dX8_oneHums_1 : decode cX8_oneHums 1 = .ok (.bipush 10, 2) := by decide +kernel
theorem dX8_oneHums_3 : decode cX8_oneHums 3 = .ok (.invokevirtual 410, 3) := by decide +kernel
theorem dX8_oneHums_6 : decode cX8_oneHums 6 = .ok (.iload_n 2, 1) := by decide +kernel
theorem dX8_oneHums_7 : decode cX8_oneHums 7 = .ok (.iload_n 1, 1) := by decide +kernel
theorem dX8_oneHums_8 : decode cX8_oneHums 8 = .ok (.iadd, 1) := by decide +kernel
theorem dX8_oneHums_9 : decode cX8_oneHums 9 = .ok (.ireturn, 1) := by decide +kernel
def f_X8_oneHums (p1 : Int32) (p2 : Int32) (u : Mem) : Option (Int32 × Mem) := obind (f_X8_body (10 : Int32) u) (fun _ u1 => some (p2 + p1, u1))
set_option maxHeartbeats 4000000 in
set_option maxRecDepth 100000 in
theorem k_X8_oneHums (l : Launch) (D : gDt) (base : Nat) (Z : gZt) (u : Mem) (p1 : Int32) (p2 : Int32) (r : Int32) (u' : Mem) (hf : f_X8_oneHums p1 p2 u = some (r, u')) : Met l yX8_oneHums (gws yX8_oneHums cX8_oneHums 3 (some .int)) (gRm 2 0 0) (gPc D base Z u [.ref (base + 82), .int p1, .int p2]) (gQi D base r u') 0 0 (gF base) := by
  refine Met.ofW (cc := cX8_oneHums) (maxL := 3) (ret := some .int) (by decide) rfl ?_
  intro p e s m args below meth c s₁ B hml hv
  obtain ⟨rfl, C0, hG⟩ := g_enter B hml hv
  have hr := B.returns
  have C0 : gC p s m meth c _ cX8_oneHums 3 RX8 D base Z := C0
  have hx := C0.1
  have hb := C0.2.1
  have hl := lv_entry ([.ref (base + 82), .int p1, .int p2]) (n := 3) (Nat.le_of_ble_eq_true rfl)
  rw [lg_entry_eq]
  generalize (lg_sl ([.ref (base + 82), .int p1, .int p2]) ++ List.replicate (3 - (lg_sl ([.ref (base + 82), .int p1, .int p2])).length) Slot.unset).toArray = ls at hl ⊢
  have hl : lv_has ls 3 [(0, .ref (base + 82)), (1, .int p1), (2, .int p2)] := hl
  obtain ⟨Q, hQ⟩ : ∃ Q, Q = MQ below (gQi D base r u') ([.ref (base + 82), .int p1, .int p2] : List Value).toArray s 0 0 (gF base) := ⟨_, rfl⟩
  rw [← hQ]
  change W p l e (gRm 2 0 0) s m _ below meth c _ _ _ _ _ _
  unfold f_X8_oneHums at hf
  refine lv_aload_n hx hb dX8_oneHums_0 rfl (lv_at hl 0 rfl) ?_
  refine lv_bipush (v := (10 : Int32)) hx hb dX8_oneHums_1 (by decide) ?_
  obtain ⟨_, u1, hc1, hf⟩ := obind_s hf
  refine g_doV0 hG (g_runV C0 hG (k_X8_body l D base Z u (10 : Int32) u1 hc1) m_X8_body v_X8_body w_1392 (by decide) (g_recv C0 hG (L82 hG) rfl) rfl hl.1 rfl (Nat.le_of_ble_eq_true rfl) dX8_oneHums_3 ⟨Nat.zero_le _, Nat.zero_le _⟩) (fun H locs hG hk => ?_)
  refine lv_iload_n hx hb dX8_oneHums_6 rfl (lv_at hl 2 rfl) ?_
  refine lv_iload_n hx hb dX8_oneHums_7 rfl (lv_at hl 1 rfl) ?_
  refine lv_iadd hx hb dX8_oneHums_8 ?_
  obtain ⟨hr1, hu⟩ := gret_s hf
  subst hr1
  subst hu
  subst hQ
  exact g_iret C0 hG hr dX8_oneHums_9
theorem dX8_humsAct_0 : decode cX8_humsAct 0 = .ok (.aload_n 0, 1) := by decide +kernel
theorem dX8_humsAct_1 : decode cX8_humsAct 1 = .ok (.getfield 25, 3) := by decide +kernel
theorem dX8_humsAct_4 : decode cX8_humsAct 4 = .ok (.iload_n 1, 1) := by decide +kernel
theorem dX8_humsAct_5 : decode cX8_humsAct 5 = .ok (.iaload, 1) := by decide +kernel
theorem dX8_humsAct_6 : decode cX8_humsAct 6 = .ok (.tableswitch 83 2 6 #[34, 83, 49, 34, 63], 34) := by decide +kernel
theorem dX8_humsAct_40 : decode cX8_humsAct 40 = .ok (.aload_n 0, 1) := by decide +kernel
theorem dX8_humsAct_41 : decode cX8_humsAct 41 = .ok (.bipush 30, 2) := by decide +kernel
theorem dX8_humsAct_43 : decode cX8_humsAct 43 = .ok (.invokevirtual 410, 3) := by decide +kernel
theorem dX8_humsAct_46 : decode cX8_humsAct 46 = .ok (.aload_n 0, 1) := by decide +kernel
theorem dX8_humsAct_47 : decode cX8_humsAct 47 = .ok (.iload_n 1, 1) := by decide +kernel
theorem dX8_humsAct_48 : decode cX8_humsAct 48 = .ok (.iload_n 2, 1) := by decide +kernel
theorem dX8_humsAct_49 : decode cX8_humsAct 49 = .ok (.iconst 3, 1) := by decide +kernel
theorem dX8_humsAct_50 : decode cX8_humsAct 50 = .ok (.imul, 1) := by decide +kernel
theorem dX8_humsAct_51 : decode cX8_humsAct 51 = .ok (.invokevirtual 413, 3) := by decide +kernel
theorem dX8_humsAct_54 : decode cX8_humsAct 54 = .ok (.ireturn, 1) := by decide +kernel
theorem dX8_humsAct_55 : decode cX8_humsAct 55 = .ok (.aload_n 0, 1) := by decide +kernel
theorem dX8_humsAct_56 : decode cX8_humsAct 56 = .ok (.bipush 50, 2) := by decide +kernel
theorem dX8_humsAct_58 : decode cX8_humsAct 58 = .ok (.invokevirtual 410, 3) := by decide +kernel
theorem dX8_humsAct_61 : decode cX8_humsAct 61 = .ok (.aload_n 0, 1) := by decide +kernel
theorem dX8_humsAct_62 : decode cX8_humsAct 62 = .ok (.iload_n 1, 1) := by decide +kernel
theorem dX8_humsAct_63 : decode cX8_humsAct 63 = .ok (.iload_n 2, 1) := by decide +kernel
theorem dX8_humsAct_64 : decode cX8_humsAct 64 = .ok (.invokevirtual 413, 3) := by decide +kernel
theorem dX8_humsAct_67 : decode cX8_humsAct 67 = .ok (.ineg, 1) := by decide +kernel
theorem dX8_humsAct_68 : decode cX8_humsAct 68 = .ok (.ireturn, 1) := by decide +kernel
theorem dX8_humsAct_69 : decode cX8_humsAct 69 = .ok (.aload_n 0, 1) := by decide +kernel
theorem dX8_humsAct_70 : decode cX8_humsAct 70 = .ok (.bipush 71, 2) := by decide +kernel
theorem dX8_humsAct_72 : decode cX8_humsAct 72 = .ok (.invokevirtual 410, 3) := by decide +kernel
theorem dX8_humsAct_75 : decode cX8_humsAct 75 = .ok (.aload_n 0, 1) := by decide +kernel
theorem dX8_humsAct_76 : decode cX8_humsAct 76 = .ok (.iload_n 1, 1) := by decide +kernel
theorem dX8_humsAct_77 : decode cX8_humsAct 77 = .ok (.iload_n 2, 1) := by decide +kernel
theorem dX8_humsAct_78 : decode cX8_humsAct 78 = .ok (.invokevirtual 413, 3) := by decide +kernel
theorem dX8_humsAct_81 : decode cX8_humsAct 81 = .ok (.aload_n 0, 1) := by decide +kernel
theorem dX8_humsAct_82 : decode cX8_humsAct 82 = .ok (.getfield 29, 3) := by decide +kernel
theorem dX8_humsAct_85 : decode cX8_humsAct 85 = .ok (.iload_n 1, 1) := by decide +kernel
theorem dX8_humsAct_86 : decode cX8_humsAct 86 = .ok (.iaload, 1) := by decide +kernel
theorem dX8_humsAct_87 : decode cX8_humsAct 87 = .ok (.ixor, 1) := by decide +kernel
theorem dX8_humsAct_88 : decode cX8_humsAct 88 = .ok (.ireturn, 1) := by decide +kernel
theorem dX8_humsAct_89 : decode cX8_humsAct 89 = .ok (.aload_n 0, 1) := by decide +kernel
theorem dX8_humsAct_90 : decode cX8_humsAct 90 = .ok (.iload_n 1, 1) := by decide +kernel
theorem dX8_humsAct_91 : decode cX8_humsAct 91 = .ok (.iload_n 2, 1) := by decide +kernel
theorem dX8_humsAct_92 : decode cX8_humsAct 92 = .ok (.invokevirtual 413, 3) := by decide +kernel
theorem dX8_humsAct_95 : decode cX8_humsAct 95 = .ok (.ireturn, 1) := by decide +kernel
def f_X8_humsAct (p1 : Int32) (p2 : Int32) (u : Mem) : Option (Int32 × Mem) := gin p1 6 ((if (gA u 83 p1.toNatClampNeg) = (2 : Int32) then obind (f_X8_body (30 : Int32) u) (fun _ u3 => obind (f_X8_oneHums p1 (p2 * (3 : Int32)) u3) (fun r4 u4 => some (r4, u4))) else (if (gA u 83 p1.toNatClampNeg) = (4 : Int32) then obind (f_X8_body (50 : Int32) u) (fun _ u6 => obind (f_X8_oneHums p1 p2 u6) (fun r7 u7 => some (-r7, u7))) else (if (gA u 83 p1.toNatClampNeg) = (5 : Int32) then obind (f_X8_body (30 : Int32) u) (fun _ u9 => obind (f_X8_oneHums p1 (p2 * (3 : Int32)) u9) (fun r10 u10 => some (r10, u10))) else (if (gA u 83 p1.toNatClampNeg) = (6 : Int32) then obind (f_X8_body (71 : Int32) u) (fun _ u12 => obind (f_X8_oneHums p1 p2 u12) (fun r13 u13 => gin p1 6 (some (r13 ^^^ (gA u13 84 p1.toNatClampNeg), u13)))) else obind (f_X8_oneHums p1 p2 u) (fun r15 u15 => some (r15, u15)))))))
set_option maxHeartbeats 4000000 in
set_option maxRecDepth 100000 in
theorem k_X8_humsAct (l : Launch) (D : gDt) (base : Nat) (Z : gZt) (u : Mem) (p1 : Int32) (p2 : Int32) (r : Int32) (u' : Mem) (hf : f_X8_humsAct p1 p2 u = some (r, u')) : Met l yX8_humsAct (gws yX8_humsAct cX8_humsAct 3 (some .int)) (gRm 3 0 0) (gPc D base Z u [.ref (base + 82), .int p1, .int p2]) (gQi D base r u') 0 0 (gF base) := by
  refine Met.ofW (cc := cX8_humsAct) (maxL := 3) (ret := some .int) (by decide) rfl ?_
  intro p e s m args below meth c s₁ B hml hv
  obtain ⟨rfl, C0, hG⟩ := g_enter B hml hv
  have hr := B.returns
  have C0 : gC p s m meth c _ cX8_humsAct 3 RX8 D base Z := C0
  have hx := C0.1
  have hb := C0.2.1
  have hl := lv_entry ([.ref (base + 82), .int p1, .int p2]) (n := 3) (Nat.le_of_ble_eq_true rfl)
  rw [lg_entry_eq]
  generalize (lg_sl ([.ref (base + 82), .int p1, .int p2]) ++ List.replicate (3 - (lg_sl ([.ref (base + 82), .int p1, .int p2])).length) Slot.unset).toArray = ls at hl ⊢
  have hl : lv_has ls 3 [(0, .ref (base + 82)), (1, .int p1), (2, .int p2)] := hl
  obtain ⟨Q, hQ⟩ : ∃ Q, Q = MQ below (gQi D base r u') ([.ref (base + 82), .int p1, .int p2] : List Value).toArray s 0 0 (gF base) := ⟨_, rfl⟩
  rw [← hQ]
  change W p l e (gRm 3 0 0) s m _ below meth c _ _ _ _ _ _
  unfold f_X8_humsAct at hf
  refine lv_aload_n hx hb dX8_humsAct_0 rfl (lv_at hl 0 rfl) ?_
  refine g_getSa (o := 1) (a := 83) C0 hG (L82 hG) rfl 5 (by decide) rfl rfl w_851 dX8_humsAct_1 ?_
  refine lv_iload_n hx hb dX8_humsAct_4 rfl (lv_at hl 1 rfl) ?_
  obtain ⟨h1, hf⟩ := gin_s hf
  refine g_iald C0 hG (L83 hG) h1 dX8_humsAct_5 ?_
  refine (Decidable.em ((gA u 83 p1.toNatClampNeg) = (2 : Int32))).elim (fun c2 => ?_) (fun c2 => ?_)
  · have hf := gif_t c2 hf
    refine lv_tableIn (off := 34) (tgt := 40) hx hb dX8_humsAct_6 (by rw [c2]; decide) (by rw [c2]; decide) (by rw [c2]; rfl) (by decide) ?_
    refine lv_aload_n hx hb dX8_humsAct_40 rfl (lv_at hl 0 rfl) ?_
    refine lv_bipush (v := (30 : Int32)) hx hb dX8_humsAct_41 (by decide) ?_
    obtain ⟨_, u3, hc3, hf⟩ := obind_s hf
    refine g_doV0 hG (g_runV C0 hG (k_X8_body l D base Z u (30 : Int32) u3 hc3) m_X8_body v_X8_body w_1392 (by decide) (g_recv C0 hG (L82 hG) rfl) rfl hl.1 rfl (Nat.le_of_ble_eq_true rfl) dX8_humsAct_43 ⟨Nat.zero_le _, Nat.zero_le _⟩) (fun H locs hG hk => ?_)
    refine lv_aload_n hx hb dX8_humsAct_46 rfl (lv_at hl 0 rfl) ?_
    refine lv_iload_n hx hb dX8_humsAct_47 rfl (lv_at hl 1 rfl) ?_
    refine lv_iload_n hx hb dX8_humsAct_48 rfl (lv_at hl 2 rfl) ?_
    refine lv_iconst (v := (3 : Int32)) hx hb dX8_humsAct_49 (by decide) ?_
    refine lv_imul hx hb dX8_humsAct_50 ?_
    obtain ⟨r4, u4, hc4, hf⟩ := obind_s hf
    refine g_doI0 hG (g_runV C0 hG (k_X8_oneHums l D base Z u3 p1 (p2 * (3 : Int32)) r4 u4 hc4) m_X8_oneHums v_X8_oneHums w_1396 (by decide) (g_recv C0 hG (L82 hG) rfl) rfl hl.1 rfl (Nat.le_of_ble_eq_true rfl) dX8_humsAct_51 ⟨Nat.zero_le _, Nat.zero_le _⟩) (fun H locs hG hk => ?_)
    obtain ⟨hr1, hu⟩ := gret_s hf
    subst hr1
    subst hu
    subst hQ
    exact g_iret C0 hG hr dX8_humsAct_54
  · have hf := gif_f c2 hf
    refine (Decidable.em ((gA u 83 p1.toNatClampNeg) = (4 : Int32))).elim (fun c5 => ?_) (fun c5 => ?_)
    · have hf := gif_t c5 hf
      refine lv_tableIn (off := 49) (tgt := 55) hx hb dX8_humsAct_6 (by rw [c5]; decide) (by rw [c5]; decide) (by rw [c5]; rfl) (by decide) ?_
      refine lv_aload_n hx hb dX8_humsAct_55 rfl (lv_at hl 0 rfl) ?_
      refine lv_bipush (v := (50 : Int32)) hx hb dX8_humsAct_56 (by decide) ?_
      obtain ⟨_, u6, hc6, hf⟩ := obind_s hf
      refine g_doV0 hG (g_runV C0 hG (k_X8_body l D base Z u (50 : Int32) u6 hc6) m_X8_body v_X8_body w_1392 (by decide) (g_recv C0 hG (L82 hG) rfl) rfl hl.1 rfl (Nat.le_of_ble_eq_true rfl) dX8_humsAct_58 ⟨Nat.zero_le _, Nat.zero_le _⟩) (fun H locs hG hk => ?_)
      refine lv_aload_n hx hb dX8_humsAct_61 rfl (lv_at hl 0 rfl) ?_
      refine lv_iload_n hx hb dX8_humsAct_62 rfl (lv_at hl 1 rfl) ?_
      refine lv_iload_n hx hb dX8_humsAct_63 rfl (lv_at hl 2 rfl) ?_
      obtain ⟨r7, u7, hc7, hf⟩ := obind_s hf
      refine g_doI0 hG (g_runV C0 hG (k_X8_oneHums l D base Z u6 p1 p2 r7 u7 hc7) m_X8_oneHums v_X8_oneHums w_1396 (by decide) (g_recv C0 hG (L82 hG) rfl) rfl hl.1 rfl (Nat.le_of_ble_eq_true rfl) dX8_humsAct_64 ⟨Nat.zero_le _, Nat.zero_le _⟩) (fun H locs hG hk => ?_)
      refine lv_ineg hx hb dX8_humsAct_67 ?_
      obtain ⟨hr1, hu⟩ := gret_s hf
      subst hr1
      subst hu
      subst hQ
      exact g_iret C0 hG hr dX8_humsAct_68
    · have hf := gif_f c5 hf
      refine (Decidable.em ((gA u 83 p1.toNatClampNeg) = (5 : Int32))).elim (fun c8 => ?_) (fun c8 => ?_)
      · have hf := gif_t c8 hf
        refine lv_tableIn (off := 34) (tgt := 40) hx hb dX8_humsAct_6 (by rw [c8]; decide) (by rw [c8]; decide) (by rw [c8]; rfl) (by decide) ?_
        refine lv_aload_n hx hb dX8_humsAct_40 rfl (lv_at hl 0 rfl) ?_
        refine lv_bipush (v := (30 : Int32)) hx hb dX8_humsAct_41 (by decide) ?_
        obtain ⟨_, u9, hc9, hf⟩ := obind_s hf
        refine g_doV0 hG (g_runV C0 hG (k_X8_body l D base Z u (30 : Int32) u9 hc9) m_X8_body v_X8_body w_1392 (by decide) (g_recv C0 hG (L82 hG) rfl) rfl hl.1 rfl (Nat.le_of_ble_eq_true rfl) dX8_humsAct_43 ⟨Nat.zero_le _, Nat.zero_le _⟩) (fun H locs hG hk => ?_)
        refine lv_aload_n hx hb dX8_humsAct_46 rfl (lv_at hl 0 rfl) ?_
        refine lv_iload_n hx hb dX8_humsAct_47 rfl (lv_at hl 1 rfl) ?_
        refine lv_iload_n hx hb dX8_humsAct_48 rfl (lv_at hl 2 rfl) ?_
        refine lv_iconst (v := (3 : Int32)) hx hb dX8_humsAct_49 (by decide) ?_
        refine lv_imul hx hb dX8_humsAct_50 ?_
        obtain ⟨r10, u10, hc10, hf⟩ := obind_s hf
        refine g_doI0 hG (g_runV C0 hG (k_X8_oneHums l D base Z u9 p1 (p2 * (3 : Int32)) r10 u10 hc10) m_X8_oneHums v_X8_oneHums w_1396 (by decide) (g_recv C0 hG (L82 hG) rfl) rfl hl.1 rfl (Nat.le_of_ble_eq_true rfl) dX8_humsAct_51 ⟨Nat.zero_le _, Nat.zero_le _⟩) (fun H locs hG hk => ?_)
        obtain ⟨hr1, hu⟩ := gret_s hf
        subst hr1
        subst hu
        subst hQ
        exact g_iret C0 hG hr dX8_humsAct_54
      · have hf := gif_f c8 hf
        refine (Decidable.em ((gA u 83 p1.toNatClampNeg) = (6 : Int32))).elim (fun c11 => ?_) (fun c11 => ?_)
        · have hf := gif_t c11 hf
          refine lv_tableIn (off := 63) (tgt := 69) hx hb dX8_humsAct_6 (by rw [c11]; decide) (by rw [c11]; decide) (by rw [c11]; rfl) (by decide) ?_
          refine lv_aload_n hx hb dX8_humsAct_69 rfl (lv_at hl 0 rfl) ?_
          refine lv_bipush (v := (71 : Int32)) hx hb dX8_humsAct_70 (by decide) ?_
          obtain ⟨_, u12, hc12, hf⟩ := obind_s hf
          refine g_doV0 hG (g_runV C0 hG (k_X8_body l D base Z u (71 : Int32) u12 hc12) m_X8_body v_X8_body w_1392 (by decide) (g_recv C0 hG (L82 hG) rfl) rfl hl.1 rfl (Nat.le_of_ble_eq_true rfl) dX8_humsAct_72 ⟨Nat.zero_le _, Nat.zero_le _⟩) (fun H locs hG hk => ?_)
          refine lv_aload_n hx hb dX8_humsAct_75 rfl (lv_at hl 0 rfl) ?_
          refine lv_iload_n hx hb dX8_humsAct_76 rfl (lv_at hl 1 rfl) ?_
          refine lv_iload_n hx hb dX8_humsAct_77 rfl (lv_at hl 2 rfl) ?_
          obtain ⟨r13, u13, hc13, hf⟩ := obind_s hf
          refine g_doI0 hG (g_runV C0 hG (k_X8_oneHums l D base Z u12 p1 p2 r13 u13 hc13) m_X8_oneHums v_X8_oneHums w_1396 (by decide) (g_recv C0 hG (L82 hG) rfl) rfl hl.1 rfl (Nat.le_of_ble_eq_true rfl) dX8_humsAct_78 ⟨Nat.zero_le _, Nat.zero_le _⟩) (fun H locs hG hk => ?_)
          refine lv_aload_n hx hb dX8_humsAct_81 rfl (lv_at hl 0 rfl) ?_
          refine g_getSa (o := 2) (a := 84) C0 hG (L82 hG) rfl 6 (by decide) rfl rfl w_852 dX8_humsAct_82 ?_
          refine lv_iload_n hx hb dX8_humsAct_85 rfl (lv_at hl 1 rfl) ?_
          obtain ⟨h14, hf⟩ := gin_s hf
          refine g_iald C0 hG (L84 hG) h14 dX8_humsAct_86 ?_
          refine lv_ixor hx hb dX8_humsAct_87 ?_
          obtain ⟨hr1, hu⟩ := gret_s hf
          subst hr1
          subst hu
          subst hQ
          exact g_iret C0 hG hr dX8_humsAct_88
        · have hf := gif_f c11 hf
          refine gsw_def (lo := 2) (hi := 6) (tgt := 89) hx hb dX8_humsAct_6 (by
              have n0 := lv_neT c2 (k := (2 : Int32)) (a := 2) (by decide)
              have n1 := lv_neT c5 (k := (4 : Int32)) (a := 4) (by decide)
              have n2 := lv_neT c8 (k := (5 : Int32)) (a := 5) (by decide)
              have n3 := lv_neT c11 (k := (6 : Int32)) (a := 6) (by decide)
              intro h1 h2
              have h3 : (gA u 83 p1.toNatClampNeg).toInt = 3 := by omega
              (rw [h3]; rfl)) (by decide) ?_
          refine lv_aload_n hx hb dX8_humsAct_89 rfl (lv_at hl 0 rfl) ?_
          refine lv_iload_n hx hb dX8_humsAct_90 rfl (lv_at hl 1 rfl) ?_
          refine lv_iload_n hx hb dX8_humsAct_91 rfl (lv_at hl 2 rfl) ?_
          obtain ⟨r15, u15, hc15, hf⟩ := obind_s hf
          refine g_doI0 hG (g_runV C0 hG (k_X8_oneHums l D base Z u p1 p2 r15 u15 hc15) m_X8_oneHums v_X8_oneHums w_1396 (by decide) (g_recv C0 hG (L82 hG) rfl) rfl hl.1 rfl (Nat.le_of_ble_eq_true rfl) dX8_humsAct_92 ⟨Nat.zero_le _, Nat.zero_le _⟩) (fun H locs hG hk => ?_)
          obtain ⟨hr1, hu⟩ := gret_s hf
          subst hr1
          subst hu
          subst hQ
          exact g_iret C0 hG hr dX8_humsAct_95
theorem dX8_oneLeans_0 : decode cX8_oneLeans 0 = .ok (.aload_n 0, 1) := by decide +kernel
theorem dX8_oneLeans_1 : decode cX8_oneLeans 1 = .ok (.bipush 11, 2) := by decide +kernel
theorem dX8_oneLeans_3 : decode cX8_oneLeans 3 = .ok (.invokevirtual 410, 3) := by decide +kernel
theorem dX8_oneLeans_6 : decode cX8_oneLeans 6 = .ok (.aload_n 0, 1) := by decide +kernel
theorem dX8_oneLeans_7 : decode cX8_oneLeans 7 = .ok (.iload_n 1, 1) := by decide +kernel
theorem dX8_oneLeans_8 : decode cX8_oneLeans 8 = .ok (.iload_n 2, 1) := by decide +kernel
theorem dX8_oneLeans_9 : decode cX8_oneLeans 9 = .ok (.invokevirtual 416, 3) := by decide +kernel
theorem dX8_oneLeans_12 : decode cX8_oneLeans 12 = .ok (.aload_n 0, 1) := by decide +kernel
theorem dX8_oneLeans_13 : decode cX8_oneLeans 13 = .ok (.getfield 29, 3) := by decide +kernel
theorem dX8_oneLeans_16 : decode cX8_oneLeans 16 = .ok (.iload_n 1, 1) := by decide +kernel
theorem dX8_oneLeans_17 : decode cX8_oneLeans 17 = .ok (.iaload, 1) := by decide +kernel
theorem dX8_oneLeans_18 : decode cX8_oneLeans 18 = .ok (.isub, 1) := by decide +kernel
theorem dX8_oneLeans_19 : decode cX8_oneLeans 19 = .ok (.ireturn, 1) := by decide +kernel
def f_X8_oneLeans (p1 : Int32) (p2 : Int32) (u : Mem) : Option (Int32 × Mem) := obind (f_X8_body (11 : Int32) u) (fun _ u1 => obind (f_X8_humsAct p1 p2 u1) (fun r2 u2 => gin p1 6 (some (r2 - (gA u2 84 p1.toNatClampNeg), u2))))
set_option maxHeartbeats 4000000 in
set_option maxRecDepth 100000 in
theorem k_X8_oneLeans (l : Launch) (D : gDt) (base : Nat) (Z : gZt) (u : Mem) (p1 : Int32) (p2 : Int32) (r : Int32) (u' : Mem) (hf : f_X8_oneLeans p1 p2 u = some (r, u')) : Met l yX8_oneLeans (gws yX8_oneLeans cX8_oneLeans 3 (some .int)) (gRm 4 0 0) (gPc D base Z u [.ref (base + 82), .int p1, .int p2]) (gQi D base r u') 0 0 (gF base) := by
  refine Met.ofW (cc := cX8_oneLeans) (maxL := 3) (ret := some .int) (by decide) rfl ?_
  intro p e s m args below meth c s₁ B hml hv
  obtain ⟨rfl, C0, hG⟩ := g_enter B hml hv
  have hr := B.returns
  have C0 : gC p s m meth c _ cX8_oneLeans 3 RX8 D base Z := C0
  have hx := C0.1
  have hb := C0.2.1
  have hl := lv_entry ([.ref (base + 82), .int p1, .int p2]) (n := 3) (Nat.le_of_ble_eq_true rfl)
  rw [lg_entry_eq]
  generalize (lg_sl ([.ref (base + 82), .int p1, .int p2]) ++ List.replicate (3 - (lg_sl ([.ref (base + 82), .int p1, .int p2])).length) Slot.unset).toArray = ls at hl ⊢
  have hl : lv_has ls 3 [(0, .ref (base + 82)), (1, .int p1), (2, .int p2)] := hl
  obtain ⟨Q, hQ⟩ : ∃ Q, Q = MQ below (gQi D base r u') ([.ref (base + 82), .int p1, .int p2] : List Value).toArray s 0 0 (gF base) := ⟨_, rfl⟩
  rw [← hQ]
  change W p l e (gRm 4 0 0) s m _ below meth c _ _ _ _ _ _
  unfold f_X8_oneLeans at hf
  refine lv_aload_n hx hb dX8_oneLeans_0 rfl (lv_at hl 0 rfl) ?_
  refine lv_bipush (v := (11 : Int32)) hx hb dX8_oneLeans_1 (by decide) ?_
  obtain ⟨_, u1, hc1, hf⟩ := obind_s hf
  refine g_doV0 hG (g_runV C0 hG (k_X8_body l D base Z u (11 : Int32) u1 hc1) m_X8_body v_X8_body w_1392 (by decide) (g_recv C0 hG (L82 hG) rfl) rfl hl.1 rfl (Nat.le_of_ble_eq_true rfl) dX8_oneLeans_3 ⟨Nat.zero_le _, Nat.zero_le _⟩) (fun H locs hG hk => ?_)
  refine lv_aload_n hx hb dX8_oneLeans_6 rfl (lv_at hl 0 rfl) ?_
  refine lv_iload_n hx hb dX8_oneLeans_7 rfl (lv_at hl 1 rfl) ?_
  refine lv_iload_n hx hb dX8_oneLeans_8 rfl (lv_at hl 2 rfl) ?_
  obtain ⟨r2, u2, hc2, hf⟩ := obind_s hf
  refine g_doI0 hG (g_runV C0 hG (k_X8_humsAct l D base Z u1 p1 p2 r2 u2 hc2) m_X8_humsAct v_X8_humsAct w_1388 (by decide) (g_recv C0 hG (L82 hG) rfl) rfl hl.1 rfl (Nat.le_of_ble_eq_true rfl) dX8_oneLeans_9 ⟨Nat.zero_le _, Nat.zero_le _⟩) (fun H locs hG hk => ?_)
  refine lv_aload_n hx hb dX8_oneLeans_12 rfl (lv_at hl 0 rfl) ?_
  refine g_getSa (o := 2) (a := 84) C0 hG (L82 hG) rfl 6 (by decide) rfl rfl w_852 dX8_oneLeans_13 ?_
  refine lv_iload_n hx hb dX8_oneLeans_16 rfl (lv_at hl 1 rfl) ?_
  obtain ⟨h3, hf⟩ := gin_s hf
  refine g_iald C0 hG (L84 hG) h3 dX8_oneLeans_17 ?_
  refine lv_isub hx hb dX8_oneLeans_18 ?_
  obtain ⟨hr1, hu⟩ := gret_s hf
  subst hr1
  subst hu
  subst hQ
  exact g_iret C0 hG hr dX8_oneLeans_19
theorem dX8_girlLeans_0 : decode cX8_girlLeans 0 = .ok (.aload_n 0, 1) := by decide +kernel
theorem dX8_girlLeans_1 : decode cX8_girlLeans 1 = .ok (.bipush 20, 2) := by decide +kernel
theorem dX8_girlLeans_3 : decode cX8_girlLeans 3 = .ok (.invokevirtual 410, 3) := by decide +kernel
theorem dX8_girlLeans_6 : decode cX8_girlLeans 6 = .ok (.aload_n 0, 1) := by decide +kernel
theorem dX8_girlLeans_7 : decode cX8_girlLeans 7 = .ok (.iload_n 1, 1) := by decide +kernel
theorem dX8_girlLeans_8 : decode cX8_girlLeans 8 = .ok (.iload_n 2, 1) := by decide +kernel
theorem dX8_girlLeans_9 : decode cX8_girlLeans 9 = .ok (.invokevirtual 419, 3) := by decide +kernel
theorem dX8_girlLeans_12 : decode cX8_girlLeans 12 = .ok (.bipush 6, 2) := by decide +kernel
theorem dX8_girlLeans_14 : decode cX8_girlLeans 14 = .ok (.ixor, 1) := by decide +kernel
theorem dX8_girlLeans_15 : decode cX8_girlLeans 15 = .ok (.ireturn, 1) := by decide +kernel
def f_X8_girlLeans (p1 : Int32) (p2 : Int32) (u : Mem) : Option (Int32 × Mem) := obind (f_X8_body (20 : Int32) u) (fun _ u1 => obind (f_X8_oneLeans p1 p2 u1) (fun r2 u2 => some (r2 ^^^ (6 : Int32), u2)))
set_option maxHeartbeats 4000000 in
set_option maxRecDepth 100000 in
theorem k_X8_girlLeans (l : Launch) (D : gDt) (base : Nat) (Z : gZt) (u : Mem) (p1 : Int32) (p2 : Int32) (r : Int32) (u' : Mem) (hf : f_X8_girlLeans p1 p2 u = some (r, u')) : Met l yX8_girlLeans (gws yX8_girlLeans cX8_girlLeans 3 (some .int)) (gRm 5 0 0) (gPc D base Z u [.ref (base + 82), .int p1, .int p2]) (gQi D base r u') 0 0 (gF base) := by
  refine Met.ofW (cc := cX8_girlLeans) (maxL := 3) (ret := some .int) (by decide) rfl ?_
  intro p e s m args below meth c s₁ B hml hv
  obtain ⟨rfl, C0, hG⟩ := g_enter B hml hv
  have hr := B.returns
  have C0 : gC p s m meth c _ cX8_girlLeans 3 RX8 D base Z := C0
  have hx := C0.1
  have hb := C0.2.1
  have hl := lv_entry ([.ref (base + 82), .int p1, .int p2]) (n := 3) (Nat.le_of_ble_eq_true rfl)
  rw [lg_entry_eq]
  generalize (lg_sl ([.ref (base + 82), .int p1, .int p2]) ++ List.replicate (3 - (lg_sl ([.ref (base + 82), .int p1, .int p2])).length) Slot.unset).toArray = ls at hl ⊢
  have hl : lv_has ls 3 [(0, .ref (base + 82)), (1, .int p1), (2, .int p2)] := hl
  obtain ⟨Q, hQ⟩ : ∃ Q, Q = MQ below (gQi D base r u') ([.ref (base + 82), .int p1, .int p2] : List Value).toArray s 0 0 (gF base) := ⟨_, rfl⟩
  rw [← hQ]
  change W p l e (gRm 5 0 0) s m _ below meth c _ _ _ _ _ _
  unfold f_X8_girlLeans at hf
  refine lv_aload_n hx hb dX8_girlLeans_0 rfl (lv_at hl 0 rfl) ?_
  refine lv_bipush (v := (20 : Int32)) hx hb dX8_girlLeans_1 (by decide) ?_
  obtain ⟨_, u1, hc1, hf⟩ := obind_s hf
  refine g_doV0 hG (g_runV C0 hG (k_X8_body l D base Z u (20 : Int32) u1 hc1) m_X8_body v_X8_body w_1392 (by decide) (g_recv C0 hG (L82 hG) rfl) rfl hl.1 rfl (Nat.le_of_ble_eq_true rfl) dX8_girlLeans_3 ⟨Nat.zero_le _, Nat.zero_le _⟩) (fun H locs hG hk => ?_)
  refine lv_aload_n hx hb dX8_girlLeans_6 rfl (lv_at hl 0 rfl) ?_
  refine lv_iload_n hx hb dX8_girlLeans_7 rfl (lv_at hl 1 rfl) ?_
  refine lv_iload_n hx hb dX8_girlLeans_8 rfl (lv_at hl 2 rfl) ?_
  obtain ⟨r2, u2, hc2, hf⟩ := obind_s hf
  refine g_doI0 hG (g_runV C0 hG (k_X8_oneLeans l D base Z u1 p1 p2 r2 u2 hc2) m_X8_oneLeans v_X8_oneLeans w_1408 (by decide) (g_recv C0 hG (L82 hG) rfl) rfl hl.1 rfl (Nat.le_of_ble_eq_true rfl) dX8_girlLeans_9 ⟨Nat.zero_le _, Nat.zero_le _⟩) (fun H locs hG hk => ?_)
  refine lv_bipush (v := (6 : Int32)) hx hb dX8_girlLeans_12 (by decide) ?_
  refine lv_ixor hx hb dX8_girlLeans_14 ?_
  obtain ⟨hr1, hu⟩ := gret_s hf
  subst hr1
  subst hu
  subst hQ
  exact g_iret C0 hG hr dX8_girlLeans_15
theorem dX8_leansAct_0 : decode cX8_leansAct 0 = .ok (.aload_n 0, 1) := by decide +kernel
theorem dX8_leansAct_1 : decode cX8_leansAct 1 = .ok (.getfield 25, 3) := by decide +kernel
theorem dX8_leansAct_4 : decode cX8_leansAct 4 = .ok (.iload_n 1, 1) := by decide +kernel
theorem dX8_leansAct_5 : decode cX8_leansAct 5 = .ok (.iaload, 1) := by decide +kernel
theorem dX8_leansAct_6 : decode cX8_leansAct 6 = .ok (.lookupswitch 78 #[(1, 34), (4, 41), (6, 56)], 34) := by decide +kernel
theorem dX8_leansAct_40 : decode cX8_leansAct 40 = .ok (.aload_n 0, 1) := by decide +kernel
theorem dX8_leansAct_41 : decode cX8_leansAct 41 = .ok (.iload_n 1, 1) := by decide +kernel
theorem dX8_leansAct_42 : decode cX8_leansAct 42 = .ok (.iload_n 2, 1) := by decide +kernel
theorem dX8_leansAct_43 : decode cX8_leansAct 43 = .ok (.invokevirtual 422, 3) := by decide +kernel
theorem dX8_leansAct_46 : decode cX8_leansAct 46 = .ok (.ireturn, 1) := by decide +kernel
theorem dX8_leansAct_47 : decode cX8_leansAct 47 = .ok (.aload_n 0, 1) := by decide +kernel
theorem dX8_leansAct_48 : decode cX8_leansAct 48 = .ok (.bipush 51, 2) := by decide +kernel
theorem dX8_leansAct_50 : decode cX8_leansAct 50 = .ok (.invokevirtual 410, 3) := by decide +kernel
theorem dX8_leansAct_53 : decode cX8_leansAct 53 = .ok (.aload_n 0, 1) := by decide +kernel
theorem dX8_leansAct_54 : decode cX8_leansAct 54 = .ok (.iload_n 1, 1) := by decide +kernel
theorem dX8_leansAct_55 : decode cX8_leansAct 55 = .ok (.iload_n 2, 1) := by decide +kernel
theorem dX8_leansAct_56 : decode cX8_leansAct 56 = .ok (.iconst 1, 1) := by decide +kernel
theorem dX8_leansAct_57 : decode cX8_leansAct 57 = .ok (.iadd, 1) := by decide +kernel
theorem dX8_leansAct_58 : decode cX8_leansAct 58 = .ok (.invokevirtual 422, 3) := by decide +kernel
theorem dX8_leansAct_61 : decode cX8_leansAct 61 = .ok (.ireturn, 1) := by decide +kernel
theorem dX8_leansAct_62 : decode cX8_leansAct 62 = .ok (.aload_n 0, 1) := by decide +kernel
theorem dX8_leansAct_63 : decode cX8_leansAct 63 = .ok (.bipush 70, 2) := by decide +kernel
theorem dX8_leansAct_65 : decode cX8_leansAct 65 = .ok (.invokevirtual 410, 3) := by decide +kernel
theorem dX8_leansAct_68 : decode cX8_leansAct 68 = .ok (.aload_n 0, 1) := by decide +kernel
theorem dX8_leansAct_69 : decode cX8_leansAct 69 = .ok (.iload_n 1, 1) := by decide +kernel
theorem dX8_leansAct_70 : decode cX8_leansAct 70 = .ok (.iload_n 2, 1) := by decide +kernel
theorem dX8_leansAct_71 : decode cX8_leansAct 71 = .ok (.invokevirtual 419, 3) := by decide +kernel
theorem dX8_leansAct_74 : decode cX8_leansAct 74 = .ok (.istore_n 3, 1) := by decide +kernel
theorem dX8_leansAct_75 : decode cX8_leansAct 75 = .ok (.iload_n 3, 1) := by decide +kernel
theorem dX8_leansAct_76 : decode cX8_leansAct 76 = .ok (.aload_n 0, 1) := by decide +kernel
theorem dX8_leansAct_77 : decode cX8_leansAct 77 = .ok (.iload_n 1, 1) := by decide +kernel
theorem dX8_leansAct_78 : decode cX8_leansAct 78 = .ok (.iconst 2, 1) := by decide +kernel
theorem dX8_leansAct_79 : decode cX8_leansAct 79 = .ok (.invokevirtual 413, 3) := by decide +kernel
theorem dX8_leansAct_82 : decode cX8_leansAct 82 = .ok (.iadd, 1) := by decide +kernel
theorem dX8_leansAct_83 : decode cX8_leansAct 83 = .ok (.ireturn, 1) := by decide +kernel
theorem dX8_leansAct_84 : decode cX8_leansAct 84 = .ok (.aload_n 0, 1) := by decide +kernel
theorem dX8_leansAct_85 : decode cX8_leansAct 85 = .ok (.iload_n 1, 1) := by decide +kernel
theorem dX8_leansAct_86 : decode cX8_leansAct 86 = .ok (.iload_n 2, 1) := by decide +kernel
theorem dX8_leansAct_87 : decode cX8_leansAct 87 = .ok (.invokevirtual 419, 3) := by decide +kernel
theorem dX8_leansAct_90 : decode cX8_leansAct 90 = .ok (.ireturn, 1) := by decide +kernel
def f_X8_leansAct (p1 : Int32) (p2 : Int32) (u : Mem) : Option (Int32 × Mem) := gin p1 6 ((if (gA u 83 p1.toNatClampNeg) = (1 : Int32) then obind (f_X8_girlLeans p1 p2 u) (fun r3 u3 => some (r3, u3)) else (if (gA u 83 p1.toNatClampNeg) = (4 : Int32) then obind (f_X8_body (51 : Int32) u) (fun _ u5 => obind (f_X8_girlLeans p1 (p2 + (1 : Int32)) u5) (fun r6 u6 => some (r6, u6))) else (if (gA u 83 p1.toNatClampNeg) = (6 : Int32) then obind (f_X8_body (70 : Int32) u) (fun _ u8 => obind (f_X8_oneLeans p1 p2 u8) (fun r9 u9 => obind (f_X8_oneHums p1 (2 : Int32) u9) (fun r10 u10 => some (r9 + r10, u10)))) else obind (f_X8_oneLeans p1 p2 u) (fun r11 u11 => some (r11, u11))))))
set_option maxHeartbeats 4000000 in
set_option maxRecDepth 100000 in
theorem k_X8_leansAct (l : Launch) (D : gDt) (base : Nat) (Z : gZt) (u : Mem) (p1 : Int32) (p2 : Int32) (r : Int32) (u' : Mem) (hf : f_X8_leansAct p1 p2 u = some (r, u')) : Met l yX8_leansAct (gws yX8_leansAct cX8_leansAct 4 (some .int)) (gRm 6 0 0) (gPc D base Z u [.ref (base + 82), .int p1, .int p2]) (gQi D base r u') 0 0 (gF base) := by
  refine Met.ofW (cc := cX8_leansAct) (maxL := 4) (ret := some .int) (by decide) rfl ?_
  intro p e s m args below meth c s₁ B hml hv
  obtain ⟨rfl, C0, hG⟩ := g_enter B hml hv
  have hr := B.returns
  have C0 : gC p s m meth c _ cX8_leansAct 4 RX8 D base Z := C0
  have hx := C0.1
  have hb := C0.2.1
  have hl := lv_entry ([.ref (base + 82), .int p1, .int p2]) (n := 4) (Nat.le_of_ble_eq_true rfl)
  rw [lg_entry_eq]
  generalize (lg_sl ([.ref (base + 82), .int p1, .int p2]) ++ List.replicate (4 - (lg_sl ([.ref (base + 82), .int p1, .int p2])).length) Slot.unset).toArray = ls at hl ⊢
  have hl : lv_has ls 4 [(0, .ref (base + 82)), (1, .int p1), (2, .int p2)] := hl
  obtain ⟨Q, hQ⟩ : ∃ Q, Q = MQ below (gQi D base r u') ([.ref (base + 82), .int p1, .int p2] : List Value).toArray s 0 0 (gF base) := ⟨_, rfl⟩
  rw [← hQ]
  change W p l e (gRm 6 0 0) s m _ below meth c _ _ _ _ _ _
  unfold f_X8_leansAct at hf
  refine lv_aload_n hx hb dX8_leansAct_0 rfl (lv_at hl 0 rfl) ?_
  refine g_getSa (o := 1) (a := 83) C0 hG (L82 hG) rfl 5 (by decide) rfl rfl w_851 dX8_leansAct_1 ?_
  refine lv_iload_n hx hb dX8_leansAct_4 rfl (lv_at hl 1 rfl) ?_
  obtain ⟨h1, hf⟩ := gin_s hf
  refine g_iald C0 hG (L83 hG) h1 dX8_leansAct_5 ?_
  refine (Decidable.em ((gA u 83 p1.toNatClampNeg) = (1 : Int32))).elim (fun c2 => ?_) (fun c2 => ?_)
  · have hf := gif_t c2 hf
    refine lv_lookup (off := 34) (tgt := 40) hx hb dX8_leansAct_6 (by decide) (by rw [c2]; rfl) (by decide) ?_
    refine lv_aload_n hx hb dX8_leansAct_40 rfl (lv_at hl 0 rfl) ?_
    refine lv_iload_n hx hb dX8_leansAct_41 rfl (lv_at hl 1 rfl) ?_
    refine lv_iload_n hx hb dX8_leansAct_42 rfl (lv_at hl 2 rfl) ?_
    obtain ⟨r3, u3, hc3, hf⟩ := obind_s hf
    refine g_doI0 hG (g_runV C0 hG (k_X8_girlLeans l D base Z u p1 p2 r3 u3 hc3) m_X8_girlLeans v_X8_girlLeans w_1404 (by decide) (g_recv C0 hG (L82 hG) rfl) rfl hl.1 rfl (Nat.le_of_ble_eq_true rfl) dX8_leansAct_43 ⟨Nat.zero_le _, Nat.zero_le _⟩) (fun H locs hG hk => ?_)
    obtain ⟨hr1, hu⟩ := gret_s hf
    subst hr1
    subst hu
    subst hQ
    exact g_iret C0 hG hr dX8_leansAct_46
  · have hf := gif_f c2 hf
    refine (Decidable.em ((gA u 83 p1.toNatClampNeg) = (4 : Int32))).elim (fun c4 => ?_) (fun c4 => ?_)
    · have hf := gif_t c4 hf
      refine lv_lookup (off := 41) (tgt := 47) hx hb dX8_leansAct_6 (by decide) (by rw [c4]; rfl) (by decide) ?_
      refine lv_aload_n hx hb dX8_leansAct_47 rfl (lv_at hl 0 rfl) ?_
      refine lv_bipush (v := (51 : Int32)) hx hb dX8_leansAct_48 (by decide) ?_
      obtain ⟨_, u5, hc5, hf⟩ := obind_s hf
      refine g_doV0 hG (g_runV C0 hG (k_X8_body l D base Z u (51 : Int32) u5 hc5) m_X8_body v_X8_body w_1392 (by decide) (g_recv C0 hG (L82 hG) rfl) rfl hl.1 rfl (Nat.le_of_ble_eq_true rfl) dX8_leansAct_50 ⟨Nat.zero_le _, Nat.zero_le _⟩) (fun H locs hG hk => ?_)
      refine lv_aload_n hx hb dX8_leansAct_53 rfl (lv_at hl 0 rfl) ?_
      refine lv_iload_n hx hb dX8_leansAct_54 rfl (lv_at hl 1 rfl) ?_
      refine lv_iload_n hx hb dX8_leansAct_55 rfl (lv_at hl 2 rfl) ?_
      refine lv_iconst (v := (1 : Int32)) hx hb dX8_leansAct_56 (by decide) ?_
      refine lv_iadd hx hb dX8_leansAct_57 ?_
      obtain ⟨r6, u6, hc6, hf⟩ := obind_s hf
      refine g_doI0 hG (g_runV C0 hG (k_X8_girlLeans l D base Z u5 p1 (p2 + (1 : Int32)) r6 u6 hc6) m_X8_girlLeans v_X8_girlLeans w_1404 (by decide) (g_recv C0 hG (L82 hG) rfl) rfl hl.1 rfl (Nat.le_of_ble_eq_true rfl) dX8_leansAct_58 ⟨Nat.zero_le _, Nat.zero_le _⟩) (fun H locs hG hk => ?_)
      obtain ⟨hr1, hu⟩ := gret_s hf
      subst hr1
      subst hu
      subst hQ
      exact g_iret C0 hG hr dX8_leansAct_61
    · have hf := gif_f c4 hf
      refine (Decidable.em ((gA u 83 p1.toNatClampNeg) = (6 : Int32))).elim (fun c7 => ?_) (fun c7 => ?_)
      · have hf := gif_t c7 hf
        refine lv_lookup (off := 56) (tgt := 62) hx hb dX8_leansAct_6 (by decide) (by rw [c7]; rfl) (by decide) ?_
        refine lv_aload_n hx hb dX8_leansAct_62 rfl (lv_at hl 0 rfl) ?_
        refine lv_bipush (v := (70 : Int32)) hx hb dX8_leansAct_63 (by decide) ?_
        obtain ⟨_, u8, hc8, hf⟩ := obind_s hf
        refine g_doV0 hG (g_runV C0 hG (k_X8_body l D base Z u (70 : Int32) u8 hc8) m_X8_body v_X8_body w_1392 (by decide) (g_recv C0 hG (L82 hG) rfl) rfl hl.1 rfl (Nat.le_of_ble_eq_true rfl) dX8_leansAct_65 ⟨Nat.zero_le _, Nat.zero_le _⟩) (fun H locs hG hk => ?_)
        refine lv_aload_n hx hb dX8_leansAct_68 rfl (lv_at hl 0 rfl) ?_
        refine lv_iload_n hx hb dX8_leansAct_69 rfl (lv_at hl 1 rfl) ?_
        refine lv_iload_n hx hb dX8_leansAct_70 rfl (lv_at hl 2 rfl) ?_
        obtain ⟨r9, u9, hc9, hf⟩ := obind_s hf
        refine g_doI0 hG (g_runV C0 hG (k_X8_oneLeans l D base Z u8 p1 p2 r9 u9 hc9) m_X8_oneLeans v_X8_oneLeans w_1408 (by decide) (g_recv C0 hG (L82 hG) rfl) rfl hl.1 rfl (Nat.le_of_ble_eq_true rfl) dX8_leansAct_71 ⟨Nat.zero_le _, Nat.zero_le _⟩) (fun H locs hG hk => ?_)
        refine lv_istore_n (lv' := [(3, .int r9), (0, .ref (base + 82)), (1, .int p1), (2, .int p2)]) hx hb dX8_leansAct_74 rfl hl (by decide) rfl (fun ls hl => ?_)
        refine lv_iload_n hx hb dX8_leansAct_75 rfl (lv_at hl 0 rfl) ?_
        refine lv_aload_n hx hb dX8_leansAct_76 rfl (lv_at hl 1 rfl) ?_
        refine lv_iload_n hx hb dX8_leansAct_77 rfl (lv_at hl 2 rfl) ?_
        refine lv_iconst (v := (2 : Int32)) hx hb dX8_leansAct_78 (by decide) ?_
        obtain ⟨r10, u10, hc10, hf⟩ := obind_s hf
        refine g_doI0 hG (g_runV C0 hG (k_X8_oneHums l D base Z u9 p1 (2 : Int32) r10 u10 hc10) m_X8_oneHums v_X8_oneHums w_1396 (by decide) (g_recv C0 hG (L82 hG) rfl) rfl hl.1 rfl (Nat.le_of_ble_eq_true rfl) dX8_leansAct_79 ⟨Nat.zero_le _, Nat.zero_le _⟩) (fun H locs hG hk => ?_)
        refine lv_iadd hx hb dX8_leansAct_82 ?_
        obtain ⟨hr1, hu⟩ := gret_s hf
        subst hr1
        subst hu
        subst hQ
        exact g_iret C0 hG hr dX8_leansAct_83
      · have hf := gif_f c7 hf
        refine lv_lookup (off := 78) (tgt := 84) hx hb dX8_leansAct_6 (by decide) (by
            show Op.lookupswitch.offset [(1, 34), (4, 41), (6, 56)] 78 (gA u 83 p1.toNatClampNeg).toInt = 78
            rw [lv_osw c2 (by decide), lv_osw c4 (by decide), lv_osw c7 (by decide)]; rfl) (by decide) ?_
        refine lv_aload_n hx hb dX8_leansAct_84 rfl (lv_at hl 0 rfl) ?_
        refine lv_iload_n hx hb dX8_leansAct_85 rfl (lv_at hl 1 rfl) ?_
        refine lv_iload_n hx hb dX8_leansAct_86 rfl (lv_at hl 2 rfl) ?_
        obtain ⟨r11, u11, hc11, hf⟩ := obind_s hf
        refine g_doI0 hG (g_runV C0 hG (k_X8_oneLeans l D base Z u p1 p2 r11 u11 hc11) m_X8_oneLeans v_X8_oneLeans w_1408 (by decide) (g_recv C0 hG (L82 hG) rfl) rfl hl.1 rfl (Nat.le_of_ble_eq_true rfl) dX8_leansAct_87 ⟨Nat.zero_le _, Nat.zero_le _⟩) (fun H locs hG hk => ?_)
        obtain ⟨hr1, hu⟩ := gret_s hf
        subst hr1
        subst hu
        subst hQ
        exact g_iret C0 hG hr dX8_leansAct_90
theorem dX8_oneTells_0 : decode cX8_oneTells 0 = .ok (.aload_n 0, 1) := by decide +kernel
theorem dX8_oneTells_1 : decode cX8_oneTells 1 = .ok (.bipush 12, 2) := by decide +kernel
theorem dX8_oneTells_3 : decode cX8_oneTells 3 = .ok (.invokevirtual 410, 3) := by decide +kernel
theorem dX8_oneTells_6 : decode cX8_oneTells 6 = .ok (.aload_n 0, 1) := by decide +kernel
theorem dX8_oneTells_7 : decode cX8_oneTells 7 = .ok (.iload_n 1, 1) := by decide +kernel
theorem dX8_oneTells_8 : decode cX8_oneTells 8 = .ok (.iload_n 2, 1) := by decide +kernel
theorem dX8_oneTells_9 : decode cX8_oneTells 9 = .ok (.invokevirtual 425, 3) := by decide +kernel
theorem dX8_oneTells_12 : decode cX8_oneTells 12 = .ok (.iconst 2, 1) := by decide +kernel
theorem dX8_oneTells_13 : decode cX8_oneTells 13 = .ok (.imul, 1) := by decide +kernel
theorem dX8_oneTells_14 : decode cX8_oneTells 14 = .ok (.ireturn, 1) := by decide +kernel
def f_X8_oneTells (p1 : Int32) (p2 : Int32) (u : Mem) : Option (Int32 × Mem) := obind (f_X8_body (12 : Int32) u) (fun _ u1 => obind (f_X8_leansAct p1 p2 u1) (fun r2 u2 => some (r2 * (2 : Int32), u2)))
set_option maxHeartbeats 4000000 in
set_option maxRecDepth 100000 in
theorem k_X8_oneTells (l : Launch) (D : gDt) (base : Nat) (Z : gZt) (u : Mem) (p1 : Int32) (p2 : Int32) (r : Int32) (u' : Mem) (hf : f_X8_oneTells p1 p2 u = some (r, u')) : Met l yX8_oneTells (gws yX8_oneTells cX8_oneTells 3 (some .int)) (gRm 7 0 0) (gPc D base Z u [.ref (base + 82), .int p1, .int p2]) (gQi D base r u') 0 0 (gF base) := by
  refine Met.ofW (cc := cX8_oneTells) (maxL := 3) (ret := some .int) (by decide) rfl ?_
  intro p e s m args below meth c s₁ B hml hv
  obtain ⟨rfl, C0, hG⟩ := g_enter B hml hv
  have hr := B.returns
  have C0 : gC p s m meth c _ cX8_oneTells 3 RX8 D base Z := C0
  have hx := C0.1
  have hb := C0.2.1
  have hl := lv_entry ([.ref (base + 82), .int p1, .int p2]) (n := 3) (Nat.le_of_ble_eq_true rfl)
  rw [lg_entry_eq]
  generalize (lg_sl ([.ref (base + 82), .int p1, .int p2]) ++ List.replicate (3 - (lg_sl ([.ref (base + 82), .int p1, .int p2])).length) Slot.unset).toArray = ls at hl ⊢
  have hl : lv_has ls 3 [(0, .ref (base + 82)), (1, .int p1), (2, .int p2)] := hl
  obtain ⟨Q, hQ⟩ : ∃ Q, Q = MQ below (gQi D base r u') ([.ref (base + 82), .int p1, .int p2] : List Value).toArray s 0 0 (gF base) := ⟨_, rfl⟩
  rw [← hQ]
  change W p l e (gRm 7 0 0) s m _ below meth c _ _ _ _ _ _
  unfold f_X8_oneTells at hf
  refine lv_aload_n hx hb dX8_oneTells_0 rfl (lv_at hl 0 rfl) ?_
  refine lv_bipush (v := (12 : Int32)) hx hb dX8_oneTells_1 (by decide) ?_
  obtain ⟨_, u1, hc1, hf⟩ := obind_s hf
  refine g_doV0 hG (g_runV C0 hG (k_X8_body l D base Z u (12 : Int32) u1 hc1) m_X8_body v_X8_body w_1392 (by decide) (g_recv C0 hG (L82 hG) rfl) rfl hl.1 rfl (Nat.le_of_ble_eq_true rfl) dX8_oneTells_3 ⟨Nat.zero_le _, Nat.zero_le _⟩) (fun H locs hG hk => ?_)
  refine lv_aload_n hx hb dX8_oneTells_6 rfl (lv_at hl 0 rfl) ?_
  refine lv_iload_n hx hb dX8_oneTells_7 rfl (lv_at hl 1 rfl) ?_
  refine lv_iload_n hx hb dX8_oneTells_8 rfl (lv_at hl 2 rfl) ?_
  obtain ⟨r2, u2, hc2, hf⟩ := obind_s hf
  refine g_doI0 hG (g_runV C0 hG (k_X8_leansAct l D base Z u1 p1 p2 r2 u2 hc2) m_X8_leansAct v_X8_leansAct w_1400 (by decide) (g_recv C0 hG (L82 hG) rfl) rfl hl.1 rfl (Nat.le_of_ble_eq_true rfl) dX8_oneTells_9 ⟨Nat.zero_le _, Nat.zero_le _⟩) (fun H locs hG hk => ?_)
  refine lv_iconst (v := (2 : Int32)) hx hb dX8_oneTells_12 (by decide) ?_
  refine lv_imul hx hb dX8_oneTells_13 ?_
  obtain ⟨hr1, hu⟩ := gret_s hf
  subst hr1
  subst hu
  subst hQ
  exact g_iret C0 hG hr dX8_oneTells_14
theorem dX8_tellsAct_0 : decode cX8_tellsAct 0 = .ok (.aload_n 0, 1) := by decide +kernel
theorem dX8_tellsAct_1 : decode cX8_tellsAct 1 = .ok (.getfield 25, 3) := by decide +kernel
theorem dX8_tellsAct_4 : decode cX8_tellsAct 4 = .ok (.iload_n 1, 1) := by decide +kernel
theorem dX8_tellsAct_5 : decode cX8_tellsAct 5 = .ok (.iaload, 1) := by decide +kernel
theorem dX8_tellsAct_6 : decode cX8_tellsAct 6 = .ok (.tableswitch 67 3 6 #[30, 67, 52, 30], 30) := by decide +kernel
theorem dX8_tellsAct_36 : decode cX8_tellsAct 36 = .ok (.aload_n 0, 1) := by decide +kernel
theorem dX8_tellsAct_37 : decode cX8_tellsAct 37 = .ok (.bipush 40, 2) := by decide +kernel
theorem dX8_tellsAct_39 : decode cX8_tellsAct 39 = .ok (.invokevirtual 410, 3) := by decide +kernel
theorem dX8_tellsAct_42 : decode cX8_tellsAct 42 = .ok (.aload_n 0, 1) := by decide +kernel
theorem dX8_tellsAct_43 : decode cX8_tellsAct 43 = .ok (.iload_n 1, 1) := by decide +kernel
theorem dX8_tellsAct_44 : decode cX8_tellsAct 44 = .ok (.iload_n 2, 1) := by decide +kernel
theorem dX8_tellsAct_45 : decode cX8_tellsAct 45 = .ok (.invokevirtual 428, 3) := by decide +kernel
theorem dX8_tellsAct_48 : decode cX8_tellsAct 48 = .ok (.istore_n 3, 1) := by decide +kernel
theorem dX8_tellsAct_49 : decode cX8_tellsAct 49 = .ok (.iload_n 3, 1) := by decide +kernel
theorem dX8_tellsAct_50 : decode cX8_tellsAct 50 = .ok (.aload_n 0, 1) := by decide +kernel
theorem dX8_tellsAct_51 : decode cX8_tellsAct 51 = .ok (.iload_n 1, 1) := by decide +kernel
theorem dX8_tellsAct_52 : decode cX8_tellsAct 52 = .ok (.iconst 1, 1) := by decide +kernel
theorem dX8_tellsAct_53 : decode cX8_tellsAct 53 = .ok (.invokevirtual 425, 3) := by decide +kernel
theorem dX8_tellsAct_56 : decode cX8_tellsAct 56 = .ok (.iadd, 1) := by decide +kernel
theorem dX8_tellsAct_57 : decode cX8_tellsAct 57 = .ok (.ireturn, 1) := by decide +kernel
theorem dX8_tellsAct_58 : decode cX8_tellsAct 58 = .ok (.aload_n 0, 1) := by decide +kernel
theorem dX8_tellsAct_59 : decode cX8_tellsAct 59 = .ok (.bipush 60, 2) := by decide +kernel
theorem dX8_tellsAct_61 : decode cX8_tellsAct 61 = .ok (.invokevirtual 410, 3) := by decide +kernel
theorem dX8_tellsAct_64 : decode cX8_tellsAct 64 = .ok (.aload_n 0, 1) := by decide +kernel
theorem dX8_tellsAct_65 : decode cX8_tellsAct 65 = .ok (.iload_n 1, 1) := by decide +kernel
theorem dX8_tellsAct_66 : decode cX8_tellsAct 66 = .ok (.iload_n 2, 1) := by decide +kernel
theorem dX8_tellsAct_67 : decode cX8_tellsAct 67 = .ok (.iload_n 1, 1) := by decide +kernel
theorem dX8_tellsAct_68 : decode cX8_tellsAct 68 = .ok (.isub, 1) := by decide +kernel
theorem dX8_tellsAct_69 : decode cX8_tellsAct 69 = .ok (.invokevirtual 428, 3) := by decide +kernel
theorem dX8_tellsAct_72 : decode cX8_tellsAct 72 = .ok (.ireturn, 1) := by decide +kernel
theorem dX8_tellsAct_73 : decode cX8_tellsAct 73 = .ok (.aload_n 0, 1) := by decide +kernel
theorem dX8_tellsAct_74 : decode cX8_tellsAct 74 = .ok (.iload_n 1, 1) := by decide +kernel
theorem dX8_tellsAct_75 : decode cX8_tellsAct 75 = .ok (.iload_n 2, 1) := by decide +kernel
theorem dX8_tellsAct_76 : decode cX8_tellsAct 76 = .ok (.invokevirtual 428, 3) := by decide +kernel
theorem dX8_tellsAct_79 : decode cX8_tellsAct 79 = .ok (.ireturn, 1) := by decide +kernel
def f_X8_tellsAct (p1 : Int32) (p2 : Int32) (u : Mem) : Option (Int32 × Mem) := gin p1 6 ((if (gA u 83 p1.toNatClampNeg) = (3 : Int32) then obind (f_X8_body (40 : Int32) u) (fun _ u3 => obind (f_X8_oneTells p1 p2 u3) (fun r4 u4 => obind (f_X8_leansAct p1 (1 : Int32) u4) (fun r5 u5 => some (r4 + r5, u5)))) else (if (gA u 83 p1.toNatClampNeg) = (5 : Int32) then obind (f_X8_body (60 : Int32) u) (fun _ u7 => obind (f_X8_oneTells p1 (p2 - p1) u7) (fun r8 u8 => some (r8, u8))) else (if (gA u 83 p1.toNatClampNeg) = (6 : Int32) then obind (f_X8_body (40 : Int32) u) (fun _ u10 => obind (f_X8_oneTells p1 p2 u10) (fun r11 u11 => obind (f_X8_leansAct p1 (1 : Int32) u11) (fun r12 u12 => some (r11 + r12, u12)))) else obind (f_X8_oneTells p1 p2 u) (fun r13 u13 => some (r13, u13))))))
set_option maxHeartbeats 4000000 in
set_option maxRecDepth 100000 in
theorem k_X8_tellsAct (l : Launch) (D : gDt) (base : Nat) (Z : gZt) (u : Mem) (p1 : Int32) (p2 : Int32) (r : Int32) (u' : Mem) (hf : f_X8_tellsAct p1 p2 u = some (r, u')) : Met l yX8_tellsAct (gws yX8_tellsAct cX8_tellsAct 4 (some .int)) (gRm 8 0 0) (gPc D base Z u [.ref (base + 82), .int p1, .int p2]) (gQi D base r u') 0 0 (gF base) := by
  refine Met.ofW (cc := cX8_tellsAct) (maxL := 4) (ret := some .int) (by decide) rfl ?_
  intro p e s m args below meth c s₁ B hml hv
  obtain ⟨rfl, C0, hG⟩ := g_enter B hml hv
  have hr := B.returns
  have C0 : gC p s m meth c _ cX8_tellsAct 4 RX8 D base Z := C0
  have hx := C0.1
  have hb := C0.2.1
  have hl := lv_entry ([.ref (base + 82), .int p1, .int p2]) (n := 4) (Nat.le_of_ble_eq_true rfl)
  rw [lg_entry_eq]
  generalize (lg_sl ([.ref (base + 82), .int p1, .int p2]) ++ List.replicate (4 - (lg_sl ([.ref (base + 82), .int p1, .int p2])).length) Slot.unset).toArray = ls at hl ⊢
  have hl : lv_has ls 4 [(0, .ref (base + 82)), (1, .int p1), (2, .int p2)] := hl
  obtain ⟨Q, hQ⟩ : ∃ Q, Q = MQ below (gQi D base r u') ([.ref (base + 82), .int p1, .int p2] : List Value).toArray s 0 0 (gF base) := ⟨_, rfl⟩
  rw [← hQ]
  change W p l e (gRm 8 0 0) s m _ below meth c _ _ _ _ _ _
  unfold f_X8_tellsAct at hf
  refine lv_aload_n hx hb dX8_tellsAct_0 rfl (lv_at hl 0 rfl) ?_
  refine g_getSa (o := 1) (a := 83) C0 hG (L82 hG) rfl 5 (by decide) rfl rfl w_851 dX8_tellsAct_1 ?_
  refine lv_iload_n hx hb dX8_tellsAct_4 rfl (lv_at hl 1 rfl) ?_
  obtain ⟨h1, hf⟩ := gin_s hf
  refine g_iald C0 hG (L83 hG) h1 dX8_tellsAct_5 ?_
  refine (Decidable.em ((gA u 83 p1.toNatClampNeg) = (3 : Int32))).elim (fun c2 => ?_) (fun c2 => ?_)
  · have hf := gif_t c2 hf
    refine lv_tableIn (off := 30) (tgt := 36) hx hb dX8_tellsAct_6 (by rw [c2]; decide) (by rw [c2]; decide) (by rw [c2]; rfl) (by decide) ?_
    refine lv_aload_n hx hb dX8_tellsAct_36 rfl (lv_at hl 0 rfl) ?_
    refine lv_bipush (v := (40 : Int32)) hx hb dX8_tellsAct_37 (by decide) ?_
    obtain ⟨_, u3, hc3, hf⟩ := obind_s hf
    refine g_doV0 hG (g_runV C0 hG (k_X8_body l D base Z u (40 : Int32) u3 hc3) m_X8_body v_X8_body w_1392 (by decide) (g_recv C0 hG (L82 hG) rfl) rfl hl.1 rfl (Nat.le_of_ble_eq_true rfl) dX8_tellsAct_39 ⟨Nat.zero_le _, Nat.zero_le _⟩) (fun H locs hG hk => ?_)
    refine lv_aload_n hx hb dX8_tellsAct_42 rfl (lv_at hl 0 rfl) ?_
    refine lv_iload_n hx hb dX8_tellsAct_43 rfl (lv_at hl 1 rfl) ?_
    refine lv_iload_n hx hb dX8_tellsAct_44 rfl (lv_at hl 2 rfl) ?_
    obtain ⟨r4, u4, hc4, hf⟩ := obind_s hf
    refine g_doI0 hG (g_runV C0 hG (k_X8_oneTells l D base Z u3 p1 p2 r4 u4 hc4) m_X8_oneTells v_X8_oneTells w_1416 (by decide) (g_recv C0 hG (L82 hG) rfl) rfl hl.1 rfl (Nat.le_of_ble_eq_true rfl) dX8_tellsAct_45 ⟨Nat.zero_le _, Nat.zero_le _⟩) (fun H locs hG hk => ?_)
    refine lv_istore_n (lv' := [(3, .int r4), (0, .ref (base + 82)), (1, .int p1), (2, .int p2)]) hx hb dX8_tellsAct_48 rfl hl (by decide) rfl (fun ls hl => ?_)
    refine lv_iload_n hx hb dX8_tellsAct_49 rfl (lv_at hl 0 rfl) ?_
    refine lv_aload_n hx hb dX8_tellsAct_50 rfl (lv_at hl 1 rfl) ?_
    refine lv_iload_n hx hb dX8_tellsAct_51 rfl (lv_at hl 2 rfl) ?_
    refine lv_iconst (v := (1 : Int32)) hx hb dX8_tellsAct_52 (by decide) ?_
    obtain ⟨r5, u5, hc5, hf⟩ := obind_s hf
    refine g_doI0 hG (g_runV C0 hG (k_X8_leansAct l D base Z u4 p1 (1 : Int32) r5 u5 hc5) m_X8_leansAct v_X8_leansAct w_1400 (by decide) (g_recv C0 hG (L82 hG) rfl) rfl hl.1 rfl (Nat.le_of_ble_eq_true rfl) dX8_tellsAct_53 ⟨Nat.zero_le _, Nat.zero_le _⟩) (fun H locs hG hk => ?_)
    refine lv_iadd hx hb dX8_tellsAct_56 ?_
    obtain ⟨hr1, hu⟩ := gret_s hf
    subst hr1
    subst hu
    subst hQ
    exact g_iret C0 hG hr dX8_tellsAct_57
  · have hf := gif_f c2 hf
    refine (Decidable.em ((gA u 83 p1.toNatClampNeg) = (5 : Int32))).elim (fun c6 => ?_) (fun c6 => ?_)
    · have hf := gif_t c6 hf
      refine lv_tableIn (off := 52) (tgt := 58) hx hb dX8_tellsAct_6 (by rw [c6]; decide) (by rw [c6]; decide) (by rw [c6]; rfl) (by decide) ?_
      refine lv_aload_n hx hb dX8_tellsAct_58 rfl (lv_at hl 0 rfl) ?_
      refine lv_bipush (v := (60 : Int32)) hx hb dX8_tellsAct_59 (by decide) ?_
      obtain ⟨_, u7, hc7, hf⟩ := obind_s hf
      refine g_doV0 hG (g_runV C0 hG (k_X8_body l D base Z u (60 : Int32) u7 hc7) m_X8_body v_X8_body w_1392 (by decide) (g_recv C0 hG (L82 hG) rfl) rfl hl.1 rfl (Nat.le_of_ble_eq_true rfl) dX8_tellsAct_61 ⟨Nat.zero_le _, Nat.zero_le _⟩) (fun H locs hG hk => ?_)
      refine lv_aload_n hx hb dX8_tellsAct_64 rfl (lv_at hl 0 rfl) ?_
      refine lv_iload_n hx hb dX8_tellsAct_65 rfl (lv_at hl 1 rfl) ?_
      refine lv_iload_n hx hb dX8_tellsAct_66 rfl (lv_at hl 2 rfl) ?_
      refine lv_iload_n hx hb dX8_tellsAct_67 rfl (lv_at hl 1 rfl) ?_
      refine lv_isub hx hb dX8_tellsAct_68 ?_
      obtain ⟨r8, u8, hc8, hf⟩ := obind_s hf
      refine g_doI0 hG (g_runV C0 hG (k_X8_oneTells l D base Z u7 p1 (p2 - p1) r8 u8 hc8) m_X8_oneTells v_X8_oneTells w_1416 (by decide) (g_recv C0 hG (L82 hG) rfl) rfl hl.1 rfl (Nat.le_of_ble_eq_true rfl) dX8_tellsAct_69 ⟨Nat.zero_le _, Nat.zero_le _⟩) (fun H locs hG hk => ?_)
      obtain ⟨hr1, hu⟩ := gret_s hf
      subst hr1
      subst hu
      subst hQ
      exact g_iret C0 hG hr dX8_tellsAct_72
    · have hf := gif_f c6 hf
      refine (Decidable.em ((gA u 83 p1.toNatClampNeg) = (6 : Int32))).elim (fun c9 => ?_) (fun c9 => ?_)
      · have hf := gif_t c9 hf
        refine lv_tableIn (off := 30) (tgt := 36) hx hb dX8_tellsAct_6 (by rw [c9]; decide) (by rw [c9]; decide) (by rw [c9]; rfl) (by decide) ?_
        refine lv_aload_n hx hb dX8_tellsAct_36 rfl (lv_at hl 0 rfl) ?_
        refine lv_bipush (v := (40 : Int32)) hx hb dX8_tellsAct_37 (by decide) ?_
        obtain ⟨_, u10, hc10, hf⟩ := obind_s hf
        refine g_doV0 hG (g_runV C0 hG (k_X8_body l D base Z u (40 : Int32) u10 hc10) m_X8_body v_X8_body w_1392 (by decide) (g_recv C0 hG (L82 hG) rfl) rfl hl.1 rfl (Nat.le_of_ble_eq_true rfl) dX8_tellsAct_39 ⟨Nat.zero_le _, Nat.zero_le _⟩) (fun H locs hG hk => ?_)
        refine lv_aload_n hx hb dX8_tellsAct_42 rfl (lv_at hl 0 rfl) ?_
        refine lv_iload_n hx hb dX8_tellsAct_43 rfl (lv_at hl 1 rfl) ?_
        refine lv_iload_n hx hb dX8_tellsAct_44 rfl (lv_at hl 2 rfl) ?_
        obtain ⟨r11, u11, hc11, hf⟩ := obind_s hf
        refine g_doI0 hG (g_runV C0 hG (k_X8_oneTells l D base Z u10 p1 p2 r11 u11 hc11) m_X8_oneTells v_X8_oneTells w_1416 (by decide) (g_recv C0 hG (L82 hG) rfl) rfl hl.1 rfl (Nat.le_of_ble_eq_true rfl) dX8_tellsAct_45 ⟨Nat.zero_le _, Nat.zero_le _⟩) (fun H locs hG hk => ?_)
        refine lv_istore_n (lv' := [(3, .int r11), (0, .ref (base + 82)), (1, .int p1), (2, .int p2)]) hx hb dX8_tellsAct_48 rfl hl (by decide) rfl (fun ls hl => ?_)
        refine lv_iload_n hx hb dX8_tellsAct_49 rfl (lv_at hl 0 rfl) ?_
        refine lv_aload_n hx hb dX8_tellsAct_50 rfl (lv_at hl 1 rfl) ?_
        refine lv_iload_n hx hb dX8_tellsAct_51 rfl (lv_at hl 2 rfl) ?_
        refine lv_iconst (v := (1 : Int32)) hx hb dX8_tellsAct_52 (by decide) ?_
        obtain ⟨r12, u12, hc12, hf⟩ := obind_s hf
        refine g_doI0 hG (g_runV C0 hG (k_X8_leansAct l D base Z u11 p1 (1 : Int32) r12 u12 hc12) m_X8_leansAct v_X8_leansAct w_1400 (by decide) (g_recv C0 hG (L82 hG) rfl) rfl hl.1 rfl (Nat.le_of_ble_eq_true rfl) dX8_tellsAct_53 ⟨Nat.zero_le _, Nat.zero_le _⟩) (fun H locs hG hk => ?_)
        refine lv_iadd hx hb dX8_tellsAct_56 ?_
        obtain ⟨hr1, hu⟩ := gret_s hf
        subst hr1
        subst hu
        subst hQ
        exact g_iret C0 hG hr dX8_tellsAct_57
      · have hf := gif_f c9 hf
        refine gsw_def (lo := 3) (hi := 6) (tgt := 73) hx hb dX8_tellsAct_6 (by
            have n0 := lv_neT c2 (k := (3 : Int32)) (a := 3) (by decide)
            have n1 := lv_neT c6 (k := (5 : Int32)) (a := 5) (by decide)
            have n2 := lv_neT c9 (k := (6 : Int32)) (a := 6) (by decide)
            intro h1 h2
            have h3 : (gA u 83 p1.toNatClampNeg).toInt = 4 := by omega
            (rw [h3]; rfl)) (by decide) ?_
        refine lv_aload_n hx hb dX8_tellsAct_73 rfl (lv_at hl 0 rfl) ?_
        refine lv_iload_n hx hb dX8_tellsAct_74 rfl (lv_at hl 1 rfl) ?_
        refine lv_iload_n hx hb dX8_tellsAct_75 rfl (lv_at hl 2 rfl) ?_
        obtain ⟨r13, u13, hc13, hf⟩ := obind_s hf
        refine g_doI0 hG (g_runV C0 hG (k_X8_oneTells l D base Z u p1 p2 r13 u13 hc13) m_X8_oneTells v_X8_oneTells w_1416 (by decide) (g_recv C0 hG (L82 hG) rfl) rfl hl.1 rfl (Nat.le_of_ble_eq_true rfl) dX8_tellsAct_76 ⟨Nat.zero_le _, Nat.zero_le _⟩) (fun H locs hG hk => ?_)
        obtain ⟨hr1, hu⟩ := gret_s hf
        subst hr1
        subst hu
        subst hQ
        exact g_iret C0 hG hr dX8_tellsAct_79
theorem dX8_act_0 : decode cX8_act 0 = .ok (.aload_n 0, 1) := by decide +kernel
theorem dX8_act_1 : decode cX8_act 1 = .ok (.iconst 0, 1) := by decide +kernel
theorem dX8_act_2 : decode cX8_act 2 = .ok (.putfield 226, 3) := by decide +kernel
theorem dX8_act_5 : decode cX8_act 5 = .ok (.aload_n 0, 1) := by decide +kernel
theorem dX8_act_6 : decode cX8_act 6 = .ok (.iload_n 1, 1) := by decide +kernel
theorem dX8_act_7 : decode cX8_act 7 = .ok (.invokevirtual 260, 3) := by decide +kernel
theorem dX8_act_10 : decode cX8_act 10 = .ok (.ifCond .eq 13, 3) := by decide +kernel
theorem dX8_act_13 : decode cX8_act 13 = .ok (.aload_n 0, 1) := by decide +kernel
theorem dX8_act_14 : decode cX8_act 14 = .ok (.iload_n 2, 1) := by decide +kernel
theorem dX8_act_15 : decode cX8_act 15 = .ok (.iconst 0, 1) := by decide +kernel
theorem dX8_act_16 : decode cX8_act 16 = .ok (.iconst 2, 1) := by decide +kernel
theorem dX8_act_17 : decode cX8_act 17 = .ok (.invokevirtual 249, 3) := by decide +kernel
theorem dX8_act_20 : decode cX8_act 20 = .ok (.ifCond .ne 5, 3) := by decide +kernel
theorem dX8_act_23 : decode cX8_act 23 = .ok (.iconst 0, 1) := by decide +kernel
theorem dX8_act_24 : decode cX8_act 24 = .ok (.ireturn, 1) := by decide +kernel
theorem dX8_act_25 : decode cX8_act 25 = .ok (.iload_n 2, 1) := by decide +kernel
theorem dX8_act_26 : decode cX8_act 26 = .ok (.ifCond .ne 12, 3) := by decide +kernel
theorem dX8_act_29 : decode cX8_act 29 = .ok (.aload_n 0, 1) := by decide +kernel
theorem dX8_act_30 : decode cX8_act 30 = .ok (.iload_n 1, 1) := by decide +kernel
theorem dX8_act_31 : decode cX8_act 31 = .ok (.iload_n 3, 1) := by decide +kernel
theorem dX8_act_32 : decode cX8_act 32 = .ok (.invokevirtual 416, 3) := by decide +kernel
theorem dX8_act_35 : decode cX8_act 35 = .ok (.goto 23, 3) := by decide +kernel
theorem dX8_act_38 : decode cX8_act 38 = .ok (.iload_n 2, 1) := by decide +kernel
theorem dX8_act_39 : decode cX8_act 39 = .ok (.iconst 1, 1) := by decide +kernel
theorem dX8_act_40 : decode cX8_act 40 = .ok (.if_icmp .ne 12, 3) := by decide +kernel
theorem dX8_act_43 : decode cX8_act 43 = .ok (.aload_n 0, 1) := by decide +kernel
theorem dX8_act_44 : decode cX8_act 44 = .ok (.iload_n 1, 1) := by decide +kernel
theorem dX8_act_45 : decode cX8_act 45 = .ok (.iload_n 3, 1) := by decide +kernel
theorem dX8_act_46 : decode cX8_act 46 = .ok (.invokevirtual 425, 3) := by decide +kernel
theorem dX8_act_49 : decode cX8_act 49 = .ok (.goto 9, 3) := by decide +kernel
theorem dX8_act_52 : decode cX8_act 52 = .ok (.aload_n 0, 1) := by decide +kernel
theorem dX8_act_53 : decode cX8_act 53 = .ok (.iload_n 1, 1) := by decide +kernel
theorem dX8_act_54 : decode cX8_act 54 = .ok (.iload_n 3, 1) := by decide +kernel
theorem dX8_act_55 : decode cX8_act 55 = .ok (.invokevirtual 431, 3) := by decide +kernel
theorem dX8_act_58 : decode cX8_act 58 = .ok (.ireturn, 1) := by decide +kernel
def f_X8_act (p1 : Int32) (p2 : Int32) (p3 : Int32) (u : Mem) : Option (Int32 × Mem) := Option.bind (f_X8_isOne p1 (sI u 82 71 (0 : Int32))) (fun r1 => (if r1 = 0 then some ((0 : Int32), sI u 82 71 (0 : Int32)) else Option.bind (f_X8_in p2 (0 : Int32) (2 : Int32)) (fun r3 => (if r3 = 0 then some ((0 : Int32), sI u 82 71 (0 : Int32)) else (if p2 = 0 then obind (f_X8_humsAct p1 p3 (sI u 82 71 (0 : Int32))) (fun r9 u9 => some (r9, u9)) else (if p2 = (1 : Int32) then obind (f_X8_leansAct p1 p3 (sI u 82 71 (0 : Int32))) (fun r8 u8 => some (r8, u8)) else obind (f_X8_tellsAct p1 p3 (sI u 82 71 (0 : Int32))) (fun r7 u7 => some (r7, u7))))))))
set_option maxHeartbeats 4000000 in
set_option maxRecDepth 100000 in
theorem k_X8_act (l : Launch) (D : gDt) (base : Nat) (Z : gZt) (u : Mem) (p1 : Int32) (p2 : Int32) (p3 : Int32) (r : Int32) (u' : Mem) (hf : f_X8_act p1 p2 p3 u = some (r, u')) : Met l yX8_act (gws yX8_act cX8_act 4 (some .int)) (gRm 9 0 0) (gPc D base Z u [.ref (base + 82), .int p1, .int p2, .int p3]) (gQi D base r u') 0 0 (gF base) := by
  refine Met.ofW (cc := cX8_act) (maxL := 4) (ret := some .int) (by decide) rfl ?_
  intro p e s m args below meth c s₁ B hml hv
  obtain ⟨rfl, C0, hG⟩ := g_enter B hml hv
  have hr := B.returns
  have C0 : gC p s m meth c _ cX8_act 4 RX8 D base Z := C0
  have hx := C0.1
  have hb := C0.2.1
  have hl := lv_entry ([.ref (base + 82), .int p1, .int p2, .int p3]) (n := 4) (Nat.le_of_ble_eq_true rfl)
  rw [lg_entry_eq]
  generalize (lg_sl ([.ref (base + 82), .int p1, .int p2, .int p3]) ++ List.replicate (4 - (lg_sl ([.ref (base + 82), .int p1, .int p2, .int p3])).length) Slot.unset).toArray = ls at hl ⊢
  have hl : lv_has ls 4 [(0, .ref (base + 82)), (1, .int p1), (2, .int p2), (3, .int p3)] := hl
  obtain ⟨Q, hQ⟩ : ∃ Q, Q = MQ below (gQi D base r u') ([.ref (base + 82), .int p1, .int p2, .int p3] : List Value).toArray s 0 0 (gF base) := ⟨_, rfl⟩
  rw [← hQ]
  change W p l e (gRm 9 0 0) s m _ below meth c _ _ _ _ _ _
  unfold f_X8_act at hf
  refine lv_aload_n hx hb dX8_act_0 rfl (lv_at hl 0 rfl) ?_
  refine lv_iconst (v := (0 : Int32)) hx hb dX8_act_1 (by decide) ?_
  refine g_putI (ty := .int) C0 hG (L82 hG) rfl 71 (by decide) rfl w_917 rfl (by decide) rfl rfl dX8_act_2 (fun H locs hG => ?_)
  refine lv_aload_n hx hb dX8_act_5 rfl (lv_at hl 0 rfl) ?_
  refine lv_iload_n hx hb dX8_act_6 rfl (lv_at hl 1 rfl) ?_
  obtain ⟨r1, hc1, hf⟩ := pb_s hf
  refine g_doI0 hG (g_runV C0 hG (k_X8_isOne l D base Z (sI u 82 71 (0 : Int32)) p1 r1 hc1) m_X8_isOne v_X8_isOne w_1098 (by decide) (g_recv C0 hG (L82 hG) rfl) rfl hl.1 rfl (Nat.le_of_ble_eq_true rfl) dX8_act_7 ⟨Nat.zero_le _, Nat.zero_le _⟩) (fun H locs hG hk => ?_)
  refine lv_if_eq (tgt := 23) hx hb dX8_act_10 (by decide) (fun c2 => ?_) (fun c2 => ?_)
  · have hf := gif_t c2 hf
    refine lv_iconst (v := (0 : Int32)) hx hb dX8_act_23 (by decide) ?_
    obtain ⟨hr1, hu⟩ := gret_s hf
    subst hr1
    subst hu
    subst hQ
    exact g_iret C0 hG hr dX8_act_24
  · have hf := gif_f c2 hf
    refine lv_aload_n hx hb dX8_act_13 rfl (lv_at hl 0 rfl) ?_
    refine lv_iload_n hx hb dX8_act_14 rfl (lv_at hl 2 rfl) ?_
    refine lv_iconst (v := (0 : Int32)) hx hb dX8_act_15 (by decide) ?_
    refine lv_iconst (v := (2 : Int32)) hx hb dX8_act_16 (by decide) ?_
    obtain ⟨r3, hc3, hf⟩ := pb_s hf
    refine g_doI0 hG (g_runV C0 hG (k_X8_in l D base Z (sI u 82 71 (0 : Int32)) p2 (0 : Int32) (2 : Int32) r3 hc3) m_X8_in v_X8_in w_1082 (by decide) (g_recv C0 hG (L82 hG) rfl) rfl hl.1 rfl (Nat.le_of_ble_eq_true rfl) dX8_act_17 ⟨Nat.zero_le _, Nat.zero_le _⟩) (fun H locs hG hk => ?_)
    refine lv_if_ne (tgt := 25) hx hb dX8_act_20 (by decide) (fun c4 => ?_) (fun c4 => ?_)
    · have hf := gif_f c4 hf
      refine lv_iload_n hx hb dX8_act_25 rfl (lv_at hl 2 rfl) ?_
      refine lv_if_ne (tgt := 38) hx hb dX8_act_26 (by decide) (fun c5 => ?_) (fun c5 => ?_)
      · have hf := gif_f c5 hf
        refine lv_iload_n hx hb dX8_act_38 rfl (lv_at hl 2 rfl) ?_
        refine lv_iconst (v := (1 : Int32)) hx hb dX8_act_39 (by decide) ?_
        refine lv_icmp_ne (tgt := 52) hx hb dX8_act_40 (by decide) (fun c6 => ?_) (fun c6 => ?_)
        · have hf := gif_f c6 hf
          refine lv_aload_n hx hb dX8_act_52 rfl (lv_at hl 0 rfl) ?_
          refine lv_iload_n hx hb dX8_act_53 rfl (lv_at hl 1 rfl) ?_
          refine lv_iload_n hx hb dX8_act_54 rfl (lv_at hl 3 rfl) ?_
          obtain ⟨r7, u7, hc7, hf⟩ := obind_s hf
          refine g_doI0 hG (g_runV C0 hG (k_X8_tellsAct l D base Z (sI u 82 71 (0 : Int32)) p1 p3 r7 u7 hc7) m_X8_tellsAct v_X8_tellsAct w_1412 (by decide) (g_recv C0 hG (L82 hG) rfl) rfl hl.1 rfl (Nat.le_of_ble_eq_true rfl) dX8_act_55 ⟨Nat.zero_le _, Nat.zero_le _⟩) (fun H locs hG hk => ?_)
          obtain ⟨hr1, hu⟩ := gret_s hf
          subst hr1
          subst hu
          subst hQ
          exact g_iret C0 hG hr dX8_act_58
        · have hf := gif_t c6 hf
          refine lv_aload_n hx hb dX8_act_43 rfl (lv_at hl 0 rfl) ?_
          refine lv_iload_n hx hb dX8_act_44 rfl (lv_at hl 1 rfl) ?_
          refine lv_iload_n hx hb dX8_act_45 rfl (lv_at hl 3 rfl) ?_
          obtain ⟨r8, u8, hc8, hf⟩ := obind_s hf
          refine g_doI0 hG (g_runV C0 hG (k_X8_leansAct l D base Z (sI u 82 71 (0 : Int32)) p1 p3 r8 u8 hc8) m_X8_leansAct v_X8_leansAct w_1400 (by decide) (g_recv C0 hG (L82 hG) rfl) rfl hl.1 rfl (Nat.le_of_ble_eq_true rfl) dX8_act_46 ⟨Nat.zero_le _, Nat.zero_le _⟩) (fun H locs hG hk => ?_)
          refine lv_goto (tgt := 58) hx hb dX8_act_49 (by decide) ?_
          obtain ⟨hr1, hu⟩ := gret_s hf
          subst hr1
          subst hu
          subst hQ
          exact g_iret C0 hG hr dX8_act_58
      · have hf := gif_t c5 hf
        refine lv_aload_n hx hb dX8_act_29 rfl (lv_at hl 0 rfl) ?_
        refine lv_iload_n hx hb dX8_act_30 rfl (lv_at hl 1 rfl) ?_
        refine lv_iload_n hx hb dX8_act_31 rfl (lv_at hl 3 rfl) ?_
        obtain ⟨r9, u9, hc9, hf⟩ := obind_s hf
        refine g_doI0 hG (g_runV C0 hG (k_X8_humsAct l D base Z (sI u 82 71 (0 : Int32)) p1 p3 r9 u9 hc9) m_X8_humsAct v_X8_humsAct w_1388 (by decide) (g_recv C0 hG (L82 hG) rfl) rfl hl.1 rfl (Nat.le_of_ble_eq_true rfl) dX8_act_32 ⟨Nat.zero_le _, Nat.zero_le _⟩) (fun H locs hG hk => ?_)
        refine lv_goto (tgt := 58) hx hb dX8_act_35 (by decide) ?_
        obtain ⟨hr1, hu⟩ := gret_s hf
        subst hr1
        subst hu
        subst hQ
        exact g_iret C0 hG hr dX8_act_58
    · have hf := gif_t c4 hf
      refine lv_iconst (v := (0 : Int32)) hx hb dX8_act_23 (by decide) ?_
      obtain ⟨hr1, hu⟩ := gret_s hf
      subst hr1
      subst hu
      subst hQ
      exact g_iret C0 hG hr dX8_act_24
theorem dX8_trace_0 : decode cX8_trace 0 = .ok (.aload_n 0, 1) := by decide +kernel
theorem dX8_trace_1 : decode cX8_trace 1 = .ok (.iload_n 1, 1) := by decide +kernel
theorem dX8_trace_2 : decode cX8_trace 2 = .ok (.iconst 0, 1) := by decide +kernel
theorem dX8_trace_3 : decode cX8_trace 3 = .ok (.bipush 19, 2) := by decide +kernel
theorem dX8_trace_5 : decode cX8_trace 5 = .ok (.invokevirtual 249, 3) := by decide +kernel
theorem dX8_trace_8 : decode cX8_trace 8 = .ok (.ifCond .eq 20, 3) := by decide +kernel
theorem dX8_trace_11 : decode cX8_trace 11 = .ok (.iload_n 1, 1) := by decide +kernel
theorem dX8_trace_12 : decode cX8_trace 12 = .ok (.aload_n 0, 1) := by decide +kernel
theorem dX8_trace_13 : decode cX8_trace 13 = .ok (.getfield 226, 3) := by decide +kernel
theorem dX8_trace_16 : decode cX8_trace 16 = .ok (.if_icmp .ge 12, 3) := by decide +kernel
theorem dX8_trace_19 : decode cX8_trace 19 = .ok (.aload_n 0, 1) := by decide +kernel
theorem dX8_trace_20 : decode cX8_trace 20 = .ok (.getfield 229, 3) := by decide +kernel
theorem dX8_trace_23 : decode cX8_trace 23 = .ok (.iload_n 1, 1) := by decide +kernel
theorem dX8_trace_24 : decode cX8_trace 24 = .ok (.iaload, 1) := by decide +kernel
theorem dX8_trace_25 : decode cX8_trace 25 = .ok (.goto 4, 3) := by decide +kernel
theorem dX8_trace_28 : decode cX8_trace 28 = .ok (.iconst (-1), 1) := by decide +kernel
theorem dX8_trace_29 : decode cX8_trace 29 = .ok (.ireturn, 1) := by decide +kernel
def f_X8_trace (p1 : Int32) (u : Mem) : Option (Int32) := Option.bind (f_X8_in p1 (0 : Int32) (19 : Int32)) (fun r1 => (if r1 = 0 then some (-1 : Int32) else (if (gI u 82 71) ≤ p1 then some (-1 : Int32) else gin p1 20 (some (gA u 124 p1.toNatClampNeg)))))
set_option maxHeartbeats 4000000 in
set_option maxRecDepth 100000 in
theorem k_X8_trace (l : Launch) (D : gDt) (base : Nat) (Z : gZt) (u : Mem) (p1 : Int32) (r : Int32) (hf : f_X8_trace p1 u = some r) : Met l yX8_trace (gws yX8_trace cX8_trace 2 (some .int)) (gRm 2 0 0) (gPc D base Z u [.ref (base + 82), .int p1]) (gQi D base r u) 0 0 (gF base) := by
  refine Met.ofW (cc := cX8_trace) (maxL := 2) (ret := some .int) (by decide) rfl ?_
  intro p e s m args below meth c s₁ B hml hv
  obtain ⟨rfl, C0, hG⟩ := g_enter B hml hv
  have hr := B.returns
  have C0 : gC p s m meth c _ cX8_trace 2 RX8 D base Z := C0
  have hx := C0.1
  have hb := C0.2.1
  have hl := lv_entry ([.ref (base + 82), .int p1]) (n := 2) (Nat.le_of_ble_eq_true rfl)
  rw [lg_entry_eq]
  generalize (lg_sl ([.ref (base + 82), .int p1]) ++ List.replicate (2 - (lg_sl ([.ref (base + 82), .int p1])).length) Slot.unset).toArray = ls at hl ⊢
  have hl : lv_has ls 2 [(0, .ref (base + 82)), (1, .int p1)] := hl
  obtain ⟨Q, hQ⟩ : ∃ Q, Q = MQ below (gQi D base r u) ([.ref (base + 82), .int p1] : List Value).toArray s 0 0 (gF base) := ⟨_, rfl⟩
  rw [← hQ]
  change W p l e (gRm 2 0 0) s m _ below meth c _ _ _ _ _ _
  unfold f_X8_trace at hf
  refine lv_aload_n hx hb dX8_trace_0 rfl (lv_at hl 0 rfl) ?_
  refine lv_iload_n hx hb dX8_trace_1 rfl (lv_at hl 1 rfl) ?_
  refine lv_iconst (v := (0 : Int32)) hx hb dX8_trace_2 (by decide) ?_
  refine lv_bipush (v := (19 : Int32)) hx hb dX8_trace_3 (by decide) ?_
  obtain ⟨r1, hc1, hf⟩ := pb_s hf
  refine g_doI0 hG (g_runV C0 hG (k_X8_in l D base Z u p1 (0 : Int32) (19 : Int32) r1 hc1) m_X8_in v_X8_in w_1082 (by decide) (g_recv C0 hG (L82 hG) rfl) rfl hl.1 rfl (Nat.le_of_ble_eq_true rfl) dX8_trace_5 ⟨Nat.zero_le _, Nat.zero_le _⟩) (fun H locs hG hk => ?_)
  refine lv_if_eq (tgt := 28) hx hb dX8_trace_8 (by decide) (fun c2 => ?_) (fun c2 => ?_)
  · have hf := gif_t c2 hf
    refine lv_iconst (v := (-1 : Int32)) hx hb dX8_trace_28 (by decide) ?_
    have hf := Option.some.inj hf
    subst hf
    subst hQ
    exact g_iret C0 hG hr dX8_trace_29
  · have hf := gif_f c2 hf
    refine lv_iload_n hx hb dX8_trace_11 rfl (lv_at hl 1 rfl) ?_
    refine lv_aload_n hx hb dX8_trace_12 rfl (lv_at hl 0 rfl) ?_
    refine g_getI C0 hG (L82 hG) rfl 71 (by decide) rfl w_917 dX8_trace_13 ?_
    refine lv_icmp_ge (tgt := 28) hx hb dX8_trace_16 (by decide) (fun c3 => ?_) (fun c3 => ?_)
    · have hf := gif_t c3 hf
      refine lv_iconst (v := (-1 : Int32)) hx hb dX8_trace_28 (by decide) ?_
      have hf := Option.some.inj hf
      subst hf
      subst hQ
      exact g_iret C0 hG hr dX8_trace_29
    · have hf := gif_f c3 hf
      refine lv_aload_n hx hb dX8_trace_19 rfl (lv_at hl 0 rfl) ?_
      refine g_getSa (o := 42) (a := 124) C0 hG (L82 hG) rfl 72 (by decide) rfl rfl w_918 dX8_trace_20 ?_
      refine lv_iload_n hx hb dX8_trace_23 rfl (lv_at hl 1 rfl) ?_
      obtain ⟨h4, hf⟩ := gin_s hf
      refine g_iald C0 hG (L124 hG) h4 dX8_trace_24 ?_
      refine lv_goto (tgt := 29) hx hb dX8_trace_25 (by decide) ?_
      have hf := Option.some.inj hf
      subst hf
      subst hQ
      exact g_iret C0 hG hr dX8_trace_29
theorem dX8_taken_0 : decode cX8_taken 0 = .ok (.aload_n 0, 1) := by decide +kernel
theorem dX8_taken_1 : decode cX8_taken 1 = .ok (.iload_n 2, 1) := by decide +kernel
theorem dX8_taken_2 : decode cX8_taken 2 = .ok (.iconst 0, 1) := by decide +kernel
theorem dX8_taken_3 : decode cX8_taken 3 = .ok (.bipush 6, 2) := by decide +kernel
theorem dX8_taken_5 : decode cX8_taken 5 = .ok (.invokevirtual 249, 3) := by decide +kernel
theorem dX8_taken_8 : decode cX8_taken 8 = .ok (.ifCond .ne 6, 3) := by decide +kernel
theorem dX8_taken_11 : decode cX8_taken 11 = .ok (.bipush (-2), 2) := by decide +kernel
theorem dX8_taken_13 : decode cX8_taken 13 = .ok (.ireturn, 1) := by decide +kernel
theorem dX8_taken_14 : decode cX8_taken 14 = .ok (.aload_n 0, 1) := by decide +kernel
theorem dX8_taken_15 : decode cX8_taken 15 = .ok (.iload_n 1, 1) := by decide +kernel
theorem dX8_taken_16 : decode cX8_taken 16 = .ok (.invokevirtual 260, 3) := by decide +kernel
theorem dX8_taken_19 : decode cX8_taken 19 = .ok (.ifCond .ne 6, 3) := by decide +kernel
theorem dX8_taken_22 : decode cX8_taken 22 = .ok (.bipush (-11), 2) := by decide +kernel
theorem dX8_taken_24 : decode cX8_taken 24 = .ok (.ireturn, 1) := by decide +kernel
theorem dX8_taken_25 : decode cX8_taken 25 = .ok (.aload_n 0, 1) := by decide +kernel
theorem dX8_taken_26 : decode cX8_taken 26 = .ok (.getfield 25, 3) := by decide +kernel
theorem dX8_taken_29 : decode cX8_taken 29 = .ok (.iload_n 1, 1) := by decide +kernel
theorem dX8_taken_30 : decode cX8_taken 30 = .ok (.iaload, 1) := by decide +kernel
theorem dX8_taken_31 : decode cX8_taken 31 = .ok (.istore_n 3, 1) := by decide +kernel
theorem dX8_taken_32 : decode cX8_taken 32 = .ok (.iload_n 2, 1) := by decide +kernel
theorem dX8_taken_33 : decode cX8_taken 33 = .ok (.ifCond .eq 39, 3) := by decide +kernel
theorem dX8_taken_36 : decode cX8_taken 36 = .ok (.iload_n 3, 1) := by decide +kernel
theorem dX8_taken_37 : decode cX8_taken 37 = .ok (.iload_n 2, 1) := by decide +kernel
theorem dX8_taken_38 : decode cX8_taken 38 = .ok (.if_icmp .eq 34, 3) := by decide +kernel
theorem dX8_taken_41 : decode cX8_taken 41 = .ok (.iload_n 2, 1) := by decide +kernel
theorem dX8_taken_42 : decode cX8_taken 42 = .ok (.iconst 1, 1) := by decide +kernel
theorem dX8_taken_43 : decode cX8_taken 43 = .ok (.if_icmp .ne 8, 3) := by decide +kernel
theorem dX8_taken_46 : decode cX8_taken 46 = .ok (.iload_n 3, 1) := by decide +kernel
theorem dX8_taken_47 : decode cX8_taken 47 = .ok (.iconst 4, 1) := by decide +kernel
theorem dX8_taken_48 : decode cX8_taken 48 = .ok (.if_icmp .eq 24, 3) := by decide +kernel
theorem dX8_taken_51 : decode cX8_taken 51 = .ok (.iload_n 2, 1) := by decide +kernel
theorem dX8_taken_52 : decode cX8_taken 52 = .ok (.iconst 2, 1) := by decide +kernel
theorem dX8_taken_53 : decode cX8_taken 53 = .ok (.if_icmp .ne 8, 3) := by decide +kernel
theorem dX8_taken_56 : decode cX8_taken 56 = .ok (.iload_n 3, 1) := by decide +kernel
theorem dX8_taken_57 : decode cX8_taken 57 = .ok (.iconst 5, 1) := by decide +kernel
theorem dX8_taken_58 : decode cX8_taken 58 = .ok (.if_icmp .eq 14, 3) := by decide +kernel
theorem dX8_taken_61 : decode cX8_taken 61 = .ok (.iload_n 2, 1) := by decide +kernel
theorem dX8_taken_62 : decode cX8_taken 62 = .ok (.iconst 3, 1) := by decide +kernel
theorem dX8_taken_63 : decode cX8_taken 63 = .ok (.if_icmp .ne 13, 3) := by decide +kernel
theorem dX8_taken_66 : decode cX8_taken 66 = .ok (.iload_n 3, 1) := by decide +kernel
theorem dX8_taken_67 : decode cX8_taken 67 = .ok (.bipush 6, 2) := by decide +kernel
theorem dX8_taken_69 : decode cX8_taken 69 = .ok (.if_icmp .ne 7, 3) := by decide +kernel
theorem dX8_taken_72 : decode cX8_taken 72 = .ok (.iload_n 3, 1) := by decide +kernel
theorem dX8_taken_73 : decode cX8_taken 73 = .ok (.goto 5, 3) := by decide +kernel
theorem dX8_taken_76 : decode cX8_taken 76 = .ok (.bipush (-12), 2) := by decide +kernel
theorem dX8_taken_78 : decode cX8_taken 78 = .ok (.ireturn, 1) := by decide +kernel
def f_X8_taken (p1 : Int32) (p2 : Int32) (u : Mem) : Option (Int32) := Option.bind (f_X8_in p2 (0 : Int32) (6 : Int32)) (fun r1 => (if r1 = 0 then some (-2 : Int32) else Option.bind (f_X8_isOne p1 u) (fun r3 => (if r3 = 0 then some (-11 : Int32) else gin p1 6 ((if p2 = 0 then some (gA u 83 p1.toNatClampNeg) else (if (gA u 83 p1.toNatClampNeg) = p2 then some (gA u 83 p1.toNatClampNeg) else (if p2 = (1 : Int32) then (if (gA u 83 p1.toNatClampNeg) = (4 : Int32) then some (gA u 83 p1.toNatClampNeg) else (if p2 = (2 : Int32) then (if (gA u 83 p1.toNatClampNeg) = (5 : Int32) then some (gA u 83 p1.toNatClampNeg) else (if p2 = (3 : Int32) then (if (gA u 83 p1.toNatClampNeg) = (6 : Int32) then some (gA u 83 p1.toNatClampNeg) else some (-12 : Int32)) else some (-12 : Int32))) else (if p2 = (3 : Int32) then (if (gA u 83 p1.toNatClampNeg) = (6 : Int32) then some (gA u 83 p1.toNatClampNeg) else some (-12 : Int32)) else some (-12 : Int32)))) else (if p2 = (2 : Int32) then (if (gA u 83 p1.toNatClampNeg) = (5 : Int32) then some (gA u 83 p1.toNatClampNeg) else (if p2 = (3 : Int32) then (if (gA u 83 p1.toNatClampNeg) = (6 : Int32) then some (gA u 83 p1.toNatClampNeg) else some (-12 : Int32)) else some (-12 : Int32))) else (if p2 = (3 : Int32) then (if (gA u 83 p1.toNatClampNeg) = (6 : Int32) then some (gA u 83 p1.toNatClampNeg) else some (-12 : Int32)) else some (-12 : Int32)))))))))))
set_option maxHeartbeats 4000000 in
set_option maxRecDepth 100000 in
theorem k_X8_taken (l : Launch) (D : gDt) (base : Nat) (Z : gZt) (u : Mem) (p1 : Int32) (p2 : Int32) (r : Int32) (hf : f_X8_taken p1 p2 u = some r) : Met l yX8_taken (gws yX8_taken cX8_taken 4 (some .int)) (gRm 3 0 0) (gPc D base Z u [.ref (base + 82), .int p1, .int p2]) (gQi D base r u) 0 0 (gF base) := by
  refine Met.ofW (cc := cX8_taken) (maxL := 4) (ret := some .int) (by decide) rfl ?_
  intro p e s m args below meth c s₁ B hml hv
  obtain ⟨rfl, C0, hG⟩ := g_enter B hml hv
  have hr := B.returns
  have C0 : gC p s m meth c _ cX8_taken 4 RX8 D base Z := C0
  have hx := C0.1
  have hb := C0.2.1
  have hl := lv_entry ([.ref (base + 82), .int p1, .int p2]) (n := 4) (Nat.le_of_ble_eq_true rfl)
  rw [lg_entry_eq]
  generalize (lg_sl ([.ref (base + 82), .int p1, .int p2]) ++ List.replicate (4 - (lg_sl ([.ref (base + 82), .int p1, .int p2])).length) Slot.unset).toArray = ls at hl ⊢
  have hl : lv_has ls 4 [(0, .ref (base + 82)), (1, .int p1), (2, .int p2)] := hl
  obtain ⟨Q, hQ⟩ : ∃ Q, Q = MQ below (gQi D base r u) ([.ref (base + 82), .int p1, .int p2] : List Value).toArray s 0 0 (gF base) := ⟨_, rfl⟩
  rw [← hQ]
  change W p l e (gRm 3 0 0) s m _ below meth c _ _ _ _ _ _
  unfold f_X8_taken at hf
  refine lv_aload_n hx hb dX8_taken_0 rfl (lv_at hl 0 rfl) ?_
  refine lv_iload_n hx hb dX8_taken_1 rfl (lv_at hl 2 rfl) ?_
  refine lv_iconst (v := (0 : Int32)) hx hb dX8_taken_2 (by decide) ?_
  refine lv_bipush (v := (6 : Int32)) hx hb dX8_taken_3 (by decide) ?_
  obtain ⟨r1, hc1, hf⟩ := pb_s hf
  refine g_doI0 hG (g_runV C0 hG (k_X8_in l D base Z u p2 (0 : Int32) (6 : Int32) r1 hc1) m_X8_in v_X8_in w_1082 (by decide) (g_recv C0 hG (L82 hG) rfl) rfl hl.1 rfl (Nat.le_of_ble_eq_true rfl) dX8_taken_5 ⟨Nat.zero_le _, Nat.zero_le _⟩) (fun H locs hG hk => ?_)
  refine lv_if_ne (tgt := 14) hx hb dX8_taken_8 (by decide) (fun c2 => ?_) (fun c2 => ?_)
  · have hf := gif_f c2 hf
    refine lv_aload_n hx hb dX8_taken_14 rfl (lv_at hl 0 rfl) ?_
    refine lv_iload_n hx hb dX8_taken_15 rfl (lv_at hl 1 rfl) ?_
    obtain ⟨r3, hc3, hf⟩ := pb_s hf
    refine g_doI0 hG (g_runV C0 hG (k_X8_isOne l D base Z u p1 r3 hc3) m_X8_isOne v_X8_isOne w_1098 (by decide) (g_recv C0 hG (L82 hG) rfl) rfl hl.1 rfl (Nat.le_of_ble_eq_true rfl) dX8_taken_16 ⟨Nat.zero_le _, Nat.zero_le _⟩) (fun H locs hG hk => ?_)
    refine lv_if_ne (tgt := 25) hx hb dX8_taken_19 (by decide) (fun c4 => ?_) (fun c4 => ?_)
    · have hf := gif_f c4 hf
      refine lv_aload_n hx hb dX8_taken_25 rfl (lv_at hl 0 rfl) ?_
      refine g_getSa (o := 1) (a := 83) C0 hG (L82 hG) rfl 5 (by decide) rfl rfl w_851 dX8_taken_26 ?_
      refine lv_iload_n hx hb dX8_taken_29 rfl (lv_at hl 1 rfl) ?_
      obtain ⟨h5, hf⟩ := gin_s hf
      refine g_iald C0 hG (L83 hG) h5 dX8_taken_30 ?_
      refine lv_istore_n (lv' := [(3, .int (gA u 83 p1.toNatClampNeg)), (0, .ref (base + 82)), (1, .int p1), (2, .int p2)]) hx hb dX8_taken_31 rfl hl (by decide) rfl (fun ls hl => ?_)
      refine lv_iload_n hx hb dX8_taken_32 rfl (lv_at hl 3 rfl) ?_
      refine lv_if_eq (tgt := 72) hx hb dX8_taken_33 (by decide) (fun c6 => ?_) (fun c6 => ?_)
      · have hf := gif_t c6 hf
        refine lv_iload_n hx hb dX8_taken_72 rfl (lv_at hl 0 rfl) ?_
        refine lv_goto (tgt := 78) hx hb dX8_taken_73 (by decide) ?_
        have hf := Option.some.inj hf
        subst hf
        subst hQ
        exact g_iret C0 hG hr dX8_taken_78
      · have hf := gif_f c6 hf
        refine lv_iload_n hx hb dX8_taken_36 rfl (lv_at hl 0 rfl) ?_
        refine lv_iload_n hx hb dX8_taken_37 rfl (lv_at hl 3 rfl) ?_
        refine lv_icmp_eq (tgt := 72) hx hb dX8_taken_38 (by decide) (fun c7 => ?_) (fun c7 => ?_)
        · have hf := gif_t c7 hf
          refine lv_iload_n hx hb dX8_taken_72 rfl (lv_at hl 0 rfl) ?_
          refine lv_goto (tgt := 78) hx hb dX8_taken_73 (by decide) ?_
          have hf := Option.some.inj hf
          subst hf
          subst hQ
          exact g_iret C0 hG hr dX8_taken_78
        · have hf := gif_f c7 hf
          refine lv_iload_n hx hb dX8_taken_41 rfl (lv_at hl 3 rfl) ?_
          refine lv_iconst (v := (1 : Int32)) hx hb dX8_taken_42 (by decide) ?_
          refine lv_icmp_ne (tgt := 51) hx hb dX8_taken_43 (by decide) (fun c8 => ?_) (fun c8 => ?_)
          · have hf := gif_f c8 hf
            refine lv_iload_n hx hb dX8_taken_51 rfl (lv_at hl 3 rfl) ?_
            refine lv_iconst (v := (2 : Int32)) hx hb dX8_taken_52 (by decide) ?_
            refine lv_icmp_ne (tgt := 61) hx hb dX8_taken_53 (by decide) (fun c9 => ?_) (fun c9 => ?_)
            · have hf := gif_f c9 hf
              refine lv_iload_n hx hb dX8_taken_61 rfl (lv_at hl 3 rfl) ?_
              refine lv_iconst (v := (3 : Int32)) hx hb dX8_taken_62 (by decide) ?_
              refine lv_icmp_ne (tgt := 76) hx hb dX8_taken_63 (by decide) (fun c10 => ?_) (fun c10 => ?_)
              · have hf := gif_f c10 hf
                refine lv_bipush (v := (-12 : Int32)) hx hb dX8_taken_76 (by decide) ?_
                have hf := Option.some.inj hf
                subst hf
                subst hQ
                exact g_iret C0 hG hr dX8_taken_78
              · have hf := gif_t c10 hf
                refine lv_iload_n hx hb dX8_taken_66 rfl (lv_at hl 0 rfl) ?_
                refine lv_bipush (v := (6 : Int32)) hx hb dX8_taken_67 (by decide) ?_
                refine lv_icmp_ne (tgt := 76) hx hb dX8_taken_69 (by decide) (fun c11 => ?_) (fun c11 => ?_)
                · have hf := gif_f c11 hf
                  refine lv_bipush (v := (-12 : Int32)) hx hb dX8_taken_76 (by decide) ?_
                  have hf := Option.some.inj hf
                  subst hf
                  subst hQ
                  exact g_iret C0 hG hr dX8_taken_78
                · have hf := gif_t c11 hf
                  refine lv_iload_n hx hb dX8_taken_72 rfl (lv_at hl 0 rfl) ?_
                  refine lv_goto (tgt := 78) hx hb dX8_taken_73 (by decide) ?_
                  have hf := Option.some.inj hf
                  subst hf
                  subst hQ
                  exact g_iret C0 hG hr dX8_taken_78
            · have hf := gif_t c9 hf
              refine lv_iload_n hx hb dX8_taken_56 rfl (lv_at hl 0 rfl) ?_
              refine lv_iconst (v := (5 : Int32)) hx hb dX8_taken_57 (by decide) ?_
              refine lv_icmp_eq (tgt := 72) hx hb dX8_taken_58 (by decide) (fun c12 => ?_) (fun c12 => ?_)
              · have hf := gif_t c12 hf
                refine lv_iload_n hx hb dX8_taken_72 rfl (lv_at hl 0 rfl) ?_
                refine lv_goto (tgt := 78) hx hb dX8_taken_73 (by decide) ?_
                have hf := Option.some.inj hf
                subst hf
                subst hQ
                exact g_iret C0 hG hr dX8_taken_78
              · have hf := gif_f c12 hf
                refine lv_iload_n hx hb dX8_taken_61 rfl (lv_at hl 3 rfl) ?_
                refine lv_iconst (v := (3 : Int32)) hx hb dX8_taken_62 (by decide) ?_
                refine lv_icmp_ne (tgt := 76) hx hb dX8_taken_63 (by decide) (fun c13 => ?_) (fun c13 => ?_)
                · have hf := gif_f c13 hf
                  refine lv_bipush (v := (-12 : Int32)) hx hb dX8_taken_76 (by decide) ?_
                  have hf := Option.some.inj hf
                  subst hf
                  subst hQ
                  exact g_iret C0 hG hr dX8_taken_78
                · have hf := gif_t c13 hf
                  refine lv_iload_n hx hb dX8_taken_66 rfl (lv_at hl 0 rfl) ?_
                  refine lv_bipush (v := (6 : Int32)) hx hb dX8_taken_67 (by decide) ?_
                  refine lv_icmp_ne (tgt := 76) hx hb dX8_taken_69 (by decide) (fun c14 => ?_) (fun c14 => ?_)
                  · have hf := gif_f c14 hf
                    refine lv_bipush (v := (-12 : Int32)) hx hb dX8_taken_76 (by decide) ?_
                    have hf := Option.some.inj hf
                    subst hf
                    subst hQ
                    exact g_iret C0 hG hr dX8_taken_78
                  · have hf := gif_t c14 hf
                    refine lv_iload_n hx hb dX8_taken_72 rfl (lv_at hl 0 rfl) ?_
                    refine lv_goto (tgt := 78) hx hb dX8_taken_73 (by decide) ?_
                    have hf := Option.some.inj hf
                    subst hf
                    subst hQ
                    exact g_iret C0 hG hr dX8_taken_78
          · have hf := gif_t c8 hf
            refine lv_iload_n hx hb dX8_taken_46 rfl (lv_at hl 0 rfl) ?_
            refine lv_iconst (v := (4 : Int32)) hx hb dX8_taken_47 (by decide) ?_
            refine lv_icmp_eq (tgt := 72) hx hb dX8_taken_48 (by decide) (fun c15 => ?_) (fun c15 => ?_)
            · have hf := gif_t c15 hf
              refine lv_iload_n hx hb dX8_taken_72 rfl (lv_at hl 0 rfl) ?_
              refine lv_goto (tgt := 78) hx hb dX8_taken_73 (by decide) ?_
              have hf := Option.some.inj hf
              subst hf
              subst hQ
              exact g_iret C0 hG hr dX8_taken_78
            · have hf := gif_f c15 hf
              refine lv_iload_n hx hb dX8_taken_51 rfl (lv_at hl 3 rfl) ?_
              refine lv_iconst (v := (2 : Int32)) hx hb dX8_taken_52 (by decide) ?_
              refine lv_icmp_ne (tgt := 61) hx hb dX8_taken_53 (by decide) (fun c16 => ?_) (fun c16 => ?_)
              · have hf := gif_f c16 hf
                refine lv_iload_n hx hb dX8_taken_61 rfl (lv_at hl 3 rfl) ?_
                refine lv_iconst (v := (3 : Int32)) hx hb dX8_taken_62 (by decide) ?_
                refine lv_icmp_ne (tgt := 76) hx hb dX8_taken_63 (by decide) (fun c17 => ?_) (fun c17 => ?_)
                · have hf := gif_f c17 hf
                  refine lv_bipush (v := (-12 : Int32)) hx hb dX8_taken_76 (by decide) ?_
                  have hf := Option.some.inj hf
                  subst hf
                  subst hQ
                  exact g_iret C0 hG hr dX8_taken_78
                · have hf := gif_t c17 hf
                  refine lv_iload_n hx hb dX8_taken_66 rfl (lv_at hl 0 rfl) ?_
                  refine lv_bipush (v := (6 : Int32)) hx hb dX8_taken_67 (by decide) ?_
                  refine lv_icmp_ne (tgt := 76) hx hb dX8_taken_69 (by decide) (fun c18 => ?_) (fun c18 => ?_)
                  · have hf := gif_f c18 hf
                    refine lv_bipush (v := (-12 : Int32)) hx hb dX8_taken_76 (by decide) ?_
                    have hf := Option.some.inj hf
                    subst hf
                    subst hQ
                    exact g_iret C0 hG hr dX8_taken_78
                  · have hf := gif_t c18 hf
                    refine lv_iload_n hx hb dX8_taken_72 rfl (lv_at hl 0 rfl) ?_
                    refine lv_goto (tgt := 78) hx hb dX8_taken_73 (by decide) ?_
                    have hf := Option.some.inj hf
                    subst hf
                    subst hQ
                    exact g_iret C0 hG hr dX8_taken_78
              · have hf := gif_t c16 hf
                refine lv_iload_n hx hb dX8_taken_56 rfl (lv_at hl 0 rfl) ?_
                refine lv_iconst (v := (5 : Int32)) hx hb dX8_taken_57 (by decide) ?_
                refine lv_icmp_eq (tgt := 72) hx hb dX8_taken_58 (by decide) (fun c19 => ?_) (fun c19 => ?_)
                · have hf := gif_t c19 hf
                  refine lv_iload_n hx hb dX8_taken_72 rfl (lv_at hl 0 rfl) ?_
                  refine lv_goto (tgt := 78) hx hb dX8_taken_73 (by decide) ?_
                  have hf := Option.some.inj hf
                  subst hf
                  subst hQ
                  exact g_iret C0 hG hr dX8_taken_78
                · have hf := gif_f c19 hf
                  refine lv_iload_n hx hb dX8_taken_61 rfl (lv_at hl 3 rfl) ?_
                  refine lv_iconst (v := (3 : Int32)) hx hb dX8_taken_62 (by decide) ?_
                  refine lv_icmp_ne (tgt := 76) hx hb dX8_taken_63 (by decide) (fun c20 => ?_) (fun c20 => ?_)
                  · have hf := gif_f c20 hf
                    refine lv_bipush (v := (-12 : Int32)) hx hb dX8_taken_76 (by decide) ?_
                    have hf := Option.some.inj hf
                    subst hf
                    subst hQ
                    exact g_iret C0 hG hr dX8_taken_78
                  · have hf := gif_t c20 hf
                    refine lv_iload_n hx hb dX8_taken_66 rfl (lv_at hl 0 rfl) ?_
                    refine lv_bipush (v := (6 : Int32)) hx hb dX8_taken_67 (by decide) ?_
                    refine lv_icmp_ne (tgt := 76) hx hb dX8_taken_69 (by decide) (fun c21 => ?_) (fun c21 => ?_)
                    · have hf := gif_f c21 hf
                      refine lv_bipush (v := (-12 : Int32)) hx hb dX8_taken_76 (by decide) ?_
                      have hf := Option.some.inj hf
                      subst hf
                      subst hQ
                      exact g_iret C0 hG hr dX8_taken_78
                    · have hf := gif_t c21 hf
                      refine lv_iload_n hx hb dX8_taken_72 rfl (lv_at hl 0 rfl) ?_
                      refine lv_goto (tgt := 78) hx hb dX8_taken_73 (by decide) ?_
                      have hf := Option.some.inj hf
                      subst hf
                      subst hQ
                      exact g_iret C0 hG hr dX8_taken_78
    · have hf := gif_t c4 hf
      refine lv_bipush (v := (-11 : Int32)) hx hb dX8_taken_22 (by decide) ?_
      have hf := Option.some.inj hf
      subst hf
      subst hQ
      exact g_iret C0 hG hr dX8_taken_24
  · have hf := gif_t c2 hf
    refine lv_bipush (v := (-2 : Int32)) hx hb dX8_taken_11 (by decide) ?_
    have hf := Option.some.inj hf
    subst hf
    subst hQ
    exact g_iret C0 hG hr dX8_taken_13
