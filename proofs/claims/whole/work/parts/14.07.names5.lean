theorem dX7_areFew_137 : decode cX7_areFew 137 = .ok (.goto (-94), 3) := by decide +kernel
theorem dX7_areFew_140 : decode cX7_areFew 140 = .ok (.aload_n 0, 1) := by decide +kernel
theorem dX7_areFew_141 : decode cX7_areFew 141 = .ok (.getfield 38, 3) := by decide +kernel
theorem dX7_areFew_144 : decode cX7_areFew 144 = .ok (.iload_n 1, 1) := by decide +kernel
theorem dX7_areFew_145 : decode cX7_areFew 145 = .ok (.iaload, 1) := by decide +kernel
theorem dX7_areFew_146 : decode cX7_areFew 146 = .ok (.sipush 20000, 3) := by decide +kernel
theorem dX7_areFew_149 : decode cX7_areFew 149 = .ok (.if_icmp .gt 7, 3) := by decide +kernel
theorem dX7_areFew_152 : decode cX7_areFew 152 = .ok (.iconst 1, 1) := by decide +kernel
theorem dX7_areFew_153 : decode cX7_areFew 153 = .ok (.goto 4, 3) := by decide +kernel
theorem dX7_areFew_156 : decode cX7_areFew 156 = .ok (.iconst 0, 1) := by decide +kernel
theorem dX7_areFew_157 : decode cX7_areFew 157 = .ok (.ireturn, 1) := by decide +kernel
set_option maxRecDepth 20000 in
theorem ggX7_goes_X7_settings : GoodIn wsX7_goes wsX7_settings := goodIn_r _ [10, 2, 39, 40, 41, 42, 43, 44, 45, 46, 47, 48, 49, 50, 51, 52, 53, 54, 55, 56, 57, 58, 59, 60, 61, 62, 63, 64, 65, 66, 67, 68] (by decide +kernel) (by decide +kernel)
set_option maxRecDepth 20000 in
theorem gX7_goes_X7_settings : GoodIn wsX7_goes (wsV RX7 97 RX7 yX7_settings wsX7_settings) := goodIn_app (goodIn_of _ (by decide +kernel)) ggX7_goes_X7_settings
set_option maxRecDepth 20000 in
theorem ggX7_goes_X7_weighs : GoodIn wsX7_goes wsX7_weighs := goodIn_r _ [14, 5, 3, 15, 2, 16, 17, 18, 9, 19, 20, 6, 7, 8, 10, 21, 22, 23, 24, 25, 26, 27, 28, 29, 30, 31, 32, 33, 34, 35, 36, 37, 38, 39, 40, 41, 42, 43, 44, 45, 46, 47, 48, 49, 50, 51, 52, 53, 54, 55, 56, 57, 58, 59, 60, 61, 62, 63, 64, 65, 66, 67, 68] (by decide +kernel) (by decide +kernel)
set_option maxRecDepth 20000 in
theorem gX7_goes_X7_weighs : GoodIn wsX7_goes (wsV RX7 177 RX7 yX7_weighs wsX7_weighs) := goodIn_app (goodIn_of _ (by decide +kernel)) ggX7_goes_X7_weighs
theorem dX7_goes_0 : decode cX7_goes 0 = .ok (.iconst 0, 1) := by decide +kernel
theorem dX7_goes_1 : decode cX7_goes 1 = .ok (.istore_n 2, 1) := by decide +kernel
theorem dX7_goes_2 : decode cX7_goes 2 = .ok (.iload_n 2, 1) := by decide +kernel
theorem dX7_goes_3 : decode cX7_goes 3 = .ok (.bipush 64, 2) := by decide +kernel
theorem dX7_goes_5 : decode cX7_goes 5 = .ok (.if_icmp .ge 34, 3) := by decide +kernel
theorem dX7_goes_8 : decode cX7_goes 8 = .ok (.aload_n 0, 1) := by decide +kernel
theorem dX7_goes_9 : decode cX7_goes 9 = .ok (.getfield 41, 3) := by decide +kernel
theorem dX7_goes_12 : decode cX7_goes 12 = .ok (.iload_n 2, 1) := by decide +kernel
theorem dX7_goes_13 : decode cX7_goes 13 = .ok (.aload_n 0, 1) := by decide +kernel
theorem dX7_goes_14 : decode cX7_goes 14 = .ok (.getfield 7, 3) := by decide +kernel
theorem dX7_goes_17 : decode cX7_goes 17 = .ok (.bipush 7, 2) := by decide +kernel
theorem dX7_goes_19 : decode cX7_goes 19 = .ok (.iload_n 2, 1) := by decide +kernel
theorem dX7_goes_20 : decode cX7_goes 20 = .ok (.iadd, 1) := by decide +kernel
theorem dX7_goes_21 : decode cX7_goes 21 = .ok (.iaload, 1) := by decide +kernel
theorem dX7_goes_22 : decode cX7_goes 22 = .ok (.iastore, 1) := by decide +kernel
theorem dX7_goes_23 : decode cX7_goes 23 = .ok (.aload_n 0, 1) := by decide +kernel
theorem dX7_goes_24 : decode cX7_goes 24 = .ok (.getfield 7, 3) := by decide +kernel
theorem dX7_goes_27 : decode cX7_goes 27 = .ok (.bipush 7, 2) := by decide +kernel
theorem dX7_goes_29 : decode cX7_goes 29 = .ok (.iload_n 2, 1) := by decide +kernel
theorem dX7_goes_30 : decode cX7_goes 30 = .ok (.iadd, 1) := by decide +kernel
theorem dX7_goes_31 : decode cX7_goes 31 = .ok (.iconst 0, 1) := by decide +kernel
theorem dX7_goes_32 : decode cX7_goes 32 = .ok (.iastore, 1) := by decide +kernel
theorem dX7_goes_33 : decode cX7_goes 33 = .ok (.iinc 2 1, 3) := by decide +kernel
theorem dX7_goes_36 : decode cX7_goes 36 = .ok (.goto (-34), 3) := by decide +kernel
theorem dX7_goes_39 : decode cX7_goes 39 = .ok (.aload_n 0, 1) := by decide +kernel
theorem dX7_goes_40 : decode cX7_goes 40 = .ok (.iconst 0, 1) := by decide +kernel
theorem dX7_goes_41 : decode cX7_goes 41 = .ok (.putfield 171, 3) := by decide +kernel
theorem dX7_goes_44 : decode cX7_goes 44 = .ok (.aload_n 0, 1) := by decide +kernel
theorem dX7_goes_45 : decode cX7_goes 45 = .ok (.ldc2_w 161, 3) := by decide +kernel
theorem dX7_goes_48 : decode cX7_goes 48 = .ok (.putfield 174, 3) := by decide +kernel
theorem dX7_goes_51 : decode cX7_goes 51 = .ok (.aload_n 0, 1) := by decide +kernel
theorem dX7_goes_52 : decode cX7_goes 52 = .ok (.invokevirtual 97, 3) := by decide +kernel
theorem dX7_goes_55 : decode cX7_goes 55 = .ok (.iconst 1, 1) := by decide +kernel
theorem dX7_goes_56 : decode cX7_goes 56 = .ok (.isub, 1) := by decide +kernel
theorem dX7_goes_57 : decode cX7_goes 57 = .ok (.istore_n 2, 1) := by decide +kernel
theorem dX7_goes_58 : decode cX7_goes 58 = .ok (.iconst 0, 1) := by decide +kernel
theorem dX7_goes_59 : decode cX7_goes 59 = .ok (.istore_n 3, 1) := by decide +kernel
theorem dX7_goes_60 : decode cX7_goes 60 = .ok (.iload_n 1, 1) := by decide +kernel
theorem dX7_goes_61 : decode cX7_goes 61 = .ok (.istore 4, 2) := by decide +kernel
theorem dX7_goes_63 : decode cX7_goes 63 = .ok (.aload_n 0, 1) := by decide +kernel
theorem dX7_goes_64 : decode cX7_goes 64 = .ok (.getfield 7, 3) := by decide +kernel
theorem dX7_goes_67 : decode cX7_goes 67 = .ok (.bipush 7, 2) := by decide +kernel
theorem dX7_goes_69 : decode cX7_goes 69 = .ok (.iload_n 1, 1) := by decide +kernel
theorem dX7_goes_70 : decode cX7_goes 70 = .ok (.bipush 9, 2) := by decide +kernel
theorem dX7_goes_72 : decode cX7_goes 72 = .ok (.if_icmp .le 8, 3) := by decide +kernel
theorem dX7_goes_75 : decode cX7_goes 75 = .ok (.bipush 9, 2) := by decide +kernel
theorem dX7_goes_77 : decode cX7_goes 77 = .ok (.goto 4, 3) := by decide +kernel
theorem dX7_goes_80 : decode cX7_goes 80 = .ok (.iload_n 1, 1) := by decide +kernel
theorem dX7_goes_81 : decode cX7_goes 81 = .ok (.iastore, 1) := by decide +kernel
theorem dX7_goes_82 : decode cX7_goes 82 = .ok (.iload 4, 2) := by decide +kernel
theorem dX7_goes_84 : decode cX7_goes 84 = .ok (.aload_n 0, 1) := by decide +kernel
theorem dX7_goes_85 : decode cX7_goes 85 = .ok (.getfield 7, 3) := by decide +kernel
theorem dX7_goes_88 : decode cX7_goes 88 = .ok (.bipush 7, 2) := by decide +kernel
theorem dX7_goes_90 : decode cX7_goes 90 = .ok (.iaload, 1) := by decide +kernel
theorem dX7_goes_91 : decode cX7_goes 91 = .ok (.isub, 1) := by decide +kernel
theorem dX7_goes_92 : decode cX7_goes 92 = .ok (.istore 4, 2) := by decide +kernel
theorem dX7_goes_94 : decode cX7_goes 94 = .ok (.iconst 1, 1) := by decide +kernel
theorem dX7_goes_95 : decode cX7_goes 95 = .ok (.istore 5, 2) := by decide +kernel
theorem dX7_goes_97 : decode cX7_goes 97 = .ok (.iload 5, 2) := by decide +kernel
theorem dX7_goes_99 : decode cX7_goes 99 = .ok (.ifCond .eq 157, 3) := by decide +kernel
theorem dX7_goes_102 : decode cX7_goes 102 = .ok (.iload_n 3, 1) := by decide +kernel
theorem dX7_goes_103 : decode cX7_goes 103 = .ok (.iload_n 2, 1) := by decide +kernel
theorem dX7_goes_104 : decode cX7_goes 104 = .ok (.if_icmp .ge 47, 3) := by decide +kernel
theorem dX7_goes_107 : decode cX7_goes 107 = .ok (.iload_n 3, 1) := by decide +kernel
theorem dX7_goes_108 : decode cX7_goes 108 = .ok (.iconst 1, 1) := by decide +kernel
theorem dX7_goes_109 : decode cX7_goes 109 = .ok (.iadd, 1) := by decide +kernel
theorem dX7_goes_110 : decode cX7_goes 110 = .ok (.istore_n 3, 1) := by decide +kernel
theorem dX7_goes_111 : decode cX7_goes 111 = .ok (.aload_n 0, 1) := by decide +kernel
theorem dX7_goes_112 : decode cX7_goes 112 = .ok (.getfield 7, 3) := by decide +kernel
theorem dX7_goes_115 : decode cX7_goes 115 = .ok (.bipush 7, 2) := by decide +kernel
theorem dX7_goes_117 : decode cX7_goes 117 = .ok (.iload_n 3, 1) := by decide +kernel
theorem dX7_goes_118 : decode cX7_goes 118 = .ok (.iadd, 1) := by decide +kernel
theorem dX7_goes_119 : decode cX7_goes 119 = .ok (.iload 4, 2) := by decide +kernel
theorem dX7_goes_121 : decode cX7_goes 121 = .ok (.bipush 9, 2) := by decide +kernel
theorem dX7_goes_123 : decode cX7_goes 123 = .ok (.if_icmp .le 8, 3) := by decide +kernel
theorem dX7_goes_126 : decode cX7_goes 126 = .ok (.bipush 9, 2) := by decide +kernel
theorem dX7_goes_128 : decode cX7_goes 128 = .ok (.goto 5, 3) := by decide +kernel
theorem dX7_goes_131 : decode cX7_goes 131 = .ok (.iload 4, 2) := by decide +kernel
theorem dX7_goes_133 : decode cX7_goes 133 = .ok (.iastore, 1) := by decide +kernel
theorem dX7_goes_134 : decode cX7_goes 134 = .ok (.iload 4, 2) := by decide +kernel
theorem dX7_goes_136 : decode cX7_goes 136 = .ok (.aload_n 0, 1) := by decide +kernel
theorem dX7_goes_137 : decode cX7_goes 137 = .ok (.getfield 7, 3) := by decide +kernel
theorem dX7_goes_140 : decode cX7_goes 140 = .ok (.bipush 7, 2) := by decide +kernel
theorem dX7_goes_142 : decode cX7_goes 142 = .ok (.iload_n 3, 1) := by decide +kernel
theorem dX7_goes_143 : decode cX7_goes 143 = .ok (.iadd, 1) := by decide +kernel
theorem dX7_goes_144 : decode cX7_goes 144 = .ok (.iaload, 1) := by decide +kernel
theorem dX7_goes_145 : decode cX7_goes 145 = .ok (.isub, 1) := by decide +kernel
theorem dX7_goes_146 : decode cX7_goes 146 = .ok (.istore 4, 2) := by decide +kernel
theorem dX7_goes_148 : decode cX7_goes 148 = .ok (.goto (-46), 3) := by decide +kernel
theorem dX7_goes_151 : decode cX7_goes 151 = .ok (.iload 4, 2) := by decide +kernel
theorem dX7_goes_153 : decode cX7_goes 153 = .ok (.ifCond .ne 7, 3) := by decide +kernel
theorem dX7_goes_156 : decode cX7_goes 156 = .ok (.aload_n 0, 1) := by decide +kernel
theorem dX7_goes_157 : decode cX7_goes 157 = .ok (.invokevirtual 177, 3) := by decide +kernel
theorem dX7_goes_160 : decode cX7_goes 160 = .ok (.iload 4, 2) := by decide +kernel
theorem dX7_goes_162 : decode cX7_goes 162 = .ok (.aload_n 0, 1) := by decide +kernel
theorem dX7_goes_163 : decode cX7_goes 163 = .ok (.getfield 7, 3) := by decide +kernel
theorem dX7_goes_166 : decode cX7_goes 166 = .ok (.bipush 7, 2) := by decide +kernel
theorem dX7_goes_168 : decode cX7_goes 168 = .ok (.iload_n 2, 1) := by decide +kernel
theorem dX7_goes_169 : decode cX7_goes 169 = .ok (.iadd, 1) := by decide +kernel
theorem dX7_goes_170 : decode cX7_goes 170 = .ok (.iaload, 1) := by decide +kernel
theorem dX7_goes_171 : decode cX7_goes 171 = .ok (.iadd, 1) := by decide +kernel
theorem dX7_goes_172 : decode cX7_goes 172 = .ok (.istore 4, 2) := by decide +kernel
theorem dX7_goes_174 : decode cX7_goes 174 = .ok (.aload_n 0, 1) := by decide +kernel
theorem dX7_goes_175 : decode cX7_goes 175 = .ok (.getfield 7, 3) := by decide +kernel
theorem dX7_goes_178 : decode cX7_goes 178 = .ok (.bipush 7, 2) := by decide +kernel
theorem dX7_goes_180 : decode cX7_goes 180 = .ok (.iload_n 2, 1) := by decide +kernel
theorem dX7_goes_181 : decode cX7_goes 181 = .ok (.iadd, 1) := by decide +kernel
theorem dX7_goes_182 : decode cX7_goes 182 = .ok (.iconst 0, 1) := by decide +kernel
theorem dX7_goes_183 : decode cX7_goes 183 = .ok (.iastore, 1) := by decide +kernel
theorem dX7_goes_184 : decode cX7_goes 184 = .ok (.iload_n 2, 1) := by decide +kernel
theorem dX7_goes_185 : decode cX7_goes 185 = .ok (.iconst 1, 1) := by decide +kernel
theorem dX7_goes_186 : decode cX7_goes 186 = .ok (.isub, 1) := by decide +kernel
theorem dX7_goes_187 : decode cX7_goes 187 = .ok (.istore_n 3, 1) := by decide +kernel
theorem dX7_goes_188 : decode cX7_goes 188 = .ok (.iload_n 3, 1) := by decide +kernel
theorem dX7_goes_189 : decode cX7_goes 189 = .ok (.ifCond .lt 22, 3) := by decide +kernel
theorem dX7_goes_192 : decode cX7_goes 192 = .ok (.aload_n 0, 1) := by decide +kernel
theorem dX7_goes_193 : decode cX7_goes 193 = .ok (.getfield 7, 3) := by decide +kernel
theorem dX7_goes_196 : decode cX7_goes 196 = .ok (.bipush 7, 2) := by decide +kernel
theorem dX7_goes_198 : decode cX7_goes 198 = .ok (.iload_n 3, 1) := by decide +kernel
theorem dX7_goes_199 : decode cX7_goes 199 = .ok (.iadd, 1) := by decide +kernel
theorem dX7_goes_200 : decode cX7_goes 200 = .ok (.iaload, 1) := by decide +kernel
theorem dX7_goes_201 : decode cX7_goes 201 = .ok (.ifCond .ne 10, 3) := by decide +kernel
theorem dX7_goes_204 : decode cX7_goes 204 = .ok (.iload_n 3, 1) := by decide +kernel
theorem dX7_goes_205 : decode cX7_goes 205 = .ok (.iconst 1, 1) := by decide +kernel
theorem dX7_goes_206 : decode cX7_goes 206 = .ok (.isub, 1) := by decide +kernel
theorem dX7_goes_207 : decode cX7_goes 207 = .ok (.istore_n 3, 1) := by decide +kernel
theorem dX7_goes_208 : decode cX7_goes 208 = .ok (.goto (-20), 3) := by decide +kernel
theorem dX7_goes_211 : decode cX7_goes 211 = .ok (.iload_n 3, 1) := by decide +kernel
theorem dX7_goes_212 : decode cX7_goes 212 = .ok (.ifCond .lt 7, 3) := by decide +kernel
theorem dX7_goes_215 : decode cX7_goes 215 = .ok (.iconst 1, 1) := by decide +kernel
theorem dX7_goes_216 : decode cX7_goes 216 = .ok (.goto 4, 3) := by decide +kernel
theorem dX7_goes_219 : decode cX7_goes 219 = .ok (.iconst 0, 1) := by decide +kernel
theorem dX7_goes_220 : decode cX7_goes 220 = .ok (.istore 5, 2) := by decide +kernel
theorem dX7_goes_222 : decode cX7_goes 222 = .ok (.iload 5, 2) := by decide +kernel
theorem dX7_goes_224 : decode cX7_goes 224 = .ok (.ifCond .eq (-127), 3) := by decide +kernel
theorem dX7_goes_227 : decode cX7_goes 227 = .ok (.aload_n 0, 1) := by decide +kernel
theorem dX7_goes_228 : decode cX7_goes 228 = .ok (.getfield 7, 3) := by decide +kernel
theorem dX7_goes_231 : decode cX7_goes 231 = .ok (.bipush 7, 2) := by decide +kernel
theorem dX7_goes_233 : decode cX7_goes 233 = .ok (.iload_n 3, 1) := by decide +kernel
theorem dX7_goes_234 : decode cX7_goes 234 = .ok (.iadd, 1) := by decide +kernel
theorem dX7_goes_235 : decode cX7_goes 235 = .ok (.aload_n 0, 1) := by decide +kernel
theorem dX7_goes_236 : decode cX7_goes 236 = .ok (.getfield 7, 3) := by decide +kernel
theorem dX7_goes_239 : decode cX7_goes 239 = .ok (.bipush 7, 2) := by decide +kernel
theorem dX7_goes_241 : decode cX7_goes 241 = .ok (.iload_n 3, 1) := by decide +kernel
theorem dX7_goes_242 : decode cX7_goes 242 = .ok (.iadd, 1) := by decide +kernel
theorem dX7_goes_243 : decode cX7_goes 243 = .ok (.iaload, 1) := by decide +kernel
theorem dX7_goes_244 : decode cX7_goes 244 = .ok (.iconst 1, 1) := by decide +kernel
theorem dX7_goes_245 : decode cX7_goes 245 = .ok (.isub, 1) := by decide +kernel
theorem dX7_goes_246 : decode cX7_goes 246 = .ok (.iastore, 1) := by decide +kernel
theorem dX7_goes_247 : decode cX7_goes 247 = .ok (.iload 4, 2) := by decide +kernel
theorem dX7_goes_249 : decode cX7_goes 249 = .ok (.iconst 1, 1) := by decide +kernel
theorem dX7_goes_250 : decode cX7_goes 250 = .ok (.iadd, 1) := by decide +kernel
theorem dX7_goes_251 : decode cX7_goes 251 = .ok (.istore 4, 2) := by decide +kernel
theorem dX7_goes_253 : decode cX7_goes 253 = .ok (.goto (-156), 3) := by decide +kernel
theorem dX7_goes_256 : decode cX7_goes 256 = .ok (.iconst 0, 1) := by decide +kernel
theorem dX7_goes_257 : decode cX7_goes 257 = .ok (.istore 6, 2) := by decide +kernel
theorem dX7_goes_259 : decode cX7_goes 259 = .ok (.iload 6, 2) := by decide +kernel
theorem dX7_goes_261 : decode cX7_goes 261 = .ok (.bipush 64, 2) := by decide +kernel
theorem dX7_goes_263 : decode cX7_goes 263 = .ok (.if_icmp .ge 26, 3) := by decide +kernel
theorem dX7_goes_266 : decode cX7_goes 266 = .ok (.aload_n 0, 1) := by decide +kernel
theorem dX7_goes_267 : decode cX7_goes 267 = .ok (.getfield 7, 3) := by decide +kernel
theorem dX7_goes_270 : decode cX7_goes 270 = .ok (.bipush 7, 2) := by decide +kernel
theorem dX7_goes_272 : decode cX7_goes 272 = .ok (.iload 6, 2) := by decide +kernel
theorem dX7_goes_274 : decode cX7_goes 274 = .ok (.iadd, 1) := by decide +kernel
theorem dX7_goes_275 : decode cX7_goes 275 = .ok (.aload_n 0, 1) := by decide +kernel
theorem dX7_goes_276 : decode cX7_goes 276 = .ok (.getfield 41, 3) := by decide +kernel
theorem dX7_goes_279 : decode cX7_goes 279 = .ok (.iload 6, 2) := by decide +kernel
theorem dX7_goes_281 : decode cX7_goes 281 = .ok (.iaload, 1) := by decide +kernel
theorem dX7_goes_282 : decode cX7_goes 282 = .ok (.iastore, 1) := by decide +kernel
theorem dX7_goes_283 : decode cX7_goes 283 = .ok (.iinc 6 1, 3) := by decide +kernel
theorem dX7_goes_286 : decode cX7_goes 286 = .ok (.goto (-27), 3) := by decide +kernel
theorem dX7_goes_289 : decode cX7_goes 289 = .ok (.return_, 1) := by decide +kernel
set_option maxRecDepth 20000 in
theorem ggX7_weighs_X7_tables : GoodIn wsX7_weighs wsX7_tables := goodIn_r _ [9, 10, 4, 11, 12, 13, 8, 14, 15, 16, 17, 18, 19, 20, 21, 22, 33, 34, 35, 36, 37, 38, 39, 40, 41, 42, 43, 44, 45, 46, 47, 48, 49, 50, 51, 52, 53, 54, 55, 56, 57, 58, 59, 60, 61, 62] (by decide +kernel) (by decide +kernel)
set_option maxRecDepth 20000 in
theorem gX7_weighs_X7_tables : GoodIn wsX7_weighs (wsV RX7 142 RX7 yX7_tables wsX7_tables) := goodIn_app (goodIn_of _ (by decide +kernel)) ggX7_weighs_X7_tables
set_option maxRecDepth 20000 in
theorem ggX7_weighs_X7_wholeWorth : GoodIn wsX7_weighs wsX7_wholeWorth := goodIn_r _ [26, 27, 10, 4, 28, 29, 30, 8, 31, 32, 19, 20, 21, 22, 33, 34, 35, 36, 37, 38, 39, 40, 41, 42, 43, 44, 45, 46, 47, 48, 49, 50, 51, 52, 53, 54, 55, 56, 57, 58, 59, 60, 61, 62] (by decide +kernel) (by decide +kernel)
set_option maxRecDepth 20000 in
theorem gX7_weighs_X7_wholeWorth : GoodIn wsX7_weighs (wsV RX7 146 RX7 yX7_wholeWorth wsX7_wholeWorth) := goodIn_app (goodIn_of _ (by decide +kernel)) ggX7_weighs_X7_wholeWorth
theorem dX7_weighs_0 : decode cX7_weighs 0 = .ok (.aload_n 0, 1) := by decide +kernel
theorem dX7_weighs_1 : decode cX7_weighs 1 = .ok (.iconst 0, 1) := by decide +kernel
theorem dX7_weighs_2 : decode cX7_weighs 2 = .ok (.invokevirtual 142, 3) := by decide +kernel
theorem dX7_weighs_5 : decode cX7_weighs 5 = .ok (.aload_n 0, 1) := by decide +kernel
theorem dX7_weighs_6 : decode cX7_weighs 6 = .ok (.invokevirtual 146, 3) := by decide +kernel
theorem dX7_weighs_9 : decode cX7_weighs 9 = .ok (.lstore_n 1, 1) := by decide +kernel
theorem dX7_weighs_10 : decode cX7_weighs 10 = .ok (.lload_n 1, 1) := by decide +kernel
theorem dX7_weighs_11 : decode cX7_weighs 11 = .ok (.aload_n 0, 1) := by decide +kernel
theorem dX7_weighs_12 : decode cX7_weighs 12 = .ok (.getfield 174, 3) := by decide +kernel
theorem dX7_weighs_15 : decode cX7_weighs 15 = .ok (.lcmp, 1) := by decide +kernel
theorem dX7_weighs_16 : decode cX7_weighs 16 = .ok (.ifCond .ne 13, 3) := by decide +kernel
theorem dX7_weighs_19 : decode cX7_weighs 19 = .ok (.aload_n 0, 1) := by decide +kernel
theorem dX7_weighs_20 : decode cX7_weighs 20 = .ok (.aload_n 0, 1) := by decide +kernel
theorem dX7_weighs_21 : decode cX7_weighs 21 = .ok (.getfield 171, 3) := by decide +kernel
theorem dX7_weighs_24 : decode cX7_weighs 24 = .ok (.iconst 1, 1) := by decide +kernel
theorem dX7_weighs_25 : decode cX7_weighs 25 = .ok (.iadd, 1) := by decide +kernel
theorem dX7_weighs_26 : decode cX7_weighs 26 = .ok (.putfield 171, 3) := by decide +kernel
theorem dX7_weighs_29 : decode cX7_weighs 29 = .ok (.lload_n 1, 1) := by decide +kernel
theorem dX7_weighs_30 : decode cX7_weighs 30 = .ok (.aload_n 0, 1) := by decide +kernel
theorem dX7_weighs_31 : decode cX7_weighs 31 = .ok (.getfield 174, 3) := by decide +kernel
theorem dX7_weighs_34 : decode cX7_weighs 34 = .ok (.lcmp, 1) := by decide +kernel
theorem dX7_weighs_35 : decode cX7_weighs 35 = .ok (.ifCond .gt 4, 3) := by decide +kernel
theorem dX7_weighs_38 : decode cX7_weighs 38 = .ok (.return_, 1) := by decide +kernel
theorem dX7_weighs_39 : decode cX7_weighs 39 = .ok (.aload_n 0, 1) := by decide +kernel
theorem dX7_weighs_40 : decode cX7_weighs 40 = .ok (.lload_n 1, 1) := by decide +kernel
theorem dX7_weighs_41 : decode cX7_weighs 41 = .ok (.putfield 174, 3) := by decide +kernel
theorem dX7_weighs_44 : decode cX7_weighs 44 = .ok (.aload_n 0, 1) := by decide +kernel
theorem dX7_weighs_45 : decode cX7_weighs 45 = .ok (.iconst 1, 1) := by decide +kernel
theorem dX7_weighs_46 : decode cX7_weighs 46 = .ok (.putfield 171, 3) := by decide +kernel
theorem dX7_weighs_49 : decode cX7_weighs 49 = .ok (.iconst 0, 1) := by decide +kernel
theorem dX7_weighs_50 : decode cX7_weighs 50 = .ok (.istore_n 3, 1) := by decide +kernel
theorem dX7_weighs_51 : decode cX7_weighs 51 = .ok (.iload_n 3, 1) := by decide +kernel
theorem dX7_weighs_52 : decode cX7_weighs 52 = .ok (.bipush 64, 2) := by decide +kernel
theorem dX7_weighs_54 : decode cX7_weighs 54 = .ok (.if_icmp .ge 24, 3) := by decide +kernel
theorem dX7_weighs_57 : decode cX7_weighs 57 = .ok (.aload_n 0, 1) := by decide +kernel
theorem dX7_weighs_58 : decode cX7_weighs 58 = .ok (.getfield 44, 3) := by decide +kernel
theorem dX7_weighs_61 : decode cX7_weighs 61 = .ok (.iload_n 3, 1) := by decide +kernel
theorem dX7_weighs_62 : decode cX7_weighs 62 = .ok (.aload_n 0, 1) := by decide +kernel
theorem dX7_weighs_63 : decode cX7_weighs 63 = .ok (.getfield 7, 3) := by decide +kernel
theorem dX7_weighs_66 : decode cX7_weighs 66 = .ok (.bipush 7, 2) := by decide +kernel
theorem dX7_weighs_68 : decode cX7_weighs 68 = .ok (.iload_n 3, 1) := by decide +kernel
theorem dX7_weighs_69 : decode cX7_weighs 69 = .ok (.iadd, 1) := by decide +kernel
theorem dX7_weighs_70 : decode cX7_weighs 70 = .ok (.iaload, 1) := by decide +kernel
theorem dX7_weighs_71 : decode cX7_weighs 71 = .ok (.iastore, 1) := by decide +kernel
theorem dX7_weighs_72 : decode cX7_weighs 72 = .ok (.iinc 3 1, 3) := by decide +kernel
theorem dX7_weighs_75 : decode cX7_weighs 75 = .ok (.goto (-24), 3) := by decide +kernel
theorem dX7_weighs_78 : decode cX7_weighs 78 = .ok (.return_, 1) := by decide +kernel
set_option maxRecDepth 20000 in
theorem ggX7_best_X7_begins : GoodIn wsX7_best wsX7_begins := goodIn_r _ [9, 10, 11, 12, 13, 8, 14, 3, 64, 65, 66, 67, 68, 69, 70, 71, 72, 73, 74, 75, 76, 77, 78, 79, 80, 81, 82, 83, 84, 85, 86, 87, 88, 89, 90, 91, 92, 93] (by decide +kernel) (by decide +kernel)
set_option maxRecDepth 20000 in
theorem gX7_best_X7_begins : GoodIn wsX7_best (wsV RX7 91 RX7 yX7_begins wsX7_begins) := goodIn_app (goodIn_of _ (by decide +kernel)) ggX7_best_X7_begins
set_option maxRecDepth 20000 in
theorem ggX7_best_X7_areFew : GoodIn wsX7_best wsX7_areFew := goodIn_r _ [18, 2, 19, 20, 21, 8, 22, 3, 64, 65, 66, 67, 68, 69, 70, 71, 72, 73, 74, 75, 76, 77, 78, 79, 80, 81, 82, 83, 84, 85, 86, 87, 88, 89, 90, 91, 92, 93] (by decide +kernel) (by decide +kernel)
set_option maxRecDepth 20000 in
theorem gX7_best_X7_areFew : GoodIn wsX7_best (wsV RX7 180 RX7 yX7_areFew wsX7_areFew) := goodIn_app (goodIn_of _ (by decide +kernel)) ggX7_best_X7_areFew
set_option maxRecDepth 20000 in
theorem ggX7_best_X7_keep : GoodIn wsX7_best wsX7_keep := goodIn_r _ [26, 27, 28, 3, 64, 65, 66, 67, 68, 69, 70, 71, 72, 73, 74, 75, 76, 77, 78, 79, 80, 81, 82, 83, 84, 85, 86, 87, 88, 89, 90, 91, 92, 93] (by decide +kernel) (by decide +kernel)
set_option maxRecDepth 20000 in
theorem gX7_best_X7_keep : GoodIn wsX7_best (wsV RX7 94 RX7 yX7_keep wsX7_keep) := goodIn_app (goodIn_of _ (by decide +kernel)) ggX7_best_X7_keep
set_option maxRecDepth 20000 in
theorem ggX7_best_X7_goes : GoodIn wsX7_best wsX7_goes := goodIn_r _ [32, 33, 3, 34, 35, 36, 19, 20, 21, 8, 22, 37, 38, 39, 40, 4, 41, 42, 43, 44, 45, 46, 47, 48, 49, 50, 51, 52, 53, 54, 55, 56, 57, 58, 59, 60, 61, 62, 63, 64, 65, 66, 67, 68, 69, 70, 71, 72, 73, 74, 75, 76, 77, 78, 79, 80, 81, 82, 83, 84, 85, 86, 87, 88, 89, 90, 91, 92, 93] (by decide +kernel) (by decide +kernel)
set_option maxRecDepth 20000 in
theorem gX7_best_X7_goes : GoodIn wsX7_best (wsV RX7 183 RX7 yX7_goes wsX7_goes) := goodIn_app (goodIn_of _ (by decide +kernel)) ggX7_best_X7_goes
theorem dX7_best_0 : decode cX7_best 0 = .ok (.aload_n 0, 1) := by decide +kernel
theorem dX7_best_1 : decode cX7_best 1 = .ok (.iconst 0, 1) := by decide +kernel
theorem dX7_best_2 : decode cX7_best 2 = .ok (.putfield 76, 3) := by decide +kernel
theorem dX7_best_5 : decode cX7_best 5 = .ok (.aload_n 0, 1) := by decide +kernel
theorem dX7_best_6 : decode cX7_best 6 = .ok (.invokevirtual 91, 3) := by decide +kernel
theorem dX7_best_9 : decode cX7_best 9 = .ok (.aload_n 0, 1) := by decide +kernel
theorem dX7_best_10 : decode cX7_best 10 = .ok (.iload_n 1, 1) := by decide +kernel
theorem dX7_best_11 : decode cX7_best 11 = .ok (.invokevirtual 180, 3) := by decide +kernel
theorem dX7_best_14 : decode cX7_best 14 = .ok (.ifCond .eq 12, 3) := by decide +kernel
theorem dX7_best_17 : decode cX7_best 17 = .ok (.aload_n 0, 1) := by decide +kernel
theorem dX7_best_18 : decode cX7_best 18 = .ok (.getfield 38, 3) := by decide +kernel
theorem dX7_best_21 : decode cX7_best 21 = .ok (.iload_n 1, 1) := by decide +kernel
theorem dX7_best_22 : decode cX7_best 22 = .ok (.iaload, 1) := by decide +kernel
theorem dX7_best_23 : decode cX7_best 23 = .ok (.ifCond .ne 5, 3) := by decide +kernel
theorem dX7_best_26 : decode cX7_best 26 = .ok (.iconst 0, 1) := by decide +kernel
theorem dX7_best_27 : decode cX7_best 27 = .ok (.ireturn, 1) := by decide +kernel
theorem dX7_best_28 : decode cX7_best 28 = .ok (.aload_n 0, 1) := by decide +kernel
theorem dX7_best_29 : decode cX7_best 29 = .ok (.invokevirtual 94, 3) := by decide +kernel
theorem dX7_best_32 : decode cX7_best 32 = .ok (.aload_n 0, 1) := by decide +kernel
theorem dX7_best_33 : decode cX7_best 33 = .ok (.iload_n 1, 1) := by decide +kernel
theorem dX7_best_34 : decode cX7_best 34 = .ok (.invokevirtual 183, 3) := by decide +kernel
theorem dX7_best_37 : decode cX7_best 37 = .ok (.iconst 0, 1) := by decide +kernel
theorem dX7_best_38 : decode cX7_best 38 = .ok (.istore_n 2, 1) := by decide +kernel
theorem dX7_best_39 : decode cX7_best 39 = .ok (.iload_n 2, 1) := by decide +kernel
theorem dX7_best_40 : decode cX7_best 40 = .ok (.bipush 64, 2) := by decide +kernel
theorem dX7_best_42 : decode cX7_best 42 = .ok (.if_icmp .ge 24, 3) := by decide +kernel
theorem dX7_best_45 : decode cX7_best 45 = .ok (.aload_n 0, 1) := by decide +kernel
theorem dX7_best_46 : decode cX7_best 46 = .ok (.getfield 7, 3) := by decide +kernel
theorem dX7_best_49 : decode cX7_best 49 = .ok (.bipush 7, 2) := by decide +kernel
theorem dX7_best_51 : decode cX7_best 51 = .ok (.iload_n 2, 1) := by decide +kernel
theorem dX7_best_52 : decode cX7_best 52 = .ok (.iadd, 1) := by decide +kernel
theorem dX7_best_53 : decode cX7_best 53 = .ok (.aload_n 0, 1) := by decide +kernel
theorem dX7_best_54 : decode cX7_best 54 = .ok (.getfield 44, 3) := by decide +kernel
theorem dX7_best_57 : decode cX7_best 57 = .ok (.iload_n 2, 1) := by decide +kernel
theorem dX7_best_58 : decode cX7_best 58 = .ok (.iaload, 1) := by decide +kernel
theorem dX7_best_59 : decode cX7_best 59 = .ok (.iastore, 1) := by decide +kernel
theorem dX7_best_60 : decode cX7_best 60 = .ok (.iinc 2 1, 3) := by decide +kernel
theorem dX7_best_63 : decode cX7_best 63 = .ok (.goto (-24), 3) := by decide +kernel
theorem dX7_best_66 : decode cX7_best 66 = .ok (.iconst 1, 1) := by decide +kernel
theorem dX7_best_67 : decode cX7_best 67 = .ok (.ireturn, 1) := by decide +kernel
set_option maxRecDepth 20000 in
theorem ggX7_bests_X7_begins : GoodIn wsX7_bests wsX7_begins := goodIn_r _ [7, 8, 9, 10, 11, 6, 12, 13, 58, 59, 60, 61, 62, 63, 64, 65, 66, 67, 68, 69, 70, 71, 72, 73, 74, 75, 76, 77, 78, 79, 80, 81, 82, 83, 84, 85, 86, 87] (by decide +kernel) (by decide +kernel)
set_option maxRecDepth 20000 in
theorem gX7_bests_X7_begins : GoodIn wsX7_bests (wsV RX7 91 RX7 yX7_begins wsX7_begins) := goodIn_app (goodIn_of _ (by decide +kernel)) ggX7_bests_X7_begins
set_option maxRecDepth 20000 in
theorem ggX7_bests_X7_areFew : GoodIn wsX7_bests wsX7_areFew := goodIn_r _ [17, 18, 19, 20, 21, 6, 22, 13, 58, 59, 60, 61, 62, 63, 64, 65, 66, 67, 68, 69, 70, 71, 72, 73, 74, 75, 76, 77, 78, 79, 80, 81, 82, 83, 84, 85, 86, 87] (by decide +kernel) (by decide +kernel)
set_option maxRecDepth 20000 in
theorem gX7_bests_X7_areFew : GoodIn wsX7_bests (wsV RX7 180 RX7 yX7_areFew wsX7_areFew) := goodIn_app (goodIn_of _ (by decide +kernel)) ggX7_bests_X7_areFew
set_option maxRecDepth 20000 in
theorem ggX7_bests_X7_goes : GoodIn wsX7_bests wsX7_goes := goodIn_r _ [26, 27, 13, 2, 28, 29, 19, 20, 21, 6, 22, 30, 31, 32, 33, 34, 35, 36, 37, 38, 39, 40, 41, 42, 43, 44, 45, 46, 47, 48, 49, 50, 51, 52, 53, 54, 55, 56, 57, 58, 59, 60, 61, 62, 63, 64, 65, 66, 67, 68, 69, 70, 71, 72, 73, 74, 75, 76, 77, 78, 79, 80, 81, 82, 83, 84, 85, 86, 87] (by decide +kernel) (by decide +kernel)
set_option maxRecDepth 20000 in
theorem gX7_bests_X7_goes : GoodIn wsX7_bests (wsV RX7 183 RX7 yX7_goes wsX7_goes) := goodIn_app (goodIn_of _ (by decide +kernel)) ggX7_bests_X7_goes
theorem dX7_bests_0 : decode cX7_bests 0 = .ok (.aload_n 0, 1) := by decide +kernel
theorem dX7_bests_1 : decode cX7_bests 1 = .ok (.iconst 0, 1) := by decide +kernel
theorem dX7_bests_2 : decode cX7_bests 2 = .ok (.putfield 76, 3) := by decide +kernel
theorem dX7_bests_5 : decode cX7_bests 5 = .ok (.aload_n 0, 1) := by decide +kernel
theorem dX7_bests_6 : decode cX7_bests 6 = .ok (.invokevirtual 91, 3) := by decide +kernel
theorem dX7_bests_9 : decode cX7_bests 9 = .ok (.aload_n 0, 1) := by decide +kernel
theorem dX7_bests_10 : decode cX7_bests 10 = .ok (.iload_n 1, 1) := by decide +kernel
theorem dX7_bests_11 : decode cX7_bests 11 = .ok (.invokevirtual 180, 3) := by decide +kernel
theorem dX7_bests_14 : decode cX7_bests 14 = .ok (.ifCond .ne 5, 3) := by decide +kernel
theorem dX7_bests_17 : decode cX7_bests 17 = .ok (.iconst (-1), 1) := by decide +kernel
theorem dX7_bests_18 : decode cX7_bests 18 = .ok (.ireturn, 1) := by decide +kernel
theorem dX7_bests_19 : decode cX7_bests 19 = .ok (.aload_n 0, 1) := by decide +kernel
theorem dX7_bests_20 : decode cX7_bests 20 = .ok (.iload_n 1, 1) := by decide +kernel
theorem dX7_bests_21 : decode cX7_bests 21 = .ok (.invokevirtual 183, 3) := by decide +kernel
theorem dX7_bests_24 : decode cX7_bests 24 = .ok (.aload_n 0, 1) := by decide +kernel
theorem dX7_bests_25 : decode cX7_bests 25 = .ok (.getfield 171, 3) := by decide +kernel
theorem dX7_bests_28 : decode cX7_bests 28 = .ok (.ireturn, 1) := by decide +kernel
set_option maxRecDepth 20000 in
theorem ggX7_worthNow_X7_tables : GoodIn wsX7_worthNow wsX7_tables := goodIn_r _ [5, 6, 7, 8, 9, 10, 4, 11, 12, 13, 14, 15, 16, 17, 18, 19, 30, 31, 32, 33, 34, 35, 36, 37, 38, 39, 40, 41, 42, 43, 44, 45, 46, 47, 48, 49, 50, 51, 52, 53, 54, 55, 56, 57, 58, 59] (by decide +kernel) (by decide +kernel)
set_option maxRecDepth 20000 in
theorem gX7_worthNow_X7_tables : GoodIn wsX7_worthNow (wsV RX7 142 RX7 yX7_tables wsX7_tables) := goodIn_app (goodIn_of _ (by decide +kernel)) ggX7_worthNow_X7_tables
set_option maxRecDepth 20000 in
theorem ggX7_worthNow_X7_wholeWorth : GoodIn wsX7_worthNow wsX7_wholeWorth := goodIn_r _ [23, 24, 6, 7, 25, 26, 27, 4, 28, 29, 16, 17, 18, 19, 30, 31, 32, 33, 34, 35, 36, 37, 38, 39, 40, 41, 42, 43, 44, 45, 46, 47, 48, 49, 50, 51, 52, 53, 54, 55, 56, 57, 58, 59] (by decide +kernel) (by decide +kernel)
set_option maxRecDepth 20000 in
theorem gX7_worthNow_X7_wholeWorth : GoodIn wsX7_worthNow (wsV RX7 146 RX7 yX7_wholeWorth wsX7_wholeWorth) := goodIn_app (goodIn_of _ (by decide +kernel)) ggX7_worthNow_X7_wholeWorth
theorem dX7_worthNow_0 : decode cX7_worthNow 0 = .ok (.aload_n 0, 1) := by decide +kernel
theorem dX7_worthNow_1 : decode cX7_worthNow 1 = .ok (.iconst 0, 1) := by decide +kernel
theorem dX7_worthNow_2 : decode cX7_worthNow 2 = .ok (.invokevirtual 142, 3) := by decide +kernel
theorem dX7_worthNow_5 : decode cX7_worthNow 5 = .ok (.aload_n 0, 1) := by decide +kernel
theorem dX7_worthNow_6 : decode cX7_worthNow 6 = .ok (.invokevirtual 146, 3) := by decide +kernel
theorem dX7_worthNow_9 : decode cX7_worthNow 9 = .ok (.lreturn, 1) := by decide +kernel
theorem dX7_moves_0 : decode cX7_moves 0 = .ok (.aload_n 0, 1) := by decide +kernel
theorem dX7_moves_1 : decode cX7_moves 1 = .ok (.getfield 7, 3) := by decide +kernel
theorem dX7_moves_4 : decode cX7_moves 4 = .ok (.bipush 7, 2) := by decide +kernel
theorem dX7_moves_6 : decode cX7_moves 6 = .ok (.iload_n 1, 1) := by decide +kernel
theorem dX7_moves_7 : decode cX7_moves 7 = .ok (.iadd, 1) := by decide +kernel
theorem dX7_moves_8 : decode cX7_moves 8 = .ok (.aload_n 0, 1) := by decide +kernel
theorem dX7_moves_9 : decode cX7_moves 9 = .ok (.getfield 7, 3) := by decide +kernel
theorem dX7_moves_12 : decode cX7_moves 12 = .ok (.bipush 7, 2) := by decide +kernel
theorem dX7_moves_14 : decode cX7_moves 14 = .ok (.iload_n 1, 1) := by decide +kernel
theorem dX7_moves_15 : decode cX7_moves 15 = .ok (.iadd, 1) := by decide +kernel
theorem dX7_moves_16 : decode cX7_moves 16 = .ok (.iaload, 1) := by decide +kernel
theorem dX7_moves_17 : decode cX7_moves 17 = .ok (.iload_n 2, 1) := by decide +kernel
theorem dX7_moves_18 : decode cX7_moves 18 = .ok (.iadd, 1) := by decide +kernel
theorem dX7_moves_19 : decode cX7_moves 19 = .ok (.iastore, 1) := by decide +kernel
theorem dX7_moves_20 : decode cX7_moves 20 = .ok (.return_, 1) := by decide +kernel
set_option maxRecDepth 20000 in
theorem ggX7_swap_X7_begins : GoodIn wsX7_swap wsX7_begins := goodIn_r _ [7, 8, 9, 10, 11, 6, 12, 2, 54, 55, 56, 57, 58, 59, 60, 61, 62, 63, 64, 65, 66, 67, 68, 69, 70, 71, 72, 73, 74, 75, 76, 77, 78, 79, 80, 81, 82, 83] (by decide +kernel) (by decide +kernel)
set_option maxRecDepth 20000 in
theorem gX7_swap_X7_begins : GoodIn wsX7_swap (wsV RX7 91 RX7 yX7_begins wsX7_begins) := goodIn_app (goodIn_of _ (by decide +kernel)) ggX7_swap_X7_begins
set_option maxRecDepth 20000 in
theorem ggX7_swap_X7_worthNow : GoodIn wsX7_swap wsX7_worthNow := goodIn_r _ [16, 17, 18, 19, 6, 20, 21, 2, 22, 23, 24, 25, 26, 27, 28, 29, 30, 31, 32, 33, 34, 35, 36, 37, 38, 39, 40, 41, 42, 43, 54, 55, 56, 57, 58, 59, 60, 61, 62, 63, 64, 65, 66, 67, 68, 69, 70, 71, 72, 73, 74, 75, 76, 77, 78, 79, 80, 81, 82, 83] (by decide +kernel) (by decide +kernel)
set_option maxRecDepth 20000 in
theorem gX7_swap_X7_worthNow : GoodIn wsX7_swap (wsV RX7 186 RX7 yX7_worthNow wsX7_worthNow) := goodIn_app (goodIn_of _ (by decide +kernel)) ggX7_swap_X7_worthNow
set_option maxRecDepth 20000 in
theorem ggX7_swap_X7_settings : GoodIn wsX7_swap wsX7_settings := goodIn_r _ [25, 2, 54, 55, 56, 57, 58, 59, 60, 61, 62, 63, 64, 65, 66, 67, 68, 69, 70, 71, 72, 73, 74, 75, 76, 77, 78, 79, 80, 81, 82, 83] (by decide +kernel) (by decide +kernel)
set_option maxRecDepth 20000 in
theorem gX7_swap_X7_settings : GoodIn wsX7_swap (wsV RX7 97 RX7 yX7_settings wsX7_settings) := goodIn_app (goodIn_of _ (by decide +kernel)) ggX7_swap_X7_settings
set_option maxRecDepth 20000 in
theorem ggX7_swap_X7_moves : GoodIn wsX7_swap wsX7_moves := goodIn_r _ [47, 2, 54, 55, 56, 57, 58, 59, 60, 61, 62, 63, 64, 65, 66, 67, 68, 69, 70, 71, 72, 73, 74, 75, 76, 77, 78, 79, 80, 81, 82, 83] (by decide +kernel) (by decide +kernel)
set_option maxRecDepth 20000 in
theorem gX7_swap_X7_moves : GoodIn wsX7_swap (wsV RX7 189 RX7 yX7_moves wsX7_moves) := goodIn_app (goodIn_of _ (by decide +kernel)) ggX7_swap_X7_moves
set_option maxRecDepth 20000 in
theorem ggX7_swap_X7_keep : GoodIn wsX7_swap wsX7_keep := goodIn_r _ [51, 52, 53, 2, 54, 55, 56, 57, 58, 59, 60, 61, 62, 63, 64, 65, 66, 67, 68, 69, 70, 71, 72, 73, 74, 75, 76, 77, 78, 79, 80, 81, 82, 83] (by decide +kernel) (by decide +kernel)
set_option maxRecDepth 20000 in
theorem gX7_swap_X7_keep : GoodIn wsX7_swap (wsV RX7 94 RX7 yX7_keep wsX7_keep) := goodIn_app (goodIn_of _ (by decide +kernel)) ggX7_swap_X7_keep
theorem dX7_swap_0 : decode cX7_swap 0 = .ok (.aload_n 0, 1) := by decide +kernel
theorem dX7_swap_1 : decode cX7_swap 1 = .ok (.iconst 0, 1) := by decide +kernel
theorem dX7_swap_2 : decode cX7_swap 2 = .ok (.putfield 76, 3) := by decide +kernel
theorem dX7_swap_5 : decode cX7_swap 5 = .ok (.aload_n 0, 1) := by decide +kernel
theorem dX7_swap_6 : decode cX7_swap 6 = .ok (.invokevirtual 91, 3) := by decide +kernel
theorem dX7_swap_9 : decode cX7_swap 9 = .ok (.aload_n 0, 1) := by decide +kernel
theorem dX7_swap_10 : decode cX7_swap 10 = .ok (.invokevirtual 186, 3) := by decide +kernel
theorem dX7_swap_13 : decode cX7_swap 13 = .ok (.lstore_n 1, 1) := by decide +kernel
theorem dX7_swap_14 : decode cX7_swap 14 = .ok (.iconst (-1), 1) := by decide +kernel
theorem dX7_swap_15 : decode cX7_swap 15 = .ok (.istore_n 3, 1) := by decide +kernel
theorem dX7_swap_16 : decode cX7_swap 16 = .ok (.iconst (-1), 1) := by decide +kernel
theorem dX7_swap_17 : decode cX7_swap 17 = .ok (.istore 4, 2) := by decide +kernel
theorem dX7_swap_19 : decode cX7_swap 19 = .ok (.iconst 0, 1) := by decide +kernel
theorem dX7_swap_20 : decode cX7_swap 20 = .ok (.istore 5, 2) := by decide +kernel
theorem dX7_swap_22 : decode cX7_swap 22 = .ok (.iload 5, 2) := by decide +kernel
theorem dX7_swap_24 : decode cX7_swap 24 = .ok (.aload_n 0, 1) := by decide +kernel
theorem dX7_swap_25 : decode cX7_swap 25 = .ok (.invokevirtual 97, 3) := by decide +kernel
theorem dX7_swap_28 : decode cX7_swap 28 = .ok (.if_icmp .ge 122, 3) := by decide +kernel
theorem dX7_swap_31 : decode cX7_swap 31 = .ok (.aload_n 0, 1) := by decide +kernel
theorem dX7_swap_32 : decode cX7_swap 32 = .ok (.getfield 7, 3) := by decide +kernel
theorem dX7_swap_35 : decode cX7_swap 35 = .ok (.bipush 7, 2) := by decide +kernel
theorem dX7_swap_37 : decode cX7_swap 37 = .ok (.iload 5, 2) := by decide +kernel
theorem dX7_swap_39 : decode cX7_swap 39 = .ok (.iadd, 1) := by decide +kernel
theorem dX7_swap_40 : decode cX7_swap 40 = .ok (.iaload, 1) := by decide +kernel
theorem dX7_swap_41 : decode cX7_swap 41 = .ok (.ifCond .ne 6, 3) := by decide +kernel
theorem dX7_swap_44 : decode cX7_swap 44 = .ok (.goto 100, 3) := by decide +kernel
theorem dX7_swap_47 : decode cX7_swap 47 = .ok (.iconst 0, 1) := by decide +kernel
theorem dX7_swap_48 : decode cX7_swap 48 = .ok (.istore 6, 2) := by decide +kernel
theorem dX7_swap_50 : decode cX7_swap 50 = .ok (.iload 6, 2) := by decide +kernel
theorem dX7_swap_52 : decode cX7_swap 52 = .ok (.aload_n 0, 1) := by decide +kernel
theorem dX7_swap_53 : decode cX7_swap 53 = .ok (.invokevirtual 97, 3) := by decide +kernel
theorem dX7_swap_56 : decode cX7_swap 56 = .ok (.if_icmp .ge 88, 3) := by decide +kernel
theorem dX7_swap_59 : decode cX7_swap 59 = .ok (.iload 5, 2) := by decide +kernel
theorem dX7_swap_61 : decode cX7_swap 61 = .ok (.iload 6, 2) := by decide +kernel
theorem dX7_swap_63 : decode cX7_swap 63 = .ok (.if_icmp .eq 75, 3) := by decide +kernel
theorem dX7_swap_66 : decode cX7_swap 66 = .ok (.aload_n 0, 1) := by decide +kernel
theorem dX7_swap_67 : decode cX7_swap 67 = .ok (.getfield 7, 3) := by decide +kernel
theorem dX7_swap_70 : decode cX7_swap 70 = .ok (.bipush 7, 2) := by decide +kernel
theorem dX7_swap_72 : decode cX7_swap 72 = .ok (.iload 6, 2) := by decide +kernel
theorem dX7_swap_74 : decode cX7_swap 74 = .ok (.iadd, 1) := by decide +kernel
theorem dX7_swap_75 : decode cX7_swap 75 = .ok (.iaload, 1) := by decide +kernel
theorem dX7_swap_76 : decode cX7_swap 76 = .ok (.bipush 9, 2) := by decide +kernel
theorem dX7_swap_78 : decode cX7_swap 78 = .ok (.if_icmp .ne 6, 3) := by decide +kernel
theorem dX7_swap_81 : decode cX7_swap 81 = .ok (.goto 57, 3) := by decide +kernel
theorem dX7_swap_84 : decode cX7_swap 84 = .ok (.aload_n 0, 1) := by decide +kernel
theorem dX7_swap_85 : decode cX7_swap 85 = .ok (.iload 5, 2) := by decide +kernel
theorem dX7_swap_87 : decode cX7_swap 87 = .ok (.iconst (-1), 1) := by decide +kernel
theorem dX7_swap_88 : decode cX7_swap 88 = .ok (.invokevirtual 189, 3) := by decide +kernel
theorem dX7_swap_91 : decode cX7_swap 91 = .ok (.aload_n 0, 1) := by decide +kernel
theorem dX7_swap_92 : decode cX7_swap 92 = .ok (.iload 6, 2) := by decide +kernel
theorem dX7_swap_94 : decode cX7_swap 94 = .ok (.iconst 1, 1) := by decide +kernel
theorem dX7_swap_95 : decode cX7_swap 95 = .ok (.invokevirtual 189, 3) := by decide +kernel
theorem dX7_swap_98 : decode cX7_swap 98 = .ok (.aload_n 0, 1) := by decide +kernel
theorem dX7_swap_99 : decode cX7_swap 99 = .ok (.invokevirtual 186, 3) := by decide +kernel
theorem dX7_swap_102 : decode cX7_swap 102 = .ok (.lstore 7, 2) := by decide +kernel
theorem dX7_swap_104 : decode cX7_swap 104 = .ok (.aload_n 0, 1) := by decide +kernel
theorem dX7_swap_105 : decode cX7_swap 105 = .ok (.iload 5, 2) := by decide +kernel
theorem dX7_swap_107 : decode cX7_swap 107 = .ok (.iconst 1, 1) := by decide +kernel
theorem dX7_swap_108 : decode cX7_swap 108 = .ok (.invokevirtual 189, 3) := by decide +kernel
theorem dX7_swap_111 : decode cX7_swap 111 = .ok (.aload_n 0, 1) := by decide +kernel
theorem dX7_swap_112 : decode cX7_swap 112 = .ok (.iload 6, 2) := by decide +kernel
theorem dX7_swap_114 : decode cX7_swap 114 = .ok (.iconst (-1), 1) := by decide +kernel
theorem dX7_swap_115 : decode cX7_swap 115 = .ok (.invokevirtual 189, 3) := by decide +kernel
theorem dX7_swap_118 : decode cX7_swap 118 = .ok (.lload 7, 2) := by decide +kernel
theorem dX7_swap_120 : decode cX7_swap 120 = .ok (.lload_n 1, 1) := by decide +kernel
theorem dX7_swap_121 : decode cX7_swap 121 = .ok (.lcmp, 1) := by decide +kernel
theorem dX7_swap_122 : decode cX7_swap 122 = .ok (.ifCond .gt 6, 3) := by decide +kernel
theorem dX7_swap_125 : decode cX7_swap 125 = .ok (.goto 13, 3) := by decide +kernel
theorem dX7_swap_128 : decode cX7_swap 128 = .ok (.lload 7, 2) := by decide +kernel
theorem dX7_swap_130 : decode cX7_swap 130 = .ok (.lstore_n 1, 1) := by decide +kernel
theorem dX7_swap_131 : decode cX7_swap 131 = .ok (.iload 5, 2) := by decide +kernel
theorem dX7_swap_133 : decode cX7_swap 133 = .ok (.istore_n 3, 1) := by decide +kernel
theorem dX7_swap_134 : decode cX7_swap 134 = .ok (.iload 6, 2) := by decide +kernel
theorem dX7_swap_136 : decode cX7_swap 136 = .ok (.istore 4, 2) := by decide +kernel
theorem dX7_swap_138 : decode cX7_swap 138 = .ok (.iinc 6 1, 3) := by decide +kernel
theorem dX7_swap_141 : decode cX7_swap 141 = .ok (.goto (-91), 3) := by decide +kernel
theorem dX7_swap_144 : decode cX7_swap 144 = .ok (.iinc 5 1, 3) := by decide +kernel
theorem dX7_swap_147 : decode cX7_swap 147 = .ok (.goto (-125), 3) := by decide +kernel
theorem dX7_swap_150 : decode cX7_swap 150 = .ok (.iload_n 3, 1) := by decide +kernel
theorem dX7_swap_151 : decode cX7_swap 151 = .ok (.iconst (-1), 1) := by decide +kernel
theorem dX7_swap_152 : decode cX7_swap 152 = .ok (.if_icmp .ne 5, 3) := by decide +kernel
theorem dX7_swap_155 : decode cX7_swap 155 = .ok (.iconst 0, 1) := by decide +kernel
theorem dX7_swap_156 : decode cX7_swap 156 = .ok (.ireturn, 1) := by decide +kernel
theorem dX7_swap_157 : decode cX7_swap 157 = .ok (.aload_n 0, 1) := by decide +kernel
theorem dX7_swap_158 : decode cX7_swap 158 = .ok (.invokevirtual 94, 3) := by decide +kernel
theorem dX7_swap_161 : decode cX7_swap 161 = .ok (.aload_n 0, 1) := by decide +kernel
theorem dX7_swap_162 : decode cX7_swap 162 = .ok (.iload_n 3, 1) := by decide +kernel
theorem dX7_swap_163 : decode cX7_swap 163 = .ok (.iconst (-1), 1) := by decide +kernel
theorem dX7_swap_164 : decode cX7_swap 164 = .ok (.invokevirtual 189, 3) := by decide +kernel
theorem dX7_swap_167 : decode cX7_swap 167 = .ok (.aload_n 0, 1) := by decide +kernel
theorem dX7_swap_168 : decode cX7_swap 168 = .ok (.iload 4, 2) := by decide +kernel
theorem dX7_swap_170 : decode cX7_swap 170 = .ok (.iconst 1, 1) := by decide +kernel
theorem dX7_swap_171 : decode cX7_swap 171 = .ok (.invokevirtual 189, 3) := by decide +kernel
theorem dX7_swap_174 : decode cX7_swap 174 = .ok (.iconst 1, 1) := by decide +kernel
theorem dX7_swap_175 : decode cX7_swap 175 = .ok (.ireturn, 1) := by decide +kernel
set_option maxRecDepth 20000 in
theorem ggX7_next_X7_begins : GoodIn wsX7_next wsX7_begins := goodIn_r _ [7, 8, 9, 10, 11, 6, 12, 2, 52, 53, 54, 55, 56, 57, 58, 59, 60, 61, 62, 63, 64, 65, 66, 67, 68, 69, 70, 71, 72, 73, 74, 75, 76, 77, 78, 79, 80, 81] (by decide +kernel) (by decide +kernel)
set_option maxRecDepth 20000 in
theorem gX7_next_X7_begins : GoodIn wsX7_next (wsV RX7 91 RX7 yX7_begins wsX7_begins) := goodIn_app (goodIn_of _ (by decide +kernel)) ggX7_next_X7_begins
set_option maxRecDepth 20000 in
theorem ggX7_next_X7_trials : GoodIn wsX7_next wsX7_trials := goodIn_r _ [16, 2, 52, 53, 54, 55, 56, 57, 58, 59, 60, 61, 62, 63, 64, 65, 66, 67, 68, 69, 70, 71, 72, 73, 74, 75, 76, 77, 78, 79, 80, 81] (by decide +kernel) (by decide +kernel)
set_option maxRecDepth 20000 in
theorem gX7_next_X7_trials : GoodIn wsX7_next (wsV RX7 105 RX7 yX7_trials wsX7_trials) := goodIn_app (goodIn_of _ (by decide +kernel)) ggX7_next_X7_trials
set_option maxRecDepth 20000 in
theorem ggX7_next_X7_settings : GoodIn wsX7_next wsX7_settings := goodIn_r _ [20, 2, 52, 53, 54, 55, 56, 57, 58, 59, 60, 61, 62, 63, 64, 65, 66, 67, 68, 69, 70, 71, 72, 73, 74, 75, 76, 77, 78, 79, 80, 81] (by decide +kernel) (by decide +kernel)
set_option maxRecDepth 20000 in
theorem gX7_next_X7_settings : GoodIn wsX7_next (wsV RX7 97 RX7 yX7_settings wsX7_settings) := goodIn_app (goodIn_of _ (by decide +kernel)) ggX7_next_X7_settings
set_option maxRecDepth 20000 in
theorem ggX7_next_X7_moves : GoodIn wsX7_next wsX7_moves := goodIn_r _ [24, 2, 52, 53, 54, 55, 56, 57, 58, 59, 60, 61, 62, 63, 64, 65, 66, 67, 68, 69, 70, 71, 72, 73, 74, 75, 76, 77, 78, 79, 80, 81] (by decide +kernel) (by decide +kernel)
set_option maxRecDepth 20000 in
theorem gX7_next_X7_moves : GoodIn wsX7_next (wsV RX7 189 RX7 yX7_moves wsX7_moves) := goodIn_app (goodIn_of _ (by decide +kernel)) ggX7_next_X7_moves
set_option maxRecDepth 20000 in
theorem ggX7_next_X7_worthNow : GoodIn wsX7_next wsX7_worthNow := goodIn_r _ [28, 29, 30, 31, 6, 32, 33, 2, 17, 18, 19, 20, 34, 35, 36, 37, 38, 39, 40, 41, 42, 43, 44, 45, 46, 47, 48, 49, 50, 51, 52, 53, 54, 55, 56, 57, 58, 59, 60, 61, 62, 63, 64, 65, 66, 67, 68, 69, 70, 71, 72, 73, 74, 75, 76, 77, 78, 79, 80, 81] (by decide +kernel) (by decide +kernel)
set_option maxRecDepth 20000 in
theorem gX7_next_X7_worthNow : GoodIn wsX7_next (wsV RX7 186 RX7 yX7_worthNow wsX7_worthNow) := goodIn_app (goodIn_of _ (by decide +kernel)) ggX7_next_X7_worthNow
theorem dX7_next_0 : decode cX7_next 0 = .ok (.aload_n 0, 1) := by decide +kernel
theorem dX7_next_1 : decode cX7_next 1 = .ok (.iconst 0, 1) := by decide +kernel
theorem dX7_next_2 : decode cX7_next 2 = .ok (.putfield 76, 3) := by decide +kernel
theorem dX7_next_5 : decode cX7_next 5 = .ok (.aload_n 0, 1) := by decide +kernel
theorem dX7_next_6 : decode cX7_next 6 = .ok (.invokevirtual 91, 3) := by decide +kernel
theorem dX7_next_9 : decode cX7_next 9 = .ok (.aload_n 0, 1) := by decide +kernel
theorem dX7_next_10 : decode cX7_next 10 = .ok (.invokevirtual 105, 3) := by decide +kernel
theorem dX7_next_13 : decode cX7_next 13 = .ok (.bipush 40, 2) := by decide +kernel
theorem dX7_next_15 : decode cX7_next 15 = .ok (.if_icmp .ne 5, 3) := by decide +kernel
theorem dX7_next_18 : decode cX7_next 18 = .ok (.iconst (-1), 1) := by decide +kernel
theorem dX7_next_19 : decode cX7_next 19 = .ok (.ireturn, 1) := by decide +kernel
theorem dX7_next_20 : decode cX7_next 20 = .ok (.iconst (-1), 1) := by decide +kernel
theorem dX7_next_21 : decode cX7_next 21 = .ok (.istore_n 1, 1) := by decide +kernel
theorem dX7_next_22 : decode cX7_next 22 = .ok (.lconst 0, 1) := by decide +kernel
theorem dX7_next_23 : decode cX7_next 23 = .ok (.lstore_n 2, 1) := by decide +kernel
theorem dX7_next_24 : decode cX7_next 24 = .ok (.iconst 0, 1) := by decide +kernel
theorem dX7_next_25 : decode cX7_next 25 = .ok (.istore 4, 2) := by decide +kernel
theorem dX7_next_27 : decode cX7_next 27 = .ok (.iload 4, 2) := by decide +kernel
theorem dX7_next_29 : decode cX7_next 29 = .ok (.aload_n 0, 1) := by decide +kernel
theorem dX7_next_30 : decode cX7_next 30 = .ok (.invokevirtual 97, 3) := by decide +kernel
theorem dX7_next_33 : decode cX7_next 33 = .ok (.if_icmp .ge 68, 3) := by decide +kernel
theorem dX7_next_36 : decode cX7_next 36 = .ok (.aload_n 0, 1) := by decide +kernel
theorem dX7_next_37 : decode cX7_next 37 = .ok (.getfield 7, 3) := by decide +kernel
theorem dX7_next_40 : decode cX7_next 40 = .ok (.bipush 7, 2) := by decide +kernel
theorem dX7_next_42 : decode cX7_next 42 = .ok (.iload 4, 2) := by decide +kernel
theorem dX7_next_44 : decode cX7_next 44 = .ok (.iadd, 1) := by decide +kernel
theorem dX7_next_45 : decode cX7_next 45 = .ok (.iaload, 1) := by decide +kernel
theorem dX7_next_46 : decode cX7_next 46 = .ok (.bipush 9, 2) := by decide +kernel
theorem dX7_next_48 : decode cX7_next 48 = .ok (.if_icmp .ne 6, 3) := by decide +kernel
theorem dX7_next_51 : decode cX7_next 51 = .ok (.goto 44, 3) := by decide +kernel
theorem dX7_next_54 : decode cX7_next 54 = .ok (.aload_n 0, 1) := by decide +kernel
theorem dX7_next_55 : decode cX7_next 55 = .ok (.iload 4, 2) := by decide +kernel
theorem dX7_next_57 : decode cX7_next 57 = .ok (.iconst 1, 1) := by decide +kernel
theorem dX7_next_58 : decode cX7_next 58 = .ok (.invokevirtual 189, 3) := by decide +kernel
theorem dX7_next_61 : decode cX7_next 61 = .ok (.aload_n 0, 1) := by decide +kernel
theorem dX7_next_62 : decode cX7_next 62 = .ok (.invokevirtual 186, 3) := by decide +kernel
theorem dX7_next_65 : decode cX7_next 65 = .ok (.lstore 5, 2) := by decide +kernel
theorem dX7_next_67 : decode cX7_next 67 = .ok (.aload_n 0, 1) := by decide +kernel
theorem dX7_next_68 : decode cX7_next 68 = .ok (.iload 4, 2) := by decide +kernel
theorem dX7_next_70 : decode cX7_next 70 = .ok (.iconst (-1), 1) := by decide +kernel
theorem dX7_next_71 : decode cX7_next 71 = .ok (.invokevirtual 189, 3) := by decide +kernel
theorem dX7_next_74 : decode cX7_next 74 = .ok (.iload_n 1, 1) := by decide +kernel
theorem dX7_next_75 : decode cX7_next 75 = .ok (.iconst (-1), 1) := by decide +kernel
theorem dX7_next_76 : decode cX7_next 76 = .ok (.if_icmp .eq 13, 3) := by decide +kernel
theorem dX7_next_79 : decode cX7_next 79 = .ok (.lload 5, 2) := by decide +kernel
theorem dX7_next_81 : decode cX7_next 81 = .ok (.lload_n 2, 1) := by decide +kernel
theorem dX7_next_82 : decode cX7_next 82 = .ok (.lcmp, 1) := by decide +kernel
theorem dX7_next_83 : decode cX7_next 83 = .ok (.ifCond .gt 6, 3) := by decide +kernel
theorem dX7_next_86 : decode cX7_next 86 = .ok (.goto 9, 3) := by decide +kernel
theorem dX7_next_89 : decode cX7_next 89 = .ok (.iload 4, 2) := by decide +kernel
theorem dX7_next_91 : decode cX7_next 91 = .ok (.istore_n 1, 1) := by decide +kernel
theorem dX7_next_92 : decode cX7_next 92 = .ok (.lload 5, 2) := by decide +kernel
theorem dX7_next_94 : decode cX7_next 94 = .ok (.lstore_n 2, 1) := by decide +kernel
theorem dX7_next_95 : decode cX7_next 95 = .ok (.iinc 4 1, 3) := by decide +kernel
theorem dX7_next_98 : decode cX7_next 98 = .ok (.goto (-71), 3) := by decide +kernel
theorem dX7_next_101 : decode cX7_next 101 = .ok (.iload_n 1, 1) := by decide +kernel
theorem dX7_next_102 : decode cX7_next 102 = .ok (.ireturn, 1) := by decide +kernel
set_option maxRecDepth 20000 in
theorem ggX7_multiplies_X7_joins : GoodIn wsX7_multiplies wsX7_joins := goodIn_r _ [8, 1, 2, 9, 10, 11, 12, 13, 14, 15, 16, 17, 18, 19, 20, 21, 22, 23, 24, 25, 26, 27, 28, 29, 30, 31, 32, 33, 34, 35, 36, 37, 38] (by decide +kernel) (by decide +kernel)
set_option maxRecDepth 20000 in
theorem gX7_multiplies_X7_joins : GoodIn wsX7_multiplies (wsV RX7 196 RX7 yX7_joins wsX7_joins) := goodIn_app (goodIn_of _ (by decide +kernel)) ggX7_multiplies_X7_joins
theorem dX7_multiplies_0 : decode cX7_multiplies 0 = .ok (.aload_n 0, 1) := by decide +kernel
theorem dX7_multiplies_1 : decode cX7_multiplies 1 = .ok (.iconst 1, 1) := by decide +kernel
theorem dX7_multiplies_2 : decode cX7_multiplies 2 = .ok (.putfield 193, 3) := by decide +kernel
theorem dX7_multiplies_5 : decode cX7_multiplies 5 = .ok (.aload_n 0, 1) := by decide +kernel
theorem dX7_multiplies_6 : decode cX7_multiplies 6 = .ok (.getfield 47, 3) := by decide +kernel
theorem dX7_multiplies_9 : decode cX7_multiplies 9 = .ok (.iconst 0, 1) := by decide +kernel
theorem dX7_multiplies_10 : decode cX7_multiplies 10 = .ok (.iconst 0, 1) := by decide +kernel
theorem dX7_multiplies_11 : decode cX7_multiplies 11 = .ok (.iastore, 1) := by decide +kernel
theorem dX7_multiplies_12 : decode cX7_multiplies 12 = .ok (.iconst 0, 1) := by decide +kernel
theorem dX7_multiplies_13 : decode cX7_multiplies 13 = .ok (.istore_n 2, 1) := by decide +kernel
theorem dX7_multiplies_14 : decode cX7_multiplies 14 = .ok (.iload_n 2, 1) := by decide +kernel
theorem dX7_multiplies_15 : decode cX7_multiplies 15 = .ok (.iconst 4, 1) := by decide +kernel
theorem dX7_multiplies_16 : decode cX7_multiplies 16 = .ok (.if_icmp .ge 39, 3) := by decide +kernel
theorem dX7_multiplies_19 : decode cX7_multiplies 19 = .ok (.iload_n 2, 1) := by decide +kernel
theorem dX7_multiplies_20 : decode cX7_multiplies 20 = .ok (.iload_n 1, 1) := by decide +kernel
theorem dX7_multiplies_21 : decode cX7_multiplies 21 = .ok (.if_icmp .eq 28, 3) := by decide +kernel
theorem dX7_multiplies_24 : decode cX7_multiplies 24 = .ok (.aload_n 0, 1) := by decide +kernel
theorem dX7_multiplies_25 : decode cX7_multiplies 25 = .ok (.getfield 7, 3) := by decide +kernel
theorem dX7_multiplies_28 : decode cX7_multiplies 28 = .ok (.bipush 71, 2) := by decide +kernel
theorem dX7_multiplies_30 : decode cX7_multiplies 30 = .ok (.iload_n 2, 1) := by decide +kernel
theorem dX7_multiplies_31 : decode cX7_multiplies 31 = .ok (.iadd, 1) := by decide +kernel
theorem dX7_multiplies_32 : decode cX7_multiplies 32 = .ok (.iaload, 1) := by decide +kernel
theorem dX7_multiplies_33 : decode cX7_multiplies 33 = .ok (.ifCond .eq 16, 3) := by decide +kernel
theorem dX7_multiplies_36 : decode cX7_multiplies 36 = .ok (.aload_n 0, 1) := by decide +kernel
theorem dX7_multiplies_37 : decode cX7_multiplies 37 = .ok (.aload_n 0, 1) := by decide +kernel
theorem dX7_multiplies_38 : decode cX7_multiplies 38 = .ok (.getfield 7, 3) := by decide +kernel
theorem dX7_multiplies_41 : decode cX7_multiplies 41 = .ok (.bipush 71, 2) := by decide +kernel
theorem dX7_multiplies_43 : decode cX7_multiplies 43 = .ok (.iload_n 2, 1) := by decide +kernel
theorem dX7_multiplies_44 : decode cX7_multiplies 44 = .ok (.iadd, 1) := by decide +kernel
theorem dX7_multiplies_45 : decode cX7_multiplies 45 = .ok (.iaload, 1) := by decide +kernel
theorem dX7_multiplies_46 : decode cX7_multiplies 46 = .ok (.invokevirtual 196, 3) := by decide +kernel
theorem dX7_multiplies_49 : decode cX7_multiplies 49 = .ok (.iinc 2 1, 3) := by decide +kernel
theorem dX7_multiplies_52 : decode cX7_multiplies 52 = .ok (.goto (-38), 3) := by decide +kernel
theorem dX7_multiplies_55 : decode cX7_multiplies 55 = .ok (.return_, 1) := by decide +kernel
theorem dX7_joins_0 : decode cX7_joins 0 = .ok (.iconst 0, 1) := by decide +kernel
theorem dX7_joins_1 : decode cX7_joins 1 = .ok (.istore_n 2, 1) := by decide +kernel
theorem dX7_joins_2 : decode cX7_joins 2 = .ok (.iload_n 2, 1) := by decide +kernel
theorem dX7_joins_3 : decode cX7_joins 3 = .ok (.aload_n 0, 1) := by decide +kernel
theorem dX7_joins_4 : decode cX7_joins 4 = .ok (.getfield 193, 3) := by decide +kernel
theorem dX7_joins_7 : decode cX7_joins 7 = .ok (.if_icmp .ge 28, 3) := by decide +kernel
theorem dX7_joins_10 : decode cX7_joins 10 = .ok (.aload_n 0, 1) := by decide +kernel
theorem dX7_joins_11 : decode cX7_joins 11 = .ok (.getfield 47, 3) := by decide +kernel
theorem dX7_joins_14 : decode cX7_joins 14 = .ok (.aload_n 0, 1) := by decide +kernel
theorem dX7_joins_15 : decode cX7_joins 15 = .ok (.getfield 193, 3) := by decide +kernel
theorem dX7_joins_18 : decode cX7_joins 18 = .ok (.iload_n 2, 1) := by decide +kernel
theorem dX7_joins_19 : decode cX7_joins 19 = .ok (.iadd, 1) := by decide +kernel
theorem dX7_joins_20 : decode cX7_joins 20 = .ok (.aload_n 0, 1) := by decide +kernel
theorem dX7_joins_21 : decode cX7_joins 21 = .ok (.getfield 47, 3) := by decide +kernel
theorem dX7_joins_24 : decode cX7_joins 24 = .ok (.iload_n 2, 1) := by decide +kernel
theorem dX7_joins_25 : decode cX7_joins 25 = .ok (.iaload, 1) := by decide +kernel
theorem dX7_joins_26 : decode cX7_joins 26 = .ok (.iload_n 1, 1) := by decide +kernel
theorem dX7_joins_27 : decode cX7_joins 27 = .ok (.ixor, 1) := by decide +kernel
theorem dX7_joins_28 : decode cX7_joins 28 = .ok (.iastore, 1) := by decide +kernel
theorem dX7_joins_29 : decode cX7_joins 29 = .ok (.iinc 2 1, 3) := by decide +kernel
theorem dX7_joins_32 : decode cX7_joins 32 = .ok (.goto (-30), 3) := by decide +kernel
theorem dX7_joins_35 : decode cX7_joins 35 = .ok (.aload_n 0, 1) := by decide +kernel
theorem dX7_joins_36 : decode cX7_joins 36 = .ok (.iconst 2, 1) := by decide +kernel
theorem dX7_joins_37 : decode cX7_joins 37 = .ok (.aload_n 0, 1) := by decide +kernel
theorem dX7_joins_38 : decode cX7_joins 38 = .ok (.getfield 193, 3) := by decide +kernel
theorem dX7_joins_41 : decode cX7_joins 41 = .ok (.imul, 1) := by decide +kernel
theorem dX7_joins_42 : decode cX7_joins 42 = .ok (.putfield 193, 3) := by decide +kernel
theorem dX7_joins_45 : decode cX7_joins 45 = .ok (.return_, 1) := by decide +kernel
theorem dX7_isProduct_0 : decode cX7_isProduct 0 = .ok (.iconst 0, 1) := by decide +kernel
theorem dX7_isProduct_1 : decode cX7_isProduct 1 = .ok (.istore_n 2, 1) := by decide +kernel
theorem dX7_isProduct_2 : decode cX7_isProduct 2 = .ok (.iload_n 2, 1) := by decide +kernel
theorem dX7_isProduct_3 : decode cX7_isProduct 3 = .ok (.aload_n 0, 1) := by decide +kernel
theorem dX7_isProduct_4 : decode cX7_isProduct 4 = .ok (.getfield 193, 3) := by decide +kernel
theorem dX7_isProduct_7 : decode cX7_isProduct 7 = .ok (.if_icmp .ge 21, 3) := by decide +kernel
theorem dX7_isProduct_10 : decode cX7_isProduct 10 = .ok (.aload_n 0, 1) := by decide +kernel
theorem dX7_isProduct_11 : decode cX7_isProduct 11 = .ok (.getfield 47, 3) := by decide +kernel
theorem dX7_isProduct_14 : decode cX7_isProduct 14 = .ok (.iload_n 2, 1) := by decide +kernel
theorem dX7_isProduct_15 : decode cX7_isProduct 15 = .ok (.iaload, 1) := by decide +kernel
theorem dX7_isProduct_16 : decode cX7_isProduct 16 = .ok (.iload_n 1, 1) := by decide +kernel
theorem dX7_isProduct_17 : decode cX7_isProduct 17 = .ok (.if_icmp .ne 5, 3) := by decide +kernel
theorem dX7_isProduct_20 : decode cX7_isProduct 20 = .ok (.iconst 1, 1) := by decide +kernel
theorem dX7_isProduct_21 : decode cX7_isProduct 21 = .ok (.ireturn, 1) := by decide +kernel
theorem dX7_isProduct_22 : decode cX7_isProduct 22 = .ok (.iinc 2 1, 3) := by decide +kernel
theorem dX7_isProduct_25 : decode cX7_isProduct 25 = .ok (.goto (-23), 3) := by decide +kernel
theorem dX7_isProduct_28 : decode cX7_isProduct 28 = .ok (.iconst 0, 1) := by decide +kernel
theorem dX7_isProduct_29 : decode cX7_isProduct 29 = .ok (.ireturn, 1) := by decide +kernel
set_option maxRecDepth 20000 in
theorem ggX7_word_X7_begins : GoodIn wsX7_word wsX7_begins := goodIn_r _ [7, 8, 9, 10, 11, 6, 12, 2, 41, 42, 43, 44, 45, 46, 47, 48, 49, 50, 51, 52, 53, 54, 55, 56, 57, 58, 59, 60, 61, 62, 63, 64, 65, 66, 67, 68, 69, 70] (by decide +kernel) (by decide +kernel)
set_option maxRecDepth 20000 in
theorem gX7_word_X7_begins : GoodIn wsX7_word (wsV RX7 91 RX7 yX7_begins wsX7_begins) := goodIn_app (goodIn_of _ (by decide +kernel)) ggX7_word_X7_begins
set_option maxRecDepth 20000 in
theorem ggX7_word_X7_isSetting : GoodIn wsX7_word wsX7_isSetting := goodIn_r _ [16, 17, 18, 19, 6, 20, 2, 41, 42, 43, 44, 45, 46, 47, 48, 49, 50, 51, 52, 53, 54, 55, 56, 57, 58, 59, 60, 61, 62, 63, 64, 65, 66, 67, 68, 69, 70] (by decide +kernel) (by decide +kernel)
set_option maxRecDepth 20000 in
theorem gX7_word_X7_isSetting : GoodIn wsX7_word (wsV RX7 101 RX7 yX7_isSetting wsX7_isSetting) := goodIn_app (goodIn_of _ (by decide +kernel)) ggX7_word_X7_isSetting
set_option maxRecDepth 20000 in
theorem ggX7_word_X7_multiplies : GoodIn wsX7_word wsX7_multiplies := goodIn_r _ [24, 25, 26, 2, 27, 28, 29, 6, 30, 41, 42, 43, 44, 45, 46, 47, 48, 49, 50, 51, 52, 53, 54, 55, 56, 57, 58, 59, 60, 61, 62, 63, 64, 65, 66, 67, 68, 69, 70] (by decide +kernel) (by decide +kernel)
set_option maxRecDepth 20000 in
theorem gX7_word_X7_multiplies : GoodIn wsX7_word (wsV RX7 199 RX7 yX7_multiplies wsX7_multiplies) := goodIn_app (goodIn_of _ (by decide +kernel)) ggX7_word_X7_multiplies
set_option maxRecDepth 20000 in
theorem ggX7_word_X7_isProduct : GoodIn wsX7_word wsX7_isProduct := goodIn_r _ [34, 25, 26, 41, 42, 43, 44, 45, 46, 47, 48, 49, 50, 51, 52, 53, 54, 55, 56, 57, 58, 59, 60, 61, 62, 63, 64, 65, 66, 67, 68, 69, 70] (by decide +kernel) (by decide +kernel)
set_option maxRecDepth 20000 in
theorem gX7_word_X7_isProduct : GoodIn wsX7_word (wsV RX7 202 RX7 yX7_isProduct wsX7_isProduct) := goodIn_app (goodIn_of _ (by decide +kernel)) ggX7_word_X7_isProduct
set_option maxRecDepth 20000 in
theorem ggX7_word_X7_keep : GoodIn wsX7_word wsX7_keep := goodIn_r _ [38, 39, 40, 2, 41, 42, 43, 44, 45, 46, 47, 48, 49, 50, 51, 52, 53, 54, 55, 56, 57, 58, 59, 60, 61, 62, 63, 64, 65, 66, 67, 68, 69, 70] (by decide +kernel) (by decide +kernel)
set_option maxRecDepth 20000 in
theorem gX7_word_X7_keep : GoodIn wsX7_word (wsV RX7 94 RX7 yX7_keep wsX7_keep) := goodIn_app (goodIn_of _ (by decide +kernel)) ggX7_word_X7_keep
theorem dX7_word_0 : decode cX7_word 0 = .ok (.aload_n 0, 1) := by decide +kernel
theorem dX7_word_1 : decode cX7_word 1 = .ok (.iconst 0, 1) := by decide +kernel
theorem dX7_word_2 : decode cX7_word 2 = .ok (.putfield 76, 3) := by decide +kernel
theorem dX7_word_5 : decode cX7_word 5 = .ok (.aload_n 0, 1) := by decide +kernel
theorem dX7_word_6 : decode cX7_word 6 = .ok (.invokevirtual 91, 3) := by decide +kernel
theorem dX7_word_9 : decode cX7_word 9 = .ok (.iload_n 1, 1) := by decide +kernel
theorem dX7_word_10 : decode cX7_word 10 = .ok (.ifCond .lt 16, 3) := by decide +kernel
theorem dX7_word_13 : decode cX7_word 13 = .ok (.iload_n 1, 1) := by decide +kernel
theorem dX7_word_14 : decode cX7_word 14 = .ok (.iconst 3, 1) := by decide +kernel
theorem dX7_word_15 : decode cX7_word 15 = .ok (.if_icmp .gt 11, 3) := by decide +kernel
theorem dX7_word_18 : decode cX7_word 18 = .ok (.aload_n 0, 1) := by decide +kernel
theorem dX7_word_19 : decode cX7_word 19 = .ok (.iload_n 2, 1) := by decide +kernel
theorem dX7_word_20 : decode cX7_word 20 = .ok (.invokevirtual 101, 3) := by decide +kernel
theorem dX7_word_23 : decode cX7_word 23 = .ok (.ifCond .ne 5, 3) := by decide +kernel
theorem dX7_word_26 : decode cX7_word 26 = .ok (.iconst 0, 1) := by decide +kernel
theorem dX7_word_27 : decode cX7_word 27 = .ok (.ireturn, 1) := by decide +kernel
theorem dX7_word_28 : decode cX7_word 28 = .ok (.iload_n 2, 1) := by decide +kernel
theorem dX7_word_29 : decode cX7_word 29 = .ok (.ifCond .eq 30, 3) := by decide +kernel
theorem dX7_word_32 : decode cX7_word 32 = .ok (.iload_n 3, 1) := by decide +kernel
theorem dX7_word_33 : decode cX7_word 33 = .ok (.iconst 1, 1) := by decide +kernel
theorem dX7_word_34 : decode cX7_word 34 = .ok (.if_icmp .eq 10, 3) := by decide +kernel
theorem dX7_word_37 : decode cX7_word 37 = .ok (.iload_n 3, 1) := by decide +kernel
theorem dX7_word_38 : decode cX7_word 38 = .ok (.iconst (-1), 1) := by decide +kernel
theorem dX7_word_39 : decode cX7_word 39 = .ok (.if_icmp .eq 5, 3) := by decide +kernel
theorem dX7_word_42 : decode cX7_word 42 = .ok (.iconst 0, 1) := by decide +kernel
theorem dX7_word_43 : decode cX7_word 43 = .ok (.ireturn, 1) := by decide +kernel
theorem dX7_word_44 : decode cX7_word 44 = .ok (.aload_n 0, 1) := by decide +kernel
theorem dX7_word_45 : decode cX7_word 45 = .ok (.iload_n 1, 1) := by decide +kernel
theorem dX7_word_46 : decode cX7_word 46 = .ok (.invokevirtual 199, 3) := by decide +kernel
theorem dX7_word_49 : decode cX7_word 49 = .ok (.aload_n 0, 1) := by decide +kernel
theorem dX7_word_50 : decode cX7_word 50 = .ok (.iload_n 2, 1) := by decide +kernel
theorem dX7_word_51 : decode cX7_word 51 = .ok (.invokevirtual 202, 3) := by decide +kernel
theorem dX7_word_54 : decode cX7_word 54 = .ok (.ifCond .eq 5, 3) := by decide +kernel
theorem dX7_word_57 : decode cX7_word 57 = .ok (.iconst 0, 1) := by decide +kernel
theorem dX7_word_58 : decode cX7_word 58 = .ok (.ireturn, 1) := by decide +kernel
theorem dX7_word_59 : decode cX7_word 59 = .ok (.aload_n 0, 1) := by decide +kernel
theorem dX7_word_60 : decode cX7_word 60 = .ok (.invokevirtual 94, 3) := by decide +kernel
theorem dX7_word_63 : decode cX7_word 63 = .ok (.aload_n 0, 1) := by decide +kernel
theorem dX7_word_64 : decode cX7_word 64 = .ok (.getfield 7, 3) := by decide +kernel
theorem dX7_word_67 : decode cX7_word 67 = .ok (.bipush 71, 2) := by decide +kernel
theorem dX7_word_69 : decode cX7_word 69 = .ok (.iload_n 1, 1) := by decide +kernel
theorem dX7_word_70 : decode cX7_word 70 = .ok (.iadd, 1) := by decide +kernel
theorem dX7_word_71 : decode cX7_word 71 = .ok (.iload_n 2, 1) := by decide +kernel
theorem dX7_word_72 : decode cX7_word 72 = .ok (.iastore, 1) := by decide +kernel
theorem dX7_word_73 : decode cX7_word 73 = .ok (.aload_n 0, 1) := by decide +kernel
theorem dX7_word_74 : decode cX7_word 74 = .ok (.getfield 7, 3) := by decide +kernel
theorem dX7_word_77 : decode cX7_word 77 = .ok (.bipush 75, 2) := by decide +kernel
theorem dX7_word_79 : decode cX7_word 79 = .ok (.iload_n 1, 1) := by decide +kernel
theorem dX7_word_80 : decode cX7_word 80 = .ok (.iadd, 1) := by decide +kernel
theorem dX7_word_81 : decode cX7_word 81 = .ok (.iload_n 2, 1) := by decide +kernel
theorem dX7_word_82 : decode cX7_word 82 = .ok (.ifCond .ne 7, 3) := by decide +kernel
theorem dX7_word_85 : decode cX7_word 85 = .ok (.iconst 0, 1) := by decide +kernel
theorem dX7_word_86 : decode cX7_word 86 = .ok (.goto 4, 3) := by decide +kernel
theorem dX7_word_89 : decode cX7_word 89 = .ok (.iload_n 3, 1) := by decide +kernel
theorem dX7_word_90 : decode cX7_word 90 = .ok (.iastore, 1) := by decide +kernel
theorem dX7_word_91 : decode cX7_word 91 = .ok (.iconst 1, 1) := by decide +kernel
theorem dX7_word_92 : decode cX7_word 92 = .ok (.ireturn, 1) := by decide +kernel
set_option maxRecDepth 20000 in
theorem ggX7_isOfPart_X7_markOf : GoodIn wsX7_isOfPart wsX7_markOf := goodIn_r _ [6, 7, 8, 9, 5, 10] (by decide +kernel) (by decide +kernel)
set_option maxRecDepth 20000 in
theorem gX7_isOfPart_X7_markOf : GoodIn wsX7_isOfPart (wsV RX7 112 RX7 yX7_markOf wsX7_markOf) := goodIn_app (goodIn_of _ (by decide +kernel)) ggX7_isOfPart_X7_markOf
theorem dX7_isOfPart_0 : decode cX7_isOfPart 0 = .ok (.iconst 0, 1) := by decide +kernel
theorem dX7_isOfPart_1 : decode cX7_isOfPart 1 = .ok (.istore_n 2, 1) := by decide +kernel
theorem dX7_isOfPart_2 : decode cX7_isOfPart 2 = .ok (.iload_n 2, 1) := by decide +kernel
theorem dX7_isOfPart_3 : decode cX7_isOfPart 3 = .ok (.iconst 4, 1) := by decide +kernel
theorem dX7_isOfPart_4 : decode cX7_isOfPart 4 = .ok (.if_icmp .ge 49, 3) := by decide +kernel
theorem dX7_isOfPart_7 : decode cX7_isOfPart 7 = .ok (.aload_n 0, 1) := by decide +kernel
theorem dX7_isOfPart_8 : decode cX7_isOfPart 8 = .ok (.getfield 7, 3) := by decide +kernel
theorem dX7_isOfPart_11 : decode cX7_isOfPart 11 = .ok (.bipush 71, 2) := by decide +kernel
theorem dX7_isOfPart_13 : decode cX7_isOfPart 13 = .ok (.iload_n 2, 1) := by decide +kernel
theorem dX7_isOfPart_14 : decode cX7_isOfPart 14 = .ok (.iadd, 1) := by decide +kernel
theorem dX7_isOfPart_15 : decode cX7_isOfPart 15 = .ok (.iaload, 1) := by decide +kernel
theorem dX7_isOfPart_16 : decode cX7_isOfPart 16 = .ok (.ifCond .eq 31, 3) := by decide +kernel
theorem dX7_isOfPart_19 : decode cX7_isOfPart 19 = .ok (.aload_n 0, 1) := by decide +kernel
theorem dX7_isOfPart_20 : decode cX7_isOfPart 20 = .ok (.aload_n 0, 1) := by decide +kernel
theorem dX7_isOfPart_21 : decode cX7_isOfPart 21 = .ok (.getfield 7, 3) := by decide +kernel
theorem dX7_isOfPart_24 : decode cX7_isOfPart 24 = .ok (.bipush 71, 2) := by decide +kernel
theorem dX7_isOfPart_26 : decode cX7_isOfPart 26 = .ok (.iload_n 2, 1) := by decide +kernel
theorem dX7_isOfPart_27 : decode cX7_isOfPart 27 = .ok (.iadd, 1) := by decide +kernel
theorem dX7_isOfPart_28 : decode cX7_isOfPart 28 = .ok (.iaload, 1) := by decide +kernel
theorem dX7_isOfPart_29 : decode cX7_isOfPart 29 = .ok (.iload_n 1, 1) := by decide +kernel
theorem dX7_isOfPart_30 : decode cX7_isOfPart 30 = .ok (.invokevirtual 112, 3) := by decide +kernel
theorem dX7_isOfPart_33 : decode cX7_isOfPart 33 = .ok (.aload_n 0, 1) := by decide +kernel
theorem dX7_isOfPart_34 : decode cX7_isOfPart 34 = .ok (.getfield 7, 3) := by decide +kernel
theorem dX7_isOfPart_37 : decode cX7_isOfPart 37 = .ok (.bipush 75, 2) := by decide +kernel
theorem dX7_isOfPart_39 : decode cX7_isOfPart 39 = .ok (.iload_n 2, 1) := by decide +kernel
theorem dX7_isOfPart_40 : decode cX7_isOfPart 40 = .ok (.iadd, 1) := by decide +kernel
theorem dX7_isOfPart_41 : decode cX7_isOfPart 41 = .ok (.iaload, 1) := by decide +kernel
theorem dX7_isOfPart_42 : decode cX7_isOfPart 42 = .ok (.if_icmp .eq 5, 3) := by decide +kernel
theorem dX7_isOfPart_45 : decode cX7_isOfPart 45 = .ok (.iconst 0, 1) := by decide +kernel
theorem dX7_isOfPart_46 : decode cX7_isOfPart 46 = .ok (.ireturn, 1) := by decide +kernel
theorem dX7_isOfPart_47 : decode cX7_isOfPart 47 = .ok (.iinc 2 1, 3) := by decide +kernel
theorem dX7_isOfPart_50 : decode cX7_isOfPart 50 = .ok (.goto (-48), 3) := by decide +kernel
theorem dX7_isOfPart_53 : decode cX7_isOfPart 53 = .ok (.iconst 1, 1) := by decide +kernel
theorem dX7_isOfPart_54 : decode cX7_isOfPart 54 = .ok (.ireturn, 1) := by decide +kernel
set_option maxRecDepth 20000 in
theorem ggX7_part_X7_begins : GoodIn wsX7_part wsX7_begins := goodIn_r _ [7, 8, 9, 10, 11, 6, 12, 2, 39, 40, 41, 42, 43, 44, 45, 46, 47, 48, 49, 50, 51, 52, 53, 54, 55, 56, 57, 58, 59, 60, 61, 62, 63, 64, 65, 66, 67, 68] (by decide +kernel) (by decide +kernel)
set_option maxRecDepth 20000 in
theorem gX7_part_X7_begins : GoodIn wsX7_part (wsV RX7 91 RX7 yX7_begins wsX7_begins) := goodIn_app (goodIn_of _ (by decide +kernel)) ggX7_part_X7_begins
set_option maxRecDepth 20000 in
theorem ggX7_part_X7_settings : GoodIn wsX7_part wsX7_settings := goodIn_r _ [16, 2, 39, 40, 41, 42, 43, 44, 45, 46, 47, 48, 49, 50, 51, 52, 53, 54, 55, 56, 57, 58, 59, 60, 61, 62, 63, 64, 65, 66, 67, 68] (by decide +kernel) (by decide +kernel)
set_option maxRecDepth 20000 in
theorem gX7_part_X7_settings : GoodIn wsX7_part (wsV RX7 97 RX7 yX7_settings wsX7_settings) := goodIn_app (goodIn_of _ (by decide +kernel)) ggX7_part_X7_settings
set_option maxRecDepth 20000 in
theorem ggX7_part_X7_isOfPart : GoodIn wsX7_part wsX7_isOfPart := goodIn_r _ [20, 2, 21, 22, 23, 6, 24, 25, 26, 27, 28, 39, 40, 41, 42, 43, 44, 45, 46, 47, 48, 49, 50, 51, 52, 53, 54, 55, 56, 57, 58, 59, 60, 61, 62, 63, 64, 65, 66, 67, 68] (by decide +kernel) (by decide +kernel)
set_option maxRecDepth 20000 in
theorem gX7_part_X7_isOfPart : GoodIn wsX7_part (wsV RX7 205 RX7 yX7_isOfPart wsX7_isOfPart) := goodIn_app (goodIn_of _ (by decide +kernel)) ggX7_part_X7_isOfPart
set_option maxRecDepth 20000 in
theorem ggX7_part_X7_keep : GoodIn wsX7_part wsX7_keep := goodIn_r _ [32, 33, 34, 2, 39, 40, 41, 42, 43, 44, 45, 46, 47, 48, 49, 50, 51, 52, 53, 54, 55, 56, 57, 58, 59, 60, 61, 62, 63, 64, 65, 66, 67, 68] (by decide +kernel) (by decide +kernel)
set_option maxRecDepth 20000 in
theorem gX7_part_X7_keep : GoodIn wsX7_part (wsV RX7 94 RX7 yX7_keep wsX7_keep) := goodIn_app (goodIn_of _ (by decide +kernel)) ggX7_part_X7_keep
set_option maxRecDepth 20000 in
theorem ggX7_part_X7_isSetting : GoodIn wsX7_part wsX7_isSetting := goodIn_r _ [38, 13, 14, 15, 6, 16, 2, 39, 40, 41, 42, 43, 44, 45, 46, 47, 48, 49, 50, 51, 52, 53, 54, 55, 56, 57, 58, 59, 60, 61, 62, 63, 64, 65, 66, 67, 68] (by decide +kernel) (by decide +kernel)
set_option maxRecDepth 20000 in
theorem gX7_part_X7_isSetting : GoodIn wsX7_part (wsV RX7 101 RX7 yX7_isSetting wsX7_isSetting) := goodIn_app (goodIn_of _ (by decide +kernel)) ggX7_part_X7_isSetting
theorem dX7_part_0 : decode cX7_part 0 = .ok (.aload_n 0, 1) := by decide +kernel
theorem dX7_part_1 : decode cX7_part 1 = .ok (.iconst 0, 1) := by decide +kernel
theorem dX7_part_2 : decode cX7_part 2 = .ok (.putfield 76, 3) := by decide +kernel
theorem dX7_part_5 : decode cX7_part 5 = .ok (.aload_n 0, 1) := by decide +kernel
theorem dX7_part_6 : decode cX7_part 6 = .ok (.invokevirtual 91, 3) := by decide +kernel
theorem dX7_part_9 : decode cX7_part 9 = .ok (.iconst 0, 1) := by decide +kernel
theorem dX7_part_10 : decode cX7_part 10 = .ok (.istore_n 2, 1) := by decide +kernel
theorem dX7_part_11 : decode cX7_part 11 = .ok (.iconst 0, 1) := by decide +kernel
theorem dX7_part_12 : decode cX7_part 12 = .ok (.istore_n 3, 1) := by decide +kernel
theorem dX7_part_13 : decode cX7_part 13 = .ok (.iload_n 3, 1) := by decide +kernel
theorem dX7_part_14 : decode cX7_part 14 = .ok (.aload_n 0, 1) := by decide +kernel
theorem dX7_part_15 : decode cX7_part 15 = .ok (.invokevirtual 97, 3) := by decide +kernel
theorem dX7_part_18 : decode cX7_part 18 = .ok (.if_icmp .ge 21, 3) := by decide +kernel
theorem dX7_part_21 : decode cX7_part 21 = .ok (.aload_n 0, 1) := by decide +kernel
theorem dX7_part_22 : decode cX7_part 22 = .ok (.iload_n 3, 1) := by decide +kernel
theorem dX7_part_23 : decode cX7_part 23 = .ok (.invokevirtual 205, 3) := by decide +kernel
theorem dX7_part_26 : decode cX7_part 26 = .ok (.ifCond .eq 7, 3) := by decide +kernel
theorem dX7_part_29 : decode cX7_part 29 = .ok (.iload_n 2, 1) := by decide +kernel
theorem dX7_part_30 : decode cX7_part 30 = .ok (.iconst 1, 1) := by decide +kernel
theorem dX7_part_31 : decode cX7_part 31 = .ok (.iadd, 1) := by decide +kernel
theorem dX7_part_32 : decode cX7_part 32 = .ok (.istore_n 2, 1) := by decide +kernel
theorem dX7_part_33 : decode cX7_part 33 = .ok (.iinc 3 1, 3) := by decide +kernel
theorem dX7_part_36 : decode cX7_part 36 = .ok (.goto (-23), 3) := by decide +kernel
theorem dX7_part_39 : decode cX7_part 39 = .ok (.iload_n 1, 1) := by decide +kernel
theorem dX7_part_40 : decode cX7_part 40 = .ok (.iconst 1, 1) := by decide +kernel
theorem dX7_part_41 : decode cX7_part 41 = .ok (.if_icmp .lt 17, 3) := by decide +kernel
theorem dX7_part_44 : decode cX7_part 44 = .ok (.iload_n 1, 1) := by decide +kernel
theorem dX7_part_45 : decode cX7_part 45 = .ok (.bipush 9, 2) := by decide +kernel
theorem dX7_part_47 : decode cX7_part 47 = .ok (.if_icmp .gt 11, 3) := by decide +kernel
theorem dX7_part_50 : decode cX7_part 50 = .ok (.iload_n 2, 1) := by decide +kernel
theorem dX7_part_51 : decode cX7_part 51 = .ok (.iload_n 1, 1) := by decide +kernel
theorem dX7_part_52 : decode cX7_part 52 = .ok (.imul, 1) := by decide +kernel
theorem dX7_part_53 : decode cX7_part 53 = .ok (.bipush 40, 2) := by decide +kernel
theorem dX7_part_55 : decode cX7_part 55 = .ok (.if_icmp .le 5, 3) := by decide +kernel
theorem dX7_part_58 : decode cX7_part 58 = .ok (.iconst (-1), 1) := by decide +kernel
theorem dX7_part_59 : decode cX7_part 59 = .ok (.ireturn, 1) := by decide +kernel
theorem dX7_part_60 : decode cX7_part 60 = .ok (.aload_n 0, 1) := by decide +kernel
theorem dX7_part_61 : decode cX7_part 61 = .ok (.invokevirtual 94, 3) := by decide +kernel
theorem dX7_part_64 : decode cX7_part 64 = .ok (.iconst 0, 1) := by decide +kernel
theorem dX7_part_65 : decode cX7_part 65 = .ok (.istore_n 3, 1) := by decide +kernel
theorem dX7_part_66 : decode cX7_part 66 = .ok (.iload_n 3, 1) := by decide +kernel
theorem dX7_part_67 : decode cX7_part 67 = .ok (.bipush 64, 2) := by decide +kernel
theorem dX7_part_69 : decode cX7_part 69 = .ok (.if_icmp .ge 39, 3) := by decide +kernel
theorem dX7_part_72 : decode cX7_part 72 = .ok (.aload_n 0, 1) := by decide +kernel
theorem dX7_part_73 : decode cX7_part 73 = .ok (.getfield 7, 3) := by decide +kernel
theorem dX7_part_76 : decode cX7_part 76 = .ok (.bipush 7, 2) := by decide +kernel
theorem dX7_part_78 : decode cX7_part 78 = .ok (.iload_n 3, 1) := by decide +kernel
theorem dX7_part_79 : decode cX7_part 79 = .ok (.iadd, 1) := by decide +kernel
theorem dX7_part_80 : decode cX7_part 80 = .ok (.aload_n 0, 1) := by decide +kernel
theorem dX7_part_81 : decode cX7_part 81 = .ok (.iload_n 3, 1) := by decide +kernel
theorem dX7_part_82 : decode cX7_part 82 = .ok (.invokevirtual 101, 3) := by decide +kernel
theorem dX7_part_85 : decode cX7_part 85 = .ok (.ifCond .eq 15, 3) := by decide +kernel
theorem dX7_part_88 : decode cX7_part 88 = .ok (.aload_n 0, 1) := by decide +kernel
theorem dX7_part_89 : decode cX7_part 89 = .ok (.iload_n 3, 1) := by decide +kernel
theorem dX7_part_90 : decode cX7_part 90 = .ok (.invokevirtual 205, 3) := by decide +kernel
theorem dX7_part_93 : decode cX7_part 93 = .ok (.ifCond .eq 7, 3) := by decide +kernel
theorem dX7_part_96 : decode cX7_part 96 = .ok (.iload_n 1, 1) := by decide +kernel
theorem dX7_part_97 : decode cX7_part 97 = .ok (.goto 4, 3) := by decide +kernel
theorem dX7_part_100 : decode cX7_part 100 = .ok (.iconst 0, 1) := by decide +kernel
theorem dX7_part_101 : decode cX7_part 101 = .ok (.iastore, 1) := by decide +kernel
theorem dX7_part_102 : decode cX7_part 102 = .ok (.iinc 3 1, 3) := by decide +kernel
theorem dX7_part_105 : decode cX7_part 105 = .ok (.goto (-39), 3) := by decide +kernel
theorem dX7_part_108 : decode cX7_part 108 = .ok (.iload_n 2, 1) := by decide +kernel
theorem dX7_part_109 : decode cX7_part 109 = .ok (.iload_n 1, 1) := by decide +kernel
theorem dX7_part_110 : decode cX7_part 110 = .ok (.imul, 1) := by decide +kernel
theorem dX7_part_111 : decode cX7_part 111 = .ok (.ireturn, 1) := by decide +kernel
set_option maxRecDepth 20000 in
theorem ggX7_alike_X7_begins : GoodIn wsX7_alike wsX7_begins := goodIn_r _ [7, 8, 9, 10, 11, 6, 12, 13, 31, 32, 33, 34, 35, 36, 37, 38, 39, 40, 41, 42, 43, 44, 45, 46, 47, 48, 49, 50, 51, 52, 53, 54, 55, 56, 57, 58, 59, 60] (by decide +kernel) (by decide +kernel)
set_option maxRecDepth 20000 in
theorem gX7_alike_X7_begins : GoodIn wsX7_alike (wsV RX7 91 RX7 yX7_begins wsX7_begins) := goodIn_app (goodIn_of _ (by decide +kernel)) ggX7_alike_X7_begins
set_option maxRecDepth 20000 in
theorem ggX7_alike_X7_isSetting : GoodIn wsX7_alike wsX7_isSetting := goodIn_r _ [17, 18, 19, 20, 6, 21, 13, 31, 32, 33, 34, 35, 36, 37, 38, 39, 40, 41, 42, 43, 44, 45, 46, 47, 48, 49, 50, 51, 52, 53, 54, 55, 56, 57, 58, 59, 60] (by decide +kernel) (by decide +kernel)
set_option maxRecDepth 20000 in
theorem gX7_alike_X7_isSetting : GoodIn wsX7_alike (wsV RX7 101 RX7 yX7_isSetting wsX7_isSetting) := goodIn_app (goodIn_of _ (by decide +kernel)) ggX7_alike_X7_isSetting
set_option maxRecDepth 20000 in
theorem ggX7_alike_X7_multiplies : GoodIn wsX7_alike wsX7_multiplies := goodIn_r _ [25, 2, 26, 13, 27, 28, 29, 6, 30, 31, 32, 33, 34, 35, 36, 37, 38, 39, 40, 41, 42, 43, 44, 45, 46, 47, 48, 49, 50, 51, 52, 53, 54, 55, 56, 57, 58, 59, 60] (by decide +kernel) (by decide +kernel)
set_option maxRecDepth 20000 in
theorem gX7_alike_X7_multiplies : GoodIn wsX7_alike (wsV RX7 199 RX7 yX7_multiplies wsX7_multiplies) := goodIn_app (goodIn_of _ (by decide +kernel)) ggX7_alike_X7_multiplies
theorem dX7_alike_0 : decode cX7_alike 0 = .ok (.aload_n 0, 1) := by decide +kernel
theorem dX7_alike_1 : decode cX7_alike 1 = .ok (.iconst 0, 1) := by decide +kernel
theorem dX7_alike_2 : decode cX7_alike 2 = .ok (.putfield 76, 3) := by decide +kernel
theorem dX7_alike_5 : decode cX7_alike 5 = .ok (.aload_n 0, 1) := by decide +kernel
theorem dX7_alike_6 : decode cX7_alike 6 = .ok (.invokevirtual 91, 3) := by decide +kernel
theorem dX7_alike_9 : decode cX7_alike 9 = .ok (.aload_n 0, 1) := by decide +kernel
theorem dX7_alike_10 : decode cX7_alike 10 = .ok (.iload_n 1, 1) := by decide +kernel
theorem dX7_alike_11 : decode cX7_alike 11 = .ok (.invokevirtual 101, 3) := by decide +kernel
theorem dX7_alike_14 : decode cX7_alike 14 = .ok (.ifCond .ne 5, 3) := by decide +kernel
theorem dX7_alike_17 : decode cX7_alike 17 = .ok (.iconst (-1), 1) := by decide +kernel
theorem dX7_alike_18 : decode cX7_alike 18 = .ok (.ireturn, 1) := by decide +kernel
theorem dX7_alike_19 : decode cX7_alike 19 = .ok (.aload_n 0, 1) := by decide +kernel
theorem dX7_alike_20 : decode cX7_alike 20 = .ok (.iconst (-1), 1) := by decide +kernel
theorem dX7_alike_21 : decode cX7_alike 21 = .ok (.invokevirtual 199, 3) := by decide +kernel
theorem dX7_alike_24 : decode cX7_alike 24 = .ok (.aload_n 0, 1) := by decide +kernel
theorem dX7_alike_25 : decode cX7_alike 25 = .ok (.getfield 193, 3) := by decide +kernel
theorem dX7_alike_28 : decode cX7_alike 28 = .ok (.ireturn, 1) := by decide +kernel
set_option maxRecDepth 20000 in
theorem ggX7_alikeOf_X7_begins : GoodIn wsX7_alikeOf wsX7_begins := goodIn_r _ [6, 7, 8, 9, 10, 5, 11, 12, 35, 36, 37, 38, 39, 40, 41, 42, 43, 44, 45, 46, 47, 48, 49, 50, 51, 52, 53, 54, 55, 56, 57, 58, 59, 60, 61, 62, 63, 64] (by decide +kernel) (by decide +kernel)
set_option maxRecDepth 20000 in
theorem gX7_alikeOf_X7_begins : GoodIn wsX7_alikeOf (wsV RX7 91 RX7 yX7_begins wsX7_begins) := goodIn_app (goodIn_of _ (by decide +kernel)) ggX7_alikeOf_X7_begins
set_option maxRecDepth 20000 in
theorem ggX7_alikeOf_X7_isSetting : GoodIn wsX7_alikeOf wsX7_isSetting := goodIn_r _ [16, 17, 18, 19, 5, 20, 12, 35, 36, 37, 38, 39, 40, 41, 42, 43, 44, 45, 46, 47, 48, 49, 50, 51, 52, 53, 54, 55, 56, 57, 58, 59, 60, 61, 62, 63, 64] (by decide +kernel) (by decide +kernel)
set_option maxRecDepth 20000 in
theorem gX7_alikeOf_X7_isSetting : GoodIn wsX7_alikeOf (wsV RX7 101 RX7 yX7_isSetting wsX7_isSetting) := goodIn_app (goodIn_of _ (by decide +kernel)) ggX7_alikeOf_X7_isSetting
set_option maxRecDepth 20000 in
theorem ggX7_alikeOf_X7_multiplies : GoodIn wsX7_alikeOf wsX7_multiplies := goodIn_r _ [24, 25, 26, 12, 27, 28, 29, 5, 30, 35, 36, 37, 38, 39, 40, 41, 42, 43, 44, 45, 46, 47, 48, 49, 50, 51, 52, 53, 54, 55, 56, 57, 58, 59, 60, 61, 62, 63, 64] (by decide +kernel) (by decide +kernel)
set_option maxRecDepth 20000 in
theorem gX7_alikeOf_X7_multiplies : GoodIn wsX7_alikeOf (wsV RX7 199 RX7 yX7_multiplies wsX7_multiplies) := goodIn_app (goodIn_of _ (by decide +kernel)) ggX7_alikeOf_X7_multiplies
set_option maxRecDepth 20000 in
theorem ggX7_alikeOf_X7_settings : GoodIn wsX7_alikeOf wsX7_settings := goodIn_r _ [20, 12, 35, 36, 37, 38, 39, 40, 41, 42, 43, 44, 45, 46, 47, 48, 49, 50, 51, 52, 53, 54, 55, 56, 57, 58, 59, 60, 61, 62, 63, 64] (by decide +kernel) (by decide +kernel)
set_option maxRecDepth 20000 in
theorem gX7_alikeOf_X7_settings : GoodIn wsX7_alikeOf (wsV RX7 97 RX7 yX7_settings wsX7_settings) := goodIn_app (goodIn_of _ (by decide +kernel)) ggX7_alikeOf_X7_settings
set_option maxRecDepth 20000 in
theorem ggX7_alikeOf_X7_isProduct : GoodIn wsX7_alikeOf wsX7_isProduct := goodIn_r _ [34, 25, 26, 35, 36, 37, 38, 39, 40, 41, 42, 43, 44, 45, 46, 47, 48, 49, 50, 51, 52, 53, 54, 55, 56, 57, 58, 59, 60, 61, 62, 63, 64] (by decide +kernel) (by decide +kernel)
set_option maxRecDepth 20000 in
theorem gX7_alikeOf_X7_isProduct : GoodIn wsX7_alikeOf (wsV RX7 202 RX7 yX7_isProduct wsX7_isProduct) := goodIn_app (goodIn_of _ (by decide +kernel)) ggX7_alikeOf_X7_isProduct
theorem dX7_alikeOf_0 : decode cX7_alikeOf 0 = .ok (.aload_n 0, 1) := by decide +kernel
theorem dX7_alikeOf_1 : decode cX7_alikeOf 1 = .ok (.iconst 0, 1) := by decide +kernel
theorem dX7_alikeOf_2 : decode cX7_alikeOf 2 = .ok (.putfield 76, 3) := by decide +kernel
theorem dX7_alikeOf_5 : decode cX7_alikeOf 5 = .ok (.aload_n 0, 1) := by decide +kernel
theorem dX7_alikeOf_6 : decode cX7_alikeOf 6 = .ok (.invokevirtual 91, 3) := by decide +kernel
theorem dX7_alikeOf_9 : decode cX7_alikeOf 9 = .ok (.aload_n 0, 1) := by decide +kernel
theorem dX7_alikeOf_10 : decode cX7_alikeOf 10 = .ok (.iload_n 1, 1) := by decide +kernel
theorem dX7_alikeOf_11 : decode cX7_alikeOf 11 = .ok (.invokevirtual 101, 3) := by decide +kernel
theorem dX7_alikeOf_14 : decode cX7_alikeOf 14 = .ok (.ifCond .eq 7, 3) := by decide +kernel
theorem dX7_alikeOf_17 : decode cX7_alikeOf 17 = .ok (.iload_n 2, 1) := by decide +kernel
theorem dX7_alikeOf_18 : decode cX7_alikeOf 18 = .ok (.ifCond .ge 5, 3) := by decide +kernel
theorem dX7_alikeOf_21 : decode cX7_alikeOf 21 = .ok (.iconst (-1), 1) := by decide +kernel
theorem dX7_alikeOf_22 : decode cX7_alikeOf 22 = .ok (.ireturn, 1) := by decide +kernel
theorem dX7_alikeOf_23 : decode cX7_alikeOf 23 = .ok (.aload_n 0, 1) := by decide +kernel
theorem dX7_alikeOf_24 : decode cX7_alikeOf 24 = .ok (.iconst (-1), 1) := by decide +kernel
theorem dX7_alikeOf_25 : decode cX7_alikeOf 25 = .ok (.invokevirtual 199, 3) := by decide +kernel
theorem dX7_alikeOf_28 : decode cX7_alikeOf 28 = .ok (.iconst 0, 1) := by decide +kernel
theorem dX7_alikeOf_29 : decode cX7_alikeOf 29 = .ok (.istore_n 3, 1) := by decide +kernel
theorem dX7_alikeOf_30 : decode cX7_alikeOf 30 = .ok (.iconst 0, 1) := by decide +kernel
theorem dX7_alikeOf_31 : decode cX7_alikeOf 31 = .ok (.istore 4, 2) := by decide +kernel
theorem dX7_alikeOf_33 : decode cX7_alikeOf 33 = .ok (.iload 4, 2) := by decide +kernel
theorem dX7_alikeOf_35 : decode cX7_alikeOf 35 = .ok (.aload_n 0, 1) := by decide +kernel
theorem dX7_alikeOf_36 : decode cX7_alikeOf 36 = .ok (.invokevirtual 97, 3) := by decide +kernel
theorem dX7_alikeOf_39 : decode cX7_alikeOf 39 = .ok (.if_icmp .ge 35, 3) := by decide +kernel
theorem dX7_alikeOf_42 : decode cX7_alikeOf 42 = .ok (.aload_n 0, 1) := by decide +kernel
theorem dX7_alikeOf_43 : decode cX7_alikeOf 43 = .ok (.iload 4, 2) := by decide +kernel
theorem dX7_alikeOf_45 : decode cX7_alikeOf 45 = .ok (.iload_n 1, 1) := by decide +kernel
theorem dX7_alikeOf_46 : decode cX7_alikeOf 46 = .ok (.ixor, 1) := by decide +kernel
theorem dX7_alikeOf_47 : decode cX7_alikeOf 47 = .ok (.invokevirtual 202, 3) := by decide +kernel
theorem dX7_alikeOf_50 : decode cX7_alikeOf 50 = .ok (.ifCond .ne 6, 3) := by decide +kernel
theorem dX7_alikeOf_53 : decode cX7_alikeOf 53 = .ok (.goto 15, 3) := by decide +kernel
theorem dX7_alikeOf_56 : decode cX7_alikeOf 56 = .ok (.iload_n 3, 1) := by decide +kernel
theorem dX7_alikeOf_57 : decode cX7_alikeOf 57 = .ok (.iload_n 2, 1) := by decide +kernel
theorem dX7_alikeOf_58 : decode cX7_alikeOf 58 = .ok (.if_icmp .ne 6, 3) := by decide +kernel
theorem dX7_alikeOf_61 : decode cX7_alikeOf 61 = .ok (.iload 4, 2) := by decide +kernel
theorem dX7_alikeOf_63 : decode cX7_alikeOf 63 = .ok (.ireturn, 1) := by decide +kernel
theorem dX7_alikeOf_64 : decode cX7_alikeOf 64 = .ok (.iload_n 3, 1) := by decide +kernel
theorem dX7_alikeOf_65 : decode cX7_alikeOf 65 = .ok (.iconst 1, 1) := by decide +kernel
theorem dX7_alikeOf_66 : decode cX7_alikeOf 66 = .ok (.iadd, 1) := by decide +kernel
theorem dX7_alikeOf_67 : decode cX7_alikeOf 67 = .ok (.istore_n 3, 1) := by decide +kernel
theorem dX7_alikeOf_68 : decode cX7_alikeOf 68 = .ok (.iinc 4 1, 3) := by decide +kernel
theorem dX7_alikeOf_71 : decode cX7_alikeOf 71 = .ok (.goto (-38), 3) := by decide +kernel
theorem dX7_alikeOf_74 : decode cX7_alikeOf 74 = .ok (.iconst (-1), 1) := by decide +kernel
theorem dX7_alikeOf_75 : decode cX7_alikeOf 75 = .ok (.ireturn, 1) := by decide +kernel
set_option maxRecDepth 20000 in
theorem ggX7_withFactors_X7_ones : GoodIn wsX7_withFactors wsX7_ones := goodIn_r _ [7] (by decide +kernel) (by decide +kernel)
set_option maxRecDepth 20000 in
theorem gX7_withFactors_X7_ones : GoodIn wsX7_withFactors (wsV RX7 108 RX7 yX7_ones wsX7_ones) := goodIn_app (goodIn_of _ (by decide +kernel)) ggX7_withFactors_X7_ones
theorem dX7_withFactors_0 : decode cX7_withFactors 0 = .ok (.iconst 0, 1) := by decide +kernel
theorem dX7_withFactors_1 : decode cX7_withFactors 1 = .ok (.istore_n 2, 1) := by decide +kernel
theorem dX7_withFactors_2 : decode cX7_withFactors 2 = .ok (.iconst 0, 1) := by decide +kernel
theorem dX7_withFactors_3 : decode cX7_withFactors 3 = .ok (.istore_n 3, 1) := by decide +kernel
theorem dX7_withFactors_4 : decode cX7_withFactors 4 = .ok (.iload_n 3, 1) := by decide +kernel
theorem dX7_withFactors_5 : decode cX7_withFactors 5 = .ok (.aload_n 0, 1) := by decide +kernel
theorem dX7_withFactors_6 : decode cX7_withFactors 6 = .ok (.getfield 193, 3) := by decide +kernel
theorem dX7_withFactors_9 : decode cX7_withFactors 9 = .ok (.if_icmp .ge 27, 3) := by decide +kernel
theorem dX7_withFactors_12 : decode cX7_withFactors 12 = .ok (.aload_n 0, 1) := by decide +kernel
theorem dX7_withFactors_13 : decode cX7_withFactors 13 = .ok (.aload_n 0, 1) := by decide +kernel
theorem dX7_withFactors_14 : decode cX7_withFactors 14 = .ok (.getfield 47, 3) := by decide +kernel
theorem dX7_withFactors_17 : decode cX7_withFactors 17 = .ok (.iload_n 3, 1) := by decide +kernel
theorem dX7_withFactors_18 : decode cX7_withFactors 18 = .ok (.iaload, 1) := by decide +kernel
theorem dX7_withFactors_19 : decode cX7_withFactors 19 = .ok (.invokevirtual 108, 3) := by decide +kernel
theorem dX7_withFactors_22 : decode cX7_withFactors 22 = .ok (.iload_n 1, 1) := by decide +kernel
theorem dX7_withFactors_23 : decode cX7_withFactors 23 = .ok (.if_icmp .ne 7, 3) := by decide +kernel
theorem dX7_withFactors_26 : decode cX7_withFactors 26 = .ok (.iload_n 2, 1) := by decide +kernel
theorem dX7_withFactors_27 : decode cX7_withFactors 27 = .ok (.iconst 1, 1) := by decide +kernel
theorem dX7_withFactors_28 : decode cX7_withFactors 28 = .ok (.iadd, 1) := by decide +kernel
theorem dX7_withFactors_29 : decode cX7_withFactors 29 = .ok (.istore_n 2, 1) := by decide +kernel
theorem dX7_withFactors_30 : decode cX7_withFactors 30 = .ok (.iinc 3 1, 3) := by decide +kernel
theorem dX7_withFactors_33 : decode cX7_withFactors 33 = .ok (.goto (-29), 3) := by decide +kernel
theorem dX7_withFactors_36 : decode cX7_withFactors 36 = .ok (.iload_n 2, 1) := by decide +kernel
theorem dX7_withFactors_37 : decode cX7_withFactors 37 = .ok (.ireturn, 1) := by decide +kernel
set_option maxRecDepth 20000 in
theorem ggX7_length_X7_begins : GoodIn wsX7_length wsX7_begins := goodIn_r _ [6, 7, 8, 9, 10, 5, 11, 12, 31, 32, 33, 34, 35, 36, 37, 38, 39, 40, 41, 42, 43, 44, 45, 46, 47, 48, 49, 50, 51, 52, 53, 54, 55, 56, 57, 58, 59, 60] (by decide +kernel) (by decide +kernel)
set_option maxRecDepth 20000 in
theorem gX7_length_X7_begins : GoodIn wsX7_length (wsV RX7 91 RX7 yX7_begins wsX7_begins) := goodIn_app (goodIn_of _ (by decide +kernel)) ggX7_length_X7_begins
set_option maxRecDepth 20000 in
theorem ggX7_length_X7_multiplies : GoodIn wsX7_length wsX7_multiplies := goodIn_r _ [16, 17, 18, 12, 19, 20, 21, 5, 22, 31, 32, 33, 34, 35, 36, 37, 38, 39, 40, 41, 42, 43, 44, 45, 46, 47, 48, 49, 50, 51, 52, 53, 54, 55, 56, 57, 58, 59, 60] (by decide +kernel) (by decide +kernel)
set_option maxRecDepth 20000 in
theorem gX7_length_X7_multiplies : GoodIn wsX7_length (wsV RX7 199 RX7 yX7_multiplies wsX7_multiplies) := goodIn_app (goodIn_of _ (by decide +kernel)) ggX7_length_X7_multiplies
set_option maxRecDepth 20000 in
theorem ggX7_length_X7_withFactors : GoodIn wsX7_length wsX7_withFactors := goodIn_r _ [26, 17, 18, 27, 28, 29, 5, 30, 31, 32, 33, 34, 35, 36, 37, 38, 39, 40, 41, 42, 43, 44, 45, 46, 47, 48, 49, 50, 51, 52, 53, 54, 55, 56, 57, 58, 59, 60] (by decide +kernel) (by decide +kernel)
set_option maxRecDepth 20000 in
theorem gX7_length_X7_withFactors : GoodIn wsX7_length (wsV RX7 208 RX7 yX7_withFactors wsX7_withFactors) := goodIn_app (goodIn_of _ (by decide +kernel)) ggX7_length_X7_withFactors
theorem dX7_length_0 : decode cX7_length 0 = .ok (.aload_n 0, 1) := by decide +kernel
theorem dX7_length_1 : decode cX7_length 1 = .ok (.iconst 0, 1) := by decide +kernel
theorem dX7_length_2 : decode cX7_length 2 = .ok (.putfield 76, 3) := by decide +kernel
theorem dX7_length_5 : decode cX7_length 5 = .ok (.aload_n 0, 1) := by decide +kernel
theorem dX7_length_6 : decode cX7_length 6 = .ok (.invokevirtual 91, 3) := by decide +kernel
theorem dX7_length_9 : decode cX7_length 9 = .ok (.iload_n 1, 1) := by decide +kernel
theorem dX7_length_10 : decode cX7_length 10 = .ok (.ifCond .lt 9, 3) := by decide +kernel
theorem dX7_length_13 : decode cX7_length 13 = .ok (.iload_n 1, 1) := by decide +kernel
theorem dX7_length_14 : decode cX7_length 14 = .ok (.bipush 6, 2) := by decide +kernel
theorem dX7_length_16 : decode cX7_length 16 = .ok (.if_icmp .le 5, 3) := by decide +kernel
theorem dX7_length_19 : decode cX7_length 19 = .ok (.iconst (-1), 1) := by decide +kernel
theorem dX7_length_20 : decode cX7_length 20 = .ok (.ireturn, 1) := by decide +kernel
theorem dX7_length_21 : decode cX7_length 21 = .ok (.aload_n 0, 1) := by decide +kernel
theorem dX7_length_22 : decode cX7_length 22 = .ok (.iconst (-1), 1) := by decide +kernel
theorem dX7_length_23 : decode cX7_length 23 = .ok (.invokevirtual 199, 3) := by decide +kernel
theorem dX7_length_26 : decode cX7_length 26 = .ok (.iload_n 1, 1) := by decide +kernel
theorem dX7_length_27 : decode cX7_length 27 = .ok (.ifCond .le 9, 3) := by decide +kernel
theorem dX7_length_30 : decode cX7_length 30 = .ok (.aload_n 0, 1) := by decide +kernel
theorem dX7_length_31 : decode cX7_length 31 = .ok (.iload_n 1, 1) := by decide +kernel
theorem dX7_length_32 : decode cX7_length 32 = .ok (.invokevirtual 208, 3) := by decide +kernel
theorem dX7_length_35 : decode cX7_length 35 = .ok (.ireturn, 1) := by decide +kernel
theorem dX7_length_36 : decode cX7_length 36 = .ok (.iconst 0, 1) := by decide +kernel
theorem dX7_length_37 : decode cX7_length 37 = .ok (.istore_n 2, 1) := by decide +kernel
theorem dX7_length_38 : decode cX7_length 38 = .ok (.bipush 6, 2) := by decide +kernel
theorem dX7_length_40 : decode cX7_length 40 = .ok (.istore_n 3, 1) := by decide +kernel
theorem dX7_length_41 : decode cX7_length 41 = .ok (.iload_n 3, 1) := by decide +kernel
theorem dX7_length_42 : decode cX7_length 42 = .ok (.ifCond .le 19, 3) := by decide +kernel
theorem dX7_length_45 : decode cX7_length 45 = .ok (.aload_n 0, 1) := by decide +kernel
theorem dX7_length_46 : decode cX7_length 46 = .ok (.iload_n 3, 1) := by decide +kernel
theorem dX7_length_47 : decode cX7_length 47 = .ok (.invokevirtual 208, 3) := by decide +kernel
theorem dX7_length_50 : decode cX7_length 50 = .ok (.ifCond .le 5, 3) := by decide +kernel
theorem dX7_length_53 : decode cX7_length 53 = .ok (.iload_n 3, 1) := by decide +kernel
theorem dX7_length_54 : decode cX7_length 54 = .ok (.istore_n 2, 1) := by decide +kernel
theorem dX7_length_55 : decode cX7_length 55 = .ok (.iinc 3 (-1), 3) := by decide +kernel
theorem dX7_length_58 : decode cX7_length 58 = .ok (.goto (-17), 3) := by decide +kernel
theorem dX7_length_61 : decode cX7_length 61 = .ok (.iload_n 2, 1) := by decide +kernel
theorem dX7_length_62 : decode cX7_length 62 = .ok (.ireturn, 1) := by decide +kernel
set_option maxRecDepth 20000 in
theorem ggX7_isBetter_X7_withFactors : GoodIn wsX7_isBetter wsX7_withFactors := goodIn_r _ [7, 8, 9, 10, 11, 12, 6, 13, 23, 24, 25, 26, 27, 28, 29, 30, 31, 32, 33, 34, 35, 36, 37, 38, 39, 40, 41, 42, 43, 44, 45, 46, 47, 48, 49, 50, 51, 52] (by decide +kernel) (by decide +kernel)
set_option maxRecDepth 20000 in
theorem gX7_isBetter_X7_withFactors : GoodIn wsX7_isBetter (wsV RX7 208 RX7 yX7_withFactors wsX7_withFactors) := goodIn_app (goodIn_of _ (by decide +kernel)) ggX7_isBetter_X7_withFactors
set_option maxRecDepth 20000 in
theorem ggX7_isBetter_X7_settings : GoodIn wsX7_isBetter wsX7_settings := goodIn_r _ [17, 18, 23, 24, 25, 26, 27, 28, 29, 30, 31, 32, 33, 34, 35, 36, 37, 38, 39, 40, 41, 42, 43, 44, 45, 46, 47, 48, 49, 50, 51, 52] (by decide +kernel) (by decide +kernel)
set_option maxRecDepth 20000 in
theorem gX7_isBetter_X7_settings : GoodIn wsX7_isBetter (wsV RX7 97 RX7 yX7_settings wsX7_settings) := goodIn_app (goodIn_of _ (by decide +kernel)) ggX7_isBetter_X7_settings
set_option maxRecDepth 20000 in
theorem ggX7_isBetter_X7_isProduct : GoodIn wsX7_isBetter wsX7_isProduct := goodIn_r _ [22, 8, 9, 23, 24, 25, 26, 27, 28, 29, 30, 31, 32, 33, 34, 35, 36, 37, 38, 39, 40, 41, 42, 43, 44, 45, 46, 47, 48, 49, 50, 51, 52] (by decide +kernel) (by decide +kernel)
set_option maxRecDepth 20000 in
theorem gX7_isBetter_X7_isProduct : GoodIn wsX7_isBetter (wsV RX7 202 RX7 yX7_isProduct wsX7_isProduct) := goodIn_app (goodIn_of _ (by decide +kernel)) ggX7_isBetter_X7_isProduct
theorem dX7_isBetter_0 : decode cX7_isBetter 0 = .ok (.iconst 1, 1) := by decide +kernel
theorem dX7_isBetter_1 : decode cX7_isBetter 1 = .ok (.istore_n 1, 1) := by decide +kernel
theorem dX7_isBetter_2 : decode cX7_isBetter 2 = .ok (.iload_n 1, 1) := by decide +kernel
theorem dX7_isBetter_3 : decode cX7_isBetter 3 = .ok (.bipush 6, 2) := by decide +kernel
theorem dX7_isBetter_5 : decode cX7_isBetter 5 = .ok (.if_icmp .gt 43, 3) := by decide +kernel
theorem dX7_isBetter_8 : decode cX7_isBetter 8 = .ok (.aload_n 0, 1) := by decide +kernel
theorem dX7_isBetter_9 : decode cX7_isBetter 9 = .ok (.iload_n 1, 1) := by decide +kernel
theorem dX7_isBetter_10 : decode cX7_isBetter 10 = .ok (.invokevirtual 208, 3) := by decide +kernel
theorem dX7_isBetter_13 : decode cX7_isBetter 13 = .ok (.aload_n 0, 1) := by decide +kernel
theorem dX7_isBetter_14 : decode cX7_isBetter 14 = .ok (.getfield 50, 3) := by decide +kernel
theorem dX7_isBetter_17 : decode cX7_isBetter 17 = .ok (.iload_n 1, 1) := by decide +kernel
theorem dX7_isBetter_18 : decode cX7_isBetter 18 = .ok (.iaload, 1) := by decide +kernel
theorem dX7_isBetter_19 : decode cX7_isBetter 19 = .ok (.if_icmp .eq 23, 3) := by decide +kernel
theorem dX7_isBetter_22 : decode cX7_isBetter 22 = .ok (.aload_n 0, 1) := by decide +kernel
theorem dX7_isBetter_23 : decode cX7_isBetter 23 = .ok (.iload_n 1, 1) := by decide +kernel
theorem dX7_isBetter_24 : decode cX7_isBetter 24 = .ok (.invokevirtual 208, 3) := by decide +kernel
theorem dX7_isBetter_27 : decode cX7_isBetter 27 = .ok (.aload_n 0, 1) := by decide +kernel
theorem dX7_isBetter_28 : decode cX7_isBetter 28 = .ok (.getfield 50, 3) := by decide +kernel
theorem dX7_isBetter_31 : decode cX7_isBetter 31 = .ok (.iload_n 1, 1) := by decide +kernel
theorem dX7_isBetter_32 : decode cX7_isBetter 32 = .ok (.iaload, 1) := by decide +kernel
theorem dX7_isBetter_33 : decode cX7_isBetter 33 = .ok (.if_icmp .ge 7, 3) := by decide +kernel
theorem dX7_isBetter_36 : decode cX7_isBetter 36 = .ok (.iconst 1, 1) := by decide +kernel
theorem dX7_isBetter_37 : decode cX7_isBetter 37 = .ok (.goto 4, 3) := by decide +kernel
theorem dX7_isBetter_40 : decode cX7_isBetter 40 = .ok (.iconst 0, 1) := by decide +kernel
theorem dX7_isBetter_41 : decode cX7_isBetter 41 = .ok (.ireturn, 1) := by decide +kernel
theorem dX7_isBetter_42 : decode cX7_isBetter 42 = .ok (.iinc 1 1, 3) := by decide +kernel
theorem dX7_isBetter_45 : decode cX7_isBetter 45 = .ok (.goto (-43), 3) := by decide +kernel
theorem dX7_isBetter_48 : decode cX7_isBetter 48 = .ok (.iconst 1, 1) := by decide +kernel
theorem dX7_isBetter_49 : decode cX7_isBetter 49 = .ok (.istore_n 1, 1) := by decide +kernel
theorem dX7_isBetter_50 : decode cX7_isBetter 50 = .ok (.iload_n 1, 1) := by decide +kernel
theorem dX7_isBetter_51 : decode cX7_isBetter 51 = .ok (.aload_n 0, 1) := by decide +kernel
theorem dX7_isBetter_52 : decode cX7_isBetter 52 = .ok (.invokevirtual 97, 3) := by decide +kernel
theorem dX7_isBetter_55 : decode cX7_isBetter 55 = .ok (.if_icmp .ge 29, 3) := by decide +kernel
theorem dX7_isBetter_58 : decode cX7_isBetter 58 = .ok (.aload_n 0, 1) := by decide +kernel
theorem dX7_isBetter_59 : decode cX7_isBetter 59 = .ok (.iload_n 1, 1) := by decide +kernel
theorem dX7_isBetter_60 : decode cX7_isBetter 60 = .ok (.invokevirtual 202, 3) := by decide +kernel
theorem dX7_isBetter_63 : decode cX7_isBetter 63 = .ok (.aload_n 0, 1) := by decide +kernel
theorem dX7_isBetter_64 : decode cX7_isBetter 64 = .ok (.getfield 53, 3) := by decide +kernel
theorem dX7_isBetter_67 : decode cX7_isBetter 67 = .ok (.iload_n 1, 1) := by decide +kernel
theorem dX7_isBetter_68 : decode cX7_isBetter 68 = .ok (.baload, 1) := by decide +kernel
theorem dX7_isBetter_69 : decode cX7_isBetter 69 = .ok (.if_icmp .eq 9, 3) := by decide +kernel
theorem dX7_isBetter_72 : decode cX7_isBetter 72 = .ok (.aload_n 0, 1) := by decide +kernel
theorem dX7_isBetter_73 : decode cX7_isBetter 73 = .ok (.iload_n 1, 1) := by decide +kernel
theorem dX7_isBetter_74 : decode cX7_isBetter 74 = .ok (.invokevirtual 202, 3) := by decide +kernel
theorem dX7_isBetter_77 : decode cX7_isBetter 77 = .ok (.ireturn, 1) := by decide +kernel
theorem dX7_isBetter_78 : decode cX7_isBetter 78 = .ok (.iinc 1 1, 3) := by decide +kernel
theorem dX7_isBetter_81 : decode cX7_isBetter 81 = .ok (.goto (-31), 3) := by decide +kernel
theorem dX7_isBetter_84 : decode cX7_isBetter 84 = .ok (.iconst 0, 1) := by decide +kernel
theorem dX7_isBetter_85 : decode cX7_isBetter 85 = .ok (.ireturn, 1) := by decide +kernel
set_option maxRecDepth 20000 in
theorem ggX7_isBest_X7_withFactors : GoodIn wsX7_isBest wsX7_withFactors := goodIn_r _ [9, 10, 11, 12, 13, 14, 8, 15, 20, 21, 22, 23, 24, 25, 26, 27, 28, 29, 30, 31, 32, 33, 34, 35, 36, 37, 38, 39, 40, 41, 42, 43, 44, 45, 46, 47, 48, 49] (by decide +kernel) (by decide +kernel)
set_option maxRecDepth 20000 in
theorem gX7_isBest_X7_withFactors : GoodIn wsX7_isBest (wsV RX7 208 RX7 yX7_withFactors wsX7_withFactors) := goodIn_app (goodIn_of _ (by decide +kernel)) ggX7_isBest_X7_withFactors
set_option maxRecDepth 20000 in
theorem ggX7_isBest_X7_isProduct : GoodIn wsX7_isBest wsX7_isProduct := goodIn_r _ [19, 10, 11, 20, 21, 22, 23, 24, 25, 26, 27, 28, 29, 30, 31, 32, 33, 34, 35, 36, 37, 38, 39, 40, 41, 42, 43, 44, 45, 46, 47, 48, 49] (by decide +kernel) (by decide +kernel)
set_option maxRecDepth 20000 in
theorem gX7_isBest_X7_isProduct : GoodIn wsX7_isBest (wsV RX7 202 RX7 yX7_isProduct wsX7_isProduct) := goodIn_app (goodIn_of _ (by decide +kernel)) ggX7_isBest_X7_isProduct
theorem dX7_isBest_0 : decode cX7_isBest 0 = .ok (.iconst 1, 1) := by decide +kernel
theorem dX7_isBest_1 : decode cX7_isBest 1 = .ok (.istore_n 2, 1) := by decide +kernel
theorem dX7_isBest_2 : decode cX7_isBest 2 = .ok (.iload_n 2, 1) := by decide +kernel
theorem dX7_isBest_3 : decode cX7_isBest 3 = .ok (.bipush 6, 2) := by decide +kernel
theorem dX7_isBest_5 : decode cX7_isBest 5 = .ok (.if_icmp .gt 20, 3) := by decide +kernel
theorem dX7_isBest_8 : decode cX7_isBest 8 = .ok (.aload_n 0, 1) := by decide +kernel
theorem dX7_isBest_9 : decode cX7_isBest 9 = .ok (.getfield 50, 3) := by decide +kernel
theorem dX7_isBest_12 : decode cX7_isBest 12 = .ok (.iload_n 2, 1) := by decide +kernel
theorem dX7_isBest_13 : decode cX7_isBest 13 = .ok (.aload_n 0, 1) := by decide +kernel
theorem dX7_isBest_14 : decode cX7_isBest 14 = .ok (.iload_n 2, 1) := by decide +kernel
theorem dX7_isBest_15 : decode cX7_isBest 15 = .ok (.invokevirtual 208, 3) := by decide +kernel
theorem dX7_isBest_18 : decode cX7_isBest 18 = .ok (.iastore, 1) := by decide +kernel
theorem dX7_isBest_19 : decode cX7_isBest 19 = .ok (.iinc 2 1, 3) := by decide +kernel
theorem dX7_isBest_22 : decode cX7_isBest 22 = .ok (.goto (-20), 3) := by decide +kernel
theorem dX7_isBest_25 : decode cX7_isBest 25 = .ok (.iconst 0, 1) := by decide +kernel
theorem dX7_isBest_26 : decode cX7_isBest 26 = .ok (.istore_n 2, 1) := by decide +kernel
theorem dX7_isBest_27 : decode cX7_isBest 27 = .ok (.iload_n 2, 1) := by decide +kernel
theorem dX7_isBest_28 : decode cX7_isBest 28 = .ok (.bipush 64, 2) := by decide +kernel
theorem dX7_isBest_30 : decode cX7_isBest 30 = .ok (.if_icmp .ge 20, 3) := by decide +kernel
theorem dX7_isBest_33 : decode cX7_isBest 33 = .ok (.aload_n 0, 1) := by decide +kernel
theorem dX7_isBest_34 : decode cX7_isBest 34 = .ok (.getfield 53, 3) := by decide +kernel
theorem dX7_isBest_37 : decode cX7_isBest 37 = .ok (.iload_n 2, 1) := by decide +kernel
theorem dX7_isBest_38 : decode cX7_isBest 38 = .ok (.aload_n 0, 1) := by decide +kernel
theorem dX7_isBest_39 : decode cX7_isBest 39 = .ok (.iload_n 2, 1) := by decide +kernel
theorem dX7_isBest_40 : decode cX7_isBest 40 = .ok (.invokevirtual 202, 3) := by decide +kernel
theorem dX7_isBest_43 : decode cX7_isBest 43 = .ok (.bastore, 1) := by decide +kernel
theorem dX7_isBest_44 : decode cX7_isBest 44 = .ok (.iinc 2 1, 3) := by decide +kernel
theorem dX7_isBest_47 : decode cX7_isBest 47 = .ok (.goto (-20), 3) := by decide +kernel
theorem dX7_isBest_50 : decode cX7_isBest 50 = .ok (.iconst 0, 1) := by decide +kernel
theorem dX7_isBest_51 : decode cX7_isBest 51 = .ok (.istore_n 2, 1) := by decide +kernel
theorem dX7_isBest_52 : decode cX7_isBest 52 = .ok (.iload_n 2, 1) := by decide +kernel
theorem dX7_isBest_53 : decode cX7_isBest 53 = .ok (.iconst 4, 1) := by decide +kernel
theorem dX7_isBest_54 : decode cX7_isBest 54 = .ok (.if_icmp .ge 30, 3) := by decide +kernel
theorem dX7_isBest_57 : decode cX7_isBest 57 = .ok (.aload_n 0, 1) := by decide +kernel
theorem dX7_isBest_58 : decode cX7_isBest 58 = .ok (.getfield 57, 3) := by decide +kernel
theorem dX7_isBest_61 : decode cX7_isBest 61 = .ok (.iload_n 2, 1) := by decide +kernel
theorem dX7_isBest_62 : decode cX7_isBest 62 = .ok (.iload_n 2, 1) := by decide +kernel
theorem dX7_isBest_63 : decode cX7_isBest 63 = .ok (.iload_n 1, 1) := by decide +kernel
theorem dX7_isBest_64 : decode cX7_isBest 64 = .ok (.if_icmp .ge 12, 3) := by decide +kernel
theorem dX7_isBest_67 : decode cX7_isBest 67 = .ok (.aload_n 0, 1) := by decide +kernel
theorem dX7_isBest_68 : decode cX7_isBest 68 = .ok (.getfield 60, 3) := by decide +kernel
theorem dX7_isBest_71 : decode cX7_isBest 71 = .ok (.iload_n 2, 1) := by decide +kernel
theorem dX7_isBest_72 : decode cX7_isBest 72 = .ok (.iaload, 1) := by decide +kernel
theorem dX7_isBest_73 : decode cX7_isBest 73 = .ok (.goto 4, 3) := by decide +kernel
theorem dX7_isBest_76 : decode cX7_isBest 76 = .ok (.iconst 0, 1) := by decide +kernel
theorem dX7_isBest_77 : decode cX7_isBest 77 = .ok (.iastore, 1) := by decide +kernel
theorem dX7_isBest_78 : decode cX7_isBest 78 = .ok (.iinc 2 1, 3) := by decide +kernel
theorem dX7_isBest_81 : decode cX7_isBest 81 = .ok (.goto (-29), 3) := by decide +kernel
theorem dX7_isBest_84 : decode cX7_isBest 84 = .ok (.return_, 1) := by decide +kernel
set_option maxRecDepth 20000 in
theorem ggX7_bestPart_X7_begins : GoodIn wsX7_bestPart wsX7_begins := goodIn_r _ [12, 13, 14, 15, 16, 11, 17, 2, 53, 54, 55, 56, 57, 58, 59, 60, 61, 62, 63, 64, 65, 66, 67, 68, 69, 70, 71, 72, 73, 74, 75, 76, 77, 78, 79, 80, 81, 82] (by decide +kernel) (by decide +kernel)
set_option maxRecDepth 20000 in
theorem gX7_bestPart_X7_begins : GoodIn wsX7_bestPart (wsV RX7 91 RX7 yX7_begins wsX7_begins) := goodIn_app (goodIn_of _ (by decide +kernel)) ggX7_bestPart_X7_begins
set_option maxRecDepth 20000 in
theorem ggX7_bestPart_X7_settings : GoodIn wsX7_bestPart wsX7_settings := goodIn_r _ [21, 2, 53, 54, 55, 56, 57, 58, 59, 60, 61, 62, 63, 64, 65, 66, 67, 68, 69, 70, 71, 72, 73, 74, 75, 76, 77, 78, 79, 80, 81, 82] (by decide +kernel) (by decide +kernel)
set_option maxRecDepth 20000 in
theorem gX7_bestPart_X7_settings : GoodIn wsX7_bestPart (wsV RX7 97 RX7 yX7_settings wsX7_settings) := goodIn_app (goodIn_of _ (by decide +kernel)) ggX7_bestPart_X7_settings
set_option maxRecDepth 20000 in
theorem ggX7_bestPart_X7_joins : GoodIn wsX7_bestPart wsX7_joins := goodIn_r _ [25, 4, 5, 53, 54, 55, 56, 57, 58, 59, 60, 61, 62, 63, 64, 65, 66, 67, 68, 69, 70, 71, 72, 73, 74, 75, 76, 77, 78, 79, 80, 81, 82] (by decide +kernel) (by decide +kernel)
set_option maxRecDepth 20000 in
theorem gX7_bestPart_X7_joins : GoodIn wsX7_bestPart (wsV RX7 196 RX7 yX7_joins wsX7_joins) := goodIn_app (goodIn_of _ (by decide +kernel)) ggX7_bestPart_X7_joins
set_option maxRecDepth 20000 in
theorem ggX7_bestPart_X7_isProduct : GoodIn wsX7_bestPart wsX7_isProduct := goodIn_r _ [29, 4, 5, 53, 54, 55, 56, 57, 58, 59, 60, 61, 62, 63, 64, 65, 66, 67, 68, 69, 70, 71, 72, 73, 74, 75, 76, 77, 78, 79, 80, 81, 82] (by decide +kernel) (by decide +kernel)
set_option maxRecDepth 20000 in
theorem gX7_bestPart_X7_isProduct : GoodIn wsX7_bestPart (wsV RX7 202 RX7 yX7_isProduct wsX7_isProduct) := goodIn_app (goodIn_of _ (by decide +kernel)) ggX7_bestPart_X7_isProduct
set_option maxRecDepth 20000 in
theorem ggX7_bestPart_X7_isBetter : GoodIn wsX7_bestPart wsX7_isBetter := goodIn_r _ [33, 34, 7, 35, 36, 37, 11, 38, 4, 5, 39, 40, 41, 42, 18, 19, 20, 21, 2, 26, 27, 28, 29, 53, 54, 55, 56, 57, 58, 59, 60, 61, 62, 63, 64, 65, 66, 67, 68, 69, 70, 71, 72, 73, 74, 75, 76, 77, 78, 79, 80, 81, 82] (by decide +kernel) (by decide +kernel)
set_option maxRecDepth 20000 in
theorem gX7_bestPart_X7_isBetter : GoodIn wsX7_bestPart (wsV RX7 211 RX7 yX7_isBetter wsX7_isBetter) := goodIn_app (goodIn_of _ (by decide +kernel)) ggX7_bestPart_X7_isBetter
set_option maxRecDepth 20000 in
theorem ggX7_bestPart_X7_isBest : GoodIn wsX7_bestPart wsX7_isBest := goodIn_r _ [46, 34, 7, 6, 3, 35, 36, 37, 11, 38, 4, 5, 39, 40, 41, 42, 26, 27, 28, 29, 53, 54, 55, 56, 57, 58, 59, 60, 61, 62, 63, 64, 65, 66, 67, 68, 69, 70, 71, 72, 73, 74, 75, 76, 77, 78, 79, 80, 81, 82] (by decide +kernel) (by decide +kernel)
set_option maxRecDepth 20000 in
theorem gX7_bestPart_X7_isBest : GoodIn wsX7_bestPart (wsV RX7 214 RX7 yX7_isBest wsX7_isBest) := goodIn_app (goodIn_of _ (by decide +kernel)) ggX7_bestPart_X7_isBest
set_option maxRecDepth 20000 in
theorem ggX7_bestPart_X7_keep : GoodIn wsX7_bestPart wsX7_keep := goodIn_r _ [50, 51, 52, 2, 53, 54, 55, 56, 57, 58, 59, 60, 61, 62, 63, 64, 65, 66, 67, 68, 69, 70, 71, 72, 73, 74, 75, 76, 77, 78, 79, 80, 81, 82] (by decide +kernel) (by decide +kernel)
set_option maxRecDepth 20000 in
theorem gX7_bestPart_X7_keep : GoodIn wsX7_bestPart (wsV RX7 94 RX7 yX7_keep wsX7_keep) := goodIn_app (goodIn_of _ (by decide +kernel)) ggX7_bestPart_X7_keep
theorem dX7_bestPart_0 : decode cX7_bestPart 0 = .ok (.aload_n 0, 1) := by decide +kernel
theorem dX7_bestPart_1 : decode cX7_bestPart 1 = .ok (.iconst 0, 1) := by decide +kernel
theorem dX7_bestPart_2 : decode cX7_bestPart 2 = .ok (.putfield 76, 3) := by decide +kernel
theorem dX7_bestPart_5 : decode cX7_bestPart 5 = .ok (.aload_n 0, 1) := by decide +kernel
theorem dX7_bestPart_6 : decode cX7_bestPart 6 = .ok (.invokevirtual 91, 3) := by decide +kernel
theorem dX7_bestPart_9 : decode cX7_bestPart 9 = .ok (.iload_n 1, 1) := by decide +kernel
theorem dX7_bestPart_10 : decode cX7_bestPart 10 = .ok (.ifCond .lt 18, 3) := by decide +kernel
theorem dX7_bestPart_13 : decode cX7_bestPart 13 = .ok (.iload_n 1, 1) := by decide +kernel
theorem dX7_bestPart_14 : decode cX7_bestPart 14 = .ok (.iconst 4, 1) := by decide +kernel
theorem dX7_bestPart_15 : decode cX7_bestPart 15 = .ok (.if_icmp .gt 13, 3) := by decide +kernel
theorem dX7_bestPart_18 : decode cX7_bestPart 18 = .ok (.iload_n 1, 1) := by decide +kernel
theorem dX7_bestPart_19 : decode cX7_bestPart 19 = .ok (.aload_n 0, 1) := by decide +kernel
theorem dX7_bestPart_20 : decode cX7_bestPart 20 = .ok (.getfield 7, 3) := by decide +kernel
theorem dX7_bestPart_23 : decode cX7_bestPart 23 = .ok (.iconst 0, 1) := by decide +kernel
theorem dX7_bestPart_24 : decode cX7_bestPart 24 = .ok (.iaload, 1) := by decide +kernel
theorem dX7_bestPart_25 : decode cX7_bestPart 25 = .ok (.if_icmp .le 5, 3) := by decide +kernel
theorem dX7_bestPart_28 : decode cX7_bestPart 28 = .ok (.iconst 0, 1) := by decide +kernel
theorem dX7_bestPart_29 : decode cX7_bestPart 29 = .ok (.ireturn, 1) := by decide +kernel
theorem dX7_bestPart_30 : decode cX7_bestPart 30 = .ok (.iconst 0, 1) := by decide +kernel
theorem dX7_bestPart_31 : decode cX7_bestPart 31 = .ok (.istore_n 2, 1) := by decide +kernel
theorem dX7_bestPart_32 : decode cX7_bestPart 32 = .ok (.iconst 0, 1) := by decide +kernel
theorem dX7_bestPart_33 : decode cX7_bestPart 33 = .ok (.istore_n 3, 1) := by decide +kernel
theorem dX7_bestPart_34 : decode cX7_bestPart 34 = .ok (.aload_n 0, 1) := by decide +kernel
theorem dX7_bestPart_35 : decode cX7_bestPart 35 = .ok (.getfield 60, 3) := by decide +kernel
theorem dX7_bestPart_38 : decode cX7_bestPart 38 = .ok (.iconst 0, 1) := by decide +kernel
theorem dX7_bestPart_39 : decode cX7_bestPart 39 = .ok (.iconst 0, 1) := by decide +kernel
theorem dX7_bestPart_40 : decode cX7_bestPart 40 = .ok (.iastore, 1) := by decide +kernel
theorem dX7_bestPart_41 : decode cX7_bestPart 41 = .ok (.iload_n 3, 1) := by decide +kernel
theorem dX7_bestPart_42 : decode cX7_bestPart 42 = .ok (.ifCond .lt 157, 3) := by decide +kernel
theorem dX7_bestPart_45 : decode cX7_bestPart 45 = .ok (.iload_n 1, 1) := by decide +kernel
theorem dX7_bestPart_46 : decode cX7_bestPart 46 = .ok (.ifCond .le 153, 3) := by decide +kernel
theorem dX7_bestPart_49 : decode cX7_bestPart 49 = .ok (.aload_n 0, 1) := by decide +kernel
theorem dX7_bestPart_50 : decode cX7_bestPart 50 = .ok (.getfield 60, 3) := by decide +kernel
theorem dX7_bestPart_53 : decode cX7_bestPart 53 = .ok (.iload_n 3, 1) := by decide +kernel
theorem dX7_bestPart_54 : decode cX7_bestPart 54 = .ok (.aload_n 0, 1) := by decide +kernel
theorem dX7_bestPart_55 : decode cX7_bestPart 55 = .ok (.getfield 60, 3) := by decide +kernel
theorem dX7_bestPart_58 : decode cX7_bestPart 58 = .ok (.iload_n 3, 1) := by decide +kernel
theorem dX7_bestPart_59 : decode cX7_bestPart 59 = .ok (.iaload, 1) := by decide +kernel
theorem dX7_bestPart_60 : decode cX7_bestPart 60 = .ok (.iconst 1, 1) := by decide +kernel
theorem dX7_bestPart_61 : decode cX7_bestPart 61 = .ok (.iadd, 1) := by decide +kernel
theorem dX7_bestPart_62 : decode cX7_bestPart 62 = .ok (.iastore, 1) := by decide +kernel
theorem dX7_bestPart_63 : decode cX7_bestPart 63 = .ok (.aload_n 0, 1) := by decide +kernel
theorem dX7_bestPart_64 : decode cX7_bestPart 64 = .ok (.getfield 60, 3) := by decide +kernel
theorem dX7_bestPart_67 : decode cX7_bestPart 67 = .ok (.iload_n 3, 1) := by decide +kernel
theorem dX7_bestPart_68 : decode cX7_bestPart 68 = .ok (.iaload, 1) := by decide +kernel
theorem dX7_bestPart_69 : decode cX7_bestPart 69 = .ok (.aload_n 0, 1) := by decide +kernel
theorem dX7_bestPart_70 : decode cX7_bestPart 70 = .ok (.invokevirtual 97, 3) := by decide +kernel
theorem dX7_bestPart_73 : decode cX7_bestPart 73 = .ok (.if_icmp .lt 10, 3) := by decide +kernel
theorem dX7_bestPart_76 : decode cX7_bestPart 76 = .ok (.iload_n 3, 1) := by decide +kernel
theorem dX7_bestPart_77 : decode cX7_bestPart 77 = .ok (.iconst 1, 1) := by decide +kernel
theorem dX7_bestPart_78 : decode cX7_bestPart 78 = .ok (.isub, 1) := by decide +kernel
theorem dX7_bestPart_79 : decode cX7_bestPart 79 = .ok (.istore_n 3, 1) := by decide +kernel
theorem dX7_bestPart_80 : decode cX7_bestPart 80 = .ok (.goto (-39), 3) := by decide +kernel
theorem dX7_bestPart_83 : decode cX7_bestPart 83 = .ok (.aload_n 0, 1) := by decide +kernel
theorem dX7_bestPart_84 : decode cX7_bestPart 84 = .ok (.iconst 1, 1) := by decide +kernel
theorem dX7_bestPart_85 : decode cX7_bestPart 85 = .ok (.putfield 193, 3) := by decide +kernel
theorem dX7_bestPart_88 : decode cX7_bestPart 88 = .ok (.aload_n 0, 1) := by decide +kernel
theorem dX7_bestPart_89 : decode cX7_bestPart 89 = .ok (.getfield 47, 3) := by decide +kernel
theorem dX7_bestPart_92 : decode cX7_bestPart 92 = .ok (.iconst 0, 1) := by decide +kernel
theorem dX7_bestPart_93 : decode cX7_bestPart 93 = .ok (.iconst 0, 1) := by decide +kernel
theorem dX7_bestPart_94 : decode cX7_bestPart 94 = .ok (.iastore, 1) := by decide +kernel
theorem dX7_bestPart_95 : decode cX7_bestPart 95 = .ok (.iconst 0, 1) := by decide +kernel
theorem dX7_bestPart_96 : decode cX7_bestPart 96 = .ok (.istore 4, 2) := by decide +kernel
theorem dX7_bestPart_98 : decode cX7_bestPart 98 = .ok (.iload 4, 2) := by decide +kernel
theorem dX7_bestPart_100 : decode cX7_bestPart 100 = .ok (.iload_n 3, 1) := by decide +kernel
theorem dX7_bestPart_101 : decode cX7_bestPart 101 = .ok (.if_icmp .ge 20, 3) := by decide +kernel
theorem dX7_bestPart_104 : decode cX7_bestPart 104 = .ok (.aload_n 0, 1) := by decide +kernel
theorem dX7_bestPart_105 : decode cX7_bestPart 105 = .ok (.aload_n 0, 1) := by decide +kernel
theorem dX7_bestPart_106 : decode cX7_bestPart 106 = .ok (.getfield 60, 3) := by decide +kernel
theorem dX7_bestPart_109 : decode cX7_bestPart 109 = .ok (.iload 4, 2) := by decide +kernel
theorem dX7_bestPart_111 : decode cX7_bestPart 111 = .ok (.iaload, 1) := by decide +kernel
theorem dX7_bestPart_112 : decode cX7_bestPart 112 = .ok (.invokevirtual 196, 3) := by decide +kernel
theorem dX7_bestPart_115 : decode cX7_bestPart 115 = .ok (.iinc 4 1, 3) := by decide +kernel
theorem dX7_bestPart_118 : decode cX7_bestPart 118 = .ok (.goto (-20), 3) := by decide +kernel
theorem dX7_bestPart_121 : decode cX7_bestPart 121 = .ok (.aload_n 0, 1) := by decide +kernel
theorem dX7_bestPart_122 : decode cX7_bestPart 122 = .ok (.aload_n 0, 1) := by decide +kernel
theorem dX7_bestPart_123 : decode cX7_bestPart 123 = .ok (.getfield 60, 3) := by decide +kernel
theorem dX7_bestPart_126 : decode cX7_bestPart 126 = .ok (.iload_n 3, 1) := by decide +kernel
theorem dX7_bestPart_127 : decode cX7_bestPart 127 = .ok (.iaload, 1) := by decide +kernel
theorem dX7_bestPart_128 : decode cX7_bestPart 128 = .ok (.invokevirtual 202, 3) := by decide +kernel
theorem dX7_bestPart_131 : decode cX7_bestPart 131 = .ok (.ifCond .eq 6, 3) := by decide +kernel
theorem dX7_bestPart_134 : decode cX7_bestPart 134 = .ok (.goto (-93), 3) := by decide +kernel
theorem dX7_bestPart_137 : decode cX7_bestPart 137 = .ok (.aload_n 0, 1) := by decide +kernel
theorem dX7_bestPart_138 : decode cX7_bestPart 138 = .ok (.aload_n 0, 1) := by decide +kernel
theorem dX7_bestPart_139 : decode cX7_bestPart 139 = .ok (.getfield 60, 3) := by decide +kernel
theorem dX7_bestPart_142 : decode cX7_bestPart 142 = .ok (.iload_n 3, 1) := by decide +kernel
theorem dX7_bestPart_143 : decode cX7_bestPart 143 = .ok (.iaload, 1) := by decide +kernel
theorem dX7_bestPart_144 : decode cX7_bestPart 144 = .ok (.invokevirtual 196, 3) := by decide +kernel
theorem dX7_bestPart_147 : decode cX7_bestPart 147 = .ok (.iload_n 3, 1) := by decide +kernel
theorem dX7_bestPart_148 : decode cX7_bestPart 148 = .ok (.iconst 1, 1) := by decide +kernel
theorem dX7_bestPart_149 : decode cX7_bestPart 149 = .ok (.iadd, 1) := by decide +kernel
theorem dX7_bestPart_150 : decode cX7_bestPart 150 = .ok (.iload_n 1, 1) := by decide +kernel
theorem dX7_bestPart_151 : decode cX7_bestPart 151 = .ok (.if_icmp .ge 24, 3) := by decide +kernel
theorem dX7_bestPart_154 : decode cX7_bestPart 154 = .ok (.iload_n 3, 1) := by decide +kernel
theorem dX7_bestPart_155 : decode cX7_bestPart 155 = .ok (.iconst 1, 1) := by decide +kernel
theorem dX7_bestPart_156 : decode cX7_bestPart 156 = .ok (.iadd, 1) := by decide +kernel
theorem dX7_bestPart_157 : decode cX7_bestPart 157 = .ok (.istore_n 3, 1) := by decide +kernel
theorem dX7_bestPart_158 : decode cX7_bestPart 158 = .ok (.aload_n 0, 1) := by decide +kernel
theorem dX7_bestPart_159 : decode cX7_bestPart 159 = .ok (.getfield 60, 3) := by decide +kernel
theorem dX7_bestPart_162 : decode cX7_bestPart 162 = .ok (.iload_n 3, 1) := by decide +kernel
theorem dX7_bestPart_163 : decode cX7_bestPart 163 = .ok (.aload_n 0, 1) := by decide +kernel
theorem dX7_bestPart_164 : decode cX7_bestPart 164 = .ok (.getfield 60, 3) := by decide +kernel
theorem dX7_bestPart_167 : decode cX7_bestPart 167 = .ok (.iload_n 3, 1) := by decide +kernel
theorem dX7_bestPart_168 : decode cX7_bestPart 168 = .ok (.iconst 1, 1) := by decide +kernel
theorem dX7_bestPart_169 : decode cX7_bestPart 169 = .ok (.isub, 1) := by decide +kernel
theorem dX7_bestPart_170 : decode cX7_bestPart 170 = .ok (.iaload, 1) := by decide +kernel
theorem dX7_bestPart_171 : decode cX7_bestPart 171 = .ok (.iastore, 1) := by decide +kernel
theorem dX7_bestPart_172 : decode cX7_bestPart 172 = .ok (.goto (-131), 3) := by decide +kernel
theorem dX7_bestPart_175 : decode cX7_bestPart 175 = .ok (.iload_n 2, 1) := by decide +kernel
theorem dX7_bestPart_176 : decode cX7_bestPart 176 = .ok (.ifCond .eq 13, 3) := by decide +kernel
theorem dX7_bestPart_179 : decode cX7_bestPart 179 = .ok (.aload_n 0, 1) := by decide +kernel
theorem dX7_bestPart_180 : decode cX7_bestPart 180 = .ok (.invokevirtual 211, 3) := by decide +kernel
theorem dX7_bestPart_183 : decode cX7_bestPart 183 = .ok (.ifCond .ne 6, 3) := by decide +kernel
theorem dX7_bestPart_186 : decode cX7_bestPart 186 = .ok (.goto (-145), 3) := by decide +kernel
theorem dX7_bestPart_189 : decode cX7_bestPart 189 = .ok (.iconst 1, 1) := by decide +kernel
theorem dX7_bestPart_190 : decode cX7_bestPart 190 = .ok (.istore_n 2, 1) := by decide +kernel
theorem dX7_bestPart_191 : decode cX7_bestPart 191 = .ok (.aload_n 0, 1) := by decide +kernel
theorem dX7_bestPart_192 : decode cX7_bestPart 192 = .ok (.iload_n 1, 1) := by decide +kernel
theorem dX7_bestPart_193 : decode cX7_bestPart 193 = .ok (.invokevirtual 214, 3) := by decide +kernel
theorem dX7_bestPart_196 : decode cX7_bestPart 196 = .ok (.goto (-155), 3) := by decide +kernel
theorem dX7_bestPart_199 : decode cX7_bestPart 199 = .ok (.iload_n 1, 1) := by decide +kernel
theorem dX7_bestPart_200 : decode cX7_bestPart 200 = .ok (.ifCond .ne 26, 3) := by decide +kernel
theorem dX7_bestPart_203 : decode cX7_bestPart 203 = .ok (.iconst 0, 1) := by decide +kernel
theorem dX7_bestPart_204 : decode cX7_bestPart 204 = .ok (.istore 4, 2) := by decide +kernel
theorem dX7_bestPart_206 : decode cX7_bestPart 206 = .ok (.iload 4, 2) := by decide +kernel
theorem dX7_bestPart_208 : decode cX7_bestPart 208 = .ok (.iconst 4, 1) := by decide +kernel
theorem dX7_bestPart_209 : decode cX7_bestPart 209 = .ok (.if_icmp .ge 17, 3) := by decide +kernel
theorem dX7_bestPart_212 : decode cX7_bestPart 212 = .ok (.aload_n 0, 1) := by decide +kernel
theorem dX7_bestPart_213 : decode cX7_bestPart 213 = .ok (.getfield 57, 3) := by decide +kernel
theorem dX7_bestPart_216 : decode cX7_bestPart 216 = .ok (.iload 4, 2) := by decide +kernel
theorem dX7_bestPart_218 : decode cX7_bestPart 218 = .ok (.iconst 0, 1) := by decide +kernel
theorem dX7_bestPart_219 : decode cX7_bestPart 219 = .ok (.iastore, 1) := by decide +kernel
theorem dX7_bestPart_220 : decode cX7_bestPart 220 = .ok (.iinc 4 1, 3) := by decide +kernel
theorem dX7_bestPart_223 : decode cX7_bestPart 223 = .ok (.goto (-17), 3) := by decide +kernel
theorem dX7_bestPart_226 : decode cX7_bestPart 226 = .ok (.aload_n 0, 1) := by decide +kernel
theorem dX7_bestPart_227 : decode cX7_bestPart 227 = .ok (.invokevirtual 94, 3) := by decide +kernel
theorem dX7_bestPart_230 : decode cX7_bestPart 230 = .ok (.iload_n 1, 1) := by decide +kernel
theorem dX7_bestPart_231 : decode cX7_bestPart 231 = .ok (.ifCond .le 79, 3) := by decide +kernel
theorem dX7_bestPart_234 : decode cX7_bestPart 234 = .ok (.aload_n 0, 1) := by decide +kernel
theorem dX7_bestPart_235 : decode cX7_bestPart 235 = .ok (.iconst 1, 1) := by decide +kernel
theorem dX7_bestPart_236 : decode cX7_bestPart 236 = .ok (.putfield 193, 3) := by decide +kernel
theorem dX7_bestPart_239 : decode cX7_bestPart 239 = .ok (.aload_n 0, 1) := by decide +kernel
theorem dX7_bestPart_240 : decode cX7_bestPart 240 = .ok (.getfield 47, 3) := by decide +kernel
theorem dX7_bestPart_243 : decode cX7_bestPart 243 = .ok (.iconst 0, 1) := by decide +kernel
theorem dX7_bestPart_244 : decode cX7_bestPart 244 = .ok (.iconst 0, 1) := by decide +kernel
theorem dX7_bestPart_245 : decode cX7_bestPart 245 = .ok (.iastore, 1) := by decide +kernel
theorem dX7_bestPart_246 : decode cX7_bestPart 246 = .ok (.iconst 0, 1) := by decide +kernel
theorem dX7_bestPart_247 : decode cX7_bestPart 247 = .ok (.istore 4, 2) := by decide +kernel
theorem dX7_bestPart_249 : decode cX7_bestPart 249 = .ok (.iconst 1, 1) := by decide +kernel
theorem dX7_bestPart_250 : decode cX7_bestPart 250 = .ok (.istore 5, 2) := by decide +kernel
theorem dX7_bestPart_252 : decode cX7_bestPart 252 = .ok (.iload 5, 2) := by decide +kernel
theorem dX7_bestPart_254 : decode cX7_bestPart 254 = .ok (.aload_n 0, 1) := by decide +kernel
theorem dX7_bestPart_255 : decode cX7_bestPart 255 = .ok (.invokevirtual 97, 3) := by decide +kernel
theorem dX7_bestPart_258 : decode cX7_bestPart 258 = .ok (.if_icmp .ge 52, 3) := by decide +kernel
theorem dX7_bestPart_261 : decode cX7_bestPart 261 = .ok (.aload_n 0, 1) := by decide +kernel
theorem dX7_bestPart_262 : decode cX7_bestPart 262 = .ok (.getfield 53, 3) := by decide +kernel
theorem dX7_bestPart_265 : decode cX7_bestPart 265 = .ok (.iload 5, 2) := by decide +kernel
theorem dX7_bestPart_267 : decode cX7_bestPart 267 = .ok (.baload, 1) := by decide +kernel
theorem dX7_bestPart_268 : decode cX7_bestPart 268 = .ok (.ifCond .eq 36, 3) := by decide +kernel
theorem dX7_bestPart_271 : decode cX7_bestPart 271 = .ok (.aload_n 0, 1) := by decide +kernel
theorem dX7_bestPart_272 : decode cX7_bestPart 272 = .ok (.iload 5, 2) := by decide +kernel
theorem dX7_bestPart_274 : decode cX7_bestPart 274 = .ok (.invokevirtual 202, 3) := by decide +kernel
theorem dX7_bestPart_277 : decode cX7_bestPart 277 = .ok (.ifCond .eq 6, 3) := by decide +kernel
theorem dX7_bestPart_280 : decode cX7_bestPart 280 = .ok (.goto 24, 3) := by decide +kernel
theorem dX7_bestPart_283 : decode cX7_bestPart 283 = .ok (.aload_n 0, 1) := by decide +kernel
theorem dX7_bestPart_284 : decode cX7_bestPart 284 = .ok (.iload 5, 2) := by decide +kernel
theorem dX7_bestPart_286 : decode cX7_bestPart 286 = .ok (.invokevirtual 196, 3) := by decide +kernel
theorem dX7_bestPart_289 : decode cX7_bestPart 289 = .ok (.aload_n 0, 1) := by decide +kernel
theorem dX7_bestPart_290 : decode cX7_bestPart 290 = .ok (.getfield 57, 3) := by decide +kernel
theorem dX7_bestPart_293 : decode cX7_bestPart 293 = .ok (.iload 4, 2) := by decide +kernel
theorem dX7_bestPart_295 : decode cX7_bestPart 295 = .ok (.iload 5, 2) := by decide +kernel
theorem dX7_bestPart_297 : decode cX7_bestPart 297 = .ok (.iastore, 1) := by decide +kernel
theorem dX7_bestPart_298 : decode cX7_bestPart 298 = .ok (.iload 4, 2) := by decide +kernel
theorem dX7_bestPart_300 : decode cX7_bestPart 300 = .ok (.iconst 1, 1) := by decide +kernel
theorem dX7_bestPart_301 : decode cX7_bestPart 301 = .ok (.iadd, 1) := by decide +kernel
theorem dX7_bestPart_302 : decode cX7_bestPart 302 = .ok (.istore 4, 2) := by decide +kernel
theorem dX7_bestPart_304 : decode cX7_bestPart 304 = .ok (.iinc 5 1, 3) := by decide +kernel
theorem dX7_bestPart_307 : decode cX7_bestPart 307 = .ok (.goto (-55), 3) := by decide +kernel
theorem dX7_bestPart_310 : decode cX7_bestPart 310 = .ok (.iconst 0, 1) := by decide +kernel
theorem dX7_bestPart_311 : decode cX7_bestPart 311 = .ok (.istore 4, 2) := by decide +kernel
theorem dX7_bestPart_313 : decode cX7_bestPart 313 = .ok (.iload 4, 2) := by decide +kernel
theorem dX7_bestPart_315 : decode cX7_bestPart 315 = .ok (.iconst 4, 1) := by decide +kernel
theorem dX7_bestPart_316 : decode cX7_bestPart 316 = .ok (.if_icmp .ge 51, 3) := by decide +kernel
theorem dX7_bestPart_319 : decode cX7_bestPart 319 = .ok (.aload_n 0, 1) := by decide +kernel
theorem dX7_bestPart_320 : decode cX7_bestPart 320 = .ok (.getfield 7, 3) := by decide +kernel
theorem dX7_bestPart_323 : decode cX7_bestPart 323 = .ok (.bipush 71, 2) := by decide +kernel
theorem dX7_bestPart_325 : decode cX7_bestPart 325 = .ok (.iload 4, 2) := by decide +kernel
theorem dX7_bestPart_327 : decode cX7_bestPart 327 = .ok (.iadd, 1) := by decide +kernel
theorem dX7_bestPart_328 : decode cX7_bestPart 328 = .ok (.aload_n 0, 1) := by decide +kernel
theorem dX7_bestPart_329 : decode cX7_bestPart 329 = .ok (.getfield 57, 3) := by decide +kernel
theorem dX7_bestPart_332 : decode cX7_bestPart 332 = .ok (.iload 4, 2) := by decide +kernel
theorem dX7_bestPart_334 : decode cX7_bestPart 334 = .ok (.iaload, 1) := by decide +kernel
theorem dX7_bestPart_335 : decode cX7_bestPart 335 = .ok (.iastore, 1) := by decide +kernel
theorem dX7_bestPart_336 : decode cX7_bestPart 336 = .ok (.aload_n 0, 1) := by decide +kernel
theorem dX7_bestPart_337 : decode cX7_bestPart 337 = .ok (.getfield 7, 3) := by decide +kernel
theorem dX7_bestPart_340 : decode cX7_bestPart 340 = .ok (.bipush 75, 2) := by decide +kernel
theorem dX7_bestPart_342 : decode cX7_bestPart 342 = .ok (.iload 4, 2) := by decide +kernel
theorem dX7_bestPart_344 : decode cX7_bestPart 344 = .ok (.iadd, 1) := by decide +kernel
theorem dX7_bestPart_345 : decode cX7_bestPart 345 = .ok (.aload_n 0, 1) := by decide +kernel
theorem dX7_bestPart_346 : decode cX7_bestPart 346 = .ok (.getfield 57, 3) := by decide +kernel
theorem dX7_bestPart_349 : decode cX7_bestPart 349 = .ok (.iload 4, 2) := by decide +kernel
theorem dX7_bestPart_351 : decode cX7_bestPart 351 = .ok (.iaload, 1) := by decide +kernel
theorem dX7_bestPart_352 : decode cX7_bestPart 352 = .ok (.ifCond .ne 7, 3) := by decide +kernel
theorem dX7_bestPart_355 : decode cX7_bestPart 355 = .ok (.iconst 0, 1) := by decide +kernel
theorem dX7_bestPart_356 : decode cX7_bestPart 356 = .ok (.goto 4, 3) := by decide +kernel
theorem dX7_bestPart_359 : decode cX7_bestPart 359 = .ok (.iconst 1, 1) := by decide +kernel
theorem dX7_bestPart_360 : decode cX7_bestPart 360 = .ok (.iastore, 1) := by decide +kernel
theorem dX7_bestPart_361 : decode cX7_bestPart 361 = .ok (.iinc 4 1, 3) := by decide +kernel
theorem dX7_bestPart_364 : decode cX7_bestPart 364 = .ok (.goto (-51), 3) := by decide +kernel
theorem dX7_bestPart_367 : decode cX7_bestPart 367 = .ok (.iconst 1, 1) := by decide +kernel
theorem dX7_bestPart_368 : decode cX7_bestPart 368 = .ok (.ireturn, 1) := by decide +kernel
set_option maxRecDepth 20000 in
theorem ggX7_changes_X7_ones : GoodIn wsX7_changes wsX7_ones := goodIn_r _ [6] (by decide +kernel) (by decide +kernel)
set_option maxRecDepth 20000 in
theorem gX7_changes_X7_ones : GoodIn wsX7_changes (wsV RX7 108 RX7 yX7_ones wsX7_ones) := goodIn_app (goodIn_of _ (by decide +kernel)) ggX7_changes_X7_ones
theorem dX7_changes_0 : decode cX7_changes 0 = .ok (.aload_n 0, 1) := by decide +kernel
theorem dX7_changes_1 : decode cX7_changes 1 = .ok (.aload_n 0, 1) := by decide +kernel
theorem dX7_changes_2 : decode cX7_changes 2 = .ok (.getfield 63, 3) := by decide +kernel
theorem dX7_changes_5 : decode cX7_changes 5 = .ok (.iload_n 1, 1) := by decide +kernel
theorem dX7_changes_6 : decode cX7_changes 6 = .ok (.iaload, 1) := by decide +kernel
theorem dX7_changes_7 : decode cX7_changes 7 = .ok (.aload_n 0, 1) := by decide +kernel
theorem dX7_changes_8 : decode cX7_changes 8 = .ok (.getfield 63, 3) := by decide +kernel
theorem dX7_changes_11 : decode cX7_changes 11 = .ok (.iload_n 2, 1) := by decide +kernel
theorem dX7_changes_12 : decode cX7_changes 12 = .ok (.iaload, 1) := by decide +kernel
theorem dX7_changes_13 : decode cX7_changes 13 = .ok (.ixor, 1) := by decide +kernel
theorem dX7_changes_14 : decode cX7_changes 14 = .ok (.invokevirtual 108, 3) := by decide +kernel
theorem dX7_changes_17 : decode cX7_changes 17 = .ok (.ireturn, 1) := by decide +kernel
set_option maxRecDepth 20000 in
theorem ggX7_chains_X7_trials : GoodIn wsX7_chains wsX7_trials := goodIn_r _ [10, 2, 23, 24, 25, 26, 27, 28, 29, 30, 31, 32, 33, 34, 35, 36, 37, 38, 39, 40, 41, 42, 43, 44, 45, 46, 47, 48, 49, 50, 51, 52] (by decide +kernel) (by decide +kernel)
set_option maxRecDepth 20000 in
theorem gX7_chains_X7_trials : GoodIn wsX7_chains (wsV RX7 105 RX7 yX7_trials wsX7_trials) := goodIn_app (goodIn_of _ (by decide +kernel)) ggX7_chains_X7_trials
set_option maxRecDepth 20000 in
theorem ggX7_chains_X7_settings : GoodIn wsX7_chains wsX7_settings := goodIn_r _ [14, 2, 23, 24, 25, 26, 27, 28, 29, 30, 31, 32, 33, 34, 35, 36, 37, 38, 39, 40, 41, 42, 43, 44, 45, 46, 47, 48, 49, 50, 51, 52] (by decide +kernel) (by decide +kernel)
set_option maxRecDepth 20000 in
theorem gX7_chains_X7_settings : GoodIn wsX7_chains (wsV RX7 97 RX7 yX7_settings wsX7_settings) := goodIn_app (goodIn_of _ (by decide +kernel)) ggX7_chains_X7_settings
set_option maxRecDepth 20000 in
theorem ggX7_chains_X7_changes : GoodIn wsX7_chains wsX7_changes := goodIn_r _ [18, 3, 19, 20, 21, 9, 22, 23, 24, 25, 26, 27, 28, 29, 30, 31, 32, 33, 34, 35, 36, 37, 38, 39, 40, 41, 42, 43, 44, 45, 46, 47, 48, 49, 50, 51, 52] (by decide +kernel) (by decide +kernel)
set_option maxRecDepth 20000 in
theorem gX7_chains_X7_changes : GoodIn wsX7_chains (wsV RX7 220 RX7 yX7_changes wsX7_changes) := goodIn_app (goodIn_of _ (by decide +kernel)) ggX7_chains_X7_changes
theorem dX7_chains_0 : decode cX7_chains 0 = .ok (.aload_n 0, 1) := by decide +kernel
theorem dX7_chains_1 : decode cX7_chains 1 = .ok (.iconst 0, 1) := by decide +kernel
theorem dX7_chains_2 : decode cX7_chains 2 = .ok (.putfield 217, 3) := by decide +kernel
theorem dX7_chains_5 : decode cX7_chains 5 = .ok (.aload_n 0, 1) := by decide +kernel
theorem dX7_chains_6 : decode cX7_chains 6 = .ok (.invokevirtual 105, 3) := by decide +kernel
theorem dX7_chains_9 : decode cX7_chains 9 = .ok (.bipush 12, 2) := by decide +kernel
theorem dX7_chains_11 : decode cX7_chains 11 = .ok (.if_icmp .le 5, 3) := by decide +kernel
theorem dX7_chains_14 : decode cX7_chains 14 = .ok (.iconst (-1), 1) := by decide +kernel
theorem dX7_chains_15 : decode cX7_chains 15 = .ok (.ireturn, 1) := by decide +kernel
theorem dX7_chains_16 : decode cX7_chains 16 = .ok (.iconst 0, 1) := by decide +kernel
theorem dX7_chains_17 : decode cX7_chains 17 = .ok (.istore_n 1, 1) := by decide +kernel
theorem dX7_chains_18 : decode cX7_chains 18 = .ok (.iload_n 1, 1) := by decide +kernel
theorem dX7_chains_19 : decode cX7_chains 19 = .ok (.aload_n 0, 1) := by decide +kernel
theorem dX7_chains_20 : decode cX7_chains 20 = .ok (.invokevirtual 97, 3) := by decide +kernel
theorem dX7_chains_23 : decode cX7_chains 23 = .ok (.if_icmp .ge 50, 3) := by decide +kernel
theorem dX7_chains_26 : decode cX7_chains 26 = .ok (.iconst 0, 1) := by decide +kernel
theorem dX7_chains_27 : decode cX7_chains 27 = .ok (.istore_n 2, 1) := by decide +kernel
theorem dX7_chains_28 : decode cX7_chains 28 = .ok (.iload_n 2, 1) := by decide +kernel
theorem dX7_chains_29 : decode cX7_chains 29 = .ok (.aload_n 0, 1) := by decide +kernel
theorem dX7_chains_30 : decode cX7_chains 30 = .ok (.getfield 7, 3) := by decide +kernel
theorem dX7_chains_33 : decode cX7_chains 33 = .ok (.bipush 7, 2) := by decide +kernel
theorem dX7_chains_35 : decode cX7_chains 35 = .ok (.iload_n 1, 1) := by decide +kernel
theorem dX7_chains_36 : decode cX7_chains 36 = .ok (.iadd, 1) := by decide +kernel
theorem dX7_chains_37 : decode cX7_chains 37 = .ok (.iaload, 1) := by decide +kernel
theorem dX7_chains_38 : decode cX7_chains 38 = .ok (.if_icmp .ge 29, 3) := by decide +kernel
theorem dX7_chains_41 : decode cX7_chains 41 = .ok (.aload_n 0, 1) := by decide +kernel
theorem dX7_chains_42 : decode cX7_chains 42 = .ok (.getfield 63, 3) := by decide +kernel
theorem dX7_chains_45 : decode cX7_chains 45 = .ok (.aload_n 0, 1) := by decide +kernel
theorem dX7_chains_46 : decode cX7_chains 46 = .ok (.getfield 217, 3) := by decide +kernel
theorem dX7_chains_49 : decode cX7_chains 49 = .ok (.iload_n 1, 1) := by decide +kernel
theorem dX7_chains_50 : decode cX7_chains 50 = .ok (.iastore, 1) := by decide +kernel
theorem dX7_chains_51 : decode cX7_chains 51 = .ok (.aload_n 0, 1) := by decide +kernel
theorem dX7_chains_52 : decode cX7_chains 52 = .ok (.aload_n 0, 1) := by decide +kernel
theorem dX7_chains_53 : decode cX7_chains 53 = .ok (.getfield 217, 3) := by decide +kernel
theorem dX7_chains_56 : decode cX7_chains 56 = .ok (.iconst 1, 1) := by decide +kernel
theorem dX7_chains_57 : decode cX7_chains 57 = .ok (.iadd, 1) := by decide +kernel
theorem dX7_chains_58 : decode cX7_chains 58 = .ok (.putfield 217, 3) := by decide +kernel
theorem dX7_chains_61 : decode cX7_chains 61 = .ok (.iinc 2 1, 3) := by decide +kernel
theorem dX7_chains_64 : decode cX7_chains 64 = .ok (.goto (-36), 3) := by decide +kernel
theorem dX7_chains_67 : decode cX7_chains 67 = .ok (.iinc 1 1, 3) := by decide +kernel
theorem dX7_chains_70 : decode cX7_chains 70 = .ok (.goto (-52), 3) := by decide +kernel
theorem dX7_chains_73 : decode cX7_chains 73 = .ok (.aload_n 0, 1) := by decide +kernel
theorem dX7_chains_74 : decode cX7_chains 74 = .ok (.getfield 217, 3) := by decide +kernel
theorem dX7_chains_77 : decode cX7_chains 77 = .ok (.ifCond .ne 5, 3) := by decide +kernel
theorem dX7_chains_80 : decode cX7_chains 80 = .ok (.iconst 0, 1) := by decide +kernel
theorem dX7_chains_81 : decode cX7_chains 81 = .ok (.ireturn, 1) := by decide +kernel
theorem dX7_chains_82 : decode cX7_chains 82 = .ok (.iconst 1, 1) := by decide +kernel
theorem dX7_chains_83 : decode cX7_chains 83 = .ok (.aload_n 0, 1) := by decide +kernel
theorem dX7_chains_84 : decode cX7_chains 84 = .ok (.getfield 217, 3) := by decide +kernel
theorem dX7_chains_87 : decode cX7_chains 87 = .ok (.ishl, 1) := by decide +kernel
theorem dX7_chains_88 : decode cX7_chains 88 = .ok (.istore_n 1, 1) := by decide +kernel
theorem dX7_chains_89 : decode cX7_chains 89 = .ok (.iload_n 1, 1) := by decide +kernel
theorem dX7_chains_90 : decode cX7_chains 90 = .ok (.iconst 1, 1) := by decide +kernel
theorem dX7_chains_91 : decode cX7_chains 91 = .ok (.isub, 1) := by decide +kernel
theorem dX7_chains_92 : decode cX7_chains 92 = .ok (.istore_n 2, 1) := by decide +kernel
theorem dX7_chains_93 : decode cX7_chains 93 = .ok (.iload_n 2, 1) := by decide +kernel
theorem dX7_chains_94 : decode cX7_chains 94 = .ok (.ifCond .le 123, 3) := by decide +kernel
theorem dX7_chains_97 : decode cX7_chains 97 = .ok (.iconst 0, 1) := by decide +kernel
theorem dX7_chains_98 : decode cX7_chains 98 = .ok (.istore_n 3, 1) := by decide +kernel
theorem dX7_chains_99 : decode cX7_chains 99 = .ok (.iload_n 3, 1) := by decide +kernel
theorem dX7_chains_100 : decode cX7_chains 100 = .ok (.aload_n 0, 1) := by decide +kernel
theorem dX7_chains_101 : decode cX7_chains 101 = .ok (.getfield 217, 3) := by decide +kernel
theorem dX7_chains_104 : decode cX7_chains 104 = .ok (.if_icmp .ge 107, 3) := by decide +kernel
theorem dX7_chains_107 : decode cX7_chains 107 = .ok (.iload_n 2, 1) := by decide +kernel
theorem dX7_chains_108 : decode cX7_chains 108 = .ok (.iload_n 1, 1) := by decide +kernel
theorem dX7_chains_109 : decode cX7_chains 109 = .ok (.iconst 1, 1) := by decide +kernel
theorem dX7_chains_110 : decode cX7_chains 110 = .ok (.isub, 1) := by decide +kernel
theorem dX7_chains_111 : decode cX7_chains 111 = .ok (.if_icmp .ne 7, 3) := by decide +kernel
theorem dX7_chains_114 : decode cX7_chains 114 = .ok (.iconst 0, 1) := by decide +kernel
theorem dX7_chains_115 : decode cX7_chains 115 = .ok (.goto 6, 3) := by decide +kernel
theorem dX7_chains_118 : decode cX7_chains 118 = .ok (.sipush 10000, 3) := by decide +kernel
theorem dX7_chains_121 : decode cX7_chains 121 = .ok (.istore 4, 2) := by decide +kernel
theorem dX7_chains_123 : decode cX7_chains 123 = .ok (.iconst 0, 1) := by decide +kernel
theorem dX7_chains_124 : decode cX7_chains 124 = .ok (.istore 5, 2) := by decide +kernel
theorem dX7_chains_126 : decode cX7_chains 126 = .ok (.iload 5, 2) := by decide +kernel
theorem dX7_chains_128 : decode cX7_chains 128 = .ok (.aload_n 0, 1) := by decide +kernel
theorem dX7_chains_129 : decode cX7_chains 129 = .ok (.getfield 217, 3) := by decide +kernel
theorem dX7_chains_132 : decode cX7_chains 132 = .ok (.if_icmp .ge 60, 3) := by decide +kernel
theorem dX7_chains_135 : decode cX7_chains 135 = .ok (.iload_n 2, 1) := by decide +kernel
theorem dX7_chains_136 : decode cX7_chains 136 = .ok (.iload 5, 2) := by decide +kernel
theorem dX7_chains_138 : decode cX7_chains 138 = .ok (.ishr, 1) := by decide +kernel
theorem dX7_chains_139 : decode cX7_chains 139 = .ok (.iconst 1, 1) := by decide +kernel
theorem dX7_chains_140 : decode cX7_chains 140 = .ok (.iand, 1) := by decide +kernel
theorem dX7_chains_141 : decode cX7_chains 141 = .ok (.iconst 1, 1) := by decide +kernel
theorem dX7_chains_142 : decode cX7_chains 142 = .ok (.if_icmp .ne 6, 3) := by decide +kernel
theorem dX7_chains_145 : decode cX7_chains 145 = .ok (.goto 41, 3) := by decide +kernel
theorem dX7_chains_148 : decode cX7_chains 148 = .ok (.aload_n 0, 1) := by decide +kernel
theorem dX7_chains_149 : decode cX7_chains 149 = .ok (.iload_n 3, 1) := by decide +kernel
theorem dX7_chains_150 : decode cX7_chains 150 = .ok (.iload 5, 2) := by decide +kernel
theorem dX7_chains_152 : decode cX7_chains 152 = .ok (.invokevirtual 220, 3) := by decide +kernel
theorem dX7_chains_155 : decode cX7_chains 155 = .ok (.aload_n 0, 1) := by decide +kernel
theorem dX7_chains_156 : decode cX7_chains 156 = .ok (.getfield 70, 3) := by decide +kernel
theorem dX7_chains_159 : decode cX7_chains 159 = .ok (.bipush 12, 2) := by decide +kernel
theorem dX7_chains_161 : decode cX7_chains 161 = .ok (.iload_n 2, 1) := by decide +kernel
theorem dX7_chains_162 : decode cX7_chains 162 = .ok (.iconst 1, 1) := by decide +kernel
theorem dX7_chains_163 : decode cX7_chains 163 = .ok (.iload 5, 2) := by decide +kernel
theorem dX7_chains_165 : decode cX7_chains 165 = .ok (.ishl, 1) := by decide +kernel
theorem dX7_chains_166 : decode cX7_chains 166 = .ok (.ior, 1) := by decide +kernel
theorem dX7_chains_167 : decode cX7_chains 167 = .ok (.imul, 1) := by decide +kernel
theorem dX7_chains_168 : decode cX7_chains 168 = .ok (.iload 5, 2) := by decide +kernel
theorem dX7_chains_170 : decode cX7_chains 170 = .ok (.iadd, 1) := by decide +kernel
theorem dX7_chains_171 : decode cX7_chains 171 = .ok (.iaload, 1) := by decide +kernel
theorem dX7_chains_172 : decode cX7_chains 172 = .ok (.iadd, 1) := by decide +kernel
theorem dX7_chains_173 : decode cX7_chains 173 = .ok (.istore 6, 2) := by decide +kernel
theorem dX7_chains_175 : decode cX7_chains 175 = .ok (.iload 6, 2) := by decide +kernel
theorem dX7_chains_177 : decode cX7_chains 177 = .ok (.iload 4, 2) := by decide +kernel
theorem dX7_chains_179 : decode cX7_chains 179 = .ok (.if_icmp .ge 7, 3) := by decide +kernel
theorem dX7_chains_182 : decode cX7_chains 182 = .ok (.iload 6, 2) := by decide +kernel
