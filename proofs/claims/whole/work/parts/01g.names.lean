theorem dX8_seating_156 : decode cX8_seating 156 = .ok (.iconst 0, 1) := by decide +kernel
theorem dX8_seating_157 : decode cX8_seating 157 = .ok (.istore 10, 2) := by decide +kernel
theorem dX8_seating_159 : decode cX8_seating 159 = .ok (.iload 10, 2) := by decide +kernel
theorem dX8_seating_161 : decode cX8_seating 161 = .ok (.iload_n 1, 1) := by decide +kernel
theorem dX8_seating_162 : decode cX8_seating 162 = .ok (.if_icmp .ge 18, 3) := by decide +kernel
theorem dX8_seating_165 : decode cX8_seating 165 = .ok (.aload_n 0, 1) := by decide +kernel
theorem dX8_seating_166 : decode cX8_seating 166 = .ok (.sipush 140, 3) := by decide +kernel
theorem dX8_seating_169 : decode cX8_seating 169 = .ok (.invokevirtual 201, 3) := by decide +kernel
theorem dX8_seating_172 : decode cX8_seating 172 = .ok (.istore 11, 2) := by decide +kernel
theorem dX8_seating_174 : decode cX8_seating 174 = .ok (.iinc 10 1, 3) := by decide +kernel
theorem dX8_seating_177 : decode cX8_seating 177 = .ok (.goto (-18), 3) := by decide +kernel
theorem dX8_seating_180 : decode cX8_seating 180 = .ok (.aload_n 0, 1) := by decide +kernel
theorem dX8_seating_181 : decode cX8_seating 181 = .ok (.sipush 140, 3) := by decide +kernel
theorem dX8_seating_184 : decode cX8_seating 184 = .ok (.invokevirtual 154, 3) := by decide +kernel
theorem dX8_seating_187 : decode cX8_seating 187 = .ok (.lstore 10, 2) := by decide +kernel
theorem dX8_seating_189 : decode cX8_seating 189 = .ok (.aload_n 0, 1) := by decide +kernel
theorem dX8_seating_190 : decode cX8_seating 190 = .ok (.invokevirtual 242, 3) := by decide +kernel
theorem dX8_seating_193 : decode cX8_seating 193 = .ok (.lstore 12, 2) := by decide +kernel
theorem dX8_seating_195 : decode cX8_seating 195 = .ok (.iload 4, 2) := by decide +kernel
theorem dX8_seating_197 : decode cX8_seating 197 = .ok (.ifCond .lt 27, 3) := by decide +kernel
theorem dX8_seating_200 : decode cX8_seating 200 = .ok (.lload 10, 2) := by decide +kernel
theorem dX8_seating_202 : decode cX8_seating 202 = .ok (.lload 5, 2) := by decide +kernel
theorem dX8_seating_204 : decode cX8_seating 204 = .ok (.lcmp, 1) := by decide +kernel
theorem dX8_seating_205 : decode cX8_seating 205 = .ok (.ifCond .lt 19, 3) := by decide +kernel
theorem dX8_seating_208 : decode cX8_seating 208 = .ok (.lload 10, 2) := by decide +kernel
theorem dX8_seating_210 : decode cX8_seating 210 = .ok (.lload 5, 2) := by decide +kernel
theorem dX8_seating_212 : decode cX8_seating 212 = .ok (.lcmp, 1) := by decide +kernel
theorem dX8_seating_213 : decode cX8_seating 213 = .ok (.ifCond .ne 23, 3) := by decide +kernel
theorem dX8_seating_216 : decode cX8_seating 216 = .ok (.lload 12, 2) := by decide +kernel
theorem dX8_seating_218 : decode cX8_seating 218 = .ok (.lload 7, 2) := by decide +kernel
theorem dX8_seating_220 : decode cX8_seating 220 = .ok (.lcmp, 1) := by decide +kernel
theorem dX8_seating_221 : decode cX8_seating 221 = .ok (.ifCond .le 15, 3) := by decide +kernel
theorem dX8_seating_224 : decode cX8_seating 224 = .ok (.iload 9, 2) := by decide +kernel
theorem dX8_seating_226 : decode cX8_seating 226 = .ok (.istore 4, 2) := by decide +kernel
theorem dX8_seating_228 : decode cX8_seating 228 = .ok (.lload 10, 2) := by decide +kernel
theorem dX8_seating_230 : decode cX8_seating 230 = .ok (.lstore 5, 2) := by decide +kernel
theorem dX8_seating_232 : decode cX8_seating 232 = .ok (.lload 12, 2) := by decide +kernel
theorem dX8_seating_234 : decode cX8_seating 234 = .ok (.lstore 7, 2) := by decide +kernel
theorem dX8_seating_236 : decode cX8_seating 236 = .ok (.iinc 9 1, 3) := by decide +kernel
theorem dX8_seating_239 : decode cX8_seating 239 = .ok (.goto (-147), 3) := by decide +kernel
theorem dX8_seating_242 : decode cX8_seating 242 = .ok (.iload_n 2, 1) := by decide +kernel
theorem dX8_seating_243 : decode cX8_seating 243 = .ok (.ifCond .ne 9, 3) := by decide +kernel
theorem dX8_seating_246 : decode cX8_seating 246 = .ok (.lload 5, 2) := by decide +kernel
theorem dX8_seating_248 : decode cX8_seating 248 = .ok (.l2i, 1) := by decide +kernel
theorem dX8_seating_249 : decode cX8_seating 249 = .ok (.goto 28, 3) := by decide +kernel
theorem dX8_seating_252 : decode cX8_seating 252 = .ok (.iload_n 2, 1) := by decide +kernel
theorem dX8_seating_253 : decode cX8_seating 253 = .ok (.iconst 1, 1) := by decide +kernel
theorem dX8_seating_254 : decode cX8_seating 254 = .ok (.if_icmp .ne 9, 3) := by decide +kernel
theorem dX8_seating_257 : decode cX8_seating 257 = .ok (.lload 7, 2) := by decide +kernel
theorem dX8_seating_259 : decode cX8_seating 259 = .ok (.l2i, 1) := by decide +kernel
theorem dX8_seating_260 : decode cX8_seating 260 = .ok (.goto 17, 3) := by decide +kernel
theorem dX8_seating_263 : decode cX8_seating 263 = .ok (.iload 4, 2) := by decide +kernel
theorem dX8_seating_265 : decode cX8_seating 265 = .ok (.iload_n 2, 1) := by decide +kernel
theorem dX8_seating_266 : decode cX8_seating 266 = .ok (.iconst 2, 1) := by decide +kernel
theorem dX8_seating_267 : decode cX8_seating 267 = .ok (.isub, 1) := by decide +kernel
theorem dX8_seating_268 : decode cX8_seating 268 = .ok (.aload_n 0, 1) := by decide +kernel
theorem dX8_seating_269 : decode cX8_seating 269 = .ok (.getfield 36, 3) := by decide +kernel
theorem dX8_seating_272 : decode cX8_seating 272 = .ok (.iconst 1, 1) := by decide +kernel
theorem dX8_seating_273 : decode cX8_seating 273 = .ok (.iaload, 1) := by decide +kernel
theorem dX8_seating_274 : decode cX8_seating 274 = .ok (.invokestatic 230, 3) := by decide +kernel
theorem dX8_seating_277 : decode cX8_seating 277 = .ok (.ireturn, 1) := by decide +kernel
set_option maxRecDepth 20000 in
theorem ggX8_layOrder_X8_one : GoodIn wsX8_layOrder wsX8_one := goodIn_r _ [6] (by decide +kernel) (by decide +kernel)
set_option maxRecDepth 20000 in
theorem gX8_layOrder_X8_one : GoodIn wsX8_layOrder (va_wsS RX8 191 yX8_one wsX8_one) := goodIn_app (goodIn_of _ (by decide +kernel)) ggX8_layOrder_X8_one
theorem dX8_layOrder_0 : decode cX8_layOrder 0 = .ok (.iconst 0, 1) := by decide +kernel
theorem dX8_layOrder_1 : decode cX8_layOrder 1 = .ok (.istore_n 3, 1) := by decide +kernel
theorem dX8_layOrder_2 : decode cX8_layOrder 2 = .ok (.iload_n 1, 1) := by decide +kernel
theorem dX8_layOrder_3 : decode cX8_layOrder 3 = .ok (.istore 4, 2) := by decide +kernel
theorem dX8_layOrder_5 : decode cX8_layOrder 5 = .ok (.iconst 1, 1) := by decide +kernel
theorem dX8_layOrder_6 : decode cX8_layOrder 6 = .ok (.istore 5, 2) := by decide +kernel
theorem dX8_layOrder_8 : decode cX8_layOrder 8 = .ok (.iconst 2, 1) := by decide +kernel
theorem dX8_layOrder_9 : decode cX8_layOrder 9 = .ok (.istore 6, 2) := by decide +kernel
theorem dX8_layOrder_11 : decode cX8_layOrder 11 = .ok (.iload 6, 2) := by decide +kernel
theorem dX8_layOrder_13 : decode cX8_layOrder 13 = .ok (.iload_n 2, 1) := by decide +kernel
theorem dX8_layOrder_14 : decode cX8_layOrder 14 = .ok (.if_icmp .ge 16, 3) := by decide +kernel
theorem dX8_layOrder_17 : decode cX8_layOrder 17 = .ok (.iload 5, 2) := by decide +kernel
theorem dX8_layOrder_19 : decode cX8_layOrder 19 = .ok (.iload 6, 2) := by decide +kernel
theorem dX8_layOrder_21 : decode cX8_layOrder 21 = .ok (.imul, 1) := by decide +kernel
theorem dX8_layOrder_22 : decode cX8_layOrder 22 = .ok (.istore 5, 2) := by decide +kernel
theorem dX8_layOrder_24 : decode cX8_layOrder 24 = .ok (.iinc 6 1, 3) := by decide +kernel
theorem dX8_layOrder_27 : decode cX8_layOrder 27 = .ok (.goto (-16), 3) := by decide +kernel
theorem dX8_layOrder_30 : decode cX8_layOrder 30 = .ok (.iconst 0, 1) := by decide +kernel
theorem dX8_layOrder_31 : decode cX8_layOrder 31 = .ok (.istore 6, 2) := by decide +kernel
theorem dX8_layOrder_33 : decode cX8_layOrder 33 = .ok (.iload 6, 2) := by decide +kernel
theorem dX8_layOrder_35 : decode cX8_layOrder 35 = .ok (.iload_n 2, 1) := by decide +kernel
theorem dX8_layOrder_36 : decode cX8_layOrder 36 = .ok (.if_icmp .ge 114, 3) := by decide +kernel
theorem dX8_layOrder_39 : decode cX8_layOrder 39 = .ok (.iload 4, 2) := by decide +kernel
theorem dX8_layOrder_41 : decode cX8_layOrder 41 = .ok (.iload 5, 2) := by decide +kernel
theorem dX8_layOrder_43 : decode cX8_layOrder 43 = .ok (.idiv, 1) := by decide +kernel
theorem dX8_layOrder_44 : decode cX8_layOrder 44 = .ok (.istore 7, 2) := by decide +kernel
theorem dX8_layOrder_46 : decode cX8_layOrder 46 = .ok (.iload 4, 2) := by decide +kernel
theorem dX8_layOrder_48 : decode cX8_layOrder 48 = .ok (.iload 5, 2) := by decide +kernel
theorem dX8_layOrder_50 : decode cX8_layOrder 50 = .ok (.irem, 1) := by decide +kernel
theorem dX8_layOrder_51 : decode cX8_layOrder 51 = .ok (.istore 4, 2) := by decide +kernel
theorem dX8_layOrder_53 : decode cX8_layOrder 53 = .ok (.iload_n 2, 1) := by decide +kernel
theorem dX8_layOrder_54 : decode cX8_layOrder 54 = .ok (.iconst 1, 1) := by decide +kernel
theorem dX8_layOrder_55 : decode cX8_layOrder 55 = .ok (.isub, 1) := by decide +kernel
theorem dX8_layOrder_56 : decode cX8_layOrder 56 = .ok (.iload 6, 2) := by decide +kernel
theorem dX8_layOrder_58 : decode cX8_layOrder 58 = .ok (.isub, 1) := by decide +kernel
theorem dX8_layOrder_59 : decode cX8_layOrder 59 = .ok (.ifCond .le 15, 3) := by decide +kernel
theorem dX8_layOrder_62 : decode cX8_layOrder 62 = .ok (.iload 5, 2) := by decide +kernel
theorem dX8_layOrder_64 : decode cX8_layOrder 64 = .ok (.iload_n 2, 1) := by decide +kernel
theorem dX8_layOrder_65 : decode cX8_layOrder 65 = .ok (.iconst 1, 1) := by decide +kernel
theorem dX8_layOrder_66 : decode cX8_layOrder 66 = .ok (.isub, 1) := by decide +kernel
theorem dX8_layOrder_67 : decode cX8_layOrder 67 = .ok (.iload 6, 2) := by decide +kernel
theorem dX8_layOrder_69 : decode cX8_layOrder 69 = .ok (.isub, 1) := by decide +kernel
theorem dX8_layOrder_70 : decode cX8_layOrder 70 = .ok (.idiv, 1) := by decide +kernel
theorem dX8_layOrder_71 : decode cX8_layOrder 71 = .ok (.goto 4, 3) := by decide +kernel
theorem dX8_layOrder_74 : decode cX8_layOrder 74 = .ok (.iconst 1, 1) := by decide +kernel
theorem dX8_layOrder_75 : decode cX8_layOrder 75 = .ok (.istore 5, 2) := by decide +kernel
theorem dX8_layOrder_77 : decode cX8_layOrder 77 = .ok (.iconst 0, 1) := by decide +kernel
theorem dX8_layOrder_78 : decode cX8_layOrder 78 = .ok (.istore 8, 2) := by decide +kernel
theorem dX8_layOrder_80 : decode cX8_layOrder 80 = .ok (.iload_n 3, 1) := by decide +kernel
theorem dX8_layOrder_81 : decode cX8_layOrder 81 = .ok (.iload 8, 2) := by decide +kernel
theorem dX8_layOrder_83 : decode cX8_layOrder 83 = .ok (.ishr, 1) := by decide +kernel
theorem dX8_layOrder_84 : decode cX8_layOrder 84 = .ok (.iconst 1, 1) := by decide +kernel
theorem dX8_layOrder_85 : decode cX8_layOrder 85 = .ok (.iand, 1) := by decide +kernel
theorem dX8_layOrder_86 : decode cX8_layOrder 86 = .ok (.iconst 1, 1) := by decide +kernel
theorem dX8_layOrder_87 : decode cX8_layOrder 87 = .ok (.if_icmp .eq 8, 3) := by decide +kernel
theorem dX8_layOrder_90 : decode cX8_layOrder 90 = .ok (.iload 7, 2) := by decide +kernel
theorem dX8_layOrder_92 : decode cX8_layOrder 92 = .ok (.ifCond .le 31, 3) := by decide +kernel
theorem dX8_layOrder_95 : decode cX8_layOrder 95 = .ok (.iload 7, 2) := by decide +kernel
theorem dX8_layOrder_97 : decode cX8_layOrder 97 = .ok (.iload_n 3, 1) := by decide +kernel
theorem dX8_layOrder_98 : decode cX8_layOrder 98 = .ok (.iload 8, 2) := by decide +kernel
theorem dX8_layOrder_100 : decode cX8_layOrder 100 = .ok (.ishr, 1) := by decide +kernel
theorem dX8_layOrder_101 : decode cX8_layOrder 101 = .ok (.iconst 1, 1) := by decide +kernel
theorem dX8_layOrder_102 : decode cX8_layOrder 102 = .ok (.iand, 1) := by decide +kernel
theorem dX8_layOrder_103 : decode cX8_layOrder 103 = .ok (.ifCond .ne 7, 3) := by decide +kernel
theorem dX8_layOrder_106 : decode cX8_layOrder 106 = .ok (.iconst 1, 1) := by decide +kernel
theorem dX8_layOrder_107 : decode cX8_layOrder 107 = .ok (.goto 4, 3) := by decide +kernel
theorem dX8_layOrder_110 : decode cX8_layOrder 110 = .ok (.iconst 0, 1) := by decide +kernel
theorem dX8_layOrder_111 : decode cX8_layOrder 111 = .ok (.invokestatic 191, 3) := by decide +kernel
theorem dX8_layOrder_114 : decode cX8_layOrder 114 = .ok (.isub, 1) := by decide +kernel
theorem dX8_layOrder_115 : decode cX8_layOrder 115 = .ok (.istore 7, 2) := by decide +kernel
theorem dX8_layOrder_117 : decode cX8_layOrder 117 = .ok (.iinc 8 1, 3) := by decide +kernel
theorem dX8_layOrder_120 : decode cX8_layOrder 120 = .ok (.goto (-40), 3) := by decide +kernel
theorem dX8_layOrder_123 : decode cX8_layOrder 123 = .ok (.iload_n 3, 1) := by decide +kernel
theorem dX8_layOrder_124 : decode cX8_layOrder 124 = .ok (.iconst 1, 1) := by decide +kernel
theorem dX8_layOrder_125 : decode cX8_layOrder 125 = .ok (.iload 8, 2) := by decide +kernel
theorem dX8_layOrder_127 : decode cX8_layOrder 127 = .ok (.ishl, 1) := by decide +kernel
theorem dX8_layOrder_128 : decode cX8_layOrder 128 = .ok (.ior, 1) := by decide +kernel
theorem dX8_layOrder_129 : decode cX8_layOrder 129 = .ok (.istore_n 3, 1) := by decide +kernel
theorem dX8_layOrder_130 : decode cX8_layOrder 130 = .ok (.aload_n 0, 1) := by decide +kernel
theorem dX8_layOrder_131 : decode cX8_layOrder 131 = .ok (.getfield 55, 3) := by decide +kernel
theorem dX8_layOrder_134 : decode cX8_layOrder 134 = .ok (.iload 6, 2) := by decide +kernel
theorem dX8_layOrder_136 : decode cX8_layOrder 136 = .ok (.aload_n 0, 1) := by decide +kernel
theorem dX8_layOrder_137 : decode cX8_layOrder 137 = .ok (.getfield 52, 3) := by decide +kernel
theorem dX8_layOrder_140 : decode cX8_layOrder 140 = .ok (.iload 8, 2) := by decide +kernel
theorem dX8_layOrder_142 : decode cX8_layOrder 142 = .ok (.iaload, 1) := by decide +kernel
theorem dX8_layOrder_143 : decode cX8_layOrder 143 = .ok (.iastore, 1) := by decide +kernel
theorem dX8_layOrder_144 : decode cX8_layOrder 144 = .ok (.iinc 6 1, 3) := by decide +kernel
theorem dX8_layOrder_147 : decode cX8_layOrder 147 = .ok (.goto (-114), 3) := by decide +kernel
theorem dX8_layOrder_150 : decode cX8_layOrder 150 = .ok (.return_, 1) := by decide +kernel
set_option maxRecDepth 20000 in
theorem ggX8_heatBy_X8_tryAllUp : GoodIn wsX8_heatBy wsX8_tryAllUp := goodIn_r _ [8, 1, 3, 9, 10, 11, 7, 12, 53, 54, 55, 56, 57, 58, 59, 60, 61, 62, 63, 64, 65, 66, 67, 68, 69, 70, 71, 72, 73, 74, 75, 76, 77, 78, 79, 80, 81] (by decide +kernel) (by decide +kernel)
set_option maxRecDepth 20000 in
theorem gX8_heatBy_X8_tryAllUp : GoodIn wsX8_heatBy (wsV RX8 239 RX8 yX8_tryAllUp wsX8_tryAllUp) := goodIn_app (goodIn_of _ (by decide +kernel)) ggX8_heatBy_X8_tryAllUp
set_option maxRecDepth 20000 in
theorem ggX8_heatBy_X8_pass : GoodIn wsX8_heatBy wsX8_pass := goodIn_r _ [16, 1, 17, 18, 19, 20, 21, 22, 23, 24, 25, 7, 26, 27, 28, 29, 30, 31, 32, 33, 34, 35, 36, 37, 38, 39, 40, 41, 42, 43, 44, 45, 46, 47, 48, 49, 50, 51, 52, 53, 54, 55, 56, 57, 58, 59, 60, 61, 62, 63, 64, 65, 66, 67, 68, 69, 70, 71, 72, 73, 74, 75, 76, 77, 78, 79, 80, 81] (by decide +kernel) (by decide +kernel)
set_option maxRecDepth 20000 in
theorem gX8_heatBy_X8_pass : GoodIn wsX8_heatBy (wsV RX8 201 RX8 yX8_pass wsX8_pass) := goodIn_app (goodIn_of _ (by decide +kernel)) ggX8_heatBy_X8_pass
theorem dX8_heatBy_0 : decode cX8_heatBy 0 = .ok (.aload_n 0, 1) := by decide +kernel
theorem dX8_heatBy_1 : decode cX8_heatBy 1 = .ok (.invokevirtual 239, 3) := by decide +kernel
theorem dX8_heatBy_4 : decode cX8_heatBy 4 = .ok (.iconst 0, 1) := by decide +kernel
theorem dX8_heatBy_5 : decode cX8_heatBy 5 = .ok (.istore 4, 2) := by decide +kernel
theorem dX8_heatBy_7 : decode cX8_heatBy 7 = .ok (.iload 4, 2) := by decide +kernel
theorem dX8_heatBy_9 : decode cX8_heatBy 9 = .ok (.iload_n 3, 1) := by decide +kernel
theorem dX8_heatBy_10 : decode cX8_heatBy 10 = .ok (.if_icmp .ge 70, 3) := by decide +kernel
theorem dX8_heatBy_13 : decode cX8_heatBy 13 = .ok (.aload_n 0, 1) := by decide +kernel
theorem dX8_heatBy_14 : decode cX8_heatBy 14 = .ok (.getfield 7, 3) := by decide +kernel
theorem dX8_heatBy_17 : decode cX8_heatBy 17 = .ok (.sipush 160, 3) := by decide +kernel
theorem dX8_heatBy_20 : decode cX8_heatBy 20 = .ok (.aload_n 0, 1) := by decide +kernel
theorem dX8_heatBy_21 : decode cX8_heatBy 21 = .ok (.getfield 55, 3) := by decide +kernel
theorem dX8_heatBy_24 : decode cX8_heatBy 24 = .ok (.iload 4, 2) := by decide +kernel
theorem dX8_heatBy_26 : decode cX8_heatBy 26 = .ok (.iaload, 1) := by decide +kernel
theorem dX8_heatBy_27 : decode cX8_heatBy 27 = .ok (.iadd, 1) := by decide +kernel
theorem dX8_heatBy_28 : decode cX8_heatBy 28 = .ok (.iload_n 1, 1) := by decide +kernel
theorem dX8_heatBy_29 : decode cX8_heatBy 29 = .ok (.i2l, 1) := by decide +kernel
theorem dX8_heatBy_30 : decode cX8_heatBy 30 = .ok (.lastore, 1) := by decide +kernel
theorem dX8_heatBy_31 : decode cX8_heatBy 31 = .ok (.iconst 0, 1) := by decide +kernel
theorem dX8_heatBy_32 : decode cX8_heatBy 32 = .ok (.istore 5, 2) := by decide +kernel
theorem dX8_heatBy_34 : decode cX8_heatBy 34 = .ok (.iload 5, 2) := by decide +kernel
theorem dX8_heatBy_36 : decode cX8_heatBy 36 = .ok (.iload_n 2, 1) := by decide +kernel
theorem dX8_heatBy_37 : decode cX8_heatBy 37 = .ok (.if_icmp .ge 18, 3) := by decide +kernel
theorem dX8_heatBy_40 : decode cX8_heatBy 40 = .ok (.aload_n 0, 1) := by decide +kernel
theorem dX8_heatBy_41 : decode cX8_heatBy 41 = .ok (.sipush 140, 3) := by decide +kernel
theorem dX8_heatBy_44 : decode cX8_heatBy 44 = .ok (.invokevirtual 201, 3) := by decide +kernel
theorem dX8_heatBy_47 : decode cX8_heatBy 47 = .ok (.istore 6, 2) := by decide +kernel
theorem dX8_heatBy_49 : decode cX8_heatBy 49 = .ok (.iinc 5 1, 3) := by decide +kernel
theorem dX8_heatBy_52 : decode cX8_heatBy 52 = .ok (.goto (-18), 3) := by decide +kernel
theorem dX8_heatBy_55 : decode cX8_heatBy 55 = .ok (.aload_n 0, 1) := by decide +kernel
theorem dX8_heatBy_56 : decode cX8_heatBy 56 = .ok (.getfield 7, 3) := by decide +kernel
theorem dX8_heatBy_59 : decode cX8_heatBy 59 = .ok (.sipush 160, 3) := by decide +kernel
theorem dX8_heatBy_62 : decode cX8_heatBy 62 = .ok (.aload_n 0, 1) := by decide +kernel
theorem dX8_heatBy_63 : decode cX8_heatBy 63 = .ok (.getfield 55, 3) := by decide +kernel
theorem dX8_heatBy_66 : decode cX8_heatBy 66 = .ok (.iload 4, 2) := by decide +kernel
theorem dX8_heatBy_68 : decode cX8_heatBy 68 = .ok (.iaload, 1) := by decide +kernel
theorem dX8_heatBy_69 : decode cX8_heatBy 69 = .ok (.iadd, 1) := by decide +kernel
theorem dX8_heatBy_70 : decode cX8_heatBy 70 = .ok (.ldc2_w 152, 3) := by decide +kernel
theorem dX8_heatBy_73 : decode cX8_heatBy 73 = .ok (.lastore, 1) := by decide +kernel
theorem dX8_heatBy_74 : decode cX8_heatBy 74 = .ok (.iinc 4 1, 3) := by decide +kernel
theorem dX8_heatBy_77 : decode cX8_heatBy 77 = .ok (.goto (-70), 3) := by decide +kernel
theorem dX8_heatBy_80 : decode cX8_heatBy 80 = .ok (.aload_n 0, 1) := by decide +kernel
theorem dX8_heatBy_81 : decode cX8_heatBy 81 = .ok (.getfield 7, 3) := by decide +kernel
theorem dX8_heatBy_84 : decode cX8_heatBy 84 = .ok (.sipush 140, 3) := by decide +kernel
theorem dX8_heatBy_87 : decode cX8_heatBy 87 = .ok (.iload_n 1, 1) := by decide +kernel
theorem dX8_heatBy_88 : decode cX8_heatBy 88 = .ok (.iadd, 1) := by decide +kernel
theorem dX8_heatBy_89 : decode cX8_heatBy 89 = .ok (.laload, 1) := by decide +kernel
theorem dX8_heatBy_90 : decode cX8_heatBy 90 = .ok (.lreturn, 1) := by decide +kernel
set_option maxRecDepth 20000 in
theorem ggX8_passed_X8_isStone : GoodIn wsX8_passed wsX8_isStone := goodIn_r _ [12, 1, 13, 14, 11, 15, 73, 74, 75, 76, 77, 78, 79, 80, 81, 82, 83, 84, 85, 86, 87, 88, 89, 90, 91, 92, 93, 94, 95, 96, 97, 98, 99, 100, 101] (by decide +kernel) (by decide +kernel)
set_option maxRecDepth 20000 in
theorem gX8_passed_X8_isStone : GoodIn wsX8_passed (wsV RX8 160 RX8 yX8_isStone wsX8_isStone) := goodIn_app (goodIn_of _ (by decide +kernel)) ggX8_passed_X8_isStone
set_option maxRecDepth 20000 in
theorem ggX8_passed_X8_in : GoodIn wsX8_passed wsX8_in := goodIn_r _ [15] (by decide +kernel) (by decide +kernel)
set_option maxRecDepth 20000 in
theorem gX8_passed_X8_in : GoodIn wsX8_passed (va_wsS RX8 69 yX8_in wsX8_in) := goodIn_app (goodIn_of _ (by decide +kernel)) ggX8_passed_X8_in
set_option maxRecDepth 20000 in
theorem ggX8_passed_X8_layOrder : GoodIn wsX8_passed wsX8_layOrder := goodIn_r _ [19, 7, 3, 20, 21, 11, 22, 73, 74, 75, 76, 77, 78, 79, 80, 81, 82, 83, 84, 85, 86, 87, 88, 89, 90, 91, 92, 93, 94, 95, 96, 97, 98, 99, 100, 101] (by decide +kernel) (by decide +kernel)
set_option maxRecDepth 20000 in
theorem gX8_passed_X8_layOrder : GoodIn wsX8_passed (wsV RX8 248 RX8 yX8_layOrder wsX8_layOrder) := goodIn_app (goodIn_of _ (by decide +kernel)) ggX8_passed_X8_layOrder
set_option maxRecDepth 20000 in
theorem ggX8_passed_X8_heatBy : GoodIn wsX8_passed wsX8_heatBy := goodIn_r _ [26, 27, 7, 28, 29, 30, 31, 11, 32, 33, 34, 35, 36, 37, 38, 39, 40, 1, 41, 42, 43, 44, 45, 46, 47, 48, 49, 50, 51, 52, 53, 54, 55, 56, 57, 58, 59, 60, 61, 62, 63, 64, 65, 20, 21, 22, 66, 67, 68, 69, 70, 71, 72, 73, 74, 75, 76, 77, 78, 79, 80, 81, 82, 83, 84, 85, 86, 87, 88, 89, 90, 91, 92, 93, 94, 95, 96, 97, 98, 99, 100, 101] (by decide +kernel) (by decide +kernel)
set_option maxRecDepth 20000 in
theorem gX8_passed_X8_heatBy : GoodIn wsX8_passed (wsV RX8 251 RX8 yX8_heatBy wsX8_heatBy) := goodIn_app (goodIn_of _ (by decide +kernel)) ggX8_passed_X8_heatBy
theorem dX8_passed_0 : decode cX8_passed 0 = .ok (.aload_n 0, 1) := by decide +kernel
theorem dX8_passed_1 : decode cX8_passed 1 = .ok (.iload_n 1, 1) := by decide +kernel
theorem dX8_passed_2 : decode cX8_passed 2 = .ok (.invokevirtual 160, 3) := by decide +kernel
theorem dX8_passed_5 : decode cX8_passed 5 = .ok (.ifCond .eq 23, 3) := by decide +kernel
theorem dX8_passed_8 : decode cX8_passed 8 = .ok (.iload_n 2, 1) := by decide +kernel
theorem dX8_passed_9 : decode cX8_passed 9 = .ok (.i2l, 1) := by decide +kernel
theorem dX8_passed_10 : decode cX8_passed 10 = .ok (.lconst 0, 1) := by decide +kernel
theorem dX8_passed_11 : decode cX8_passed 11 = .ok (.iconst 1, 1) := by decide +kernel
theorem dX8_passed_12 : decode cX8_passed 12 = .ok (.aload_n 0, 1) := by decide +kernel
theorem dX8_passed_13 : decode cX8_passed 13 = .ok (.getfield 36, 3) := by decide +kernel
theorem dX8_passed_16 : decode cX8_passed 16 = .ok (.iconst 1, 1) := by decide +kernel
theorem dX8_passed_17 : decode cX8_passed 17 = .ok (.iaload, 1) := by decide +kernel
theorem dX8_passed_18 : decode cX8_passed 18 = .ok (.ishl, 1) := by decide +kernel
theorem dX8_passed_19 : decode cX8_passed 19 = .ok (.iconst 1, 1) := by decide +kernel
theorem dX8_passed_20 : decode cX8_passed 20 = .ok (.isub, 1) := by decide +kernel
theorem dX8_passed_21 : decode cX8_passed 21 = .ok (.i2l, 1) := by decide +kernel
theorem dX8_passed_22 : decode cX8_passed 22 = .ok (.invokestatic 69, 3) := by decide +kernel
theorem dX8_passed_25 : decode cX8_passed 25 = .ok (.ifCond .ne 6, 3) := by decide +kernel
theorem dX8_passed_28 : decode cX8_passed 28 = .ok (.ldc 164, 2) := by decide +kernel
theorem dX8_passed_30 : decode cX8_passed 30 = .ok (.ireturn, 1) := by decide +kernel
theorem dX8_passed_31 : decode cX8_passed 31 = .ok (.iconst 0, 1) := by decide +kernel
theorem dX8_passed_32 : decode cX8_passed 32 = .ok (.istore 5, 2) := by decide +kernel
theorem dX8_passed_34 : decode cX8_passed 34 = .ok (.iconst 1, 1) := by decide +kernel
theorem dX8_passed_35 : decode cX8_passed 35 = .ok (.istore 6, 2) := by decide +kernel
theorem dX8_passed_37 : decode cX8_passed 37 = .ok (.iconst 0, 1) := by decide +kernel
theorem dX8_passed_38 : decode cX8_passed 38 = .ok (.istore 7, 2) := by decide +kernel
theorem dX8_passed_40 : decode cX8_passed 40 = .ok (.iload 7, 2) := by decide +kernel
theorem dX8_passed_42 : decode cX8_passed 42 = .ok (.aload_n 0, 1) := by decide +kernel
theorem dX8_passed_43 : decode cX8_passed 43 = .ok (.getfield 36, 3) := by decide +kernel
theorem dX8_passed_46 : decode cX8_passed 46 = .ok (.iconst 1, 1) := by decide +kernel
theorem dX8_passed_47 : decode cX8_passed 47 = .ok (.iaload, 1) := by decide +kernel
theorem dX8_passed_48 : decode cX8_passed 48 = .ok (.if_icmp .ge 45, 3) := by decide +kernel
theorem dX8_passed_51 : decode cX8_passed 51 = .ok (.iload_n 2, 1) := by decide +kernel
theorem dX8_passed_52 : decode cX8_passed 52 = .ok (.iload 7, 2) := by decide +kernel
theorem dX8_passed_54 : decode cX8_passed 54 = .ok (.ishr, 1) := by decide +kernel
theorem dX8_passed_55 : decode cX8_passed 55 = .ok (.iconst 1, 1) := by decide +kernel
theorem dX8_passed_56 : decode cX8_passed 56 = .ok (.iand, 1) := by decide +kernel
theorem dX8_passed_57 : decode cX8_passed 57 = .ok (.iconst 1, 1) := by decide +kernel
theorem dX8_passed_58 : decode cX8_passed 58 = .ok (.if_icmp .ne 29, 3) := by decide +kernel
theorem dX8_passed_61 : decode cX8_passed 61 = .ok (.iload 5, 2) := by decide +kernel
theorem dX8_passed_63 : decode cX8_passed 63 = .ok (.bipush 6, 2) := by decide +kernel
theorem dX8_passed_65 : decode cX8_passed 65 = .ok (.if_icmp .ge 12, 3) := by decide +kernel
theorem dX8_passed_68 : decode cX8_passed 68 = .ok (.aload_n 0, 1) := by decide +kernel
theorem dX8_passed_69 : decode cX8_passed 69 = .ok (.getfield 52, 3) := by decide +kernel
theorem dX8_passed_72 : decode cX8_passed 72 = .ok (.iload 5, 2) := by decide +kernel
theorem dX8_passed_74 : decode cX8_passed 74 = .ok (.iload 7, 2) := by decide +kernel
theorem dX8_passed_76 : decode cX8_passed 76 = .ok (.iastore, 1) := by decide +kernel
theorem dX8_passed_77 : decode cX8_passed 77 = .ok (.iinc 5 1, 3) := by decide +kernel
theorem dX8_passed_80 : decode cX8_passed 80 = .ok (.iload 6, 2) := by decide +kernel
theorem dX8_passed_82 : decode cX8_passed 82 = .ok (.iload 5, 2) := by decide +kernel
theorem dX8_passed_84 : decode cX8_passed 84 = .ok (.imul, 1) := by decide +kernel
theorem dX8_passed_85 : decode cX8_passed 85 = .ok (.istore 6, 2) := by decide +kernel
theorem dX8_passed_87 : decode cX8_passed 87 = .ok (.iinc 7 1, 3) := by decide +kernel
theorem dX8_passed_90 : decode cX8_passed 90 = .ok (.goto (-50), 3) := by decide +kernel
theorem dX8_passed_93 : decode cX8_passed 93 = .ok (.iload_n 3, 1) := by decide +kernel
theorem dX8_passed_94 : decode cX8_passed 94 = .ok (.i2l, 1) := by decide +kernel
theorem dX8_passed_95 : decode cX8_passed 95 = .ok (.lconst 1, 1) := by decide +kernel
theorem dX8_passed_96 : decode cX8_passed 96 = .ok (.ldc2_w 234, 3) := by decide +kernel
theorem dX8_passed_99 : decode cX8_passed 99 = .ok (.invokestatic 69, 3) := by decide +kernel
theorem dX8_passed_102 : decode cX8_passed 102 = .ok (.ifCond .eq 29, 3) := by decide +kernel
theorem dX8_passed_105 : decode cX8_passed 105 = .ok (.iload 5, 2) := by decide +kernel
theorem dX8_passed_107 : decode cX8_passed 107 = .ok (.i2l, 1) := by decide +kernel
theorem dX8_passed_108 : decode cX8_passed 108 = .ok (.lconst 1, 1) := by decide +kernel
theorem dX8_passed_109 : decode cX8_passed 109 = .ok (.ldc2_w 246, 3) := by decide +kernel
theorem dX8_passed_112 : decode cX8_passed 112 = .ok (.invokestatic 69, 3) := by decide +kernel
theorem dX8_passed_115 : decode cX8_passed 115 = .ok (.ifCond .eq 16, 3) := by decide +kernel
theorem dX8_passed_118 : decode cX8_passed 118 = .ok (.iload 4, 2) := by decide +kernel
theorem dX8_passed_120 : decode cX8_passed 120 = .ok (.i2l, 1) := by decide +kernel
theorem dX8_passed_121 : decode cX8_passed 121 = .ok (.lconst 0, 1) := by decide +kernel
theorem dX8_passed_122 : decode cX8_passed 122 = .ok (.iload 5, 2) := by decide +kernel
theorem dX8_passed_124 : decode cX8_passed 124 = .ok (.i2l, 1) := by decide +kernel
theorem dX8_passed_125 : decode cX8_passed 125 = .ok (.invokestatic 69, 3) := by decide +kernel
theorem dX8_passed_128 : decode cX8_passed 128 = .ok (.ifCond .ne 6, 3) := by decide +kernel
theorem dX8_passed_131 : decode cX8_passed 131 = .ok (.ldc 73, 2) := by decide +kernel
theorem dX8_passed_133 : decode cX8_passed 133 = .ok (.ireturn, 1) := by decide +kernel
theorem dX8_passed_134 : decode cX8_passed 134 = .ok (.iconst (-1), 1) := by decide +kernel
theorem dX8_passed_135 : decode cX8_passed 135 = .ok (.istore 7, 2) := by decide +kernel
theorem dX8_passed_137 : decode cX8_passed 137 = .ok (.lconst 0, 1) := by decide +kernel
theorem dX8_passed_138 : decode cX8_passed 138 = .ok (.lstore 8, 2) := by decide +kernel
theorem dX8_passed_140 : decode cX8_passed 140 = .ok (.iconst 0, 1) := by decide +kernel
theorem dX8_passed_141 : decode cX8_passed 141 = .ok (.istore 10, 2) := by decide +kernel
theorem dX8_passed_143 : decode cX8_passed 143 = .ok (.iload 10, 2) := by decide +kernel
theorem dX8_passed_145 : decode cX8_passed 145 = .ok (.iload 6, 2) := by decide +kernel
theorem dX8_passed_147 : decode cX8_passed 147 = .ok (.if_icmp .ge 48, 3) := by decide +kernel
theorem dX8_passed_150 : decode cX8_passed 150 = .ok (.aload_n 0, 1) := by decide +kernel
theorem dX8_passed_151 : decode cX8_passed 151 = .ok (.iload 10, 2) := by decide +kernel
theorem dX8_passed_153 : decode cX8_passed 153 = .ok (.iload 5, 2) := by decide +kernel
theorem dX8_passed_155 : decode cX8_passed 155 = .ok (.invokevirtual 248, 3) := by decide +kernel
theorem dX8_passed_158 : decode cX8_passed 158 = .ok (.aload_n 0, 1) := by decide +kernel
theorem dX8_passed_159 : decode cX8_passed 159 = .ok (.iload_n 1, 1) := by decide +kernel
theorem dX8_passed_160 : decode cX8_passed 160 = .ok (.iload_n 3, 1) := by decide +kernel
theorem dX8_passed_161 : decode cX8_passed 161 = .ok (.iload 5, 2) := by decide +kernel
theorem dX8_passed_163 : decode cX8_passed 163 = .ok (.invokevirtual 251, 3) := by decide +kernel
theorem dX8_passed_166 : decode cX8_passed 166 = .ok (.lstore 11, 2) := by decide +kernel
theorem dX8_passed_168 : decode cX8_passed 168 = .ok (.iload 7, 2) := by decide +kernel
theorem dX8_passed_170 : decode cX8_passed 170 = .ok (.ifCond .lt 11, 3) := by decide +kernel
theorem dX8_passed_173 : decode cX8_passed 173 = .ok (.lload 11, 2) := by decide +kernel
theorem dX8_passed_175 : decode cX8_passed 175 = .ok (.lload 8, 2) := by decide +kernel
theorem dX8_passed_177 : decode cX8_passed 177 = .ok (.lcmp, 1) := by decide +kernel
theorem dX8_passed_178 : decode cX8_passed 178 = .ok (.ifCond .le 11, 3) := by decide +kernel
theorem dX8_passed_181 : decode cX8_passed 181 = .ok (.iload 10, 2) := by decide +kernel
theorem dX8_passed_183 : decode cX8_passed 183 = .ok (.istore 7, 2) := by decide +kernel
theorem dX8_passed_185 : decode cX8_passed 185 = .ok (.lload 11, 2) := by decide +kernel
theorem dX8_passed_187 : decode cX8_passed 187 = .ok (.lstore 8, 2) := by decide +kernel
theorem dX8_passed_189 : decode cX8_passed 189 = .ok (.iinc 10 1, 3) := by decide +kernel
theorem dX8_passed_192 : decode cX8_passed 192 = .ok (.goto (-49), 3) := by decide +kernel
theorem dX8_passed_195 : decode cX8_passed 195 = .ok (.aload_n 0, 1) := by decide +kernel
theorem dX8_passed_196 : decode cX8_passed 196 = .ok (.iload 7, 2) := by decide +kernel
theorem dX8_passed_198 : decode cX8_passed 198 = .ok (.iload 5, 2) := by decide +kernel
theorem dX8_passed_200 : decode cX8_passed 200 = .ok (.invokevirtual 248, 3) := by decide +kernel
theorem dX8_passed_203 : decode cX8_passed 203 = .ok (.iload 4, 2) := by decide +kernel
theorem dX8_passed_205 : decode cX8_passed 205 = .ok (.ifCond .ne 9, 3) := by decide +kernel
theorem dX8_passed_208 : decode cX8_passed 208 = .ok (.lload 8, 2) := by decide +kernel
theorem dX8_passed_210 : decode cX8_passed 210 = .ok (.l2i, 1) := by decide +kernel
theorem dX8_passed_211 : decode cX8_passed 211 = .ok (.goto 12, 3) := by decide +kernel
theorem dX8_passed_214 : decode cX8_passed 214 = .ok (.aload_n 0, 1) := by decide +kernel
theorem dX8_passed_215 : decode cX8_passed 215 = .ok (.getfield 55, 3) := by decide +kernel
theorem dX8_passed_218 : decode cX8_passed 218 = .ok (.iload 4, 2) := by decide +kernel
theorem dX8_passed_220 : decode cX8_passed 220 = .ok (.iconst 1, 1) := by decide +kernel
theorem dX8_passed_221 : decode cX8_passed 221 = .ok (.isub, 1) := by decide +kernel
theorem dX8_passed_222 : decode cX8_passed 222 = .ok (.iaload, 1) := by decide +kernel
theorem dX8_passed_223 : decode cX8_passed 223 = .ok (.ireturn, 1) := by decide +kernel
set_option maxRecDepth 20000 in
theorem ggX8_gift_X8_isPerson : GoodIn wsX8_gift wsX8_isPerson := goodIn_r _ [13, 4, 14, 15, 12, 16, 20, 21, 22, 23, 24, 25, 26, 27, 28, 29, 30, 31, 32, 33, 34, 35, 36, 37, 38, 39, 40, 41, 42, 43, 44, 45, 46, 47, 48] (by decide +kernel) (by decide +kernel)
set_option maxRecDepth 20000 in
theorem gX8_gift_X8_isPerson : GoodIn wsX8_gift (wsV RX8 168 RX8 yX8_isPerson wsX8_isPerson) := goodIn_app (goodIn_of _ (by decide +kernel)) ggX8_gift_X8_isPerson
set_option maxRecDepth 20000 in
theorem ggX8_gift_X8_in : GoodIn wsX8_gift wsX8_in := goodIn_r _ [16] (by decide +kernel) (by decide +kernel)
set_option maxRecDepth 20000 in
theorem gX8_gift_X8_in : GoodIn wsX8_gift (va_wsS RX8 69 yX8_in wsX8_in) := goodIn_app (goodIn_of _ (by decide +kernel)) ggX8_gift_X8_in
set_option maxRecDepth 20000 in
theorem ggX8_gift_X8_greater : GoodIn wsX8_gift wsX8_greater := goodIn_r _ [19] (by decide +kernel) (by decide +kernel)
set_option maxRecDepth 20000 in
theorem gX8_gift_X8_greater : GoodIn wsX8_gift (va_wsS RX8 195 yX8_greater wsX8_greater) := goodIn_app (goodIn_of _ (by decide +kernel)) ggX8_gift_X8_greater
theorem dX8_gift_0 : decode cX8_gift 0 = .ok (.aload_n 0, 1) := by decide +kernel
theorem dX8_gift_1 : decode cX8_gift 1 = .ok (.iload_n 1, 1) := by decide +kernel
theorem dX8_gift_2 : decode cX8_gift 2 = .ok (.invokevirtual 168, 3) := by decide +kernel
theorem dX8_gift_5 : decode cX8_gift 5 = .ok (.ifCond .ne 6, 3) := by decide +kernel
theorem dX8_gift_8 : decode cX8_gift 8 = .ok (.ldc 164, 2) := by decide +kernel
theorem dX8_gift_10 : decode cX8_gift 10 = .ok (.ireturn, 1) := by decide +kernel
theorem dX8_gift_11 : decode cX8_gift 11 = .ok (.iload_n 2, 1) := by decide +kernel
theorem dX8_gift_12 : decode cX8_gift 12 = .ok (.i2l, 1) := by decide +kernel
theorem dX8_gift_13 : decode cX8_gift 13 = .ok (.lconst 0, 1) := by decide +kernel
theorem dX8_gift_14 : decode cX8_gift 14 = .ok (.ldc2_w 254, 3) := by decide +kernel
theorem dX8_gift_17 : decode cX8_gift 17 = .ok (.invokestatic 69, 3) := by decide +kernel
theorem dX8_gift_20 : decode cX8_gift 20 = .ok (.ifCond .ne 6, 3) := by decide +kernel
theorem dX8_gift_23 : decode cX8_gift 23 = .ok (.ldc 73, 2) := by decide +kernel
theorem dX8_gift_25 : decode cX8_gift 25 = .ok (.ireturn, 1) := by decide +kernel
theorem dX8_gift_26 : decode cX8_gift 26 = .ok (.lconst 0, 1) := by decide +kernel
theorem dX8_gift_27 : decode cX8_gift 27 = .ok (.lstore_n 3, 1) := by decide +kernel
theorem dX8_gift_28 : decode cX8_gift 28 = .ok (.iconst 0, 1) := by decide +kernel
theorem dX8_gift_29 : decode cX8_gift 29 = .ok (.istore 5, 2) := by decide +kernel
theorem dX8_gift_31 : decode cX8_gift 31 = .ok (.iload 5, 2) := by decide +kernel
theorem dX8_gift_33 : decode cX8_gift 33 = .ok (.aload_n 0, 1) := by decide +kernel
theorem dX8_gift_34 : decode cX8_gift 34 = .ok (.getfield 36, 3) := by decide +kernel
theorem dX8_gift_37 : decode cX8_gift 37 = .ok (.iconst 1, 1) := by decide +kernel
theorem dX8_gift_38 : decode cX8_gift 38 = .ok (.iaload, 1) := by decide +kernel
theorem dX8_gift_39 : decode cX8_gift 39 = .ok (.if_icmp .ge 86, 3) := by decide +kernel
theorem dX8_gift_42 : decode cX8_gift 42 = .ok (.iload 5, 2) := by decide +kernel
theorem dX8_gift_44 : decode cX8_gift 44 = .ok (.iload_n 1, 1) := by decide +kernel
theorem dX8_gift_45 : decode cX8_gift 45 = .ok (.if_icmp .eq 74, 3) := by decide +kernel
theorem dX8_gift_48 : decode cX8_gift 48 = .ok (.aload_n 0, 1) := by decide +kernel
theorem dX8_gift_49 : decode cX8_gift 49 = .ok (.getfield 33, 3) := by decide +kernel
theorem dX8_gift_52 : decode cX8_gift 52 = .ok (.iload 5, 2) := by decide +kernel
theorem dX8_gift_54 : decode cX8_gift 54 = .ok (.iaload, 1) := by decide +kernel
theorem dX8_gift_55 : decode cX8_gift 55 = .ok (.ifCond .ne 7, 3) := by decide +kernel
theorem dX8_gift_58 : decode cX8_gift 58 = .ok (.lconst 0, 1) := by decide +kernel
theorem dX8_gift_59 : decode cX8_gift 59 = .ok (.goto 38, 3) := by decide +kernel
theorem dX8_gift_62 : decode cX8_gift 62 = .ok (.aload_n 0, 1) := by decide +kernel
theorem dX8_gift_63 : decode cX8_gift 63 = .ok (.getfield 33, 3) := by decide +kernel
theorem dX8_gift_66 : decode cX8_gift 66 = .ok (.iload 5, 2) := by decide +kernel
theorem dX8_gift_68 : decode cX8_gift 68 = .ok (.iaload, 1) := by decide +kernel
theorem dX8_gift_69 : decode cX8_gift 69 = .ok (.iload_n 2, 1) := by decide +kernel
theorem dX8_gift_70 : decode cX8_gift 70 = .ok (.aload_n 0, 1) := by decide +kernel
theorem dX8_gift_71 : decode cX8_gift 71 = .ok (.getfield 27, 3) := by decide +kernel
theorem dX8_gift_74 : decode cX8_gift 74 = .ok (.iload 5, 2) := by decide +kernel
theorem dX8_gift_76 : decode cX8_gift 76 = .ok (.iaload, 1) := by decide +kernel
theorem dX8_gift_77 : decode cX8_gift 77 = .ok (.iconst 4, 1) := by decide +kernel
theorem dX8_gift_78 : decode cX8_gift 78 = .ok (.if_icmp .ne 12, 3) := by decide +kernel
theorem dX8_gift_81 : decode cX8_gift 81 = .ok (.aload_n 0, 1) := by decide +kernel
theorem dX8_gift_82 : decode cX8_gift 82 = .ok (.getfield 39, 3) := by decide +kernel
theorem dX8_gift_85 : decode cX8_gift 85 = .ok (.iconst 2, 1) := by decide +kernel
theorem dX8_gift_86 : decode cX8_gift 86 = .ok (.idiv, 1) := by decide +kernel
theorem dX8_gift_87 : decode cX8_gift 87 = .ok (.goto 7, 3) := by decide +kernel
theorem dX8_gift_90 : decode cX8_gift 90 = .ok (.aload_n 0, 1) := by decide +kernel
theorem dX8_gift_91 : decode cX8_gift 91 = .ok (.getfield 39, 3) := by decide +kernel
theorem dX8_gift_94 : decode cX8_gift 94 = .ok (.imul, 1) := by decide +kernel
theorem dX8_gift_95 : decode cX8_gift 95 = .ok (.iadd, 1) := by decide +kernel
theorem dX8_gift_96 : decode cX8_gift 96 = .ok (.i2l, 1) := by decide +kernel
theorem dX8_gift_97 : decode cX8_gift 97 = .ok (.lstore 6, 2) := by decide +kernel
theorem dX8_gift_99 : decode cX8_gift 99 = .ok (.lload_n 3, 1) := by decide +kernel
theorem dX8_gift_100 : decode cX8_gift 100 = .ok (.lconst 0, 1) := by decide +kernel
theorem dX8_gift_101 : decode cX8_gift 101 = .ok (.aload_n 0, 1) := by decide +kernel
theorem dX8_gift_102 : decode cX8_gift 102 = .ok (.getfield 7, 3) := by decide +kernel
theorem dX8_gift_105 : decode cX8_gift 105 = .ok (.bipush 10, 2) := by decide +kernel
theorem dX8_gift_107 : decode cX8_gift 107 = .ok (.iload 5, 2) := by decide +kernel
theorem dX8_gift_109 : decode cX8_gift 109 = .ok (.iadd, 1) := by decide +kernel
theorem dX8_gift_110 : decode cX8_gift 110 = .ok (.laload, 1) := by decide +kernel
theorem dX8_gift_111 : decode cX8_gift 111 = .ok (.lload 6, 2) := by decide +kernel
theorem dX8_gift_113 : decode cX8_gift 113 = .ok (.lsub, 1) := by decide +kernel
theorem dX8_gift_114 : decode cX8_gift 114 = .ok (.invokestatic 195, 3) := by decide +kernel
theorem dX8_gift_117 : decode cX8_gift 117 = .ok (.ladd, 1) := by decide +kernel
theorem dX8_gift_118 : decode cX8_gift 118 = .ok (.lstore_n 3, 1) := by decide +kernel
theorem dX8_gift_119 : decode cX8_gift 119 = .ok (.iinc 5 1, 3) := by decide +kernel
theorem dX8_gift_122 : decode cX8_gift 122 = .ok (.goto (-91), 3) := by decide +kernel
theorem dX8_gift_125 : decode cX8_gift 125 = .ok (.lload_n 3, 1) := by decide +kernel
theorem dX8_gift_126 : decode cX8_gift 126 = .ok (.l2i, 1) := by decide +kernel
theorem dX8_gift_127 : decode cX8_gift 127 = .ok (.ireturn, 1) := by decide +kernel
set_option maxRecDepth 20000 in
theorem ggX8_palms_X8_isStone : GoodIn wsX8_palms wsX8_isStone := goodIn_r _ [12, 5, 13, 14, 11, 15, 63, 64, 65, 66, 67, 68, 69, 70, 71, 72, 73, 74, 75, 76, 77, 78, 79, 80, 81, 82, 83, 84, 85, 86, 87, 88, 89, 90, 91] (by decide +kernel) (by decide +kernel)
set_option maxRecDepth 20000 in
theorem gX8_palms_X8_isStone : GoodIn wsX8_palms (wsV RX8 160 RX8 yX8_isStone wsX8_isStone) := goodIn_app (goodIn_of _ (by decide +kernel)) ggX8_palms_X8_isStone
set_option maxRecDepth 20000 in
theorem ggX8_palms_X8_in : GoodIn wsX8_palms wsX8_in := goodIn_r _ [15] (by decide +kernel) (by decide +kernel)
set_option maxRecDepth 20000 in
theorem gX8_palms_X8_in : GoodIn wsX8_palms (va_wsS RX8 69 yX8_in wsX8_in) := goodIn_app (goodIn_of _ (by decide +kernel)) ggX8_palms_X8_in
set_option maxRecDepth 20000 in
theorem ggX8_palms_X8_tryAllUp : GoodIn wsX8_palms wsX8_tryAllUp := goodIn_r _ [19, 6, 7, 20, 21, 22, 11, 23, 63, 64, 65, 66, 67, 68, 69, 70, 71, 72, 73, 74, 75, 76, 77, 78, 79, 80, 81, 82, 83, 84, 85, 86, 87, 88, 89, 90, 91] (by decide +kernel) (by decide +kernel)
set_option maxRecDepth 20000 in
theorem gX8_palms_X8_tryAllUp : GoodIn wsX8_palms (wsV RX8 239 RX8 yX8_tryAllUp wsX8_tryAllUp) := goodIn_app (goodIn_of _ (by decide +kernel)) ggX8_palms_X8_tryAllUp
set_option maxRecDepth 20000 in
theorem ggX8_palms_X8_pass : GoodIn wsX8_palms wsX8_pass := goodIn_r _ [27, 6, 5, 28, 29, 30, 31, 32, 33, 34, 35, 11, 36, 37, 38, 39, 40, 41, 42, 43, 44, 45, 46, 47, 48, 49, 50, 51, 52, 53, 54, 55, 56, 57, 58, 59, 60, 61, 62, 63, 64, 65, 66, 67, 68, 69, 70, 71, 72, 73, 74, 75, 76, 77, 78, 79, 80, 81, 82, 83, 84, 85, 86, 87, 88, 89, 90, 91] (by decide +kernel) (by decide +kernel)
set_option maxRecDepth 20000 in
theorem gX8_palms_X8_pass : GoodIn wsX8_palms (wsV RX8 201 RX8 yX8_pass wsX8_pass) := goodIn_app (goodIn_of _ (by decide +kernel)) ggX8_palms_X8_pass
theorem dX8_palms_0 : decode cX8_palms 0 = .ok (.aload_n 0, 1) := by decide +kernel
theorem dX8_palms_1 : decode cX8_palms 1 = .ok (.iload_n 1, 1) := by decide +kernel
theorem dX8_palms_2 : decode cX8_palms 2 = .ok (.invokevirtual 160, 3) := by decide +kernel
theorem dX8_palms_5 : decode cX8_palms 5 = .ok (.ifCond .ne 6, 3) := by decide +kernel
theorem dX8_palms_8 : decode cX8_palms 8 = .ok (.ldc 164, 2) := by decide +kernel
theorem dX8_palms_10 : decode cX8_palms 10 = .ok (.ireturn, 1) := by decide +kernel
theorem dX8_palms_11 : decode cX8_palms 11 = .ok (.iload_n 2, 1) := by decide +kernel
theorem dX8_palms_12 : decode cX8_palms 12 = .ok (.i2l, 1) := by decide +kernel
theorem dX8_palms_13 : decode cX8_palms 13 = .ok (.lconst 1, 1) := by decide +kernel
theorem dX8_palms_14 : decode cX8_palms 14 = .ok (.ldc2_w 234, 3) := by decide +kernel
theorem dX8_palms_17 : decode cX8_palms 17 = .ok (.invokestatic 69, 3) := by decide +kernel
theorem dX8_palms_20 : decode cX8_palms 20 = .ok (.ifCond .eq 28, 3) := by decide +kernel
theorem dX8_palms_23 : decode cX8_palms 23 = .ok (.iload_n 3, 1) := by decide +kernel
theorem dX8_palms_24 : decode cX8_palms 24 = .ok (.i2l, 1) := by decide +kernel
theorem dX8_palms_25 : decode cX8_palms 25 = .ok (.lconst 0, 1) := by decide +kernel
theorem dX8_palms_26 : decode cX8_palms 26 = .ok (.ldc2_w 222, 3) := by decide +kernel
theorem dX8_palms_29 : decode cX8_palms 29 = .ok (.invokestatic 69, 3) := by decide +kernel
theorem dX8_palms_32 : decode cX8_palms 32 = .ok (.ifCond .eq 16, 3) := by decide +kernel
theorem dX8_palms_35 : decode cX8_palms 35 = .ok (.iload 4, 2) := by decide +kernel
theorem dX8_palms_37 : decode cX8_palms 37 = .ok (.i2l, 1) := by decide +kernel
theorem dX8_palms_38 : decode cX8_palms 38 = .ok (.lconst 0, 1) := by decide +kernel
theorem dX8_palms_39 : decode cX8_palms 39 = .ok (.ldc2_w 222, 3) := by decide +kernel
theorem dX8_palms_42 : decode cX8_palms 42 = .ok (.invokestatic 69, 3) := by decide +kernel
theorem dX8_palms_45 : decode cX8_palms 45 = .ok (.ifCond .ne 6, 3) := by decide +kernel
theorem dX8_palms_48 : decode cX8_palms 48 = .ok (.ldc 73, 2) := by decide +kernel
theorem dX8_palms_50 : decode cX8_palms 50 = .ok (.ireturn, 1) := by decide +kernel
theorem dX8_palms_51 : decode cX8_palms 51 = .ok (.iconst 0, 1) := by decide +kernel
theorem dX8_palms_52 : decode cX8_palms 52 = .ok (.istore 6, 2) := by decide +kernel
theorem dX8_palms_54 : decode cX8_palms 54 = .ok (.iconst 0, 1) := by decide +kernel
theorem dX8_palms_55 : decode cX8_palms 55 = .ok (.istore 7, 2) := by decide +kernel
theorem dX8_palms_57 : decode cX8_palms 57 = .ok (.iload 7, 2) := by decide +kernel
theorem dX8_palms_59 : decode cX8_palms 59 = .ok (.aload_n 0, 1) := by decide +kernel
theorem dX8_palms_60 : decode cX8_palms 60 = .ok (.getfield 36, 3) := by decide +kernel
theorem dX8_palms_63 : decode cX8_palms 63 = .ok (.iconst 1, 1) := by decide +kernel
theorem dX8_palms_64 : decode cX8_palms 64 = .ok (.iaload, 1) := by decide +kernel
theorem dX8_palms_65 : decode cX8_palms 65 = .ok (.if_icmp .ge 136, 3) := by decide +kernel
theorem dX8_palms_68 : decode cX8_palms 68 = .ok (.iconst 1, 1) := by decide +kernel
theorem dX8_palms_69 : decode cX8_palms 69 = .ok (.istore 8, 2) := by decide +kernel
theorem dX8_palms_71 : decode cX8_palms 71 = .ok (.iload 8, 2) := by decide +kernel
theorem dX8_palms_73 : decode cX8_palms 73 = .ok (.iload_n 2, 1) := by decide +kernel
theorem dX8_palms_74 : decode cX8_palms 74 = .ok (.if_icmp .gt 121, 3) := by decide +kernel
theorem dX8_palms_77 : decode cX8_palms 77 = .ok (.aload_n 0, 1) := by decide +kernel
theorem dX8_palms_78 : decode cX8_palms 78 = .ok (.invokevirtual 239, 3) := by decide +kernel
theorem dX8_palms_81 : decode cX8_palms 81 = .ok (.aload_n 0, 1) := by decide +kernel
theorem dX8_palms_82 : decode cX8_palms 82 = .ok (.getfield 7, 3) := by decide +kernel
theorem dX8_palms_85 : decode cX8_palms 85 = .ok (.sipush 160, 3) := by decide +kernel
theorem dX8_palms_88 : decode cX8_palms 88 = .ok (.iload 7, 2) := by decide +kernel
theorem dX8_palms_90 : decode cX8_palms 90 = .ok (.iadd, 1) := by decide +kernel
theorem dX8_palms_91 : decode cX8_palms 91 = .ok (.iload_n 1, 1) := by decide +kernel
theorem dX8_palms_92 : decode cX8_palms 92 = .ok (.i2l, 1) := by decide +kernel
theorem dX8_palms_93 : decode cX8_palms 93 = .ok (.lastore, 1) := by decide +kernel
theorem dX8_palms_94 : decode cX8_palms 94 = .ok (.iconst 0, 1) := by decide +kernel
theorem dX8_palms_95 : decode cX8_palms 95 = .ok (.istore 9, 2) := by decide +kernel
theorem dX8_palms_97 : decode cX8_palms 97 = .ok (.iload 9, 2) := by decide +kernel
theorem dX8_palms_99 : decode cX8_palms 99 = .ok (.iload_n 2, 1) := by decide +kernel
theorem dX8_palms_100 : decode cX8_palms 100 = .ok (.if_icmp .ge 44, 3) := by decide +kernel
theorem dX8_palms_103 : decode cX8_palms 103 = .ok (.aload_n 0, 1) := by decide +kernel
theorem dX8_palms_104 : decode cX8_palms 104 = .ok (.getfield 7, 3) := by decide +kernel
theorem dX8_palms_107 : decode cX8_palms 107 = .ok (.sipush 160, 3) := by decide +kernel
theorem dX8_palms_110 : decode cX8_palms 110 = .ok (.iload 7, 2) := by decide +kernel
theorem dX8_palms_112 : decode cX8_palms 112 = .ok (.iadd, 1) := by decide +kernel
theorem dX8_palms_113 : decode cX8_palms 113 = .ok (.iload 9, 2) := by decide +kernel
theorem dX8_palms_115 : decode cX8_palms 115 = .ok (.iload 8, 2) := by decide +kernel
theorem dX8_palms_117 : decode cX8_palms 117 = .ok (.if_icmp .ge 8, 3) := by decide +kernel
theorem dX8_palms_120 : decode cX8_palms 120 = .ok (.iload_n 1, 1) := by decide +kernel
theorem dX8_palms_121 : decode cX8_palms 121 = .ok (.i2l, 1) := by decide +kernel
theorem dX8_palms_122 : decode cX8_palms 122 = .ok (.goto 6, 3) := by decide +kernel
theorem dX8_palms_125 : decode cX8_palms 125 = .ok (.ldc2_w 152, 3) := by decide +kernel
theorem dX8_palms_128 : decode cX8_palms 128 = .ok (.lastore, 1) := by decide +kernel
theorem dX8_palms_129 : decode cX8_palms 129 = .ok (.aload_n 0, 1) := by decide +kernel
theorem dX8_palms_130 : decode cX8_palms 130 = .ok (.sipush 140, 3) := by decide +kernel
theorem dX8_palms_133 : decode cX8_palms 133 = .ok (.invokevirtual 201, 3) := by decide +kernel
theorem dX8_palms_136 : decode cX8_palms 136 = .ok (.istore 10, 2) := by decide +kernel
theorem dX8_palms_138 : decode cX8_palms 138 = .ok (.iinc 9 1, 3) := by decide +kernel
theorem dX8_palms_141 : decode cX8_palms 141 = .ok (.goto (-44), 3) := by decide +kernel
theorem dX8_palms_144 : decode cX8_palms 144 = .ok (.aload_n 0, 1) := by decide +kernel
theorem dX8_palms_145 : decode cX8_palms 145 = .ok (.getfield 7, 3) := by decide +kernel
theorem dX8_palms_148 : decode cX8_palms 148 = .ok (.sipush 140, 3) := by decide +kernel
theorem dX8_palms_151 : decode cX8_palms 151 = .ok (.iload_n 1, 1) := by decide +kernel
theorem dX8_palms_152 : decode cX8_palms 152 = .ok (.iadd, 1) := by decide +kernel
theorem dX8_palms_153 : decode cX8_palms 153 = .ok (.laload, 1) := by decide +kernel
theorem dX8_palms_154 : decode cX8_palms 154 = .ok (.iload_n 3, 1) := by decide +kernel
theorem dX8_palms_155 : decode cX8_palms 155 = .ok (.iload 4, 2) := by decide +kernel
theorem dX8_palms_157 : decode cX8_palms 157 = .ok (.isub, 1) := by decide +kernel
theorem dX8_palms_158 : decode cX8_palms 158 = .ok (.i2l, 1) := by decide +kernel
theorem dX8_palms_159 : decode cX8_palms 159 = .ok (.iload_n 3, 1) := by decide +kernel
theorem dX8_palms_160 : decode cX8_palms 160 = .ok (.iload 4, 2) := by decide +kernel
theorem dX8_palms_162 : decode cX8_palms 162 = .ok (.iadd, 1) := by decide +kernel
theorem dX8_palms_163 : decode cX8_palms 163 = .ok (.i2l, 1) := by decide +kernel
theorem dX8_palms_164 : decode cX8_palms 164 = .ok (.invokestatic 69, 3) := by decide +kernel
theorem dX8_palms_167 : decode cX8_palms 167 = .ok (.ifCond .eq 22, 3) := by decide +kernel
theorem dX8_palms_170 : decode cX8_palms 170 = .ok (.iload 6, 2) := by decide +kernel
theorem dX8_palms_172 : decode cX8_palms 172 = .ok (.iload 5, 2) := by decide +kernel
theorem dX8_palms_174 : decode cX8_palms 174 = .ok (.if_icmp .ne 12, 3) := by decide +kernel
theorem dX8_palms_177 : decode cX8_palms 177 = .ok (.bipush 100, 2) := by decide +kernel
theorem dX8_palms_179 : decode cX8_palms 179 = .ok (.iload 7, 2) := by decide +kernel
theorem dX8_palms_181 : decode cX8_palms 181 = .ok (.imul, 1) := by decide +kernel
theorem dX8_palms_182 : decode cX8_palms 182 = .ok (.iload 8, 2) := by decide +kernel
theorem dX8_palms_184 : decode cX8_palms 184 = .ok (.iadd, 1) := by decide +kernel
theorem dX8_palms_185 : decode cX8_palms 185 = .ok (.ireturn, 1) := by decide +kernel
theorem dX8_palms_186 : decode cX8_palms 186 = .ok (.iinc 6 1, 3) := by decide +kernel
theorem dX8_palms_189 : decode cX8_palms 189 = .ok (.iinc 8 1, 3) := by decide +kernel
theorem dX8_palms_192 : decode cX8_palms 192 = .ok (.goto (-121), 3) := by decide +kernel
theorem dX8_palms_195 : decode cX8_palms 195 = .ok (.iinc 7 1, 3) := by decide +kernel
theorem dX8_palms_198 : decode cX8_palms 198 = .ok (.goto (-141), 3) := by decide +kernel
theorem dX8_palms_201 : decode cX8_palms 201 = .ok (.iload 5, 2) := by decide +kernel
theorem dX8_palms_203 : decode cX8_palms 203 = .ok (.iconst (-1), 1) := by decide +kernel
theorem dX8_palms_204 : decode cX8_palms 204 = .ok (.if_icmp .ne 8, 3) := by decide +kernel
theorem dX8_palms_207 : decode cX8_palms 207 = .ok (.iload 6, 2) := by decide +kernel
theorem dX8_palms_209 : decode cX8_palms 209 = .ok (.goto 4, 3) := by decide +kernel
theorem dX8_palms_212 : decode cX8_palms 212 = .ok (.iconst (-1), 1) := by decide +kernel
theorem dX8_palms_213 : decode cX8_palms 213 = .ok (.ireturn, 1) := by decide +kernel
set_option maxRecDepth 20000 in
theorem ggX8_safe_X8_copy : GoodIn wsX8_safe wsX8_copy := goodIn_r _ [5, 6, 47, 48, 49, 50, 51, 52, 53, 54, 55, 56, 57, 58, 59, 60, 61, 62, 63, 64, 65, 66, 67, 68, 69, 70, 71, 72, 73, 74, 75] (by decide +kernel) (by decide +kernel)
set_option maxRecDepth 20000 in
theorem gX8_safe_X8_copy : GoodIn wsX8_safe (wsV RX8 226 RX8 yX8_copy wsX8_copy) := goodIn_app (goodIn_of _ (by decide +kernel)) ggX8_safe_X8_copy
set_option maxRecDepth 20000 in
theorem ggX8_safe_X8_pass : GoodIn wsX8_safe wsX8_pass := goodIn_r _ [10, 6, 11, 12, 13, 14, 15, 16, 17, 18, 19, 4, 20, 21, 22, 23, 24, 25, 26, 27, 28, 29, 30, 31, 32, 33, 34, 35, 36, 37, 38, 39, 40, 41, 42, 43, 44, 45, 46, 47, 48, 49, 50, 51, 52, 53, 54, 55, 56, 57, 58, 59, 60, 61, 62, 63, 64, 65, 66, 67, 68, 69, 70, 71, 72, 73, 74, 75] (by decide +kernel) (by decide +kernel)
set_option maxRecDepth 20000 in
theorem gX8_safe_X8_pass : GoodIn wsX8_safe (wsV RX8 201 RX8 yX8_pass wsX8_pass) := goodIn_app (goodIn_of _ (by decide +kernel)) ggX8_safe_X8_pass
theorem dX8_safe_0 : decode cX8_safe 0 = .ok (.aload_n 0, 1) := by decide +kernel
theorem dX8_safe_1 : decode cX8_safe 1 = .ok (.iconst 0, 1) := by decide +kernel
theorem dX8_safe_2 : decode cX8_safe 2 = .ok (.sipush 140, 3) := by decide +kernel
theorem dX8_safe_5 : decode cX8_safe 5 = .ok (.invokevirtual 226, 3) := by decide +kernel
theorem dX8_safe_8 : decode cX8_safe 8 = .ok (.iconst 0, 1) := by decide +kernel
theorem dX8_safe_9 : decode cX8_safe 9 = .ok (.istore_n 1, 1) := by decide +kernel
theorem dX8_safe_10 : decode cX8_safe 10 = .ok (.iload_n 1, 1) := by decide +kernel
theorem dX8_safe_11 : decode cX8_safe 11 = .ok (.sipush 999, 3) := by decide +kernel
theorem dX8_safe_14 : decode cX8_safe 14 = .ok (.if_icmp .ge 19, 3) := by decide +kernel
theorem dX8_safe_17 : decode cX8_safe 17 = .ok (.aload_n 0, 1) := by decide +kernel
theorem dX8_safe_18 : decode cX8_safe 18 = .ok (.sipush 140, 3) := by decide +kernel
theorem dX8_safe_21 : decode cX8_safe 21 = .ok (.invokevirtual 201, 3) := by decide +kernel
theorem dX8_safe_24 : decode cX8_safe 24 = .ok (.ifCond .ne 9, 3) := by decide +kernel
theorem dX8_safe_27 : decode cX8_safe 27 = .ok (.iinc 1 1, 3) := by decide +kernel
theorem dX8_safe_30 : decode cX8_safe 30 = .ok (.goto (-20), 3) := by decide +kernel
theorem dX8_safe_33 : decode cX8_safe 33 = .ok (.iload_n 1, 1) := by decide +kernel
theorem dX8_safe_34 : decode cX8_safe 34 = .ok (.ireturn, 1) := by decide +kernel
set_option maxRecDepth 20000 in
theorem ggX8_write_X8_isStone : GoodIn wsX8_write wsX8_isStone := goodIn_r _ [12, 13, 14, 15, 11, 16, 17, 18, 19, 20, 21, 22, 23, 24, 25, 26, 27, 28, 29, 30, 31, 32, 33, 34, 35, 36, 37, 38, 39, 40, 41, 42, 43, 44, 45] (by decide +kernel) (by decide +kernel)
set_option maxRecDepth 20000 in
theorem gX8_write_X8_isStone : GoodIn wsX8_write (wsV RX8 160 RX8 yX8_isStone wsX8_isStone) := goodIn_app (goodIn_of _ (by decide +kernel)) ggX8_write_X8_isStone
set_option maxRecDepth 20000 in
theorem ggX8_write_X8_in : GoodIn wsX8_write wsX8_in := goodIn_r _ [16] (by decide +kernel) (by decide +kernel)
set_option maxRecDepth 20000 in
theorem gX8_write_X8_in : GoodIn wsX8_write (va_wsS RX8 69 yX8_in wsX8_in) := goodIn_app (goodIn_of _ (by decide +kernel)) ggX8_write_X8_in
theorem dX8_write_0 : decode cX8_write 0 = .ok (.aload_n 0, 1) := by decide +kernel
theorem dX8_write_1 : decode cX8_write 1 = .ok (.iload_n 1, 1) := by decide +kernel
theorem dX8_write_2 : decode cX8_write 2 = .ok (.invokevirtual 160, 3) := by decide +kernel
theorem dX8_write_5 : decode cX8_write 5 = .ok (.ifCond .ne 6, 3) := by decide +kernel
theorem dX8_write_8 : decode cX8_write 8 = .ok (.ldc 164, 2) := by decide +kernel
theorem dX8_write_10 : decode cX8_write 10 = .ok (.ireturn, 1) := by decide +kernel
theorem dX8_write_11 : decode cX8_write 11 = .ok (.iload_n 2, 1) := by decide +kernel
theorem dX8_write_12 : decode cX8_write 12 = .ok (.i2l, 1) := by decide +kernel
theorem dX8_write_13 : decode cX8_write 13 = .ok (.lconst 0, 1) := by decide +kernel
theorem dX8_write_14 : decode cX8_write 14 = .ok (.ldc2_w 222, 3) := by decide +kernel
theorem dX8_write_17 : decode cX8_write 17 = .ok (.invokestatic 69, 3) := by decide +kernel
theorem dX8_write_20 : decode cX8_write 20 = .ok (.ifCond .ne 6, 3) := by decide +kernel
theorem dX8_write_23 : decode cX8_write 23 = .ok (.ldc 73, 2) := by decide +kernel
theorem dX8_write_25 : decode cX8_write 25 = .ok (.ireturn, 1) := by decide +kernel
theorem dX8_write_26 : decode cX8_write 26 = .ok (.aload_n 0, 1) := by decide +kernel
theorem dX8_write_27 : decode cX8_write 27 = .ok (.getfield 149, 3) := by decide +kernel
theorem dX8_write_30 : decode cX8_write 30 = .ok (.bipush 30, 2) := by decide +kernel
theorem dX8_write_32 : decode cX8_write 32 = .ok (.if_icmp .ne 6, 3) := by decide +kernel
theorem dX8_write_35 : decode cX8_write 35 = .ok (.ldc 77, 2) := by decide +kernel
theorem dX8_write_37 : decode cX8_write 37 = .ok (.ireturn, 1) := by decide +kernel
theorem dX8_write_38 : decode cX8_write 38 = .ok (.aload_n 0, 1) := by decide +kernel
theorem dX8_write_39 : decode cX8_write 39 = .ok (.getfield 58, 3) := by decide +kernel
theorem dX8_write_42 : decode cX8_write 42 = .ok (.aload_n 0, 1) := by decide +kernel
theorem dX8_write_43 : decode cX8_write 43 = .ok (.getfield 149, 3) := by decide +kernel
theorem dX8_write_46 : decode cX8_write 46 = .ok (.iload_n 1, 1) := by decide +kernel
theorem dX8_write_47 : decode cX8_write 47 = .ok (.iastore, 1) := by decide +kernel
theorem dX8_write_48 : decode cX8_write 48 = .ok (.aload_n 0, 1) := by decide +kernel
theorem dX8_write_49 : decode cX8_write 49 = .ok (.getfield 61, 3) := by decide +kernel
theorem dX8_write_52 : decode cX8_write 52 = .ok (.aload_n 0, 1) := by decide +kernel
theorem dX8_write_53 : decode cX8_write 53 = .ok (.getfield 149, 3) := by decide +kernel
theorem dX8_write_56 : decode cX8_write 56 = .ok (.iload_n 2, 1) := by decide +kernel
theorem dX8_write_57 : decode cX8_write 57 = .ok (.iastore, 1) := by decide +kernel
theorem dX8_write_58 : decode cX8_write 58 = .ok (.aload_n 0, 1) := by decide +kernel
theorem dX8_write_59 : decode cX8_write 59 = .ok (.dup, 1) := by decide +kernel
theorem dX8_write_60 : decode cX8_write 60 = .ok (.getfield 149, 3) := by decide +kernel
theorem dX8_write_63 : decode cX8_write 63 = .ok (.iconst 1, 1) := by decide +kernel
theorem dX8_write_64 : decode cX8_write 64 = .ok (.iadd, 1) := by decide +kernel
theorem dX8_write_65 : decode cX8_write 65 = .ok (.putfield 149, 3) := by decide +kernel
theorem dX8_write_68 : decode cX8_write 68 = .ok (.aload_n 0, 1) := by decide +kernel
theorem dX8_write_69 : decode cX8_write 69 = .ok (.getfield 149, 3) := by decide +kernel
theorem dX8_write_72 : decode cX8_write 72 = .ok (.ireturn, 1) := by decide +kernel
theorem dX8_tear_0 : decode cX8_tear 0 = .ok (.aload_n 0, 1) := by decide +kernel
theorem dX8_tear_1 : decode cX8_tear 1 = .ok (.getfield 149, 3) := by decide +kernel
theorem dX8_tear_4 : decode cX8_tear 4 = .ok (.istore_n 1, 1) := by decide +kernel
theorem dX8_tear_5 : decode cX8_tear 5 = .ok (.aload_n 0, 1) := by decide +kernel
theorem dX8_tear_6 : decode cX8_tear 6 = .ok (.iconst 0, 1) := by decide +kernel
theorem dX8_tear_7 : decode cX8_tear 7 = .ok (.putfield 149, 3) := by decide +kernel
theorem dX8_tear_10 : decode cX8_tear 10 = .ok (.iload_n 1, 1) := by decide +kernel
theorem dX8_tear_11 : decode cX8_tear 11 = .ok (.ireturn, 1) := by decide +kernel
set_option maxRecDepth 20000 in
theorem ggX8_judge_X8_copy : GoodIn wsX8_judge wsX8_copy := goodIn_r _ [9, 2, 50, 51, 52, 53, 54, 55, 56, 57, 58, 59, 60, 61, 62, 63, 64, 65, 66, 67, 68, 69, 70, 71, 72, 73, 74, 75, 76, 77, 78] (by decide +kernel) (by decide +kernel)
set_option maxRecDepth 20000 in
theorem gX8_judge_X8_copy : GoodIn wsX8_judge (wsV RX8 226 RX8 yX8_copy wsX8_copy) := goodIn_app (goodIn_of _ (by decide +kernel)) ggX8_judge_X8_copy
set_option maxRecDepth 20000 in
theorem ggX8_judge_X8_pass : GoodIn wsX8_judge wsX8_pass := goodIn_r _ [13, 2, 14, 15, 16, 17, 18, 19, 20, 21, 22, 8, 23, 24, 25, 26, 27, 28, 29, 30, 31, 32, 33, 34, 35, 36, 37, 38, 39, 40, 41, 42, 43, 44, 45, 46, 47, 48, 49, 50, 51, 52, 53, 54, 55, 56, 57, 58, 59, 60, 61, 62, 63, 64, 65, 66, 67, 68, 69, 70, 71, 72, 73, 74, 75, 76, 77, 78] (by decide +kernel) (by decide +kernel)
set_option maxRecDepth 20000 in
theorem gX8_judge_X8_pass : GoodIn wsX8_judge (wsV RX8 201 RX8 yX8_pass wsX8_pass) := goodIn_app (goodIn_of _ (by decide +kernel)) ggX8_judge_X8_pass
theorem dX8_judge_0 : decode cX8_judge 0 = .ok (.aload_n 0, 1) := by decide +kernel
theorem dX8_judge_1 : decode cX8_judge 1 = .ok (.iconst 0, 1) := by decide +kernel
theorem dX8_judge_2 : decode cX8_judge 2 = .ok (.sipush 140, 3) := by decide +kernel
theorem dX8_judge_5 : decode cX8_judge 5 = .ok (.invokevirtual 226, 3) := by decide +kernel
theorem dX8_judge_8 : decode cX8_judge 8 = .ok (.iconst 0, 1) := by decide +kernel
theorem dX8_judge_9 : decode cX8_judge 9 = .ok (.istore_n 1, 1) := by decide +kernel
theorem dX8_judge_10 : decode cX8_judge 10 = .ok (.iload_n 1, 1) := by decide +kernel
theorem dX8_judge_11 : decode cX8_judge 11 = .ok (.aload_n 0, 1) := by decide +kernel
theorem dX8_judge_12 : decode cX8_judge 12 = .ok (.getfield 149, 3) := by decide +kernel
theorem dX8_judge_15 : decode cX8_judge 15 = .ok (.if_icmp .ge 45, 3) := by decide +kernel
theorem dX8_judge_18 : decode cX8_judge 18 = .ok (.aload_n 0, 1) := by decide +kernel
theorem dX8_judge_19 : decode cX8_judge 19 = .ok (.getfield 7, 3) := by decide +kernel
theorem dX8_judge_22 : decode cX8_judge 22 = .ok (.sipush 140, 3) := by decide +kernel
theorem dX8_judge_25 : decode cX8_judge 25 = .ok (.aload_n 0, 1) := by decide +kernel
theorem dX8_judge_26 : decode cX8_judge 26 = .ok (.getfield 58, 3) := by decide +kernel
theorem dX8_judge_29 : decode cX8_judge 29 = .ok (.iload_n 1, 1) := by decide +kernel
theorem dX8_judge_30 : decode cX8_judge 30 = .ok (.iaload, 1) := by decide +kernel
theorem dX8_judge_31 : decode cX8_judge 31 = .ok (.iadd, 1) := by decide +kernel
theorem dX8_judge_32 : decode cX8_judge 32 = .ok (.laload, 1) := by decide +kernel
theorem dX8_judge_33 : decode cX8_judge 33 = .ok (.aload_n 0, 1) := by decide +kernel
theorem dX8_judge_34 : decode cX8_judge 34 = .ok (.getfield 61, 3) := by decide +kernel
theorem dX8_judge_37 : decode cX8_judge 37 = .ok (.iload_n 1, 1) := by decide +kernel
theorem dX8_judge_38 : decode cX8_judge 38 = .ok (.iaload, 1) := by decide +kernel
theorem dX8_judge_39 : decode cX8_judge 39 = .ok (.i2l, 1) := by decide +kernel
theorem dX8_judge_40 : decode cX8_judge 40 = .ok (.lcmp, 1) := by decide +kernel
theorem dX8_judge_41 : decode cX8_judge 41 = .ok (.ifCond .eq 5, 3) := by decide +kernel
theorem dX8_judge_44 : decode cX8_judge 44 = .ok (.iload_n 1, 1) := by decide +kernel
theorem dX8_judge_45 : decode cX8_judge 45 = .ok (.ireturn, 1) := by decide +kernel
theorem dX8_judge_46 : decode cX8_judge 46 = .ok (.aload_n 0, 1) := by decide +kernel
theorem dX8_judge_47 : decode cX8_judge 47 = .ok (.sipush 140, 3) := by decide +kernel
theorem dX8_judge_50 : decode cX8_judge 50 = .ok (.invokevirtual 201, 3) := by decide +kernel
theorem dX8_judge_53 : decode cX8_judge 53 = .ok (.istore_n 2, 1) := by decide +kernel
theorem dX8_judge_54 : decode cX8_judge 54 = .ok (.iinc 1 1, 3) := by decide +kernel
theorem dX8_judge_57 : decode cX8_judge 57 = .ok (.goto (-47), 3) := by decide +kernel
theorem dX8_judge_60 : decode cX8_judge 60 = .ok (.iconst (-1), 1) := by decide +kernel
theorem dX8_judge_61 : decode cX8_judge 61 = .ok (.ireturn, 1) := by decide +kernel
theorem dX8_seed_0 : decode cX8_seed 0 = .ok (.iload_n 1, 1) := by decide +kernel
theorem dX8_seed_1 : decode cX8_seed 1 = .ok (.ifCond .ge 6, 3) := by decide +kernel
theorem dX8_seed_4 : decode cX8_seed 4 = .ok (.ldc 73, 2) := by decide +kernel
theorem dX8_seed_6 : decode cX8_seed 6 = .ok (.ireturn, 1) := by decide +kernel
theorem dX8_seed_7 : decode cX8_seed 7 = .ok (.aload_n 0, 1) := by decide +kernel
theorem dX8_seed_8 : decode cX8_seed 8 = .ok (.getfield 7, 3) := by decide +kernel
theorem dX8_seed_11 : decode cX8_seed 11 = .ok (.sipush 133, 3) := by decide +kernel
theorem dX8_seed_14 : decode cX8_seed 14 = .ok (.laload, 1) := by decide +kernel
theorem dX8_seed_15 : decode cX8_seed 15 = .ok (.l2i, 1) := by decide +kernel
theorem dX8_seed_16 : decode cX8_seed 16 = .ok (.istore_n 2, 1) := by decide +kernel
theorem dX8_seed_17 : decode cX8_seed 17 = .ok (.aload_n 0, 1) := by decide +kernel
theorem dX8_seed_18 : decode cX8_seed 18 = .ok (.getfield 7, 3) := by decide +kernel
theorem dX8_seed_21 : decode cX8_seed 21 = .ok (.sipush 133, 3) := by decide +kernel
theorem dX8_seed_24 : decode cX8_seed 24 = .ok (.iload_n 1, 1) := by decide +kernel
theorem dX8_seed_25 : decode cX8_seed 25 = .ok (.i2l, 1) := by decide +kernel
theorem dX8_seed_26 : decode cX8_seed 26 = .ok (.lastore, 1) := by decide +kernel
theorem dX8_seed_27 : decode cX8_seed 27 = .ok (.iload_n 2, 1) := by decide +kernel
theorem dX8_seed_28 : decode cX8_seed 28 = .ok (.ireturn, 1) := by decide +kernel
set_option maxRecDepth 20000 in
theorem ggX8_keep_X8_in : GoodIn wsX8_keep wsX8_in := goodIn_r _ [6] (by decide +kernel) (by decide +kernel)
set_option maxRecDepth 20000 in
theorem gX8_keep_X8_in : GoodIn wsX8_keep (va_wsS RX8 69 yX8_in wsX8_in) := goodIn_app (goodIn_of _ (by decide +kernel)) ggX8_keep_X8_in
set_option maxRecDepth 20000 in
theorem ggX8_keep_X8_copy : GoodIn wsX8_keep wsX8_copy := goodIn_r _ [10, 11, 12, 13, 14, 15, 16, 17, 18, 19, 20, 21, 22, 23, 24, 25, 26, 27, 28, 29, 30, 31, 32, 33, 34, 35, 36, 37, 38, 39, 40] (by decide +kernel) (by decide +kernel)
set_option maxRecDepth 20000 in
theorem gX8_keep_X8_copy : GoodIn wsX8_keep (wsV RX8 226 RX8 yX8_copy wsX8_copy) := goodIn_app (goodIn_of _ (by decide +kernel)) ggX8_keep_X8_copy
theorem dX8_keep_0 : decode cX8_keep 0 = .ok (.iload_n 1, 1) := by decide +kernel
theorem dX8_keep_1 : decode cX8_keep 1 = .ok (.i2l, 1) := by decide +kernel
theorem dX8_keep_2 : decode cX8_keep 2 = .ok (.lconst 0, 1) := by decide +kernel
theorem dX8_keep_3 : decode cX8_keep 3 = .ok (.lconst 1, 1) := by decide +kernel
theorem dX8_keep_4 : decode cX8_keep 4 = .ok (.invokestatic 69, 3) := by decide +kernel
theorem dX8_keep_7 : decode cX8_keep 7 = .ok (.ifCond .ne 6, 3) := by decide +kernel
theorem dX8_keep_10 : decode cX8_keep 10 = .ok (.ldc 164, 2) := by decide +kernel
theorem dX8_keep_12 : decode cX8_keep 12 = .ok (.ireturn, 1) := by decide +kernel
theorem dX8_keep_13 : decode cX8_keep 13 = .ok (.aload_n 0, 1) := by decide +kernel
theorem dX8_keep_14 : decode cX8_keep 14 = .ok (.iconst 0, 1) := by decide +kernel
theorem dX8_keep_15 : decode cX8_keep 15 = .ok (.sipush 280, 3) := by decide +kernel
theorem dX8_keep_18 : decode cX8_keep 18 = .ok (.sipush 140, 3) := by decide +kernel
theorem dX8_keep_21 : decode cX8_keep 21 = .ok (.iload_n 1, 1) := by decide +kernel
theorem dX8_keep_22 : decode cX8_keep 22 = .ok (.imul, 1) := by decide +kernel
theorem dX8_keep_23 : decode cX8_keep 23 = .ok (.iadd, 1) := by decide +kernel
theorem dX8_keep_24 : decode cX8_keep 24 = .ok (.invokevirtual 226, 3) := by decide +kernel
theorem dX8_keep_27 : decode cX8_keep 27 = .ok (.aload_n 0, 1) := by decide +kernel
theorem dX8_keep_28 : decode cX8_keep 28 = .ok (.getfield 13, 3) := by decide +kernel
theorem dX8_keep_31 : decode cX8_keep 31 = .ok (.iload_n 1, 1) := by decide +kernel
theorem dX8_keep_32 : decode cX8_keep 32 = .ok (.iconst 1, 1) := by decide +kernel
theorem dX8_keep_33 : decode cX8_keep 33 = .ok (.bastore, 1) := by decide +kernel
theorem dX8_keep_34 : decode cX8_keep 34 = .ok (.iconst 1, 1) := by decide +kernel
theorem dX8_keep_35 : decode cX8_keep 35 = .ok (.ireturn, 1) := by decide +kernel
set_option maxRecDepth 20000 in
theorem ggX8_goBack_X8_in : GoodIn wsX8_goBack wsX8_in := goodIn_r _ [7] (by decide +kernel) (by decide +kernel)
set_option maxRecDepth 20000 in
theorem gX8_goBack_X8_in : GoodIn wsX8_goBack (va_wsS RX8 69 yX8_in wsX8_in) := goodIn_app (goodIn_of _ (by decide +kernel)) ggX8_goBack_X8_in
set_option maxRecDepth 20000 in
theorem ggX8_goBack_X8_copy : GoodIn wsX8_goBack wsX8_copy := goodIn_r _ [11, 12, 13, 14, 15, 16, 17, 18, 19, 20, 21, 22, 23, 24, 25, 26, 27, 28, 29, 30, 31, 32, 33, 34, 35, 36, 37, 38, 39, 40, 41] (by decide +kernel) (by decide +kernel)
set_option maxRecDepth 20000 in
theorem gX8_goBack_X8_copy : GoodIn wsX8_goBack (wsV RX8 226 RX8 yX8_copy wsX8_copy) := goodIn_app (goodIn_of _ (by decide +kernel)) ggX8_goBack_X8_copy
theorem dX8_goBack_0 : decode cX8_goBack 0 = .ok (.iload_n 1, 1) := by decide +kernel
theorem dX8_goBack_1 : decode cX8_goBack 1 = .ok (.i2l, 1) := by decide +kernel
theorem dX8_goBack_2 : decode cX8_goBack 2 = .ok (.lconst 0, 1) := by decide +kernel
theorem dX8_goBack_3 : decode cX8_goBack 3 = .ok (.lconst 1, 1) := by decide +kernel
theorem dX8_goBack_4 : decode cX8_goBack 4 = .ok (.invokestatic 69, 3) := by decide +kernel
theorem dX8_goBack_7 : decode cX8_goBack 7 = .ok (.ifCond .ne 6, 3) := by decide +kernel
theorem dX8_goBack_10 : decode cX8_goBack 10 = .ok (.ldc 164, 2) := by decide +kernel
theorem dX8_goBack_12 : decode cX8_goBack 12 = .ok (.ireturn, 1) := by decide +kernel
theorem dX8_goBack_13 : decode cX8_goBack 13 = .ok (.aload_n 0, 1) := by decide +kernel
theorem dX8_goBack_14 : decode cX8_goBack 14 = .ok (.getfield 13, 3) := by decide +kernel
theorem dX8_goBack_17 : decode cX8_goBack 17 = .ok (.iload_n 1, 1) := by decide +kernel
theorem dX8_goBack_18 : decode cX8_goBack 18 = .ok (.baload, 1) := by decide +kernel
theorem dX8_goBack_19 : decode cX8_goBack 19 = .ok (.ifCond .ne 6, 3) := by decide +kernel
theorem dX8_goBack_22 : decode cX8_goBack 22 = .ok (.ldc 198, 2) := by decide +kernel
theorem dX8_goBack_24 : decode cX8_goBack 24 = .ok (.ireturn, 1) := by decide +kernel
theorem dX8_goBack_25 : decode cX8_goBack 25 = .ok (.aload_n 0, 1) := by decide +kernel
theorem dX8_goBack_26 : decode cX8_goBack 26 = .ok (.sipush 280, 3) := by decide +kernel
theorem dX8_goBack_29 : decode cX8_goBack 29 = .ok (.sipush 140, 3) := by decide +kernel
theorem dX8_goBack_32 : decode cX8_goBack 32 = .ok (.iload_n 1, 1) := by decide +kernel
theorem dX8_goBack_33 : decode cX8_goBack 33 = .ok (.imul, 1) := by decide +kernel
theorem dX8_goBack_34 : decode cX8_goBack 34 = .ok (.iadd, 1) := by decide +kernel
theorem dX8_goBack_35 : decode cX8_goBack 35 = .ok (.iconst 0, 1) := by decide +kernel
theorem dX8_goBack_36 : decode cX8_goBack 36 = .ok (.invokevirtual 226, 3) := by decide +kernel
theorem dX8_goBack_39 : decode cX8_goBack 39 = .ok (.iconst 1, 1) := by decide +kernel
theorem dX8_goBack_40 : decode cX8_goBack 40 = .ok (.ireturn, 1) := by decide +kernel
theorem dJ6_bitCount_0f7a4_0 : decode cJ6_bitCount_0f7a4 0 = .ok (.iload_n 0, 1) := by decide +kernel
theorem dJ6_bitCount_0f7a4_1 : decode cJ6_bitCount_0f7a4 1 = .ok (.iload_n 0, 1) := by decide +kernel
theorem dJ6_bitCount_0f7a4_2 : decode cJ6_bitCount_0f7a4 2 = .ok (.iconst 1, 1) := by decide +kernel
theorem dJ6_bitCount_0f7a4_3 : decode cJ6_bitCount_0f7a4 3 = .ok (.iushr, 1) := by decide +kernel
theorem dJ6_bitCount_0f7a4_4 : decode cJ6_bitCount_0f7a4 4 = .ok (.ldc_w 265, 3) := by decide +kernel
theorem dJ6_bitCount_0f7a4_7 : decode cJ6_bitCount_0f7a4 7 = .ok (.iand, 1) := by decide +kernel
theorem dJ6_bitCount_0f7a4_8 : decode cJ6_bitCount_0f7a4 8 = .ok (.isub, 1) := by decide +kernel
theorem dJ6_bitCount_0f7a4_9 : decode cJ6_bitCount_0f7a4 9 = .ok (.istore_n 0, 1) := by decide +kernel
theorem dJ6_bitCount_0f7a4_10 : decode cJ6_bitCount_0f7a4 10 = .ok (.iload_n 0, 1) := by decide +kernel
theorem dJ6_bitCount_0f7a4_11 : decode cJ6_bitCount_0f7a4 11 = .ok (.ldc_w 266, 3) := by decide +kernel
theorem dJ6_bitCount_0f7a4_14 : decode cJ6_bitCount_0f7a4 14 = .ok (.iand, 1) := by decide +kernel
theorem dJ6_bitCount_0f7a4_15 : decode cJ6_bitCount_0f7a4 15 = .ok (.iload_n 0, 1) := by decide +kernel
theorem dJ6_bitCount_0f7a4_16 : decode cJ6_bitCount_0f7a4 16 = .ok (.iconst 2, 1) := by decide +kernel
theorem dJ6_bitCount_0f7a4_17 : decode cJ6_bitCount_0f7a4 17 = .ok (.iushr, 1) := by decide +kernel
theorem dJ6_bitCount_0f7a4_18 : decode cJ6_bitCount_0f7a4 18 = .ok (.ldc_w 266, 3) := by decide +kernel
theorem dJ6_bitCount_0f7a4_21 : decode cJ6_bitCount_0f7a4 21 = .ok (.iand, 1) := by decide +kernel
theorem dJ6_bitCount_0f7a4_22 : decode cJ6_bitCount_0f7a4 22 = .ok (.iadd, 1) := by decide +kernel
theorem dJ6_bitCount_0f7a4_23 : decode cJ6_bitCount_0f7a4 23 = .ok (.istore_n 0, 1) := by decide +kernel
theorem dJ6_bitCount_0f7a4_24 : decode cJ6_bitCount_0f7a4 24 = .ok (.iload_n 0, 1) := by decide +kernel
theorem dJ6_bitCount_0f7a4_25 : decode cJ6_bitCount_0f7a4 25 = .ok (.iload_n 0, 1) := by decide +kernel
theorem dJ6_bitCount_0f7a4_26 : decode cJ6_bitCount_0f7a4 26 = .ok (.iconst 4, 1) := by decide +kernel
theorem dJ6_bitCount_0f7a4_27 : decode cJ6_bitCount_0f7a4 27 = .ok (.iushr, 1) := by decide +kernel
theorem dJ6_bitCount_0f7a4_28 : decode cJ6_bitCount_0f7a4 28 = .ok (.iadd, 1) := by decide +kernel
theorem dJ6_bitCount_0f7a4_29 : decode cJ6_bitCount_0f7a4 29 = .ok (.ldc_w 267, 3) := by decide +kernel
theorem dJ6_bitCount_0f7a4_32 : decode cJ6_bitCount_0f7a4 32 = .ok (.iand, 1) := by decide +kernel
theorem dJ6_bitCount_0f7a4_33 : decode cJ6_bitCount_0f7a4 33 = .ok (.istore_n 0, 1) := by decide +kernel
theorem dJ6_bitCount_0f7a4_34 : decode cJ6_bitCount_0f7a4 34 = .ok (.iload_n 0, 1) := by decide +kernel
theorem dJ6_bitCount_0f7a4_35 : decode cJ6_bitCount_0f7a4 35 = .ok (.iload_n 0, 1) := by decide +kernel
theorem dJ6_bitCount_0f7a4_36 : decode cJ6_bitCount_0f7a4 36 = .ok (.bipush 8, 2) := by decide +kernel
theorem dJ6_bitCount_0f7a4_38 : decode cJ6_bitCount_0f7a4 38 = .ok (.iushr, 1) := by decide +kernel
theorem dJ6_bitCount_0f7a4_39 : decode cJ6_bitCount_0f7a4 39 = .ok (.iadd, 1) := by decide +kernel
theorem dJ6_bitCount_0f7a4_40 : decode cJ6_bitCount_0f7a4 40 = .ok (.istore_n 0, 1) := by decide +kernel
theorem dJ6_bitCount_0f7a4_41 : decode cJ6_bitCount_0f7a4 41 = .ok (.iload_n 0, 1) := by decide +kernel
theorem dJ6_bitCount_0f7a4_42 : decode cJ6_bitCount_0f7a4 42 = .ok (.iload_n 0, 1) := by decide +kernel
theorem dJ6_bitCount_0f7a4_43 : decode cJ6_bitCount_0f7a4 43 = .ok (.bipush 16, 2) := by decide +kernel
theorem dJ6_bitCount_0f7a4_45 : decode cJ6_bitCount_0f7a4 45 = .ok (.iushr, 1) := by decide +kernel
theorem dJ6_bitCount_0f7a4_46 : decode cJ6_bitCount_0f7a4 46 = .ok (.iadd, 1) := by decide +kernel
theorem dJ6_bitCount_0f7a4_47 : decode cJ6_bitCount_0f7a4 47 = .ok (.istore_n 0, 1) := by decide +kernel
theorem dJ6_bitCount_0f7a4_48 : decode cJ6_bitCount_0f7a4 48 = .ok (.iload_n 0, 1) := by decide +kernel
theorem dJ6_bitCount_0f7a4_49 : decode cJ6_bitCount_0f7a4 49 = .ok (.bipush 63, 2) := by decide +kernel
theorem dJ6_bitCount_0f7a4_51 : decode cJ6_bitCount_0f7a4 51 = .ok (.iand, 1) := by decide +kernel
theorem dJ6_bitCount_0f7a4_52 : decode cJ6_bitCount_0f7a4 52 = .ok (.ireturn, 1) := by decide +kernel
theorem dJ9_abs_0f7a4_0 : decode cJ9_abs_0f7a4 0 = .ok (.iload_n 0, 1) := by decide +kernel
theorem dJ9_abs_0f7a4_1 : decode cJ9_abs_0f7a4 1 = .ok (.ifCond .ge 8, 3) := by decide +kernel
theorem dJ9_abs_0f7a4_4 : decode cJ9_abs_0f7a4 4 = .ok (.iload_n 0, 1) := by decide +kernel
theorem dJ9_abs_0f7a4_5 : decode cJ9_abs_0f7a4 5 = .ok (.ineg, 1) := by decide +kernel
theorem dJ9_abs_0f7a4_6 : decode cJ9_abs_0f7a4 6 = .ok (.goto 4, 3) := by decide +kernel
theorem dJ9_abs_0f7a4_9 : decode cJ9_abs_0f7a4 9 = .ok (.iload_n 0, 1) := by decide +kernel
theorem dJ9_abs_0f7a4_10 : decode cJ9_abs_0f7a4 10 = .ok (.ireturn, 1) := by decide +kernel
theorem dJ9_max_7cf53_0 : decode cJ9_max_7cf53 0 = .ok (.iload_n 0, 1) := by decide +kernel
theorem dJ9_max_7cf53_1 : decode cJ9_max_7cf53 1 = .ok (.iload_n 1, 1) := by decide +kernel
theorem dJ9_max_7cf53_2 : decode cJ9_max_7cf53 2 = .ok (.if_icmp .lt 7, 3) := by decide +kernel
theorem dJ9_max_7cf53_5 : decode cJ9_max_7cf53 5 = .ok (.iload_n 0, 1) := by decide +kernel
theorem dJ9_max_7cf53_6 : decode cJ9_max_7cf53 6 = .ok (.goto 4, 3) := by decide +kernel
theorem dJ9_max_7cf53_9 : decode cJ9_max_7cf53 9 = .ok (.iload_n 1, 1) := by decide +kernel
theorem dJ9_max_7cf53_10 : decode cJ9_max_7cf53 10 = .ok (.ireturn, 1) := by decide +kernel
theorem dJ9_min_7cf53_0 : decode cJ9_min_7cf53 0 = .ok (.iload_n 0, 1) := by decide +kernel
theorem dJ9_min_7cf53_1 : decode cJ9_min_7cf53 1 = .ok (.iload_n 1, 1) := by decide +kernel
theorem dJ9_min_7cf53_2 : decode cJ9_min_7cf53 2 = .ok (.if_icmp .gt 7, 3) := by decide +kernel
theorem dJ9_min_7cf53_5 : decode cJ9_min_7cf53 5 = .ok (.iload_n 0, 1) := by decide +kernel
theorem dJ9_min_7cf53_6 : decode cJ9_min_7cf53 6 = .ok (.goto 4, 3) := by decide +kernel
theorem dJ9_min_7cf53_9 : decode cJ9_min_7cf53 9 = .ok (.iload_n 1, 1) := by decide +kernel
theorem dJ9_min_7cf53_10 : decode cJ9_min_7cf53 10 = .ok (.ireturn, 1) := by decide +kernel
set_option maxRecDepth 20000 in
theorem ggJ0_length_8abf5_J0_coder_7d493 : GoodIn wsJ0_length_8abf5 wsJ0_coder_7d493 := goodIn_r _ [6, 7, 8] (by decide +kernel) (by decide +kernel)
set_option maxRecDepth 20000 in
theorem gJ0_length_8abf5_J0_coder_7d493 : GoodIn wsJ0_length_8abf5 (wsV RJ0 335 RJ0 yJ0_coder_7d493 wsJ0_coder_7d493) := goodIn_app (goodIn_of _ (by decide +kernel)) ggJ0_length_8abf5_J0_coder_7d493
theorem dJ0_length_8abf5_0 : decode cJ0_length_8abf5 0 = .ok (.aload_n 0, 1) := by decide +kernel
theorem dJ0_length_8abf5_1 : decode cJ0_length_8abf5 1 = .ok (.getfield 9, 3) := by decide +kernel
theorem dJ0_length_8abf5_4 : decode cJ0_length_8abf5 4 = .ok (.arraylength, 1) := by decide +kernel
theorem dJ0_length_8abf5_5 : decode cJ0_length_8abf5 5 = .ok (.aload_n 0, 1) := by decide +kernel
theorem dJ0_length_8abf5_6 : decode cJ0_length_8abf5 6 = .ok (.invokevirtual 335, 3) := by decide +kernel
theorem dJ0_length_8abf5_9 : decode cJ0_length_8abf5 9 = .ok (.ishr, 1) := by decide +kernel
theorem dJ0_length_8abf5_10 : decode cJ0_length_8abf5 10 = .ok (.ireturn, 1) := by decide +kernel
set_option maxRecDepth 20000 in
theorem ggJ0_charAt_5068e_J0_isLatin1_aae02 : GoodIn wsJ0_charAt_5068e wsJ0_isLatin1_aae02 := goodIn_r _ [6, 7, 8] (by decide +kernel) (by decide +kernel)
set_option maxRecDepth 20000 in
theorem gJ0_charAt_5068e_J0_isLatin1_aae02 : GoodIn wsJ0_charAt_5068e (wsV RJ0 492 RJ0 yJ0_isLatin1_aae02 wsJ0_isLatin1_aae02) := goodIn_app (goodIn_of _ (by decide +kernel)) ggJ0_charAt_5068e_J0_isLatin1_aae02
set_option maxRecDepth 20000 in
theorem ggJ0_charAt_5068e_J1_charAt_3b067 : GoodIn wsJ0_charAt_5068e wsJ1_charAt_3b067 := goodIn_r _ [12, 13, 14, 5, 15, 16, 17, 18, 19, 20] (by decide +kernel) (by decide +kernel)
set_option maxRecDepth 20000 in
theorem gJ0_charAt_5068e_J1_charAt_3b067 : GoodIn wsJ0_charAt_5068e (va_wsS RJ0 495 yJ1_charAt_3b067 wsJ1_charAt_3b067) := goodIn_app (goodIn_of _ (by decide +kernel)) ggJ0_charAt_5068e_J1_charAt_3b067
set_option maxRecDepth 20000 in
theorem ggJ0_charAt_5068e_J2_charAt_3b067 : GoodIn wsJ0_charAt_5068e wsJ2_charAt_3b067 := goodIn_r _ [24, 25, 26, 23, 27, 28, 29, 30, 31, 14, 5, 15, 16, 17, 18, 19, 20, 32, 33, 34, 35, 36, 37] (by decide +kernel) (by decide +kernel)
set_option maxRecDepth 20000 in
theorem gJ0_charAt_5068e_J2_charAt_3b067 : GoodIn wsJ0_charAt_5068e (va_wsS RJ0 498 yJ2_charAt_3b067 wsJ2_charAt_3b067) := goodIn_app (goodIn_of _ (by decide +kernel)) ggJ0_charAt_5068e_J2_charAt_3b067
theorem dJ0_charAt_5068e_0 : decode cJ0_charAt_5068e 0 = .ok (.aload_n 0, 1) := by decide +kernel
theorem dJ0_charAt_5068e_1 : decode cJ0_charAt_5068e 1 = .ok (.invokevirtual 492, 3) := by decide +kernel
theorem dJ0_charAt_5068e_4 : decode cJ0_charAt_5068e 4 = .ok (.ifCond .eq 12, 3) := by decide +kernel
theorem dJ0_charAt_5068e_7 : decode cJ0_charAt_5068e 7 = .ok (.aload_n 0, 1) := by decide +kernel
theorem dJ0_charAt_5068e_8 : decode cJ0_charAt_5068e 8 = .ok (.getfield 9, 3) := by decide +kernel
theorem dJ0_charAt_5068e_11 : decode cJ0_charAt_5068e 11 = .ok (.iload_n 1, 1) := by decide +kernel
theorem dJ0_charAt_5068e_12 : decode cJ0_charAt_5068e 12 = .ok (.invokestatic 495, 3) := by decide +kernel
theorem dJ0_charAt_5068e_15 : decode cJ0_charAt_5068e 15 = .ok (.ireturn, 1) := by decide +kernel
theorem dJ0_charAt_5068e_16 : decode cJ0_charAt_5068e 16 = .ok (.aload_n 0, 1) := by decide +kernel
theorem dJ0_charAt_5068e_17 : decode cJ0_charAt_5068e 17 = .ok (.getfield 9, 3) := by decide +kernel
theorem dJ0_charAt_5068e_20 : decode cJ0_charAt_5068e 20 = .ok (.iload_n 1, 1) := by decide +kernel
theorem dJ0_charAt_5068e_21 : decode cJ0_charAt_5068e 21 = .ok (.invokestatic 498, 3) := by decide +kernel
theorem dJ0_charAt_5068e_24 : decode cJ0_charAt_5068e 24 = .ok (.ireturn, 1) := by decide +kernel
theorem dJ0_coder_7d493_0 : decode cJ0_coder_7d493 0 = .ok (.getstatic 38, 3) := by decide +kernel
theorem dJ0_coder_7d493_3 : decode cJ0_coder_7d493 3 = .ok (.ifCond .eq 10, 3) := by decide +kernel
theorem dJ0_coder_7d493_6 : decode cJ0_coder_7d493 6 = .ok (.aload_n 0, 1) := by decide +kernel
theorem dJ0_coder_7d493_7 : decode cJ0_coder_7d493 7 = .ok (.getfield 15, 3) := by decide +kernel
theorem dJ0_coder_7d493_10 : decode cJ0_coder_7d493 10 = .ok (.goto 4, 3) := by decide +kernel
theorem dJ0_coder_7d493_13 : decode cJ0_coder_7d493 13 = .ok (.iconst 1, 1) := by decide +kernel
theorem dJ0_coder_7d493_14 : decode cJ0_coder_7d493 14 = .ok (.ireturn, 1) := by decide +kernel
theorem dJ0_isLatin1_aae02_0 : decode cJ0_isLatin1_aae02 0 = .ok (.getstatic 38, 3) := by decide +kernel
theorem dJ0_isLatin1_aae02_3 : decode cJ0_isLatin1_aae02 3 = .ok (.ifCond .eq 14, 3) := by decide +kernel
theorem dJ0_isLatin1_aae02_6 : decode cJ0_isLatin1_aae02 6 = .ok (.aload_n 0, 1) := by decide +kernel
theorem dJ0_isLatin1_aae02_7 : decode cJ0_isLatin1_aae02 7 = .ok (.getfield 15, 3) := by decide +kernel
theorem dJ0_isLatin1_aae02_10 : decode cJ0_isLatin1_aae02 10 = .ok (.ifCond .ne 7, 3) := by decide +kernel
theorem dJ0_isLatin1_aae02_13 : decode cJ0_isLatin1_aae02 13 = .ok (.iconst 1, 1) := by decide +kernel
theorem dJ0_isLatin1_aae02_14 : decode cJ0_isLatin1_aae02 14 = .ok (.goto 4, 3) := by decide +kernel
theorem dJ0_isLatin1_aae02_17 : decode cJ0_isLatin1_aae02 17 = .ok (.iconst 0, 1) := by decide +kernel
theorem dJ0_isLatin1_aae02_18 : decode cJ0_isLatin1_aae02 18 = .ok (.ireturn, 1) := by decide +kernel
set_option maxRecDepth 20000 in
theorem ggJ0_checkIndex_df160_J3_checkIndex_8e157 : GoodIn wsJ0_checkIndex_df160 wsJ3_checkIndex_8e157 := goodIn_r _ [5] (by decide +kernel) (by decide +kernel)
set_option maxRecDepth 20000 in
theorem gJ0_checkIndex_df160_J3_checkIndex_8e157 : GoodIn wsJ0_checkIndex_df160 (va_wsS RJ0 1059 yJ3_checkIndex_8e157 wsJ3_checkIndex_8e157) := goodIn_app (goodIn_of _ (by decide +kernel)) ggJ0_checkIndex_df160_J3_checkIndex_8e157
theorem dJ0_checkIndex_df160_0 : decode cJ0_checkIndex_df160 0 = .ok (.iload_n 0, 1) := by decide +kernel
theorem dJ0_checkIndex_df160_1 : decode cJ0_checkIndex_df160 1 = .ok (.iload_n 1, 1) := by decide +kernel
theorem dJ0_checkIndex_df160_2 : decode cJ0_checkIndex_df160 2 = .ok (.getstatic 1053, 3) := by decide +kernel
theorem dJ0_checkIndex_df160_5 : decode cJ0_checkIndex_df160 5 = .ok (.invokestatic 1059, 3) := by decide +kernel
theorem dJ0_checkIndex_df160_8 : decode cJ0_checkIndex_df160 8 = .ok (.pop, 1) := by decide +kernel
theorem dJ0_checkIndex_df160_9 : decode cJ0_checkIndex_df160 9 = .ok (.return_, 1) := by decide +kernel
set_option maxRecDepth 20000 in
theorem ggJ1_charAt_3b067_J0_checkIndex_df160 : GoodIn wsJ1_charAt_3b067 wsJ0_checkIndex_df160 := goodIn_r _ [4, 5, 6, 7, 8, 9] (by decide +kernel) (by decide +kernel)
set_option maxRecDepth 20000 in
theorem gJ1_charAt_3b067_J0_checkIndex_df160 : GoodIn wsJ1_charAt_3b067 (va_wsS RJ1 9 yJ0_checkIndex_df160 wsJ0_checkIndex_df160) := goodIn_app (goodIn_of _ (by decide +kernel)) ggJ1_charAt_3b067_J0_checkIndex_df160
theorem dJ1_charAt_3b067_0 : decode cJ1_charAt_3b067 0 = .ok (.iload_n 1, 1) := by decide +kernel
theorem dJ1_charAt_3b067_1 : decode cJ1_charAt_3b067 1 = .ok (.aload_n 0, 1) := by decide +kernel
theorem dJ1_charAt_3b067_2 : decode cJ1_charAt_3b067 2 = .ok (.arraylength, 1) := by decide +kernel
theorem dJ1_charAt_3b067_3 : decode cJ1_charAt_3b067 3 = .ok (.invokestatic 9, 3) := by decide +kernel
theorem dJ1_charAt_3b067_6 : decode cJ1_charAt_3b067 6 = .ok (.aload_n 0, 1) := by decide +kernel
theorem dJ1_charAt_3b067_7 : decode cJ1_charAt_3b067 7 = .ok (.iload_n 1, 1) := by decide +kernel
theorem dJ1_charAt_3b067_8 : decode cJ1_charAt_3b067 8 = .ok (.baload, 1) := by decide +kernel
theorem dJ1_charAt_3b067_9 : decode cJ1_charAt_3b067 9 = .ok (.sipush 255, 3) := by decide +kernel
theorem dJ1_charAt_3b067_12 : decode cJ1_charAt_3b067 12 = .ok (.iand, 1) := by decide +kernel
theorem dJ1_charAt_3b067_13 : decode cJ1_charAt_3b067 13 = .ok (.i2c, 1) := by decide +kernel
theorem dJ1_charAt_3b067_14 : decode cJ1_charAt_3b067 14 = .ok (.ireturn, 1) := by decide +kernel
set_option maxRecDepth 20000 in
theorem ggJ2_getChar_3b067_J2_length_9d52b : GoodIn wsJ2_getChar_3b067 wsJ2_length_9d52b := goodIn_r _ [7] (by decide +kernel) (by decide +kernel)
set_option maxRecDepth 20000 in
theorem gJ2_getChar_3b067_J2_length_9d52b : GoodIn wsJ2_getChar_3b067 (va_wsS RJ2 48 yJ2_length_9d52b wsJ2_length_9d52b) := goodIn_app (goodIn_of _ (by decide +kernel)) ggJ2_getChar_3b067_J2_length_9d52b
theorem dJ2_getChar_3b067_0 : decode cJ2_getChar_3b067 0 = .ok (.getstatic 44, 3) := by decide +kernel
theorem dJ2_getChar_3b067_3 : decode cJ2_getChar_3b067 3 = .ok (.ifCond .ne 25, 3) := by decide +kernel
theorem dJ2_getChar_3b067_6 : decode cJ2_getChar_3b067 6 = .ok (.iload_n 1, 1) := by decide +kernel
theorem dJ2_getChar_3b067_7 : decode cJ2_getChar_3b067 7 = .ok (.ifCond .lt 11, 3) := by decide +kernel
theorem dJ2_getChar_3b067_10 : decode cJ2_getChar_3b067 10 = .ok (.iload_n 1, 1) := by decide +kernel
theorem dJ2_getChar_3b067_11 : decode cJ2_getChar_3b067 11 = .ok (.aload_n 0, 1) := by decide +kernel
theorem dJ2_getChar_3b067_12 : decode cJ2_getChar_3b067 12 = .ok (.invokestatic 48, 3) := by decide +kernel
theorem dJ2_getChar_3b067_15 : decode cJ2_getChar_3b067 15 = .ok (.if_icmp .lt 13, 3) := by decide +kernel
theorem dJ2_getChar_3b067_18 : decode cJ2_getChar_3b067 18 = .ok (.new 52, 3) := by decide +kernel
theorem dJ2_getChar_3b067_21 : decode cJ2_getChar_3b067 21 = .ok (.dup, 1) := by decide +kernel
theorem dJ2_getChar_3b067_22 : decode cJ2_getChar_3b067 22 = .ok (.ldc 54, 2) := by decide +kernel
theorem dJ2_getChar_3b067_24 : decode cJ2_getChar_3b067 24 = .ok (.invokespecial 56, 3) := by decide +kernel
theorem dJ2_getChar_3b067_27 : decode cJ2_getChar_3b067 27 = .ok (.athrow, 1) := by decide +kernel
theorem dJ2_getChar_3b067_28 : decode cJ2_getChar_3b067 28 = .ok (.iload_n 1, 1) := by decide +kernel
theorem dJ2_getChar_3b067_29 : decode cJ2_getChar_3b067 29 = .ok (.iconst 1, 1) := by decide +kernel
theorem dJ2_getChar_3b067_30 : decode cJ2_getChar_3b067 30 = .ok (.ishl, 1) := by decide +kernel
theorem dJ2_getChar_3b067_31 : decode cJ2_getChar_3b067 31 = .ok (.istore_n 1, 1) := by decide +kernel
theorem dJ2_getChar_3b067_32 : decode cJ2_getChar_3b067 32 = .ok (.aload_n 0, 1) := by decide +kernel
theorem dJ2_getChar_3b067_33 : decode cJ2_getChar_3b067 33 = .ok (.iload_n 1, 1) := by decide +kernel
theorem dJ2_getChar_3b067_34 : decode cJ2_getChar_3b067 34 = .ok (.iinc 1 1, 3) := by decide +kernel
theorem dJ2_getChar_3b067_37 : decode cJ2_getChar_3b067 37 = .ok (.baload, 1) := by decide +kernel
theorem dJ2_getChar_3b067_38 : decode cJ2_getChar_3b067 38 = .ok (.sipush 255, 3) := by decide +kernel
theorem dJ2_getChar_3b067_41 : decode cJ2_getChar_3b067 41 = .ok (.iand, 1) := by decide +kernel
theorem dJ2_getChar_3b067_42 : decode cJ2_getChar_3b067 42 = .ok (.getstatic 59, 3) := by decide +kernel
theorem dJ2_getChar_3b067_45 : decode cJ2_getChar_3b067 45 = .ok (.ishl, 1) := by decide +kernel
theorem dJ2_getChar_3b067_46 : decode cJ2_getChar_3b067 46 = .ok (.aload_n 0, 1) := by decide +kernel
theorem dJ2_getChar_3b067_47 : decode cJ2_getChar_3b067 47 = .ok (.iload_n 1, 1) := by decide +kernel
theorem dJ2_getChar_3b067_48 : decode cJ2_getChar_3b067 48 = .ok (.baload, 1) := by decide +kernel
theorem dJ2_getChar_3b067_49 : decode cJ2_getChar_3b067 49 = .ok (.sipush 255, 3) := by decide +kernel
theorem dJ2_getChar_3b067_52 : decode cJ2_getChar_3b067 52 = .ok (.iand, 1) := by decide +kernel
theorem dJ2_getChar_3b067_53 : decode cJ2_getChar_3b067 53 = .ok (.getstatic 63, 3) := by decide +kernel
theorem dJ2_getChar_3b067_56 : decode cJ2_getChar_3b067 56 = .ok (.ishl, 1) := by decide +kernel
theorem dJ2_getChar_3b067_57 : decode cJ2_getChar_3b067 57 = .ok (.ior, 1) := by decide +kernel
theorem dJ2_getChar_3b067_58 : decode cJ2_getChar_3b067 58 = .ok (.i2c, 1) := by decide +kernel
theorem dJ2_getChar_3b067_59 : decode cJ2_getChar_3b067 59 = .ok (.ireturn, 1) := by decide +kernel
theorem dJ2_length_9d52b_0 : decode cJ2_length_9d52b 0 = .ok (.aload_n 0, 1) := by decide +kernel
theorem dJ2_length_9d52b_1 : decode cJ2_length_9d52b 1 = .ok (.arraylength, 1) := by decide +kernel
theorem dJ2_length_9d52b_2 : decode cJ2_length_9d52b 2 = .ok (.iconst 1, 1) := by decide +kernel
theorem dJ2_length_9d52b_3 : decode cJ2_length_9d52b 3 = .ok (.ishr, 1) := by decide +kernel
theorem dJ2_length_9d52b_4 : decode cJ2_length_9d52b 4 = .ok (.ireturn, 1) := by decide +kernel
set_option maxRecDepth 20000 in
theorem ggJ2_charAt_3b067_J2_checkIndex_2214a : GoodIn wsJ2_charAt_3b067 wsJ2_checkIndex_2214a := goodIn_r _ [4, 5, 6, 3, 7, 8, 9, 10, 11, 12, 13, 14, 15, 16] (by decide +kernel) (by decide +kernel)
set_option maxRecDepth 20000 in
theorem gJ2_charAt_3b067_J2_checkIndex_2214a : GoodIn wsJ2_charAt_3b067 (va_wsS RJ2 67 yJ2_checkIndex_2214a wsJ2_checkIndex_2214a) := goodIn_app (goodIn_of _ (by decide +kernel)) ggJ2_charAt_3b067_J2_checkIndex_2214a
set_option maxRecDepth 20000 in
theorem ggJ2_charAt_3b067_J2_getChar_3b067 : GoodIn wsJ2_charAt_3b067 wsJ2_getChar_3b067 := goodIn_r _ [19, 20, 21, 22, 5, 6, 3, 7] (by decide +kernel) (by decide +kernel)
set_option maxRecDepth 20000 in
theorem gJ2_charAt_3b067_J2_getChar_3b067 : GoodIn wsJ2_charAt_3b067 (va_wsS RJ2 71 yJ2_getChar_3b067 wsJ2_getChar_3b067) := goodIn_app (goodIn_of _ (by decide +kernel)) ggJ2_charAt_3b067_J2_getChar_3b067
theorem dJ2_charAt_3b067_0 : decode cJ2_charAt_3b067 0 = .ok (.iload_n 1, 1) := by decide +kernel
theorem dJ2_charAt_3b067_1 : decode cJ2_charAt_3b067 1 = .ok (.aload_n 0, 1) := by decide +kernel
theorem dJ2_charAt_3b067_2 : decode cJ2_charAt_3b067 2 = .ok (.invokestatic 67, 3) := by decide +kernel
theorem dJ2_charAt_3b067_5 : decode cJ2_charAt_3b067 5 = .ok (.aload_n 0, 1) := by decide +kernel
theorem dJ2_charAt_3b067_6 : decode cJ2_charAt_3b067 6 = .ok (.iload_n 1, 1) := by decide +kernel
theorem dJ2_charAt_3b067_7 : decode cJ2_charAt_3b067 7 = .ok (.invokestatic 71, 3) := by decide +kernel
theorem dJ2_charAt_3b067_10 : decode cJ2_charAt_3b067 10 = .ok (.ireturn, 1) := by decide +kernel
set_option maxRecDepth 20000 in
theorem ggJ2_checkIndex_2214a_J2_length_9d52b : GoodIn wsJ2_checkIndex_2214a wsJ2_length_9d52b := goodIn_r _ [4] (by decide +kernel) (by decide +kernel)
set_option maxRecDepth 20000 in
theorem gJ2_checkIndex_2214a_J2_length_9d52b : GoodIn wsJ2_checkIndex_2214a (va_wsS RJ2 48 yJ2_length_9d52b wsJ2_length_9d52b) := goodIn_app (goodIn_of _ (by decide +kernel)) ggJ2_checkIndex_2214a_J2_length_9d52b
set_option maxRecDepth 20000 in
theorem ggJ2_checkIndex_2214a_J0_checkIndex_df160 : GoodIn wsJ2_checkIndex_2214a wsJ0_checkIndex_df160 := goodIn_r _ [8, 9, 10, 11, 12, 13] (by decide +kernel) (by decide +kernel)
set_option maxRecDepth 20000 in
theorem gJ2_checkIndex_2214a_J0_checkIndex_df160 : GoodIn wsJ2_checkIndex_2214a (va_wsS RJ2 414 yJ0_checkIndex_df160 wsJ0_checkIndex_df160) := goodIn_app (goodIn_of _ (by decide +kernel)) ggJ2_checkIndex_2214a_J0_checkIndex_df160
theorem dJ2_checkIndex_2214a_0 : decode cJ2_checkIndex_2214a 0 = .ok (.iload_n 0, 1) := by decide +kernel
theorem dJ2_checkIndex_2214a_1 : decode cJ2_checkIndex_2214a 1 = .ok (.aload_n 1, 1) := by decide +kernel
theorem dJ2_checkIndex_2214a_2 : decode cJ2_checkIndex_2214a 2 = .ok (.invokestatic 48, 3) := by decide +kernel
theorem dJ2_checkIndex_2214a_5 : decode cJ2_checkIndex_2214a 5 = .ok (.invokestatic 414, 3) := by decide +kernel
theorem dJ2_checkIndex_2214a_8 : decode cJ2_checkIndex_2214a 8 = .ok (.return_, 1) := by decide +kernel
theorem dJ3_checkIndex_8e157_0 : decode cJ3_checkIndex_8e157 0 = .ok (.iload_n 0, 1) := by decide +kernel
theorem dJ3_checkIndex_8e157_1 : decode cJ3_checkIndex_8e157 1 = .ok (.ifCond .lt 8, 3) := by decide +kernel
theorem dJ3_checkIndex_8e157_4 : decode cJ3_checkIndex_8e157 4 = .ok (.iload_n 0, 1) := by decide +kernel
theorem dJ3_checkIndex_8e157_5 : decode cJ3_checkIndex_8e157 5 = .ok (.iload_n 1, 1) := by decide +kernel
theorem dJ3_checkIndex_8e157_6 : decode cJ3_checkIndex_8e157 6 = .ok (.if_icmp .lt 10, 3) := by decide +kernel
theorem dJ3_checkIndex_8e157_9 : decode cJ3_checkIndex_8e157 9 = .ok (.aload_n 2, 1) := by decide +kernel
theorem dJ3_checkIndex_8e157_10 : decode cJ3_checkIndex_8e157 10 = .ok (.iload_n 0, 1) := by decide +kernel
theorem dJ3_checkIndex_8e157_11 : decode cJ3_checkIndex_8e157 11 = .ok (.iload_n 1, 1) := by decide +kernel
theorem dJ3_checkIndex_8e157_12 : decode cJ3_checkIndex_8e157 12 = .ok (.invokestatic 95, 3) := by decide +kernel
theorem dJ3_checkIndex_8e157_15 : decode cJ3_checkIndex_8e157 15 = .ok (.athrow, 1) := by decide +kernel
theorem dJ3_checkIndex_8e157_16 : decode cJ3_checkIndex_8e157 16 = .ok (.iload_n 0, 1) := by decide +kernel
theorem dJ3_checkIndex_8e157_17 : decode cJ3_checkIndex_8e157 17 = .ok (.ireturn, 1) := by decide +kernel

