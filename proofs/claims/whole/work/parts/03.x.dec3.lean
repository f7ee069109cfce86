theorem dX11_laysMatchings_59 : decode cX11_laysMatchings 59 = .ok (.getfield 51, 3) := by decide +kernel
theorem dX11_laysMatchings_62 : decode cX11_laysMatchings 62 = .ok (.bipush 8, 2) := by decide +kernel
theorem dX11_laysMatchings_64 : decode cX11_laysMatchings 64 = .ok (.iload 4, 2) := by decide +kernel
theorem dX11_laysMatchings_66 : decode cX11_laysMatchings 66 = .ok (.imul, 1) := by decide +kernel
theorem dX11_laysMatchings_67 : decode cX11_laysMatchings 67 = .ok (.iload 6, 2) := by decide +kernel
theorem dX11_laysMatchings_69 : decode cX11_laysMatchings 69 = .ok (.iadd, 1) := by decide +kernel
theorem dX11_laysMatchings_70 : decode cX11_laysMatchings 70 = .ok (.iaload, 1) := by decide +kernel
theorem dX11_laysMatchings_71 : decode cX11_laysMatchings 71 = .ok (.ifCond .ne 6, 3) := by decide +kernel
theorem dX11_laysMatchings_74 : decode cX11_laysMatchings 74 = .ok (.goto 42, 3) := by decide +kernel
theorem dX11_laysMatchings_77 : decode cX11_laysMatchings 77 = .ok (.iload 5, 2) := by decide +kernel
theorem dX11_laysMatchings_79 : decode cX11_laysMatchings 79 = .ok (.aload_n 0, 1) := by decide +kernel
theorem dX11_laysMatchings_80 : decode cX11_laysMatchings 80 = .ok (.getfield 51, 3) := by decide +kernel
theorem dX11_laysMatchings_83 : decode cX11_laysMatchings 83 = .ok (.bipush 8, 2) := by decide +kernel
theorem dX11_laysMatchings_85 : decode cX11_laysMatchings 85 = .ok (.iload 4, 2) := by decide +kernel
theorem dX11_laysMatchings_87 : decode cX11_laysMatchings 87 = .ok (.imul, 1) := by decide +kernel
theorem dX11_laysMatchings_88 : decode cX11_laysMatchings 88 = .ok (.iload 6, 2) := by decide +kernel
theorem dX11_laysMatchings_90 : decode cX11_laysMatchings 90 = .ok (.iadd, 1) := by decide +kernel
theorem dX11_laysMatchings_91 : decode cX11_laysMatchings 91 = .ok (.iaload, 1) := by decide +kernel
theorem dX11_laysMatchings_92 : decode cX11_laysMatchings 92 = .ok (.aload_n 0, 1) := by decide +kernel
theorem dX11_laysMatchings_93 : decode cX11_laysMatchings 93 = .ok (.getfield 54, 3) := by decide +kernel
theorem dX11_laysMatchings_96 : decode cX11_laysMatchings 96 = .ok (.iload_n 3, 1) := by decide +kernel
theorem dX11_laysMatchings_97 : decode cX11_laysMatchings 97 = .ok (.iconst 1, 1) := by decide +kernel
theorem dX11_laysMatchings_98 : decode cX11_laysMatchings 98 = .ok (.iload 4, 2) := by decide +kernel
theorem dX11_laysMatchings_100 : decode cX11_laysMatchings 100 = .ok (.ishl, 1) := by decide +kernel
theorem dX11_laysMatchings_101 : decode cX11_laysMatchings 101 = .ok (.iconst (-1), 1) := by decide +kernel
theorem dX11_laysMatchings_102 : decode cX11_laysMatchings 102 = .ok (.ixor, 1) := by decide +kernel
theorem dX11_laysMatchings_103 : decode cX11_laysMatchings 103 = .ok (.iand, 1) := by decide +kernel
theorem dX11_laysMatchings_104 : decode cX11_laysMatchings 104 = .ok (.iconst 1, 1) := by decide +kernel
theorem dX11_laysMatchings_105 : decode cX11_laysMatchings 105 = .ok (.iload 6, 2) := by decide +kernel
theorem dX11_laysMatchings_107 : decode cX11_laysMatchings 107 = .ok (.ishl, 1) := by decide +kernel
theorem dX11_laysMatchings_108 : decode cX11_laysMatchings 108 = .ok (.iconst (-1), 1) := by decide +kernel
theorem dX11_laysMatchings_109 : decode cX11_laysMatchings 109 = .ok (.ixor, 1) := by decide +kernel
theorem dX11_laysMatchings_110 : decode cX11_laysMatchings 110 = .ok (.iand, 1) := by decide +kernel
theorem dX11_laysMatchings_111 : decode cX11_laysMatchings 111 = .ok (.iaload, 1) := by decide +kernel
theorem dX11_laysMatchings_112 : decode cX11_laysMatchings 112 = .ok (.imul, 1) := by decide +kernel
theorem dX11_laysMatchings_113 : decode cX11_laysMatchings 113 = .ok (.iadd, 1) := by decide +kernel
theorem dX11_laysMatchings_114 : decode cX11_laysMatchings 114 = .ok (.istore 5, 2) := by decide +kernel
theorem dX11_laysMatchings_116 : decode cX11_laysMatchings 116 = .ok (.iinc 6 1, 3) := by decide +kernel
theorem dX11_laysMatchings_119 : decode cX11_laysMatchings 119 = .ok (.goto (-76), 3) := by decide +kernel
theorem dX11_laysMatchings_122 : decode cX11_laysMatchings 122 = .ok (.aload_n 0, 1) := by decide +kernel
theorem dX11_laysMatchings_123 : decode cX11_laysMatchings 123 = .ok (.getfield 54, 3) := by decide +kernel
theorem dX11_laysMatchings_126 : decode cX11_laysMatchings 126 = .ok (.iload_n 3, 1) := by decide +kernel
theorem dX11_laysMatchings_127 : decode cX11_laysMatchings 127 = .ok (.iload 5, 2) := by decide +kernel
theorem dX11_laysMatchings_129 : decode cX11_laysMatchings 129 = .ok (.iload_n 2, 1) := by decide +kernel
theorem dX11_laysMatchings_130 : decode cX11_laysMatchings 130 = .ok (.irem, 1) := by decide +kernel
theorem dX11_laysMatchings_131 : decode cX11_laysMatchings 131 = .ok (.iastore, 1) := by decide +kernel
theorem dX11_laysMatchings_132 : decode cX11_laysMatchings 132 = .ok (.iinc 3 1, 3) := by decide +kernel
theorem dX11_laysMatchings_135 : decode cX11_laysMatchings 135 = .ok (.goto (-126), 3) := by decide +kernel
theorem dX11_laysMatchings_138 : decode cX11_laysMatchings 138 = .ok (.return_, 1) := by decide +kernel
theorem dX11_gateLine_0 : decode cX11_gateLine 0 = .ok (.aload_n 0, 1) := by decide +kernel
theorem dX11_gateLine_1 : decode cX11_gateLine 1 = .ok (.invokevirtual 200, 3) := by decide +kernel
theorem dX11_gateLine_4 : decode cX11_gateLine 4 = .ok (.ifCond .ne 5, 3) := by decide +kernel
theorem dX11_gateLine_7 : decode cX11_gateLine 7 = .ok (.iconst 0, 1) := by decide +kernel
theorem dX11_gateLine_8 : decode cX11_gateLine 8 = .ok (.ireturn, 1) := by decide +kernel
theorem dX11_gateLine_9 : decode cX11_gateLine 9 = .ok (.bipush 8, 2) := by decide +kernel
theorem dX11_gateLine_11 : decode cX11_gateLine 11 = .ok (.aload_n 0, 1) := by decide +kernel
theorem dX11_gateLine_12 : decode cX11_gateLine 12 = .ok (.getfield 181, 3) := by decide +kernel
theorem dX11_gateLine_15 : decode cX11_gateLine 15 = .ok (.imul, 1) := by decide +kernel
theorem dX11_gateLine_16 : decode cX11_gateLine 16 = .ok (.aload_n 0, 1) := by decide +kernel
theorem dX11_gateLine_17 : decode cX11_gateLine 17 = .ok (.getfield 17, 3) := by decide +kernel
theorem dX11_gateLine_20 : decode cX11_gateLine 20 = .ok (.aload_n 0, 1) := by decide +kernel
theorem dX11_gateLine_21 : decode cX11_gateLine 21 = .ok (.getfield 181, 3) := by decide +kernel
theorem dX11_gateLine_24 : decode cX11_gateLine 24 = .ok (.iaload, 1) := by decide +kernel
theorem dX11_gateLine_25 : decode cX11_gateLine 25 = .ok (.iadd, 1) := by decide +kernel
theorem dX11_gateLine_26 : decode cX11_gateLine 26 = .ok (.istore_n 1, 1) := by decide +kernel
theorem dX11_gateLine_27 : decode cX11_gateLine 27 = .ok (.aload_n 0, 1) := by decide +kernel
theorem dX11_gateLine_28 : decode cX11_gateLine 28 = .ok (.getfield 197, 3) := by decide +kernel
theorem dX11_gateLine_31 : decode cX11_gateLine 31 = .ok (.lstore_n 2, 1) := by decide +kernel
theorem dX11_gateLine_32 : decode cX11_gateLine 32 = .ok (.aload_n 0, 1) := by decide +kernel
theorem dX11_gateLine_33 : decode cX11_gateLine 33 = .ok (.iconst 1, 1) := by decide +kernel
theorem dX11_gateLine_34 : decode cX11_gateLine 34 = .ok (.bipush 8, 2) := by decide +kernel
theorem dX11_gateLine_36 : decode cX11_gateLine 36 = .ok (.invokevirtual 203, 3) := by decide +kernel
theorem dX11_gateLine_39 : decode cX11_gateLine 39 = .ok (.ifCond .ne 5, 3) := by decide +kernel
theorem dX11_gateLine_42 : decode cX11_gateLine 42 = .ok (.iconst 0, 1) := by decide +kernel
theorem dX11_gateLine_43 : decode cX11_gateLine 43 = .ok (.ireturn, 1) := by decide +kernel
theorem dX11_gateLine_44 : decode cX11_gateLine 44 = .ok (.aload_n 0, 1) := by decide +kernel
theorem dX11_gateLine_45 : decode cX11_gateLine 45 = .ok (.getfield 175, 3) := by decide +kernel
theorem dX11_gateLine_48 : decode cX11_gateLine 48 = .ok (.istore 4, 2) := by decide +kernel
theorem dX11_gateLine_50 : decode cX11_gateLine 50 = .ok (.aload_n 0, 1) := by decide +kernel
theorem dX11_gateLine_51 : decode cX11_gateLine 51 = .ok (.iconst 1, 1) := by decide +kernel
theorem dX11_gateLine_52 : decode cX11_gateLine 52 = .ok (.iload 4, 2) := by decide +kernel
theorem dX11_gateLine_54 : decode cX11_gateLine 54 = .ok (.iconst 4, 1) := by decide +kernel
theorem dX11_gateLine_55 : decode cX11_gateLine 55 = .ok (.if_icmp .ge 8, 3) := by decide +kernel
theorem dX11_gateLine_58 : decode cX11_gateLine 58 = .ok (.iload 4, 2) := by decide +kernel
theorem dX11_gateLine_60 : decode cX11_gateLine 60 = .ok (.goto 4, 3) := by decide +kernel
theorem dX11_gateLine_63 : decode cX11_gateLine 63 = .ok (.iconst 4, 1) := by decide +kernel
theorem dX11_gateLine_64 : decode cX11_gateLine 64 = .ok (.invokevirtual 203, 3) := by decide +kernel
theorem dX11_gateLine_67 : decode cX11_gateLine 67 = .ok (.ifCond .ne 5, 3) := by decide +kernel
theorem dX11_gateLine_70 : decode cX11_gateLine 70 = .ok (.iconst 0, 1) := by decide +kernel
theorem dX11_gateLine_71 : decode cX11_gateLine 71 = .ok (.ireturn, 1) := by decide +kernel
theorem dX11_gateLine_72 : decode cX11_gateLine 72 = .ok (.aload_n 0, 1) := by decide +kernel
theorem dX11_gateLine_73 : decode cX11_gateLine 73 = .ok (.getfield 36, 3) := by decide +kernel
theorem dX11_gateLine_76 : decode cX11_gateLine 76 = .ok (.iload_n 1, 1) := by decide +kernel
theorem dX11_gateLine_77 : decode cX11_gateLine 77 = .ok (.aload_n 0, 1) := by decide +kernel
theorem dX11_gateLine_78 : decode cX11_gateLine 78 = .ok (.getfield 175, 3) := by decide +kernel
theorem dX11_gateLine_81 : decode cX11_gateLine 81 = .ok (.iastore, 1) := by decide +kernel
theorem dX11_gateLine_82 : decode cX11_gateLine 82 = .ok (.iconst 0, 1) := by decide +kernel
theorem dX11_gateLine_83 : decode cX11_gateLine 83 = .ok (.istore 5, 2) := by decide +kernel
theorem dX11_gateLine_85 : decode cX11_gateLine 85 = .ok (.iload 5, 2) := by decide +kernel
theorem dX11_gateLine_87 : decode cX11_gateLine 87 = .ok (.bipush 64, 2) := by decide +kernel
theorem dX11_gateLine_89 : decode cX11_gateLine 89 = .ok (.if_icmp .ge 17, 3) := by decide +kernel
theorem dX11_gateLine_92 : decode cX11_gateLine 92 = .ok (.aload_n 0, 1) := by decide +kernel
theorem dX11_gateLine_93 : decode cX11_gateLine 93 = .ok (.getfield 51, 3) := by decide +kernel
theorem dX11_gateLine_96 : decode cX11_gateLine 96 = .ok (.iload 5, 2) := by decide +kernel
theorem dX11_gateLine_98 : decode cX11_gateLine 98 = .ok (.iconst 0, 1) := by decide +kernel
theorem dX11_gateLine_99 : decode cX11_gateLine 99 = .ok (.iastore, 1) := by decide +kernel
theorem dX11_gateLine_100 : decode cX11_gateLine 100 = .ok (.iinc 5 1, 3) := by decide +kernel
theorem dX11_gateLine_103 : decode cX11_gateLine 103 = .ok (.goto (-18), 3) := by decide +kernel
theorem dX11_gateLine_106 : decode cX11_gateLine 106 = .ok (.iconst 0, 1) := by decide +kernel
theorem dX11_gateLine_107 : decode cX11_gateLine 107 = .ok (.istore 5, 2) := by decide +kernel
theorem dX11_gateLine_109 : decode cX11_gateLine 109 = .ok (.aload_n 0, 1) := by decide +kernel
theorem dX11_gateLine_110 : decode cX11_gateLine 110 = .ok (.getfield 112, 3) := by decide +kernel
theorem dX11_gateLine_113 : decode cX11_gateLine 113 = .ok (.iconst 2, 1) := by decide +kernel
theorem dX11_gateLine_114 : decode cX11_gateLine 114 = .ok (.if_icmp .ne 216, 3) := by decide +kernel
theorem dX11_gateLine_117 : decode cX11_gateLine 117 = .ok (.aload_n 0, 1) := by decide +kernel
theorem dX11_gateLine_118 : decode cX11_gateLine 118 = .ok (.aload_n 0, 1) := by decide +kernel
theorem dX11_gateLine_119 : decode cX11_gateLine 119 = .ok (.getfield 115, 3) := by decide +kernel
theorem dX11_gateLine_122 : decode cX11_gateLine 122 = .ok (.iload 4, 2) := by decide +kernel
theorem dX11_gateLine_124 : decode cX11_gateLine 124 = .ok (.if_icmp .ge 7, 3) := by decide +kernel
theorem dX11_gateLine_127 : decode cX11_gateLine 127 = .ok (.iconst 1, 1) := by decide +kernel
theorem dX11_gateLine_128 : decode cX11_gateLine 128 = .ok (.goto 4, 3) := by decide +kernel
theorem dX11_gateLine_131 : decode cX11_gateLine 131 = .ok (.iconst 0, 1) := by decide +kernel
theorem dX11_gateLine_132 : decode cX11_gateLine 132 = .ok (.iconst 4, 1) := by decide +kernel
theorem dX11_gateLine_133 : decode cX11_gateLine 133 = .ok (.invokevirtual 171, 3) := by decide +kernel
theorem dX11_gateLine_136 : decode cX11_gateLine 136 = .ok (.ifCond .eq 23, 3) := by decide +kernel
theorem dX11_gateLine_139 : decode cX11_gateLine 139 = .ok (.aload_n 0, 1) := by decide +kernel
theorem dX11_gateLine_140 : decode cX11_gateLine 140 = .ok (.iload 5, 2) := by decide +kernel
theorem dX11_gateLine_142 : decode cX11_gateLine 142 = .ok (.bipush 12, 2) := by decide +kernel
theorem dX11_gateLine_144 : decode cX11_gateLine 144 = .ok (.if_icmp .ge 7, 3) := by decide +kernel
theorem dX11_gateLine_147 : decode cX11_gateLine 147 = .ok (.iconst 1, 1) := by decide +kernel
theorem dX11_gateLine_148 : decode cX11_gateLine 148 = .ok (.goto 4, 3) := by decide +kernel
theorem dX11_gateLine_151 : decode cX11_gateLine 151 = .ok (.iconst 0, 1) := by decide +kernel
theorem dX11_gateLine_152 : decode cX11_gateLine 152 = .ok (.iconst 5, 1) := by decide +kernel
theorem dX11_gateLine_153 : decode cX11_gateLine 153 = .ok (.invokevirtual 171, 3) := by decide +kernel
theorem dX11_gateLine_156 : decode cX11_gateLine 156 = .ok (.ifCond .ne 5, 3) := by decide +kernel
theorem dX11_gateLine_159 : decode cX11_gateLine 159 = .ok (.iconst 0, 1) := by decide +kernel
theorem dX11_gateLine_160 : decode cX11_gateLine 160 = .ok (.ireturn, 1) := by decide +kernel
theorem dX11_gateLine_161 : decode cX11_gateLine 161 = .ok (.aload_n 0, 1) := by decide +kernel
theorem dX11_gateLine_162 : decode cX11_gateLine 162 = .ok (.getfield 115, 3) := by decide +kernel
theorem dX11_gateLine_165 : decode cX11_gateLine 165 = .ok (.istore 6, 2) := by decide +kernel
theorem dX11_gateLine_167 : decode cX11_gateLine 167 = .ok (.aload_n 0, 1) := by decide +kernel
theorem dX11_gateLine_168 : decode cX11_gateLine 168 = .ok (.invokevirtual 178, 3) := by decide +kernel
theorem dX11_gateLine_171 : decode cX11_gateLine 171 = .ok (.aload_n 0, 1) := by decide +kernel
theorem dX11_gateLine_172 : decode cX11_gateLine 172 = .ok (.aload_n 0, 1) := by decide +kernel
theorem dX11_gateLine_173 : decode cX11_gateLine 173 = .ok (.getfield 112, 3) := by decide +kernel
theorem dX11_gateLine_176 : decode cX11_gateLine 176 = .ok (.iconst 2, 1) := by decide +kernel
theorem dX11_gateLine_177 : decode cX11_gateLine 177 = .ok (.if_icmp .ne 7, 3) := by decide +kernel
theorem dX11_gateLine_180 : decode cX11_gateLine 180 = .ok (.iconst 1, 1) := by decide +kernel
theorem dX11_gateLine_181 : decode cX11_gateLine 181 = .ok (.goto 4, 3) := by decide +kernel
theorem dX11_gateLine_184 : decode cX11_gateLine 184 = .ok (.iconst 0, 1) := by decide +kernel
theorem dX11_gateLine_185 : decode cX11_gateLine 185 = .ok (.iconst 1, 1) := by decide +kernel
theorem dX11_gateLine_186 : decode cX11_gateLine 186 = .ok (.invokevirtual 171, 3) := by decide +kernel
theorem dX11_gateLine_189 : decode cX11_gateLine 189 = .ok (.ifCond .ne 5, 3) := by decide +kernel
theorem dX11_gateLine_192 : decode cX11_gateLine 192 = .ok (.iconst 0, 1) := by decide +kernel
theorem dX11_gateLine_193 : decode cX11_gateLine 193 = .ok (.ireturn, 1) := by decide +kernel
theorem dX11_gateLine_194 : decode cX11_gateLine 194 = .ok (.aload_n 0, 1) := by decide +kernel
theorem dX11_gateLine_195 : decode cX11_gateLine 195 = .ok (.getfield 115, 3) := by decide +kernel
theorem dX11_gateLine_198 : decode cX11_gateLine 198 = .ok (.istore 7, 2) := by decide +kernel
theorem dX11_gateLine_200 : decode cX11_gateLine 200 = .ok (.aload_n 0, 1) := by decide +kernel
theorem dX11_gateLine_201 : decode cX11_gateLine 201 = .ok (.iload 7, 2) := by decide +kernel
theorem dX11_gateLine_203 : decode cX11_gateLine 203 = .ok (.iload 4, 2) := by decide +kernel
theorem dX11_gateLine_205 : decode cX11_gateLine 205 = .ok (.if_icmp .ge 19, 3) := by decide +kernel
theorem dX11_gateLine_208 : decode cX11_gateLine 208 = .ok (.aload_n 0, 1) := by decide +kernel
theorem dX11_gateLine_209 : decode cX11_gateLine 209 = .ok (.getfield 51, 3) := by decide +kernel
theorem dX11_gateLine_212 : decode cX11_gateLine 212 = .ok (.bipush 8, 2) := by decide +kernel
theorem dX11_gateLine_214 : decode cX11_gateLine 214 = .ok (.iload 6, 2) := by decide +kernel
theorem dX11_gateLine_216 : decode cX11_gateLine 216 = .ok (.imul, 1) := by decide +kernel
theorem dX11_gateLine_217 : decode cX11_gateLine 217 = .ok (.iload 7, 2) := by decide +kernel
theorem dX11_gateLine_219 : decode cX11_gateLine 219 = .ok (.iadd, 1) := by decide +kernel
theorem dX11_gateLine_220 : decode cX11_gateLine 220 = .ok (.iaload, 1) := by decide +kernel
theorem dX11_gateLine_221 : decode cX11_gateLine 221 = .ok (.ifCond .ne 7, 3) := by decide +kernel
theorem dX11_gateLine_224 : decode cX11_gateLine 224 = .ok (.iconst 1, 1) := by decide +kernel
theorem dX11_gateLine_225 : decode cX11_gateLine 225 = .ok (.goto 4, 3) := by decide +kernel
theorem dX11_gateLine_228 : decode cX11_gateLine 228 = .ok (.iconst 0, 1) := by decide +kernel
theorem dX11_gateLine_229 : decode cX11_gateLine 229 = .ok (.iconst 2, 1) := by decide +kernel
theorem dX11_gateLine_230 : decode cX11_gateLine 230 = .ok (.invokevirtual 171, 3) := by decide +kernel
theorem dX11_gateLine_233 : decode cX11_gateLine 233 = .ok (.ifCond .eq 30, 3) := by decide +kernel
theorem dX11_gateLine_236 : decode cX11_gateLine 236 = .ok (.aload_n 0, 1) := by decide +kernel
theorem dX11_gateLine_237 : decode cX11_gateLine 237 = .ok (.iload 7, 2) := by decide +kernel
theorem dX11_gateLine_239 : decode cX11_gateLine 239 = .ok (.iload 4, 2) := by decide +kernel
theorem dX11_gateLine_241 : decode cX11_gateLine 241 = .ok (.if_icmp .ge 14, 3) := by decide +kernel
theorem dX11_gateLine_244 : decode cX11_gateLine 244 = .ok (.iload 7, 2) := by decide +kernel
theorem dX11_gateLine_246 : decode cX11_gateLine 246 = .ok (.iload 6, 2) := by decide +kernel
theorem dX11_gateLine_248 : decode cX11_gateLine 248 = .ok (.if_icmp .eq 7, 3) := by decide +kernel
theorem dX11_gateLine_251 : decode cX11_gateLine 251 = .ok (.iconst 1, 1) := by decide +kernel
theorem dX11_gateLine_252 : decode cX11_gateLine 252 = .ok (.goto 4, 3) := by decide +kernel
theorem dX11_gateLine_255 : decode cX11_gateLine 255 = .ok (.iconst 0, 1) := by decide +kernel
theorem dX11_gateLine_256 : decode cX11_gateLine 256 = .ok (.iconst 4, 1) := by decide +kernel
theorem dX11_gateLine_257 : decode cX11_gateLine 257 = .ok (.invokevirtual 171, 3) := by decide +kernel
theorem dX11_gateLine_260 : decode cX11_gateLine 260 = .ok (.ifCond .ne 5, 3) := by decide +kernel
theorem dX11_gateLine_263 : decode cX11_gateLine 263 = .ok (.iconst 0, 1) := by decide +kernel
theorem dX11_gateLine_264 : decode cX11_gateLine 264 = .ok (.ireturn, 1) := by decide +kernel
theorem dX11_gateLine_265 : decode cX11_gateLine 265 = .ok (.aload_n 0, 1) := by decide +kernel
theorem dX11_gateLine_266 : decode cX11_gateLine 266 = .ok (.invokevirtual 178, 3) := by decide +kernel
theorem dX11_gateLine_269 : decode cX11_gateLine 269 = .ok (.aload_n 0, 1) := by decide +kernel
theorem dX11_gateLine_270 : decode cX11_gateLine 270 = .ok (.iconst 1, 1) := by decide +kernel
theorem dX11_gateLine_271 : decode cX11_gateLine 271 = .ok (.aload_n 0, 1) := by decide +kernel
theorem dX11_gateLine_272 : decode cX11_gateLine 272 = .ok (.getfield 13, 3) := by decide +kernel
theorem dX11_gateLine_275 : decode cX11_gateLine 275 = .ok (.aload_n 0, 1) := by decide +kernel
theorem dX11_gateLine_276 : decode cX11_gateLine 276 = .ok (.getfield 181, 3) := by decide +kernel
theorem dX11_gateLine_279 : decode cX11_gateLine 279 = .ok (.iaload, 1) := by decide +kernel
theorem dX11_gateLine_280 : decode cX11_gateLine 280 = .ok (.iconst 1, 1) := by decide +kernel
theorem dX11_gateLine_281 : decode cX11_gateLine 281 = .ok (.isub, 1) := by decide +kernel
theorem dX11_gateLine_282 : decode cX11_gateLine 282 = .ok (.invokevirtual 203, 3) := by decide +kernel
theorem dX11_gateLine_285 : decode cX11_gateLine 285 = .ok (.ifCond .ne 5, 3) := by decide +kernel
theorem dX11_gateLine_288 : decode cX11_gateLine 288 = .ok (.iconst 0, 1) := by decide +kernel
theorem dX11_gateLine_289 : decode cX11_gateLine 289 = .ok (.ireturn, 1) := by decide +kernel
theorem dX11_gateLine_290 : decode cX11_gateLine 290 = .ok (.aload_n 0, 1) := by decide +kernel
theorem dX11_gateLine_291 : decode cX11_gateLine 291 = .ok (.getfield 51, 3) := by decide +kernel
theorem dX11_gateLine_294 : decode cX11_gateLine 294 = .ok (.bipush 8, 2) := by decide +kernel
theorem dX11_gateLine_296 : decode cX11_gateLine 296 = .ok (.iload 6, 2) := by decide +kernel
theorem dX11_gateLine_298 : decode cX11_gateLine 298 = .ok (.imul, 1) := by decide +kernel
theorem dX11_gateLine_299 : decode cX11_gateLine 299 = .ok (.iload 7, 2) := by decide +kernel
theorem dX11_gateLine_301 : decode cX11_gateLine 301 = .ok (.iadd, 1) := by decide +kernel
theorem dX11_gateLine_302 : decode cX11_gateLine 302 = .ok (.aload_n 0, 1) := by decide +kernel
theorem dX11_gateLine_303 : decode cX11_gateLine 303 = .ok (.getfield 175, 3) := by decide +kernel
theorem dX11_gateLine_306 : decode cX11_gateLine 306 = .ok (.iastore, 1) := by decide +kernel
theorem dX11_gateLine_307 : decode cX11_gateLine 307 = .ok (.aload_n 0, 1) := by decide +kernel
theorem dX11_gateLine_308 : decode cX11_gateLine 308 = .ok (.getfield 51, 3) := by decide +kernel
theorem dX11_gateLine_311 : decode cX11_gateLine 311 = .ok (.bipush 8, 2) := by decide +kernel
theorem dX11_gateLine_313 : decode cX11_gateLine 313 = .ok (.iload 7, 2) := by decide +kernel
theorem dX11_gateLine_315 : decode cX11_gateLine 315 = .ok (.imul, 1) := by decide +kernel
theorem dX11_gateLine_316 : decode cX11_gateLine 316 = .ok (.iload 6, 2) := by decide +kernel
theorem dX11_gateLine_318 : decode cX11_gateLine 318 = .ok (.iadd, 1) := by decide +kernel
theorem dX11_gateLine_319 : decode cX11_gateLine 319 = .ok (.aload_n 0, 1) := by decide +kernel
theorem dX11_gateLine_320 : decode cX11_gateLine 320 = .ok (.getfield 175, 3) := by decide +kernel
theorem dX11_gateLine_323 : decode cX11_gateLine 323 = .ok (.iastore, 1) := by decide +kernel
theorem dX11_gateLine_324 : decode cX11_gateLine 324 = .ok (.iinc 5 1, 3) := by decide +kernel
theorem dX11_gateLine_327 : decode cX11_gateLine 327 = .ok (.goto (-218), 3) := by decide +kernel
theorem dX11_gateLine_330 : decode cX11_gateLine 330 = .ok (.aload_n 0, 1) := by decide +kernel
theorem dX11_gateLine_331 : decode cX11_gateLine 331 = .ok (.iload 4, 2) := by decide +kernel
theorem dX11_gateLine_333 : decode cX11_gateLine 333 = .ok (.aload_n 0, 1) := by decide +kernel
theorem dX11_gateLine_334 : decode cX11_gateLine 334 = .ok (.getfield 13, 3) := by decide +kernel
theorem dX11_gateLine_337 : decode cX11_gateLine 337 = .ok (.aload_n 0, 1) := by decide +kernel
theorem dX11_gateLine_338 : decode cX11_gateLine 338 = .ok (.getfield 181, 3) := by decide +kernel
theorem dX11_gateLine_341 : decode cX11_gateLine 341 = .ok (.iaload, 1) := by decide +kernel
theorem dX11_gateLine_342 : decode cX11_gateLine 342 = .ok (.invokevirtual 207, 3) := by decide +kernel
theorem dX11_gateLine_345 : decode cX11_gateLine 345 = .ok (.iconst 0, 1) := by decide +kernel
theorem dX11_gateLine_346 : decode cX11_gateLine 346 = .ok (.istore 6, 2) := by decide +kernel
theorem dX11_gateLine_348 : decode cX11_gateLine 348 = .ok (.iload 6, 2) := by decide +kernel
theorem dX11_gateLine_350 : decode cX11_gateLine 350 = .ok (.iconst 1, 1) := by decide +kernel
theorem dX11_gateLine_351 : decode cX11_gateLine 351 = .ok (.aload_n 0, 1) := by decide +kernel
theorem dX11_gateLine_352 : decode cX11_gateLine 352 = .ok (.getfield 36, 3) := by decide +kernel
theorem dX11_gateLine_355 : decode cX11_gateLine 355 = .ok (.iload_n 1, 1) := by decide +kernel
theorem dX11_gateLine_356 : decode cX11_gateLine 356 = .ok (.iaload, 1) := by decide +kernel
theorem dX11_gateLine_357 : decode cX11_gateLine 357 = .ok (.ishl, 1) := by decide +kernel
theorem dX11_gateLine_358 : decode cX11_gateLine 358 = .ok (.if_icmp .ge 37, 3) := by decide +kernel
theorem dX11_gateLine_361 : decode cX11_gateLine 361 = .ok (.aload_n 0, 1) := by decide +kernel
theorem dX11_gateLine_362 : decode cX11_gateLine 362 = .ok (.getfield 39, 3) := by decide +kernel
theorem dX11_gateLine_365 : decode cX11_gateLine 365 = .ok (.bipush 16, 2) := by decide +kernel
theorem dX11_gateLine_367 : decode cX11_gateLine 367 = .ok (.iload_n 1, 1) := by decide +kernel
theorem dX11_gateLine_368 : decode cX11_gateLine 368 = .ok (.imul, 1) := by decide +kernel
theorem dX11_gateLine_369 : decode cX11_gateLine 369 = .ok (.iload 6, 2) := by decide +kernel
theorem dX11_gateLine_371 : decode cX11_gateLine 371 = .ok (.iadd, 1) := by decide +kernel
theorem dX11_gateLine_372 : decode cX11_gateLine 372 = .ok (.aload_n 0, 1) := by decide +kernel
theorem dX11_gateLine_373 : decode cX11_gateLine 373 = .ok (.getfield 54, 3) := by decide +kernel
theorem dX11_gateLine_376 : decode cX11_gateLine 376 = .ok (.iconst 1, 1) := by decide +kernel
theorem dX11_gateLine_377 : decode cX11_gateLine 377 = .ok (.iload 4, 2) := by decide +kernel
theorem dX11_gateLine_379 : decode cX11_gateLine 379 = .ok (.ishl, 1) := by decide +kernel
theorem dX11_gateLine_380 : decode cX11_gateLine 380 = .ok (.iconst 1, 1) := by decide +kernel
theorem dX11_gateLine_381 : decode cX11_gateLine 381 = .ok (.isub, 1) := by decide +kernel
theorem dX11_gateLine_382 : decode cX11_gateLine 382 = .ok (.iload 6, 2) := by decide +kernel
theorem dX11_gateLine_384 : decode cX11_gateLine 384 = .ok (.iconst (-1), 1) := by decide +kernel
theorem dX11_gateLine_385 : decode cX11_gateLine 385 = .ok (.ixor, 1) := by decide +kernel
theorem dX11_gateLine_386 : decode cX11_gateLine 386 = .ok (.iand, 1) := by decide +kernel
theorem dX11_gateLine_387 : decode cX11_gateLine 387 = .ok (.iaload, 1) := by decide +kernel
theorem dX11_gateLine_388 : decode cX11_gateLine 388 = .ok (.iastore, 1) := by decide +kernel
theorem dX11_gateLine_389 : decode cX11_gateLine 389 = .ok (.iinc 6 1, 3) := by decide +kernel
theorem dX11_gateLine_392 : decode cX11_gateLine 392 = .ok (.goto (-44), 3) := by decide +kernel
theorem dX11_gateLine_395 : decode cX11_gateLine 395 = .ok (.aload_n 0, 1) := by decide +kernel
theorem dX11_gateLine_396 : decode cX11_gateLine 396 = .ok (.getfield 26, 3) := by decide +kernel
theorem dX11_gateLine_399 : decode cX11_gateLine 399 = .ok (.iload_n 1, 1) := by decide +kernel
theorem dX11_gateLine_400 : decode cX11_gateLine 400 = .ok (.lload_n 2, 1) := by decide +kernel
theorem dX11_gateLine_401 : decode cX11_gateLine 401 = .ok (.lastore, 1) := by decide +kernel
theorem dX11_gateLine_402 : decode cX11_gateLine 402 = .ok (.aload_n 0, 1) := by decide +kernel
theorem dX11_gateLine_403 : decode cX11_gateLine 403 = .ok (.getfield 17, 3) := by decide +kernel
theorem dX11_gateLine_406 : decode cX11_gateLine 406 = .ok (.aload_n 0, 1) := by decide +kernel
theorem dX11_gateLine_407 : decode cX11_gateLine 407 = .ok (.getfield 181, 3) := by decide +kernel
theorem dX11_gateLine_410 : decode cX11_gateLine 410 = .ok (.dup2, 1) := by decide +kernel
theorem dX11_gateLine_411 : decode cX11_gateLine 411 = .ok (.iaload, 1) := by decide +kernel
theorem dX11_gateLine_412 : decode cX11_gateLine 412 = .ok (.iconst 1, 1) := by decide +kernel
theorem dX11_gateLine_413 : decode cX11_gateLine 413 = .ok (.iadd, 1) := by decide +kernel
theorem dX11_gateLine_414 : decode cX11_gateLine 414 = .ok (.iastore, 1) := by decide +kernel
theorem dX11_gateLine_415 : decode cX11_gateLine 415 = .ok (.iconst 1, 1) := by decide +kernel
theorem dX11_gateLine_416 : decode cX11_gateLine 416 = .ok (.ireturn, 1) := by decide +kernel
theorem dX11_modulo_0 : decode cX11_modulo 0 = .ok (.lload_n 0, 1) := by decide +kernel
theorem dX11_modulo_1 : decode cX11_modulo 1 = .ok (.iload_n 2, 1) := by decide +kernel
theorem dX11_modulo_2 : decode cX11_modulo 2 = .ok (.i2l, 1) := by decide +kernel
theorem dX11_modulo_3 : decode cX11_modulo 3 = .ok (.lrem, 1) := by decide +kernel
theorem dX11_modulo_4 : decode cX11_modulo 4 = .ok (.l2i, 1) := by decide +kernel
theorem dX11_modulo_5 : decode cX11_modulo 5 = .ok (.istore_n 3, 1) := by decide +kernel
theorem dX11_modulo_6 : decode cX11_modulo 6 = .ok (.iload_n 3, 1) := by decide +kernel
theorem dX11_modulo_7 : decode cX11_modulo 7 = .ok (.ifCond .ge 9, 3) := by decide +kernel
theorem dX11_modulo_10 : decode cX11_modulo 10 = .ok (.iload_n 3, 1) := by decide +kernel
theorem dX11_modulo_11 : decode cX11_modulo 11 = .ok (.iload_n 2, 1) := by decide +kernel
theorem dX11_modulo_12 : decode cX11_modulo 12 = .ok (.iadd, 1) := by decide +kernel
theorem dX11_modulo_13 : decode cX11_modulo 13 = .ok (.goto 4, 3) := by decide +kernel
theorem dX11_modulo_16 : decode cX11_modulo 16 = .ok (.iload_n 3, 1) := by decide +kernel
theorem dX11_modulo_17 : decode cX11_modulo 17 = .ok (.ireturn, 1) := by decide +kernel
theorem dX11_baseLine_0 : decode cX11_baseLine 0 = .ok (.aload_n 0, 1) := by decide +kernel
theorem dX11_baseLine_1 : decode cX11_baseLine 1 = .ok (.invokevirtual 200, 3) := by decide +kernel
theorem dX11_baseLine_4 : decode cX11_baseLine 4 = .ok (.ifCond .ne 5, 3) := by decide +kernel
theorem dX11_baseLine_7 : decode cX11_baseLine 7 = .ok (.iconst 0, 1) := by decide +kernel
theorem dX11_baseLine_8 : decode cX11_baseLine 8 = .ok (.ireturn, 1) := by decide +kernel
theorem dX11_baseLine_9 : decode cX11_baseLine 9 = .ok (.iconst 5, 1) := by decide +kernel
theorem dX11_baseLine_10 : decode cX11_baseLine 10 = .ok (.aload_n 0, 1) := by decide +kernel
theorem dX11_baseLine_11 : decode cX11_baseLine 11 = .ok (.getfield 181, 3) := by decide +kernel
theorem dX11_baseLine_14 : decode cX11_baseLine 14 = .ok (.imul, 1) := by decide +kernel
theorem dX11_baseLine_15 : decode cX11_baseLine 15 = .ok (.aload_n 0, 1) := by decide +kernel
theorem dX11_baseLine_16 : decode cX11_baseLine 16 = .ok (.getfield 20, 3) := by decide +kernel
theorem dX11_baseLine_19 : decode cX11_baseLine 19 = .ok (.aload_n 0, 1) := by decide +kernel
theorem dX11_baseLine_20 : decode cX11_baseLine 20 = .ok (.getfield 181, 3) := by decide +kernel
theorem dX11_baseLine_23 : decode cX11_baseLine 23 = .ok (.iaload, 1) := by decide +kernel
theorem dX11_baseLine_24 : decode cX11_baseLine 24 = .ok (.iadd, 1) := by decide +kernel
theorem dX11_baseLine_25 : decode cX11_baseLine 25 = .ok (.istore_n 1, 1) := by decide +kernel
theorem dX11_baseLine_26 : decode cX11_baseLine 26 = .ok (.aload_n 0, 1) := by decide +kernel
theorem dX11_baseLine_27 : decode cX11_baseLine 27 = .ok (.getfield 197, 3) := by decide +kernel
theorem dX11_baseLine_30 : decode cX11_baseLine 30 = .ok (.lstore_n 2, 1) := by decide +kernel
theorem dX11_baseLine_31 : decode cX11_baseLine 31 = .ok (.aload_n 0, 1) := by decide +kernel
theorem dX11_baseLine_32 : decode cX11_baseLine 32 = .ok (.getfield 13, 3) := by decide +kernel
theorem dX11_baseLine_35 : decode cX11_baseLine 35 = .ok (.aload_n 0, 1) := by decide +kernel
theorem dX11_baseLine_36 : decode cX11_baseLine 36 = .ok (.getfield 181, 3) := by decide +kernel
theorem dX11_baseLine_39 : decode cX11_baseLine 39 = .ok (.iaload, 1) := by decide +kernel
theorem dX11_baseLine_40 : decode cX11_baseLine 40 = .ok (.istore 4, 2) := by decide +kernel
theorem dX11_baseLine_42 : decode cX11_baseLine 42 = .ok (.iconst 0, 1) := by decide +kernel
theorem dX11_baseLine_43 : decode cX11_baseLine 43 = .ok (.istore 5, 2) := by decide +kernel
theorem dX11_baseLine_45 : decode cX11_baseLine 45 = .ok (.iload 5, 2) := by decide +kernel
theorem dX11_baseLine_47 : decode cX11_baseLine 47 = .ok (.iconst 3, 1) := by decide +kernel
theorem dX11_baseLine_48 : decode cX11_baseLine 48 = .ok (.if_icmp .ge 38, 3) := by decide +kernel
theorem dX11_baseLine_51 : decode cX11_baseLine 51 = .ok (.aload_n 0, 1) := by decide +kernel
theorem dX11_baseLine_52 : decode cX11_baseLine 52 = .ok (.iconst 0, 1) := by decide +kernel
theorem dX11_baseLine_53 : decode cX11_baseLine 53 = .ok (.iload 4, 2) := by decide +kernel
theorem dX11_baseLine_55 : decode cX11_baseLine 55 = .ok (.iconst 1, 1) := by decide +kernel
theorem dX11_baseLine_56 : decode cX11_baseLine 56 = .ok (.isub, 1) := by decide +kernel
theorem dX11_baseLine_57 : decode cX11_baseLine 57 = .ok (.invokevirtual 203, 3) := by decide +kernel
theorem dX11_baseLine_60 : decode cX11_baseLine 60 = .ok (.ifCond .ne 5, 3) := by decide +kernel
theorem dX11_baseLine_63 : decode cX11_baseLine 63 = .ok (.iconst 0, 1) := by decide +kernel
theorem dX11_baseLine_64 : decode cX11_baseLine 64 = .ok (.ireturn, 1) := by decide +kernel
theorem dX11_baseLine_65 : decode cX11_baseLine 65 = .ok (.aload_n 0, 1) := by decide +kernel
theorem dX11_baseLine_66 : decode cX11_baseLine 66 = .ok (.getfield 42, 3) := by decide +kernel
theorem dX11_baseLine_69 : decode cX11_baseLine 69 = .ok (.iconst 4, 1) := by decide +kernel
theorem dX11_baseLine_70 : decode cX11_baseLine 70 = .ok (.iload_n 1, 1) := by decide +kernel
theorem dX11_baseLine_71 : decode cX11_baseLine 71 = .ok (.imul, 1) := by decide +kernel
theorem dX11_baseLine_72 : decode cX11_baseLine 72 = .ok (.iload 5, 2) := by decide +kernel
theorem dX11_baseLine_74 : decode cX11_baseLine 74 = .ok (.iadd, 1) := by decide +kernel
theorem dX11_baseLine_75 : decode cX11_baseLine 75 = .ok (.aload_n 0, 1) := by decide +kernel
theorem dX11_baseLine_76 : decode cX11_baseLine 76 = .ok (.getfield 175, 3) := by decide +kernel
theorem dX11_baseLine_79 : decode cX11_baseLine 79 = .ok (.iastore, 1) := by decide +kernel
theorem dX11_baseLine_80 : decode cX11_baseLine 80 = .ok (.iinc 5 1, 3) := by decide +kernel
theorem dX11_baseLine_83 : decode cX11_baseLine 83 = .ok (.goto (-38), 3) := by decide +kernel
theorem dX11_baseLine_86 : decode cX11_baseLine 86 = .ok (.aload_n 0, 1) := by decide +kernel
theorem dX11_baseLine_87 : decode cX11_baseLine 87 = .ok (.aload_n 0, 1) := by decide +kernel
theorem dX11_baseLine_88 : decode cX11_baseLine 88 = .ok (.getfield 112, 3) := by decide +kernel
theorem dX11_baseLine_91 : decode cX11_baseLine 91 = .ok (.iconst 2, 1) := by decide +kernel
theorem dX11_baseLine_92 : decode cX11_baseLine 92 = .ok (.if_icmp .ne 7, 3) := by decide +kernel
theorem dX11_baseLine_95 : decode cX11_baseLine 95 = .ok (.iconst 1, 1) := by decide +kernel
theorem dX11_baseLine_96 : decode cX11_baseLine 96 = .ok (.goto 4, 3) := by decide +kernel
theorem dX11_baseLine_99 : decode cX11_baseLine 99 = .ok (.iconst 0, 1) := by decide +kernel
theorem dX11_baseLine_100 : decode cX11_baseLine 100 = .ok (.iconst 1, 1) := by decide +kernel
theorem dX11_baseLine_101 : decode cX11_baseLine 101 = .ok (.invokevirtual 171, 3) := by decide +kernel
theorem dX11_baseLine_104 : decode cX11_baseLine 104 = .ok (.ifCond .eq 69, 3) := by decide +kernel
theorem dX11_baseLine_107 : decode cX11_baseLine 107 = .ok (.aload_n 0, 1) := by decide +kernel
theorem dX11_baseLine_108 : decode cX11_baseLine 108 = .ok (.aload_n 0, 1) := by decide +kernel
theorem dX11_baseLine_109 : decode cX11_baseLine 109 = .ok (.getfield 115, 3) := by decide +kernel
theorem dX11_baseLine_112 : decode cX11_baseLine 112 = .ok (.iload 4, 2) := by decide +kernel
theorem dX11_baseLine_114 : decode cX11_baseLine 114 = .ok (.if_icmp .ge 51, 3) := by decide +kernel
theorem dX11_baseLine_117 : decode cX11_baseLine 117 = .ok (.aload_n 0, 1) := by decide +kernel
theorem dX11_baseLine_118 : decode cX11_baseLine 118 = .ok (.getfield 42, 3) := by decide +kernel
theorem dX11_baseLine_121 : decode cX11_baseLine 121 = .ok (.iconst 4, 1) := by decide +kernel
theorem dX11_baseLine_122 : decode cX11_baseLine 122 = .ok (.iload_n 1, 1) := by decide +kernel
theorem dX11_baseLine_123 : decode cX11_baseLine 123 = .ok (.imul, 1) := by decide +kernel
theorem dX11_baseLine_124 : decode cX11_baseLine 124 = .ok (.iaload, 1) := by decide +kernel
theorem dX11_baseLine_125 : decode cX11_baseLine 125 = .ok (.aload_n 0, 1) := by decide +kernel
theorem dX11_baseLine_126 : decode cX11_baseLine 126 = .ok (.getfield 115, 3) := by decide +kernel
theorem dX11_baseLine_129 : decode cX11_baseLine 129 = .ok (.imul, 1) := by decide +kernel
theorem dX11_baseLine_130 : decode cX11_baseLine 130 = .ok (.aload_n 0, 1) := by decide +kernel
theorem dX11_baseLine_131 : decode cX11_baseLine 131 = .ok (.getfield 42, 3) := by decide +kernel
theorem dX11_baseLine_134 : decode cX11_baseLine 134 = .ok (.iconst 4, 1) := by decide +kernel
theorem dX11_baseLine_135 : decode cX11_baseLine 135 = .ok (.iload_n 1, 1) := by decide +kernel
theorem dX11_baseLine_136 : decode cX11_baseLine 136 = .ok (.imul, 1) := by decide +kernel
theorem dX11_baseLine_137 : decode cX11_baseLine 137 = .ok (.iconst 1, 1) := by decide +kernel
theorem dX11_baseLine_138 : decode cX11_baseLine 138 = .ok (.iadd, 1) := by decide +kernel
theorem dX11_baseLine_139 : decode cX11_baseLine 139 = .ok (.iaload, 1) := by decide +kernel
theorem dX11_baseLine_140 : decode cX11_baseLine 140 = .ok (.aload_n 0, 1) := by decide +kernel
theorem dX11_baseLine_141 : decode cX11_baseLine 141 = .ok (.getfield 42, 3) := by decide +kernel
theorem dX11_baseLine_144 : decode cX11_baseLine 144 = .ok (.iconst 4, 1) := by decide +kernel
theorem dX11_baseLine_145 : decode cX11_baseLine 145 = .ok (.iload_n 1, 1) := by decide +kernel
theorem dX11_baseLine_146 : decode cX11_baseLine 146 = .ok (.imul, 1) := by decide +kernel
theorem dX11_baseLine_147 : decode cX11_baseLine 147 = .ok (.iconst 2, 1) := by decide +kernel
theorem dX11_baseLine_148 : decode cX11_baseLine 148 = .ok (.iadd, 1) := by decide +kernel
theorem dX11_baseLine_149 : decode cX11_baseLine 149 = .ok (.iaload, 1) := by decide +kernel
theorem dX11_baseLine_150 : decode cX11_baseLine 150 = .ok (.imul, 1) := by decide +kernel
theorem dX11_baseLine_151 : decode cX11_baseLine 151 = .ok (.isub, 1) := by decide +kernel
theorem dX11_baseLine_152 : decode cX11_baseLine 152 = .ok (.i2l, 1) := by decide +kernel
theorem dX11_baseLine_153 : decode cX11_baseLine 153 = .ok (.iload 4, 2) := by decide +kernel
theorem dX11_baseLine_155 : decode cX11_baseLine 155 = .ok (.invokestatic 211, 3) := by decide +kernel
theorem dX11_baseLine_158 : decode cX11_baseLine 158 = .ok (.ifCond .eq 7, 3) := by decide +kernel
theorem dX11_baseLine_161 : decode cX11_baseLine 161 = .ok (.iconst 1, 1) := by decide +kernel
theorem dX11_baseLine_162 : decode cX11_baseLine 162 = .ok (.goto 4, 3) := by decide +kernel
theorem dX11_baseLine_165 : decode cX11_baseLine 165 = .ok (.iconst 0, 1) := by decide +kernel
theorem dX11_baseLine_166 : decode cX11_baseLine 166 = .ok (.iconst 4, 1) := by decide +kernel
theorem dX11_baseLine_167 : decode cX11_baseLine 167 = .ok (.invokevirtual 171, 3) := by decide +kernel
theorem dX11_baseLine_170 : decode cX11_baseLine 170 = .ok (.ifCond .ne 5, 3) := by decide +kernel
theorem dX11_baseLine_173 : decode cX11_baseLine 173 = .ok (.iconst 0, 1) := by decide +kernel
theorem dX11_baseLine_174 : decode cX11_baseLine 174 = .ok (.ireturn, 1) := by decide +kernel
theorem dX11_baseLine_175 : decode cX11_baseLine 175 = .ok (.aload_n 0, 1) := by decide +kernel
theorem dX11_baseLine_176 : decode cX11_baseLine 176 = .ok (.getfield 42, 3) := by decide +kernel
theorem dX11_baseLine_179 : decode cX11_baseLine 179 = .ok (.iconst 4, 1) := by decide +kernel
theorem dX11_baseLine_180 : decode cX11_baseLine 180 = .ok (.iload_n 1, 1) := by decide +kernel
theorem dX11_baseLine_181 : decode cX11_baseLine 181 = .ok (.imul, 1) := by decide +kernel
theorem dX11_baseLine_182 : decode cX11_baseLine 182 = .ok (.iconst 3, 1) := by decide +kernel
theorem dX11_baseLine_183 : decode cX11_baseLine 183 = .ok (.iadd, 1) := by decide +kernel
theorem dX11_baseLine_184 : decode cX11_baseLine 184 = .ok (.aload_n 0, 1) := by decide +kernel
theorem dX11_baseLine_185 : decode cX11_baseLine 185 = .ok (.getfield 115, 3) := by decide +kernel
theorem dX11_baseLine_188 : decode cX11_baseLine 188 = .ok (.iastore, 1) := by decide +kernel
theorem dX11_baseLine_189 : decode cX11_baseLine 189 = .ok (.aload_n 0, 1) := by decide +kernel
theorem dX11_baseLine_190 : decode cX11_baseLine 190 = .ok (.invokevirtual 178, 3) := by decide +kernel
theorem dX11_baseLine_193 : decode cX11_baseLine 193 = .ok (.aload_n 0, 1) := by decide +kernel
theorem dX11_baseLine_194 : decode cX11_baseLine 194 = .ok (.getfield 30, 3) := by decide +kernel
theorem dX11_baseLine_197 : decode cX11_baseLine 197 = .ok (.iload_n 1, 1) := by decide +kernel
theorem dX11_baseLine_198 : decode cX11_baseLine 198 = .ok (.lload_n 2, 1) := by decide +kernel
theorem dX11_baseLine_199 : decode cX11_baseLine 199 = .ok (.lastore, 1) := by decide +kernel
theorem dX11_baseLine_200 : decode cX11_baseLine 200 = .ok (.aload_n 0, 1) := by decide +kernel
theorem dX11_baseLine_201 : decode cX11_baseLine 201 = .ok (.getfield 20, 3) := by decide +kernel
theorem dX11_baseLine_204 : decode cX11_baseLine 204 = .ok (.aload_n 0, 1) := by decide +kernel
theorem dX11_baseLine_205 : decode cX11_baseLine 205 = .ok (.getfield 181, 3) := by decide +kernel
theorem dX11_baseLine_208 : decode cX11_baseLine 208 = .ok (.dup2, 1) := by decide +kernel
theorem dX11_baseLine_209 : decode cX11_baseLine 209 = .ok (.iaload, 1) := by decide +kernel
theorem dX11_baseLine_210 : decode cX11_baseLine 210 = .ok (.iconst 1, 1) := by decide +kernel
theorem dX11_baseLine_211 : decode cX11_baseLine 211 = .ok (.iadd, 1) := by decide +kernel
theorem dX11_baseLine_212 : decode cX11_baseLine 212 = .ok (.iastore, 1) := by decide +kernel
theorem dX11_baseLine_213 : decode cX11_baseLine 213 = .ok (.iconst 1, 1) := by decide +kernel
theorem dX11_baseLine_214 : decode cX11_baseLine 214 = .ok (.ireturn, 1) := by decide +kernel
theorem dX11_nodeLine_0 : decode cX11_nodeLine 0 = .ok (.aload_n 0, 1) := by decide +kernel
theorem dX11_nodeLine_1 : decode cX11_nodeLine 1 = .ok (.invokevirtual 200, 3) := by decide +kernel
theorem dX11_nodeLine_4 : decode cX11_nodeLine 4 = .ok (.ifCond .ne 5, 3) := by decide +kernel
theorem dX11_nodeLine_7 : decode cX11_nodeLine 7 = .ok (.iconst 0, 1) := by decide +kernel
theorem dX11_nodeLine_8 : decode cX11_nodeLine 8 = .ok (.ireturn, 1) := by decide +kernel
theorem dX11_nodeLine_9 : decode cX11_nodeLine 9 = .ok (.aload_n 0, 1) := by decide +kernel
theorem dX11_nodeLine_10 : decode cX11_nodeLine 10 = .ok (.getfield 197, 3) := by decide +kernel
theorem dX11_nodeLine_13 : decode cX11_nodeLine 13 = .ok (.lstore_n 1, 1) := by decide +kernel
theorem dX11_nodeLine_14 : decode cX11_nodeLine 14 = .ok (.aload_n 0, 1) := by decide +kernel
theorem dX11_nodeLine_15 : decode cX11_nodeLine 15 = .ok (.aload_n 0, 1) := by decide +kernel
theorem dX11_nodeLine_16 : decode cX11_nodeLine 16 = .ok (.invokevirtual 184, 3) := by decide +kernel
theorem dX11_nodeLine_19 : decode cX11_nodeLine 19 = .ok (.iconst 1, 1) := by decide +kernel
theorem dX11_nodeLine_20 : decode cX11_nodeLine 20 = .ok (.invokevirtual 171, 3) := by decide +kernel
theorem dX11_nodeLine_23 : decode cX11_nodeLine 23 = .ok (.ifCond .eq 23, 3) := by decide +kernel
theorem dX11_nodeLine_26 : decode cX11_nodeLine 26 = .ok (.aload_n 0, 1) := by decide +kernel
theorem dX11_nodeLine_27 : decode cX11_nodeLine 27 = .ok (.aload_n 0, 1) := by decide +kernel
theorem dX11_nodeLine_28 : decode cX11_nodeLine 28 = .ok (.invokevirtual 188, 3) := by decide +kernel
theorem dX11_nodeLine_31 : decode cX11_nodeLine 31 = .ok (.ifCond .lt 7, 3) := by decide +kernel
theorem dX11_nodeLine_34 : decode cX11_nodeLine 34 = .ok (.iconst 1, 1) := by decide +kernel
theorem dX11_nodeLine_35 : decode cX11_nodeLine 35 = .ok (.goto 4, 3) := by decide +kernel
theorem dX11_nodeLine_38 : decode cX11_nodeLine 38 = .ok (.iconst 0, 1) := by decide +kernel
theorem dX11_nodeLine_39 : decode cX11_nodeLine 39 = .ok (.iconst 3, 1) := by decide +kernel
theorem dX11_nodeLine_40 : decode cX11_nodeLine 40 = .ok (.invokevirtual 171, 3) := by decide +kernel
theorem dX11_nodeLine_43 : decode cX11_nodeLine 43 = .ok (.ifCond .ne 5, 3) := by decide +kernel
theorem dX11_nodeLine_46 : decode cX11_nodeLine 46 = .ok (.iconst 0, 1) := by decide +kernel
theorem dX11_nodeLine_47 : decode cX11_nodeLine 47 = .ok (.ireturn, 1) := by decide +kernel
theorem dX11_nodeLine_48 : decode cX11_nodeLine 48 = .ok (.aload_n 0, 1) := by decide +kernel
theorem dX11_nodeLine_49 : decode cX11_nodeLine 49 = .ok (.getfield 45, 3) := by decide +kernel
theorem dX11_nodeLine_52 : decode cX11_nodeLine 52 = .ok (.bipush 6, 2) := by decide +kernel
theorem dX11_nodeLine_54 : decode cX11_nodeLine 54 = .ok (.aload_n 0, 1) := by decide +kernel
theorem dX11_nodeLine_55 : decode cX11_nodeLine 55 = .ok (.getfield 181, 3) := by decide +kernel
theorem dX11_nodeLine_58 : decode cX11_nodeLine 58 = .ok (.imul, 1) := by decide +kernel
theorem dX11_nodeLine_59 : decode cX11_nodeLine 59 = .ok (.aload_n 0, 1) := by decide +kernel
theorem dX11_nodeLine_60 : decode cX11_nodeLine 60 = .ok (.getfield 23, 3) := by decide +kernel
theorem dX11_nodeLine_63 : decode cX11_nodeLine 63 = .ok (.aload_n 0, 1) := by decide +kernel
theorem dX11_nodeLine_64 : decode cX11_nodeLine 64 = .ok (.getfield 181, 3) := by decide +kernel
theorem dX11_nodeLine_67 : decode cX11_nodeLine 67 = .ok (.iaload, 1) := by decide +kernel
theorem dX11_nodeLine_68 : decode cX11_nodeLine 68 = .ok (.iadd, 1) := by decide +kernel
theorem dX11_nodeLine_69 : decode cX11_nodeLine 69 = .ok (.aload_n 0, 1) := by decide +kernel
theorem dX11_nodeLine_70 : decode cX11_nodeLine 70 = .ok (.invokevirtual 188, 3) := by decide +kernel
theorem dX11_nodeLine_73 : decode cX11_nodeLine 73 = .ok (.iastore, 1) := by decide +kernel
theorem dX11_nodeLine_74 : decode cX11_nodeLine 74 = .ok (.aload_n 0, 1) := by decide +kernel
theorem dX11_nodeLine_75 : decode cX11_nodeLine 75 = .ok (.invokevirtual 178, 3) := by decide +kernel
theorem dX11_nodeLine_78 : decode cX11_nodeLine 78 = .ok (.aload_n 0, 1) := by decide +kernel
theorem dX11_nodeLine_79 : decode cX11_nodeLine 79 = .ok (.getfield 33, 3) := by decide +kernel
theorem dX11_nodeLine_82 : decode cX11_nodeLine 82 = .ok (.bipush 6, 2) := by decide +kernel
theorem dX11_nodeLine_84 : decode cX11_nodeLine 84 = .ok (.aload_n 0, 1) := by decide +kernel
theorem dX11_nodeLine_85 : decode cX11_nodeLine 85 = .ok (.getfield 181, 3) := by decide +kernel
theorem dX11_nodeLine_88 : decode cX11_nodeLine 88 = .ok (.imul, 1) := by decide +kernel
theorem dX11_nodeLine_89 : decode cX11_nodeLine 89 = .ok (.aload_n 0, 1) := by decide +kernel
theorem dX11_nodeLine_90 : decode cX11_nodeLine 90 = .ok (.getfield 23, 3) := by decide +kernel
theorem dX11_nodeLine_93 : decode cX11_nodeLine 93 = .ok (.aload_n 0, 1) := by decide +kernel
theorem dX11_nodeLine_94 : decode cX11_nodeLine 94 = .ok (.getfield 181, 3) := by decide +kernel
theorem dX11_nodeLine_97 : decode cX11_nodeLine 97 = .ok (.iaload, 1) := by decide +kernel
theorem dX11_nodeLine_98 : decode cX11_nodeLine 98 = .ok (.iadd, 1) := by decide +kernel
theorem dX11_nodeLine_99 : decode cX11_nodeLine 99 = .ok (.lload_n 1, 1) := by decide +kernel
theorem dX11_nodeLine_100 : decode cX11_nodeLine 100 = .ok (.lastore, 1) := by decide +kernel
theorem dX11_nodeLine_101 : decode cX11_nodeLine 101 = .ok (.aload_n 0, 1) := by decide +kernel
theorem dX11_nodeLine_102 : decode cX11_nodeLine 102 = .ok (.getfield 23, 3) := by decide +kernel
theorem dX11_nodeLine_105 : decode cX11_nodeLine 105 = .ok (.aload_n 0, 1) := by decide +kernel
theorem dX11_nodeLine_106 : decode cX11_nodeLine 106 = .ok (.getfield 181, 3) := by decide +kernel
theorem dX11_nodeLine_109 : decode cX11_nodeLine 109 = .ok (.dup2, 1) := by decide +kernel
theorem dX11_nodeLine_110 : decode cX11_nodeLine 110 = .ok (.iaload, 1) := by decide +kernel
theorem dX11_nodeLine_111 : decode cX11_nodeLine 111 = .ok (.iconst 1, 1) := by decide +kernel
theorem dX11_nodeLine_112 : decode cX11_nodeLine 112 = .ok (.iadd, 1) := by decide +kernel
theorem dX11_nodeLine_113 : decode cX11_nodeLine 113 = .ok (.iastore, 1) := by decide +kernel
theorem dX11_nodeLine_114 : decode cX11_nodeLine 114 = .ok (.iconst 1, 1) := by decide +kernel
theorem dX11_nodeLine_115 : decode cX11_nodeLine 115 = .ok (.ireturn, 1) := by decide +kernel
theorem dX11_takesEnd_0 : decode cX11_takesEnd 0 = .ok (.aload_n 0, 1) := by decide +kernel
theorem dX11_takesEnd_1 : decode cX11_takesEnd 1 = .ok (.aload_n 0, 1) := by decide +kernel
theorem dX11_takesEnd_2 : decode cX11_takesEnd 2 = .ok (.invokevirtual 184, 3) := by decide +kernel
theorem dX11_takesEnd_5 : decode cX11_takesEnd 5 = .ok (.iconst 1, 1) := by decide +kernel
theorem dX11_takesEnd_6 : decode cX11_takesEnd 6 = .ok (.invokevirtual 171, 3) := by decide +kernel
theorem dX11_takesEnd_9 : decode cX11_takesEnd 9 = .ok (.ifCond .ne 5, 3) := by decide +kernel
theorem dX11_takesEnd_12 : decode cX11_takesEnd 12 = .ok (.iconst 0, 1) := by decide +kernel
theorem dX11_takesEnd_13 : decode cX11_takesEnd 13 = .ok (.ireturn, 1) := by decide +kernel
theorem dX11_takesEnd_14 : decode cX11_takesEnd 14 = .ok (.aload_n 0, 1) := by decide +kernel
theorem dX11_takesEnd_15 : decode cX11_takesEnd 15 = .ok (.invokevirtual 194, 3) := by decide +kernel
theorem dX11_takesEnd_18 : decode cX11_takesEnd 18 = .ok (.istore_n 2, 1) := by decide +kernel
theorem dX11_takesEnd_19 : decode cX11_takesEnd 19 = .ok (.aload_n 0, 1) := by decide +kernel
theorem dX11_takesEnd_20 : decode cX11_takesEnd 20 = .ok (.iload_n 2, 1) := by decide +kernel
theorem dX11_takesEnd_21 : decode cX11_takesEnd 21 = .ok (.ifCond .lt 7, 3) := by decide +kernel
theorem dX11_takesEnd_24 : decode cX11_takesEnd 24 = .ok (.iconst 1, 1) := by decide +kernel
theorem dX11_takesEnd_25 : decode cX11_takesEnd 25 = .ok (.goto 4, 3) := by decide +kernel
theorem dX11_takesEnd_28 : decode cX11_takesEnd 28 = .ok (.iconst 0, 1) := by decide +kernel
theorem dX11_takesEnd_29 : decode cX11_takesEnd 29 = .ok (.iconst 3, 1) := by decide +kernel
theorem dX11_takesEnd_30 : decode cX11_takesEnd 30 = .ok (.invokevirtual 171, 3) := by decide +kernel
theorem dX11_takesEnd_33 : decode cX11_takesEnd 33 = .ok (.ifCond .ne 5, 3) := by decide +kernel
theorem dX11_takesEnd_36 : decode cX11_takesEnd 36 = .ok (.iconst 0, 1) := by decide +kernel
theorem dX11_takesEnd_37 : decode cX11_takesEnd 37 = .ok (.ireturn, 1) := by decide +kernel
theorem dX11_takesEnd_38 : decode cX11_takesEnd 38 = .ok (.aload_n 0, 1) := by decide +kernel
theorem dX11_takesEnd_39 : decode cX11_takesEnd 39 = .ok (.invokevirtual 178, 3) := by decide +kernel
theorem dX11_takesEnd_42 : decode cX11_takesEnd 42 = .ok (.aload_n 0, 1) := by decide +kernel
theorem dX11_takesEnd_43 : decode cX11_takesEnd 43 = .ok (.aload_n 0, 1) := by decide +kernel
theorem dX11_takesEnd_44 : decode cX11_takesEnd 44 = .ok (.getfield 112, 3) := by decide +kernel
theorem dX11_takesEnd_47 : decode cX11_takesEnd 47 = .ok (.iconst 2, 1) := by decide +kernel
theorem dX11_takesEnd_48 : decode cX11_takesEnd 48 = .ok (.if_icmp .ne 7, 3) := by decide +kernel
theorem dX11_takesEnd_51 : decode cX11_takesEnd 51 = .ok (.iconst 1, 1) := by decide +kernel
theorem dX11_takesEnd_52 : decode cX11_takesEnd 52 = .ok (.goto 4, 3) := by decide +kernel
theorem dX11_takesEnd_55 : decode cX11_takesEnd 55 = .ok (.iconst 0, 1) := by decide +kernel
theorem dX11_takesEnd_56 : decode cX11_takesEnd 56 = .ok (.iconst 1, 1) := by decide +kernel
theorem dX11_takesEnd_57 : decode cX11_takesEnd 57 = .ok (.invokevirtual 171, 3) := by decide +kernel
theorem dX11_takesEnd_60 : decode cX11_takesEnd 60 = .ok (.ifCond .ne 5, 3) := by decide +kernel
theorem dX11_takesEnd_63 : decode cX11_takesEnd 63 = .ok (.iconst 0, 1) := by decide +kernel
theorem dX11_takesEnd_64 : decode cX11_takesEnd 64 = .ok (.ireturn, 1) := by decide +kernel
theorem dX11_takesEnd_65 : decode cX11_takesEnd 65 = .ok (.aload_n 0, 1) := by decide +kernel
theorem dX11_takesEnd_66 : decode cX11_takesEnd 66 = .ok (.iconst 4, 1) := by decide +kernel
theorem dX11_takesEnd_67 : decode cX11_takesEnd 67 = .ok (.iload_n 2, 1) := by decide +kernel
theorem dX11_takesEnd_68 : decode cX11_takesEnd 68 = .ok (.imul, 1) := by decide +kernel
theorem dX11_takesEnd_69 : decode cX11_takesEnd 69 = .ok (.aload_n 0, 1) := by decide +kernel
theorem dX11_takesEnd_70 : decode cX11_takesEnd 70 = .ok (.getfield 115, 3) := by decide +kernel
theorem dX11_takesEnd_73 : decode cX11_takesEnd 73 = .ok (.iadd, 1) := by decide +kernel
theorem dX11_takesEnd_74 : decode cX11_takesEnd 74 = .ok (.putfield 215, 3) := by decide +kernel
theorem dX11_takesEnd_77 : decode cX11_takesEnd 77 = .ok (.aload_n 0, 1) := by decide +kernel
theorem dX11_takesEnd_78 : decode cX11_takesEnd 78 = .ok (.getfield 115, 3) := by decide +kernel
theorem dX11_takesEnd_81 : decode cX11_takesEnd 81 = .ok (.aload_n 0, 1) := by decide +kernel
theorem dX11_takesEnd_82 : decode cX11_takesEnd 82 = .ok (.getfield 36, 3) := by decide +kernel
theorem dX11_takesEnd_85 : decode cX11_takesEnd 85 = .ok (.bipush 8, 2) := by decide +kernel
theorem dX11_takesEnd_87 : decode cX11_takesEnd 87 = .ok (.aload_n 0, 1) := by decide +kernel
theorem dX11_takesEnd_88 : decode cX11_takesEnd 88 = .ok (.getfield 181, 3) := by decide +kernel
theorem dX11_takesEnd_91 : decode cX11_takesEnd 91 = .ok (.imul, 1) := by decide +kernel
theorem dX11_takesEnd_92 : decode cX11_takesEnd 92 = .ok (.aload_n 0, 1) := by decide +kernel
theorem dX11_takesEnd_93 : decode cX11_takesEnd 93 = .ok (.getfield 45, 3) := by decide +kernel
theorem dX11_takesEnd_96 : decode cX11_takesEnd 96 = .ok (.bipush 6, 2) := by decide +kernel
theorem dX11_takesEnd_98 : decode cX11_takesEnd 98 = .ok (.aload_n 0, 1) := by decide +kernel
theorem dX11_takesEnd_99 : decode cX11_takesEnd 99 = .ok (.getfield 181, 3) := by decide +kernel
theorem dX11_takesEnd_102 : decode cX11_takesEnd 102 = .ok (.imul, 1) := by decide +kernel
theorem dX11_takesEnd_103 : decode cX11_takesEnd 103 = .ok (.iload_n 2, 1) := by decide +kernel
theorem dX11_takesEnd_104 : decode cX11_takesEnd 104 = .ok (.iadd, 1) := by decide +kernel
theorem dX11_takesEnd_105 : decode cX11_takesEnd 105 = .ok (.iaload, 1) := by decide +kernel
theorem dX11_takesEnd_106 : decode cX11_takesEnd 106 = .ok (.iadd, 1) := by decide +kernel
theorem dX11_takesEnd_107 : decode cX11_takesEnd 107 = .ok (.iaload, 1) := by decide +kernel
theorem dX11_takesEnd_108 : decode cX11_takesEnd 108 = .ok (.if_icmp .ge 7, 3) := by decide +kernel
theorem dX11_takesEnd_111 : decode cX11_takesEnd 111 = .ok (.iconst 1, 1) := by decide +kernel
theorem dX11_takesEnd_112 : decode cX11_takesEnd 112 = .ok (.goto 4, 3) := by decide +kernel
theorem dX11_takesEnd_115 : decode cX11_takesEnd 115 = .ok (.iconst 0, 1) := by decide +kernel
theorem dX11_takesEnd_116 : decode cX11_takesEnd 116 = .ok (.istore_n 3, 1) := by decide +kernel
theorem dX11_takesEnd_117 : decode cX11_takesEnd 117 = .ok (.aload_n 0, 1) := by decide +kernel
theorem dX11_takesEnd_118 : decode cX11_takesEnd 118 = .ok (.getfield 215, 3) := by decide +kernel
theorem dX11_takesEnd_121 : decode cX11_takesEnd 121 = .ok (.iload_n 1, 1) := by decide +kernel
theorem dX11_takesEnd_122 : decode cX11_takesEnd 122 = .ok (.if_icmp .eq 7, 3) := by decide +kernel
theorem dX11_takesEnd_125 : decode cX11_takesEnd 125 = .ok (.iconst 1, 1) := by decide +kernel
theorem dX11_takesEnd_126 : decode cX11_takesEnd 126 = .ok (.goto 4, 3) := by decide +kernel
theorem dX11_takesEnd_129 : decode cX11_takesEnd 129 = .ok (.iconst 0, 1) := by decide +kernel
theorem dX11_takesEnd_130 : decode cX11_takesEnd 130 = .ok (.istore 4, 2) := by decide +kernel
theorem dX11_takesEnd_132 : decode cX11_takesEnd 132 = .ok (.iconst 0, 1) := by decide +kernel
theorem dX11_takesEnd_133 : decode cX11_takesEnd 133 = .ok (.istore 5, 2) := by decide +kernel
theorem dX11_takesEnd_135 : decode cX11_takesEnd 135 = .ok (.iload 5, 2) := by decide +kernel
theorem dX11_takesEnd_137 : decode cX11_takesEnd 137 = .ok (.iconst 2, 1) := by decide +kernel
theorem dX11_takesEnd_138 : decode cX11_takesEnd 138 = .ok (.aload_n 0, 1) := by decide +kernel
theorem dX11_takesEnd_139 : decode cX11_takesEnd 139 = .ok (.getfield 218, 3) := by decide +kernel
theorem dX11_takesEnd_142 : decode cX11_takesEnd 142 = .ok (.imul, 1) := by decide +kernel
theorem dX11_takesEnd_143 : decode cX11_takesEnd 143 = .ok (.if_icmp .ge 33, 3) := by decide +kernel
theorem dX11_takesEnd_146 : decode cX11_takesEnd 146 = .ok (.iload 4, 2) := by decide +kernel
theorem dX11_takesEnd_148 : decode cX11_takesEnd 148 = .ok (.aload_n 0, 1) := by decide +kernel
theorem dX11_takesEnd_149 : decode cX11_takesEnd 149 = .ok (.getfield 48, 3) := by decide +kernel
theorem dX11_takesEnd_152 : decode cX11_takesEnd 152 = .ok (.iload 5, 2) := by decide +kernel
theorem dX11_takesEnd_154 : decode cX11_takesEnd 154 = .ok (.iaload, 1) := by decide +kernel
theorem dX11_takesEnd_155 : decode cX11_takesEnd 155 = .ok (.aload_n 0, 1) := by decide +kernel
theorem dX11_takesEnd_156 : decode cX11_takesEnd 156 = .ok (.getfield 215, 3) := by decide +kernel
theorem dX11_takesEnd_159 : decode cX11_takesEnd 159 = .ok (.if_icmp .eq 7, 3) := by decide +kernel
theorem dX11_takesEnd_162 : decode cX11_takesEnd 162 = .ok (.iconst 1, 1) := by decide +kernel
theorem dX11_takesEnd_163 : decode cX11_takesEnd 163 = .ok (.goto 4, 3) := by decide +kernel
theorem dX11_takesEnd_166 : decode cX11_takesEnd 166 = .ok (.iconst 0, 1) := by decide +kernel
theorem dX11_takesEnd_167 : decode cX11_takesEnd 167 = .ok (.iand, 1) := by decide +kernel
theorem dX11_takesEnd_168 : decode cX11_takesEnd 168 = .ok (.istore 4, 2) := by decide +kernel
theorem dX11_takesEnd_170 : decode cX11_takesEnd 170 = .ok (.iinc 5 1, 3) := by decide +kernel
theorem dX11_takesEnd_173 : decode cX11_takesEnd 173 = .ok (.goto (-38), 3) := by decide +kernel
theorem dX11_takesEnd_176 : decode cX11_takesEnd 176 = .ok (.aload_n 0, 1) := by decide +kernel
theorem dX11_takesEnd_177 : decode cX11_takesEnd 177 = .ok (.iload_n 3, 1) := by decide +kernel
theorem dX11_takesEnd_178 : decode cX11_takesEnd 178 = .ok (.ifCond .eq 8, 3) := by decide +kernel
theorem dX11_takesEnd_181 : decode cX11_takesEnd 181 = .ok (.iload 4, 2) := by decide +kernel
theorem dX11_takesEnd_183 : decode cX11_takesEnd 183 = .ok (.ifCond .eq 7, 3) := by decide +kernel
theorem dX11_takesEnd_186 : decode cX11_takesEnd 186 = .ok (.iconst 1, 1) := by decide +kernel
theorem dX11_takesEnd_187 : decode cX11_takesEnd 187 = .ok (.goto 4, 3) := by decide +kernel
theorem dX11_takesEnd_190 : decode cX11_takesEnd 190 = .ok (.iconst 0, 1) := by decide +kernel
theorem dX11_takesEnd_191 : decode cX11_takesEnd 191 = .ok (.iconst 2, 1) := by decide +kernel
theorem dX11_takesEnd_192 : decode cX11_takesEnd 192 = .ok (.invokevirtual 171, 3) := by decide +kernel
theorem dX11_takesEnd_195 : decode cX11_takesEnd 195 = .ok (.ifCond .eq 12, 3) := by decide +kernel
theorem dX11_takesEnd_198 : decode cX11_takesEnd 198 = .ok (.aload_n 0, 1) := by decide +kernel
theorem dX11_takesEnd_199 : decode cX11_takesEnd 199 = .ok (.iload_n 3, 1) := by decide +kernel
theorem dX11_takesEnd_200 : decode cX11_takesEnd 200 = .ok (.iconst 4, 1) := by decide +kernel
theorem dX11_takesEnd_201 : decode cX11_takesEnd 201 = .ok (.invokevirtual 171, 3) := by decide +kernel
theorem dX11_takesEnd_204 : decode cX11_takesEnd 204 = .ok (.ifCond .ne 5, 3) := by decide +kernel
theorem dX11_takesEnd_207 : decode cX11_takesEnd 207 = .ok (.iconst 0, 1) := by decide +kernel
theorem dX11_takesEnd_208 : decode cX11_takesEnd 208 = .ok (.ireturn, 1) := by decide +kernel
theorem dX11_takesEnd_209 : decode cX11_takesEnd 209 = .ok (.aload_n 0, 1) := by decide +kernel
theorem dX11_takesEnd_210 : decode cX11_takesEnd 210 = .ok (.invokevirtual 178, 3) := by decide +kernel
theorem dX11_takesEnd_213 : decode cX11_takesEnd 213 = .ok (.iconst 1, 1) := by decide +kernel
theorem dX11_takesEnd_214 : decode cX11_takesEnd 214 = .ok (.ireturn, 1) := by decide +kernel
theorem dX11_wireLine_0 : decode cX11_wireLine 0 = .ok (.aload_n 0, 1) := by decide +kernel
theorem dX11_wireLine_1 : decode cX11_wireLine 1 = .ok (.iconst (-1), 1) := by decide +kernel
theorem dX11_wireLine_2 : decode cX11_wireLine 2 = .ok (.invokevirtual 221, 3) := by decide +kernel
theorem dX11_wireLine_5 : decode cX11_wireLine 5 = .ok (.ifCond .ne 5, 3) := by decide +kernel
theorem dX11_wireLine_8 : decode cX11_wireLine 8 = .ok (.iconst 0, 1) := by decide +kernel
theorem dX11_wireLine_9 : decode cX11_wireLine 9 = .ok (.ireturn, 1) := by decide +kernel
theorem dX11_wireLine_10 : decode cX11_wireLine 10 = .ok (.aload_n 0, 1) := by decide +kernel
theorem dX11_wireLine_11 : decode cX11_wireLine 11 = .ok (.getfield 215, 3) := by decide +kernel
theorem dX11_wireLine_14 : decode cX11_wireLine 14 = .ok (.istore_n 1, 1) := by decide +kernel
theorem dX11_wireLine_15 : decode cX11_wireLine 15 = .ok (.aload_n 0, 1) := by decide +kernel
theorem dX11_wireLine_16 : decode cX11_wireLine 16 = .ok (.iload_n 1, 1) := by decide +kernel
theorem dX11_wireLine_17 : decode cX11_wireLine 17 = .ok (.invokevirtual 221, 3) := by decide +kernel
theorem dX11_wireLine_20 : decode cX11_wireLine 20 = .ok (.ifCond .ne 5, 3) := by decide +kernel
theorem dX11_wireLine_23 : decode cX11_wireLine 23 = .ok (.iconst 0, 1) := by decide +kernel
theorem dX11_wireLine_24 : decode cX11_wireLine 24 = .ok (.ireturn, 1) := by decide +kernel
theorem dX11_wireLine_25 : decode cX11_wireLine 25 = .ok (.aload_n 0, 1) := by decide +kernel
theorem dX11_wireLine_26 : decode cX11_wireLine 26 = .ok (.getfield 48, 3) := by decide +kernel
theorem dX11_wireLine_29 : decode cX11_wireLine 29 = .ok (.iconst 2, 1) := by decide +kernel
theorem dX11_wireLine_30 : decode cX11_wireLine 30 = .ok (.aload_n 0, 1) := by decide +kernel
theorem dX11_wireLine_31 : decode cX11_wireLine 31 = .ok (.getfield 218, 3) := by decide +kernel
theorem dX11_wireLine_34 : decode cX11_wireLine 34 = .ok (.imul, 1) := by decide +kernel
theorem dX11_wireLine_35 : decode cX11_wireLine 35 = .ok (.iload_n 1, 1) := by decide +kernel
theorem dX11_wireLine_36 : decode cX11_wireLine 36 = .ok (.iastore, 1) := by decide +kernel
theorem dX11_wireLine_37 : decode cX11_wireLine 37 = .ok (.aload_n 0, 1) := by decide +kernel
theorem dX11_wireLine_38 : decode cX11_wireLine 38 = .ok (.getfield 48, 3) := by decide +kernel
theorem dX11_wireLine_41 : decode cX11_wireLine 41 = .ok (.iconst 2, 1) := by decide +kernel
theorem dX11_wireLine_42 : decode cX11_wireLine 42 = .ok (.aload_n 0, 1) := by decide +kernel
theorem dX11_wireLine_43 : decode cX11_wireLine 43 = .ok (.getfield 218, 3) := by decide +kernel
theorem dX11_wireLine_46 : decode cX11_wireLine 46 = .ok (.imul, 1) := by decide +kernel
theorem dX11_wireLine_47 : decode cX11_wireLine 47 = .ok (.iconst 1, 1) := by decide +kernel
theorem dX11_wireLine_48 : decode cX11_wireLine 48 = .ok (.iadd, 1) := by decide +kernel
theorem dX11_wireLine_49 : decode cX11_wireLine 49 = .ok (.aload_n 0, 1) := by decide +kernel
theorem dX11_wireLine_50 : decode cX11_wireLine 50 = .ok (.getfield 215, 3) := by decide +kernel
theorem dX11_wireLine_53 : decode cX11_wireLine 53 = .ok (.iastore, 1) := by decide +kernel
theorem dX11_wireLine_54 : decode cX11_wireLine 54 = .ok (.aload_n 0, 1) := by decide +kernel
theorem dX11_wireLine_55 : decode cX11_wireLine 55 = .ok (.dup, 1) := by decide +kernel
theorem dX11_wireLine_56 : decode cX11_wireLine 56 = .ok (.getfield 218, 3) := by decide +kernel
theorem dX11_wireLine_59 : decode cX11_wireLine 59 = .ok (.iconst 1, 1) := by decide +kernel
theorem dX11_wireLine_60 : decode cX11_wireLine 60 = .ok (.iadd, 1) := by decide +kernel
theorem dX11_wireLine_61 : decode cX11_wireLine 61 = .ok (.putfield 218, 3) := by decide +kernel
theorem dX11_wireLine_64 : decode cX11_wireLine 64 = .ok (.iconst 1, 1) := by decide +kernel
theorem dX11_wireLine_65 : decode cX11_wireLine 65 = .ok (.ireturn, 1) := by decide +kernel
theorem dX11_lineHere_0 : decode cX11_lineHere 0 = .ok (.aload_n 0, 1) := by decide +kernel
theorem dX11_lineHere_1 : decode cX11_lineHere 1 = .ok (.ldc 162, 2) := by decide +kernel
theorem dX11_lineHere_3 : decode cX11_lineHere 3 = .ok (.invokevirtual 158, 3) := by decide +kernel
theorem dX11_lineHere_6 : decode cX11_lineHere 6 = .ok (.ifCond .eq 7, 3) := by decide +kernel
theorem dX11_lineHere_9 : decode cX11_lineHere 9 = .ok (.iconst 0, 1) := by decide +kernel
theorem dX11_lineHere_10 : decode cX11_lineHere 10 = .ok (.goto 56, 3) := by decide +kernel
theorem dX11_lineHere_13 : decode cX11_lineHere 13 = .ok (.aload_n 0, 1) := by decide +kernel
theorem dX11_lineHere_14 : decode cX11_lineHere 14 = .ok (.ldc 164, 2) := by decide +kernel
theorem dX11_lineHere_16 : decode cX11_lineHere 16 = .ok (.invokevirtual 158, 3) := by decide +kernel
theorem dX11_lineHere_19 : decode cX11_lineHere 19 = .ok (.ifCond .eq 7, 3) := by decide +kernel
theorem dX11_lineHere_22 : decode cX11_lineHere 22 = .ok (.iconst 1, 1) := by decide +kernel
theorem dX11_lineHere_23 : decode cX11_lineHere 23 = .ok (.goto 43, 3) := by decide +kernel
theorem dX11_lineHere_26 : decode cX11_lineHere 26 = .ok (.aload_n 0, 1) := by decide +kernel
theorem dX11_lineHere_27 : decode cX11_lineHere 27 = .ok (.ldc 166, 2) := by decide +kernel
theorem dX11_lineHere_29 : decode cX11_lineHere 29 = .ok (.invokevirtual 158, 3) := by decide +kernel
theorem dX11_lineHere_32 : decode cX11_lineHere 32 = .ok (.ifCond .eq 7, 3) := by decide +kernel
theorem dX11_lineHere_35 : decode cX11_lineHere 35 = .ok (.iconst 2, 1) := by decide +kernel
theorem dX11_lineHere_36 : decode cX11_lineHere 36 = .ok (.goto 30, 3) := by decide +kernel
theorem dX11_lineHere_39 : decode cX11_lineHere 39 = .ok (.aload_n 0, 1) := by decide +kernel
theorem dX11_lineHere_40 : decode cX11_lineHere 40 = .ok (.ldc 167, 2) := by decide +kernel
theorem dX11_lineHere_42 : decode cX11_lineHere 42 = .ok (.invokevirtual 158, 3) := by decide +kernel
theorem dX11_lineHere_45 : decode cX11_lineHere 45 = .ok (.ifCond .eq 7, 3) := by decide +kernel
theorem dX11_lineHere_48 : decode cX11_lineHere 48 = .ok (.iconst 3, 1) := by decide +kernel
theorem dX11_lineHere_49 : decode cX11_lineHere 49 = .ok (.goto 17, 3) := by decide +kernel
theorem dX11_lineHere_52 : decode cX11_lineHere 52 = .ok (.aload_n 0, 1) := by decide +kernel
theorem dX11_lineHere_53 : decode cX11_lineHere 53 = .ok (.ldc 169, 2) := by decide +kernel
theorem dX11_lineHere_55 : decode cX11_lineHere 55 = .ok (.invokevirtual 158, 3) := by decide +kernel
theorem dX11_lineHere_58 : decode cX11_lineHere 58 = .ok (.ifCond .eq 7, 3) := by decide +kernel
theorem dX11_lineHere_61 : decode cX11_lineHere 61 = .ok (.iconst 4, 1) := by decide +kernel
theorem dX11_lineHere_62 : decode cX11_lineHere 62 = .ok (.goto 4, 3) := by decide +kernel
theorem dX11_lineHere_65 : decode cX11_lineHere 65 = .ok (.iconst (-1), 1) := by decide +kernel
theorem dX11_lineHere_66 : decode cX11_lineHere 66 = .ok (.istore_n 1, 1) := by decide +kernel
theorem dX11_lineHere_67 : decode cX11_lineHere 67 = .ok (.aload_n 0, 1) := by decide +kernel
theorem dX11_lineHere_68 : decode cX11_lineHere 68 = .ok (.iload_n 1, 1) := by decide +kernel
theorem dX11_lineHere_69 : decode cX11_lineHere 69 = .ok (.ifCond .lt 7, 3) := by decide +kernel
theorem dX11_lineHere_72 : decode cX11_lineHere 72 = .ok (.iconst 1, 1) := by decide +kernel
theorem dX11_lineHere_73 : decode cX11_lineHere 73 = .ok (.goto 4, 3) := by decide +kernel
theorem dX11_lineHere_76 : decode cX11_lineHere 76 = .ok (.iconst 0, 1) := by decide +kernel
theorem dX11_lineHere_77 : decode cX11_lineHere 77 = .ok (.iconst 1, 1) := by decide +kernel
theorem dX11_lineHere_78 : decode cX11_lineHere 78 = .ok (.invokevirtual 171, 3) := by decide +kernel
theorem dX11_lineHere_81 : decode cX11_lineHere 81 = .ok (.ifCond .ne 5, 3) := by decide +kernel
theorem dX11_lineHere_84 : decode cX11_lineHere 84 = .ok (.iconst 0, 1) := by decide +kernel
theorem dX11_lineHere_85 : decode cX11_lineHere 85 = .ok (.ireturn, 1) := by decide +kernel
theorem dX11_lineHere_86 : decode cX11_lineHere 86 = .ok (.iload_n 1, 1) := by decide +kernel
theorem dX11_lineHere_87 : decode cX11_lineHere 87 = .ok (.iconst 2, 1) := by decide +kernel
theorem dX11_lineHere_88 : decode cX11_lineHere 88 = .ok (.if_icmp .ge 25, 3) := by decide +kernel
theorem dX11_lineHere_91 : decode cX11_lineHere 91 = .ok (.aload_n 0, 1) := by decide +kernel
theorem dX11_lineHere_92 : decode cX11_lineHere 92 = .ok (.getfield 17, 3) := by decide +kernel
theorem dX11_lineHere_95 : decode cX11_lineHere 95 = .ok (.aload_n 0, 1) := by decide +kernel
theorem dX11_lineHere_96 : decode cX11_lineHere 96 = .ok (.getfield 181, 3) := by decide +kernel
theorem dX11_lineHere_99 : decode cX11_lineHere 99 = .ok (.iaload, 1) := by decide +kernel
theorem dX11_lineHere_100 : decode cX11_lineHere 100 = .ok (.bipush 8, 2) := by decide +kernel
theorem dX11_lineHere_102 : decode cX11_lineHere 102 = .ok (.if_icmp .ge 7, 3) := by decide +kernel
theorem dX11_lineHere_105 : decode cX11_lineHere 105 = .ok (.iconst 1, 1) := by decide +kernel
theorem dX11_lineHere_106 : decode cX11_lineHere 106 = .ok (.goto 74, 3) := by decide +kernel
theorem dX11_lineHere_109 : decode cX11_lineHere 109 = .ok (.iconst 0, 1) := by decide +kernel
theorem dX11_lineHere_110 : decode cX11_lineHere 110 = .ok (.goto 70, 3) := by decide +kernel
theorem dX11_lineHere_113 : decode cX11_lineHere 113 = .ok (.iload_n 1, 1) := by decide +kernel
theorem dX11_lineHere_114 : decode cX11_lineHere 114 = .ok (.iconst 2, 1) := by decide +kernel
theorem dX11_lineHere_115 : decode cX11_lineHere 115 = .ok (.if_icmp .ne 24, 3) := by decide +kernel
theorem dX11_lineHere_118 : decode cX11_lineHere 118 = .ok (.aload_n 0, 1) := by decide +kernel
theorem dX11_lineHere_119 : decode cX11_lineHere 119 = .ok (.getfield 20, 3) := by decide +kernel
theorem dX11_lineHere_122 : decode cX11_lineHere 122 = .ok (.aload_n 0, 1) := by decide +kernel
theorem dX11_lineHere_123 : decode cX11_lineHere 123 = .ok (.getfield 181, 3) := by decide +kernel
theorem dX11_lineHere_126 : decode cX11_lineHere 126 = .ok (.iaload, 1) := by decide +kernel
theorem dX11_lineHere_127 : decode cX11_lineHere 127 = .ok (.iconst 5, 1) := by decide +kernel
theorem dX11_lineHere_128 : decode cX11_lineHere 128 = .ok (.if_icmp .ge 7, 3) := by decide +kernel
theorem dX11_lineHere_131 : decode cX11_lineHere 131 = .ok (.iconst 1, 1) := by decide +kernel
theorem dX11_lineHere_132 : decode cX11_lineHere 132 = .ok (.goto 48, 3) := by decide +kernel
theorem dX11_lineHere_135 : decode cX11_lineHere 135 = .ok (.iconst 0, 1) := by decide +kernel
theorem dX11_lineHere_136 : decode cX11_lineHere 136 = .ok (.goto 44, 3) := by decide +kernel
theorem dX11_lineHere_139 : decode cX11_lineHere 139 = .ok (.iload_n 1, 1) := by decide +kernel
theorem dX11_lineHere_140 : decode cX11_lineHere 140 = .ok (.iconst 3, 1) := by decide +kernel
theorem dX11_lineHere_141 : decode cX11_lineHere 141 = .ok (.if_icmp .ne 25, 3) := by decide +kernel
theorem dX11_lineHere_144 : decode cX11_lineHere 144 = .ok (.aload_n 0, 1) := by decide +kernel
theorem dX11_lineHere_145 : decode cX11_lineHere 145 = .ok (.getfield 23, 3) := by decide +kernel
theorem dX11_lineHere_148 : decode cX11_lineHere 148 = .ok (.aload_n 0, 1) := by decide +kernel
theorem dX11_lineHere_149 : decode cX11_lineHere 149 = .ok (.getfield 181, 3) := by decide +kernel
theorem dX11_lineHere_152 : decode cX11_lineHere 152 = .ok (.iaload, 1) := by decide +kernel
theorem dX11_lineHere_153 : decode cX11_lineHere 153 = .ok (.bipush 6, 2) := by decide +kernel
theorem dX11_lineHere_155 : decode cX11_lineHere 155 = .ok (.if_icmp .ge 7, 3) := by decide +kernel
theorem dX11_lineHere_158 : decode cX11_lineHere 158 = .ok (.iconst 1, 1) := by decide +kernel
theorem dX11_lineHere_159 : decode cX11_lineHere 159 = .ok (.goto 21, 3) := by decide +kernel
theorem dX11_lineHere_162 : decode cX11_lineHere 162 = .ok (.iconst 0, 1) := by decide +kernel
theorem dX11_lineHere_163 : decode cX11_lineHere 163 = .ok (.goto 17, 3) := by decide +kernel
theorem dX11_lineHere_166 : decode cX11_lineHere 166 = .ok (.aload_n 0, 1) := by decide +kernel
theorem dX11_lineHere_167 : decode cX11_lineHere 167 = .ok (.getfield 218, 3) := by decide +kernel
theorem dX11_lineHere_170 : decode cX11_lineHere 170 = .ok (.bipush 10, 2) := by decide +kernel
theorem dX11_lineHere_172 : decode cX11_lineHere 172 = .ok (.if_icmp .ge 7, 3) := by decide +kernel
theorem dX11_lineHere_175 : decode cX11_lineHere 175 = .ok (.iconst 1, 1) := by decide +kernel
theorem dX11_lineHere_176 : decode cX11_lineHere 176 = .ok (.goto 4, 3) := by decide +kernel
theorem dX11_lineHere_179 : decode cX11_lineHere 179 = .ok (.iconst 0, 1) := by decide +kernel
theorem dX11_lineHere_180 : decode cX11_lineHere 180 = .ok (.istore_n 2, 1) := by decide +kernel
theorem dX11_lineHere_181 : decode cX11_lineHere 181 = .ok (.aload_n 0, 1) := by decide +kernel
theorem dX11_lineHere_182 : decode cX11_lineHere 182 = .ok (.iload_n 2, 1) := by decide +kernel
theorem dX11_lineHere_183 : decode cX11_lineHere 183 = .ok (.iconst 5, 1) := by decide +kernel
theorem dX11_lineHere_184 : decode cX11_lineHere 184 = .ok (.invokevirtual 171, 3) := by decide +kernel
theorem dX11_lineHere_187 : decode cX11_lineHere 187 = .ok (.ifCond .ne 5, 3) := by decide +kernel
theorem dX11_lineHere_190 : decode cX11_lineHere 190 = .ok (.iconst 0, 1) := by decide +kernel
theorem dX11_lineHere_191 : decode cX11_lineHere 191 = .ok (.ireturn, 1) := by decide +kernel
theorem dX11_lineHere_192 : decode cX11_lineHere 192 = .ok (.aload_n 0, 1) := by decide +kernel
theorem dX11_lineHere_193 : decode cX11_lineHere 193 = .ok (.invokevirtual 178, 3) := by decide +kernel
theorem dX11_lineHere_196 : decode cX11_lineHere 196 = .ok (.iload_n 1, 1) := by decide +kernel
theorem dX11_lineHere_197 : decode cX11_lineHere 197 = .ok (.ifCond .ne 10, 3) := by decide +kernel
theorem dX11_lineHere_200 : decode cX11_lineHere 200 = .ok (.aload_n 0, 1) := by decide +kernel
theorem dX11_lineHere_201 : decode cX11_lineHere 201 = .ok (.invokevirtual 225, 3) := by decide +kernel
theorem dX11_lineHere_204 : decode cX11_lineHere 204 = .ok (.goto 43, 3) := by decide +kernel
theorem dX11_lineHere_207 : decode cX11_lineHere 207 = .ok (.iload_n 1, 1) := by decide +kernel
theorem dX11_lineHere_208 : decode cX11_lineHere 208 = .ok (.iconst 1, 1) := by decide +kernel
theorem dX11_lineHere_209 : decode cX11_lineHere 209 = .ok (.if_icmp .ne 10, 3) := by decide +kernel
theorem dX11_lineHere_212 : decode cX11_lineHere 212 = .ok (.aload_n 0, 1) := by decide +kernel
theorem dX11_lineHere_213 : decode cX11_lineHere 213 = .ok (.invokevirtual 228, 3) := by decide +kernel
theorem dX11_lineHere_216 : decode cX11_lineHere 216 = .ok (.goto 31, 3) := by decide +kernel
theorem dX11_lineHere_219 : decode cX11_lineHere 219 = .ok (.iload_n 1, 1) := by decide +kernel
theorem dX11_lineHere_220 : decode cX11_lineHere 220 = .ok (.iconst 2, 1) := by decide +kernel
theorem dX11_lineHere_221 : decode cX11_lineHere 221 = .ok (.if_icmp .ne 10, 3) := by decide +kernel
theorem dX11_lineHere_224 : decode cX11_lineHere 224 = .ok (.aload_n 0, 1) := by decide +kernel
theorem dX11_lineHere_225 : decode cX11_lineHere 225 = .ok (.invokevirtual 231, 3) := by decide +kernel
theorem dX11_lineHere_228 : decode cX11_lineHere 228 = .ok (.goto 19, 3) := by decide +kernel
theorem dX11_lineHere_231 : decode cX11_lineHere 231 = .ok (.iload_n 1, 1) := by decide +kernel
theorem dX11_lineHere_232 : decode cX11_lineHere 232 = .ok (.iconst 3, 1) := by decide +kernel
theorem dX11_lineHere_233 : decode cX11_lineHere 233 = .ok (.if_icmp .ne 10, 3) := by decide +kernel
theorem dX11_lineHere_236 : decode cX11_lineHere 236 = .ok (.aload_n 0, 1) := by decide +kernel
theorem dX11_lineHere_237 : decode cX11_lineHere 237 = .ok (.invokevirtual 234, 3) := by decide +kernel
theorem dX11_lineHere_240 : decode cX11_lineHere 240 = .ok (.goto 7, 3) := by decide +kernel
theorem dX11_lineHere_243 : decode cX11_lineHere 243 = .ok (.aload_n 0, 1) := by decide +kernel
theorem dX11_lineHere_244 : decode cX11_lineHere 244 = .ok (.invokevirtual 237, 3) := by decide +kernel
theorem dX11_lineHere_247 : decode cX11_lineHere 247 = .ok (.istore_n 3, 1) := by decide +kernel
theorem dX11_lineHere_248 : decode cX11_lineHere 248 = .ok (.iload_n 3, 1) := by decide +kernel
theorem dX11_lineHere_249 : decode cX11_lineHere 249 = .ok (.ifCond .eq 24, 3) := by decide +kernel
theorem dX11_lineHere_252 : decode cX11_lineHere 252 = .ok (.aload_n 0, 1) := by decide +kernel
theorem dX11_lineHere_253 : decode cX11_lineHere 253 = .ok (.aload_n 0, 1) := by decide +kernel
theorem dX11_lineHere_254 : decode cX11_lineHere 254 = .ok (.getfield 112, 3) := by decide +kernel
theorem dX11_lineHere_257 : decode cX11_lineHere 257 = .ok (.iconst 3, 1) := by decide +kernel
theorem dX11_lineHere_258 : decode cX11_lineHere 258 = .ok (.if_icmp .ne 7, 3) := by decide +kernel
theorem dX11_lineHere_261 : decode cX11_lineHere 261 = .ok (.iconst 1, 1) := by decide +kernel
theorem dX11_lineHere_262 : decode cX11_lineHere 262 = .ok (.goto 4, 3) := by decide +kernel
theorem dX11_lineHere_265 : decode cX11_lineHere 265 = .ok (.iconst 0, 1) := by decide +kernel
theorem dX11_lineHere_266 : decode cX11_lineHere 266 = .ok (.iconst 1, 1) := by decide +kernel
theorem dX11_lineHere_267 : decode cX11_lineHere 267 = .ok (.invokevirtual 171, 3) := by decide +kernel
theorem dX11_lineHere_270 : decode cX11_lineHere 270 = .ok (.ifCond .ne 5, 3) := by decide +kernel
theorem dX11_lineHere_273 : decode cX11_lineHere 273 = .ok (.iconst 0, 1) := by decide +kernel
theorem dX11_lineHere_274 : decode cX11_lineHere 274 = .ok (.ireturn, 1) := by decide +kernel
theorem dX11_lineHere_275 : decode cX11_lineHere 275 = .ok (.aload_n 0, 1) := by decide +kernel
theorem dX11_lineHere_276 : decode cX11_lineHere 276 = .ok (.invokevirtual 178, 3) := by decide +kernel
theorem dX11_lineHere_279 : decode cX11_lineHere 279 = .ok (.iconst 1, 1) := by decide +kernel
theorem dX11_lineHere_280 : decode cX11_lineHere 280 = .ok (.ireturn, 1) := by decide +kernel
theorem dX11_isPrime_0 : decode cX11_isPrime 0 = .ok (.iconst 2, 1) := by decide +kernel
theorem dX11_isPrime_1 : decode cX11_isPrime 1 = .ok (.istore_n 1, 1) := by decide +kernel
theorem dX11_isPrime_2 : decode cX11_isPrime 2 = .ok (.iload_n 1, 1) := by decide +kernel
theorem dX11_isPrime_3 : decode cX11_isPrime 3 = .ok (.iload_n 1, 1) := by decide +kernel
theorem dX11_isPrime_4 : decode cX11_isPrime 4 = .ok (.imul, 1) := by decide +kernel
theorem dX11_isPrime_5 : decode cX11_isPrime 5 = .ok (.iload_n 0, 1) := by decide +kernel
theorem dX11_isPrime_6 : decode cX11_isPrime 6 = .ok (.if_icmp .gt 17, 3) := by decide +kernel
theorem dX11_isPrime_9 : decode cX11_isPrime 9 = .ok (.iload_n 0, 1) := by decide +kernel
theorem dX11_isPrime_10 : decode cX11_isPrime 10 = .ok (.iload_n 1, 1) := by decide +kernel
theorem dX11_isPrime_11 : decode cX11_isPrime 11 = .ok (.irem, 1) := by decide +kernel
theorem dX11_isPrime_12 : decode cX11_isPrime 12 = .ok (.ifCond .ne 5, 3) := by decide +kernel
theorem dX11_isPrime_15 : decode cX11_isPrime 15 = .ok (.iconst 0, 1) := by decide +kernel
theorem dX11_isPrime_16 : decode cX11_isPrime 16 = .ok (.ireturn, 1) := by decide +kernel
theorem dX11_isPrime_17 : decode cX11_isPrime 17 = .ok (.iinc 1 1, 3) := by decide +kernel
theorem dX11_isPrime_20 : decode cX11_isPrime 20 = .ok (.goto (-18), 3) := by decide +kernel
theorem dX11_isPrime_23 : decode cX11_isPrime 23 = .ok (.iconst 1, 1) := by decide +kernel
theorem dX11_isPrime_24 : decode cX11_isPrime 24 = .ok (.ireturn, 1) := by decide +kernel
theorem dX11_fieldLine_0 : decode cX11_fieldLine 0 = .ok (.aload_n 0, 1) := by decide +kernel
theorem dX11_fieldLine_1 : decode cX11_fieldLine 1 = .ok (.invokevirtual 178, 3) := by decide +kernel
theorem dX11_fieldLine_4 : decode cX11_fieldLine 4 = .ok (.aload_n 0, 1) := by decide +kernel
theorem dX11_fieldLine_5 : decode cX11_fieldLine 5 = .ok (.aload_n 0, 1) := by decide +kernel
theorem dX11_fieldLine_6 : decode cX11_fieldLine 6 = .ok (.getfield 112, 3) := by decide +kernel
theorem dX11_fieldLine_9 : decode cX11_fieldLine 9 = .ok (.iconst 2, 1) := by decide +kernel
theorem dX11_fieldLine_10 : decode cX11_fieldLine 10 = .ok (.if_icmp .ne 7, 3) := by decide +kernel
theorem dX11_fieldLine_13 : decode cX11_fieldLine 13 = .ok (.iconst 1, 1) := by decide +kernel
theorem dX11_fieldLine_14 : decode cX11_fieldLine 14 = .ok (.goto 4, 3) := by decide +kernel
theorem dX11_fieldLine_17 : decode cX11_fieldLine 17 = .ok (.iconst 0, 1) := by decide +kernel
theorem dX11_fieldLine_18 : decode cX11_fieldLine 18 = .ok (.iconst 1, 1) := by decide +kernel
theorem dX11_fieldLine_19 : decode cX11_fieldLine 19 = .ok (.invokevirtual 171, 3) := by decide +kernel
theorem dX11_fieldLine_22 : decode cX11_fieldLine 22 = .ok (.ifCond .eq 43, 3) := by decide +kernel
theorem dX11_fieldLine_25 : decode cX11_fieldLine 25 = .ok (.aload_n 0, 1) := by decide +kernel
theorem dX11_fieldLine_26 : decode cX11_fieldLine 26 = .ok (.aload_n 0, 1) := by decide +kernel
theorem dX11_fieldLine_27 : decode cX11_fieldLine 27 = .ok (.getfield 115, 3) := by decide +kernel
theorem dX11_fieldLine_30 : decode cX11_fieldLine 30 = .ok (.i2l, 1) := by decide +kernel
theorem dX11_fieldLine_31 : decode cX11_fieldLine 31 = .ok (.ldc2_w 240, 3) := by decide +kernel
theorem dX11_fieldLine_34 : decode cX11_fieldLine 34 = .ok (.ldc2_w 122, 3) := by decide +kernel
theorem dX11_fieldLine_37 : decode cX11_fieldLine 37 = .ok (.invokestatic 126, 3) := by decide +kernel
theorem dX11_fieldLine_40 : decode cX11_fieldLine 40 = .ok (.ifCond .eq 17, 3) := by decide +kernel
theorem dX11_fieldLine_43 : decode cX11_fieldLine 43 = .ok (.aload_n 0, 1) := by decide +kernel
theorem dX11_fieldLine_44 : decode cX11_fieldLine 44 = .ok (.getfield 115, 3) := by decide +kernel
theorem dX11_fieldLine_47 : decode cX11_fieldLine 47 = .ok (.invokestatic 242, 3) := by decide +kernel
theorem dX11_fieldLine_50 : decode cX11_fieldLine 50 = .ok (.ifCond .eq 7, 3) := by decide +kernel
theorem dX11_fieldLine_53 : decode cX11_fieldLine 53 = .ok (.iconst 1, 1) := by decide +kernel
theorem dX11_fieldLine_54 : decode cX11_fieldLine 54 = .ok (.goto 4, 3) := by decide +kernel
theorem dX11_fieldLine_57 : decode cX11_fieldLine 57 = .ok (.iconst 0, 1) := by decide +kernel
theorem dX11_fieldLine_58 : decode cX11_fieldLine 58 = .ok (.iconst 4, 1) := by decide +kernel
theorem dX11_fieldLine_59 : decode cX11_fieldLine 59 = .ok (.invokevirtual 171, 3) := by decide +kernel
theorem dX11_fieldLine_62 : decode cX11_fieldLine 62 = .ok (.ifCond .ne 5, 3) := by decide +kernel
theorem dX11_fieldLine_65 : decode cX11_fieldLine 65 = .ok (.iconst 0, 1) := by decide +kernel
theorem dX11_fieldLine_66 : decode cX11_fieldLine 66 = .ok (.ireturn, 1) := by decide +kernel
theorem dX11_fieldLine_67 : decode cX11_fieldLine 67 = .ok (.aload_n 0, 1) := by decide +kernel
theorem dX11_fieldLine_68 : decode cX11_fieldLine 68 = .ok (.getfield 13, 3) := by decide +kernel
theorem dX11_fieldLine_71 : decode cX11_fieldLine 71 = .ok (.iconst 1, 1) := by decide +kernel
theorem dX11_fieldLine_72 : decode cX11_fieldLine 72 = .ok (.aload_n 0, 1) := by decide +kernel
theorem dX11_fieldLine_73 : decode cX11_fieldLine 73 = .ok (.getfield 115, 3) := by decide +kernel
theorem dX11_fieldLine_76 : decode cX11_fieldLine 76 = .ok (.iastore, 1) := by decide +kernel
theorem dX11_fieldLine_77 : decode cX11_fieldLine 77 = .ok (.aload_n 0, 1) := by decide +kernel
theorem dX11_fieldLine_78 : decode cX11_fieldLine 78 = .ok (.invokevirtual 178, 3) := by decide +kernel
theorem dX11_fieldLine_81 : decode cX11_fieldLine 81 = .ok (.aload_n 0, 1) := by decide +kernel
theorem dX11_fieldLine_82 : decode cX11_fieldLine 82 = .ok (.aload_n 0, 1) := by decide +kernel
theorem dX11_fieldLine_83 : decode cX11_fieldLine 83 = .ok (.getfield 112, 3) := by decide +kernel
theorem dX11_fieldLine_86 : decode cX11_fieldLine 86 = .ok (.iconst 3, 1) := by decide +kernel
theorem dX11_fieldLine_87 : decode cX11_fieldLine 87 = .ok (.if_icmp .ne 7, 3) := by decide +kernel
theorem dX11_fieldLine_90 : decode cX11_fieldLine 90 = .ok (.iconst 1, 1) := by decide +kernel
theorem dX11_fieldLine_91 : decode cX11_fieldLine 91 = .ok (.goto 4, 3) := by decide +kernel
theorem dX11_fieldLine_94 : decode cX11_fieldLine 94 = .ok (.iconst 0, 1) := by decide +kernel
theorem dX11_fieldLine_95 : decode cX11_fieldLine 95 = .ok (.iconst 1, 1) := by decide +kernel
theorem dX11_fieldLine_96 : decode cX11_fieldLine 96 = .ok (.invokevirtual 171, 3) := by decide +kernel
theorem dX11_fieldLine_99 : decode cX11_fieldLine 99 = .ok (.ifCond .ne 5, 3) := by decide +kernel
theorem dX11_fieldLine_102 : decode cX11_fieldLine 102 = .ok (.iconst 0, 1) := by decide +kernel
theorem dX11_fieldLine_103 : decode cX11_fieldLine 103 = .ok (.ireturn, 1) := by decide +kernel
theorem dX11_fieldLine_104 : decode cX11_fieldLine 104 = .ok (.aload_n 0, 1) := by decide +kernel
theorem dX11_fieldLine_105 : decode cX11_fieldLine 105 = .ok (.invokevirtual 178, 3) := by decide +kernel
theorem dX11_fieldLine_108 : decode cX11_fieldLine 108 = .ok (.iconst 1, 1) := by decide +kernel
theorem dX11_fieldLine_109 : decode cX11_fieldLine 109 = .ok (.ireturn, 1) := by decide +kernel
theorem dX11_copies_0 : decode cX11_copies 0 = .ok (.aload_n 0, 1) := by decide +kernel
theorem dX11_copies_1 : decode cX11_copies 1 = .ok (.getfield 13, 3) := by decide +kernel
theorem dX11_copies_4 : decode cX11_copies 4 = .ok (.iconst 0, 1) := by decide +kernel
theorem dX11_copies_5 : decode cX11_copies 5 = .ok (.aload_n 0, 1) := by decide +kernel
theorem dX11_copies_6 : decode cX11_copies 6 = .ok (.getfield 13, 3) := by decide +kernel
theorem dX11_copies_9 : decode cX11_copies 9 = .ok (.iconst 1, 1) := by decide +kernel
theorem dX11_copies_10 : decode cX11_copies 10 = .ok (.iaload, 1) := by decide +kernel
theorem dX11_copies_11 : decode cX11_copies 11 = .ok (.iastore, 1) := by decide +kernel
theorem dX11_copies_12 : decode cX11_copies 12 = .ok (.aload_n 0, 1) := by decide +kernel
theorem dX11_copies_13 : decode cX11_copies 13 = .ok (.getfield 17, 3) := by decide +kernel
theorem dX11_copies_16 : decode cX11_copies 16 = .ok (.iconst 0, 1) := by decide +kernel
theorem dX11_copies_17 : decode cX11_copies 17 = .ok (.aload_n 0, 1) := by decide +kernel
theorem dX11_copies_18 : decode cX11_copies 18 = .ok (.getfield 17, 3) := by decide +kernel
theorem dX11_copies_21 : decode cX11_copies 21 = .ok (.iconst 1, 1) := by decide +kernel
theorem dX11_copies_22 : decode cX11_copies 22 = .ok (.iaload, 1) := by decide +kernel
theorem dX11_copies_23 : decode cX11_copies 23 = .ok (.iastore, 1) := by decide +kernel
theorem dX11_copies_24 : decode cX11_copies 24 = .ok (.aload_n 0, 1) := by decide +kernel
theorem dX11_copies_25 : decode cX11_copies 25 = .ok (.getfield 20, 3) := by decide +kernel
theorem dX11_copies_28 : decode cX11_copies 28 = .ok (.iconst 0, 1) := by decide +kernel
theorem dX11_copies_29 : decode cX11_copies 29 = .ok (.aload_n 0, 1) := by decide +kernel
theorem dX11_copies_30 : decode cX11_copies 30 = .ok (.getfield 20, 3) := by decide +kernel
theorem dX11_copies_33 : decode cX11_copies 33 = .ok (.iconst 1, 1) := by decide +kernel
theorem dX11_copies_34 : decode cX11_copies 34 = .ok (.iaload, 1) := by decide +kernel
theorem dX11_copies_35 : decode cX11_copies 35 = .ok (.iastore, 1) := by decide +kernel
theorem dX11_copies_36 : decode cX11_copies 36 = .ok (.aload_n 0, 1) := by decide +kernel
theorem dX11_copies_37 : decode cX11_copies 37 = .ok (.getfield 23, 3) := by decide +kernel
theorem dX11_copies_40 : decode cX11_copies 40 = .ok (.iconst 0, 1) := by decide +kernel
theorem dX11_copies_41 : decode cX11_copies 41 = .ok (.aload_n 0, 1) := by decide +kernel
theorem dX11_copies_42 : decode cX11_copies 42 = .ok (.getfield 23, 3) := by decide +kernel
theorem dX11_copies_45 : decode cX11_copies 45 = .ok (.iconst 1, 1) := by decide +kernel
theorem dX11_copies_46 : decode cX11_copies 46 = .ok (.iaload, 1) := by decide +kernel
theorem dX11_copies_47 : decode cX11_copies 47 = .ok (.iastore, 1) := by decide +kernel
theorem dX11_copies_48 : decode cX11_copies 48 = .ok (.iconst 0, 1) := by decide +kernel
theorem dX11_copies_49 : decode cX11_copies 49 = .ok (.istore_n 1, 1) := by decide +kernel
theorem dX11_copies_50 : decode cX11_copies 50 = .ok (.iload_n 1, 1) := by decide +kernel
theorem dX11_copies_51 : decode cX11_copies 51 = .ok (.bipush 8, 2) := by decide +kernel
theorem dX11_copies_53 : decode cX11_copies 53 = .ok (.if_icmp .ge 39, 3) := by decide +kernel
theorem dX11_copies_56 : decode cX11_copies 56 = .ok (.aload_n 0, 1) := by decide +kernel
theorem dX11_copies_57 : decode cX11_copies 57 = .ok (.getfield 26, 3) := by decide +kernel
theorem dX11_copies_60 : decode cX11_copies 60 = .ok (.iload_n 1, 1) := by decide +kernel
theorem dX11_copies_61 : decode cX11_copies 61 = .ok (.aload_n 0, 1) := by decide +kernel
theorem dX11_copies_62 : decode cX11_copies 62 = .ok (.getfield 26, 3) := by decide +kernel
theorem dX11_copies_65 : decode cX11_copies 65 = .ok (.bipush 8, 2) := by decide +kernel
theorem dX11_copies_67 : decode cX11_copies 67 = .ok (.iload_n 1, 1) := by decide +kernel
theorem dX11_copies_68 : decode cX11_copies 68 = .ok (.iadd, 1) := by decide +kernel
theorem dX11_copies_69 : decode cX11_copies 69 = .ok (.laload, 1) := by decide +kernel
theorem dX11_copies_70 : decode cX11_copies 70 = .ok (.lastore, 1) := by decide +kernel
theorem dX11_copies_71 : decode cX11_copies 71 = .ok (.aload_n 0, 1) := by decide +kernel
theorem dX11_copies_72 : decode cX11_copies 72 = .ok (.getfield 36, 3) := by decide +kernel
theorem dX11_copies_75 : decode cX11_copies 75 = .ok (.iload_n 1, 1) := by decide +kernel
theorem dX11_copies_76 : decode cX11_copies 76 = .ok (.aload_n 0, 1) := by decide +kernel
theorem dX11_copies_77 : decode cX11_copies 77 = .ok (.getfield 36, 3) := by decide +kernel
theorem dX11_copies_80 : decode cX11_copies 80 = .ok (.bipush 8, 2) := by decide +kernel
theorem dX11_copies_82 : decode cX11_copies 82 = .ok (.iload_n 1, 1) := by decide +kernel
theorem dX11_copies_83 : decode cX11_copies 83 = .ok (.iadd, 1) := by decide +kernel
theorem dX11_copies_84 : decode cX11_copies 84 = .ok (.iaload, 1) := by decide +kernel
theorem dX11_copies_85 : decode cX11_copies 85 = .ok (.iastore, 1) := by decide +kernel
theorem dX11_copies_86 : decode cX11_copies 86 = .ok (.iinc 1 1, 3) := by decide +kernel
theorem dX11_copies_89 : decode cX11_copies 89 = .ok (.goto (-39), 3) := by decide +kernel
theorem dX11_copies_92 : decode cX11_copies 92 = .ok (.iconst 0, 1) := by decide +kernel
theorem dX11_copies_93 : decode cX11_copies 93 = .ok (.istore_n 1, 1) := by decide +kernel
theorem dX11_copies_94 : decode cX11_copies 94 = .ok (.iload_n 1, 1) := by decide +kernel
theorem dX11_copies_95 : decode cX11_copies 95 = .ok (.sipush 128, 3) := by decide +kernel
theorem dX11_copies_98 : decode cX11_copies 98 = .ok (.if_icmp .ge 25, 3) := by decide +kernel
theorem dX11_copies_101 : decode cX11_copies 101 = .ok (.aload_n 0, 1) := by decide +kernel
theorem dX11_copies_102 : decode cX11_copies 102 = .ok (.getfield 39, 3) := by decide +kernel
theorem dX11_copies_105 : decode cX11_copies 105 = .ok (.iload_n 1, 1) := by decide +kernel
theorem dX11_copies_106 : decode cX11_copies 106 = .ok (.aload_n 0, 1) := by decide +kernel
theorem dX11_copies_107 : decode cX11_copies 107 = .ok (.getfield 39, 3) := by decide +kernel
theorem dX11_copies_110 : decode cX11_copies 110 = .ok (.sipush 128, 3) := by decide +kernel
theorem dX11_copies_113 : decode cX11_copies 113 = .ok (.iload_n 1, 1) := by decide +kernel
theorem dX11_copies_114 : decode cX11_copies 114 = .ok (.iadd, 1) := by decide +kernel
theorem dX11_copies_115 : decode cX11_copies 115 = .ok (.iaload, 1) := by decide +kernel
theorem dX11_copies_116 : decode cX11_copies 116 = .ok (.iastore, 1) := by decide +kernel
theorem dX11_copies_117 : decode cX11_copies 117 = .ok (.iinc 1 1, 3) := by decide +kernel
theorem dX11_copies_120 : decode cX11_copies 120 = .ok (.goto (-26), 3) := by decide +kernel
theorem dX11_copies_123 : decode cX11_copies 123 = .ok (.iconst 0, 1) := by decide +kernel
theorem dX11_copies_124 : decode cX11_copies 124 = .ok (.istore_n 1, 1) := by decide +kernel
theorem dX11_copies_125 : decode cX11_copies 125 = .ok (.iload_n 1, 1) := by decide +kernel
theorem dX11_copies_126 : decode cX11_copies 126 = .ok (.iconst 5, 1) := by decide +kernel
theorem dX11_copies_127 : decode cX11_copies 127 = .ok (.if_icmp .ge 23, 3) := by decide +kernel
theorem dX11_copies_130 : decode cX11_copies 130 = .ok (.aload_n 0, 1) := by decide +kernel
theorem dX11_copies_131 : decode cX11_copies 131 = .ok (.getfield 30, 3) := by decide +kernel
theorem dX11_copies_134 : decode cX11_copies 134 = .ok (.iload_n 1, 1) := by decide +kernel
theorem dX11_copies_135 : decode cX11_copies 135 = .ok (.aload_n 0, 1) := by decide +kernel
theorem dX11_copies_136 : decode cX11_copies 136 = .ok (.getfield 30, 3) := by decide +kernel
theorem dX11_copies_139 : decode cX11_copies 139 = .ok (.iconst 5, 1) := by decide +kernel
theorem dX11_copies_140 : decode cX11_copies 140 = .ok (.iload_n 1, 1) := by decide +kernel
theorem dX11_copies_141 : decode cX11_copies 141 = .ok (.iadd, 1) := by decide +kernel
theorem dX11_copies_142 : decode cX11_copies 142 = .ok (.laload, 1) := by decide +kernel
theorem dX11_copies_143 : decode cX11_copies 143 = .ok (.lastore, 1) := by decide +kernel
theorem dX11_copies_144 : decode cX11_copies 144 = .ok (.iinc 1 1, 3) := by decide +kernel
theorem dX11_copies_147 : decode cX11_copies 147 = .ok (.goto (-22), 3) := by decide +kernel
theorem dX11_copies_150 : decode cX11_copies 150 = .ok (.iconst 0, 1) := by decide +kernel
theorem dX11_copies_151 : decode cX11_copies 151 = .ok (.istore_n 1, 1) := by decide +kernel
theorem dX11_copies_152 : decode cX11_copies 152 = .ok (.iload_n 1, 1) := by decide +kernel
theorem dX11_copies_153 : decode cX11_copies 153 = .ok (.bipush 20, 2) := by decide +kernel
theorem dX11_copies_155 : decode cX11_copies 155 = .ok (.if_icmp .ge 24, 3) := by decide +kernel
theorem dX11_copies_158 : decode cX11_copies 158 = .ok (.aload_n 0, 1) := by decide +kernel
theorem dX11_copies_159 : decode cX11_copies 159 = .ok (.getfield 42, 3) := by decide +kernel
theorem dX11_copies_162 : decode cX11_copies 162 = .ok (.iload_n 1, 1) := by decide +kernel
theorem dX11_copies_163 : decode cX11_copies 163 = .ok (.aload_n 0, 1) := by decide +kernel
theorem dX11_copies_164 : decode cX11_copies 164 = .ok (.getfield 42, 3) := by decide +kernel
theorem dX11_copies_167 : decode cX11_copies 167 = .ok (.bipush 20, 2) := by decide +kernel
theorem dX11_copies_169 : decode cX11_copies 169 = .ok (.iload_n 1, 1) := by decide +kernel
theorem dX11_copies_170 : decode cX11_copies 170 = .ok (.iadd, 1) := by decide +kernel
theorem dX11_copies_171 : decode cX11_copies 171 = .ok (.iaload, 1) := by decide +kernel
theorem dX11_copies_172 : decode cX11_copies 172 = .ok (.iastore, 1) := by decide +kernel
theorem dX11_copies_173 : decode cX11_copies 173 = .ok (.iinc 1 1, 3) := by decide +kernel
theorem dX11_copies_176 : decode cX11_copies 176 = .ok (.goto (-24), 3) := by decide +kernel
theorem dX11_copies_179 : decode cX11_copies 179 = .ok (.iconst 0, 1) := by decide +kernel
theorem dX11_copies_180 : decode cX11_copies 180 = .ok (.istore_n 1, 1) := by decide +kernel
theorem dX11_copies_181 : decode cX11_copies 181 = .ok (.iload_n 1, 1) := by decide +kernel
theorem dX11_copies_182 : decode cX11_copies 182 = .ok (.bipush 117, 2) := by decide +kernel
theorem dX11_copies_184 : decode cX11_copies 184 = .ok (.if_icmp .ge 16, 3) := by decide +kernel
theorem dX11_copies_187 : decode cX11_copies 187 = .ok (.aload_n 0, 1) := by decide +kernel
theorem dX11_copies_188 : decode cX11_copies 188 = .ok (.getfield 57, 3) := by decide +kernel
theorem dX11_copies_191 : decode cX11_copies 191 = .ok (.iload_n 1, 1) := by decide +kernel
theorem dX11_copies_192 : decode cX11_copies 192 = .ok (.iconst 0, 1) := by decide +kernel
theorem dX11_copies_193 : decode cX11_copies 193 = .ok (.iastore, 1) := by decide +kernel
theorem dX11_copies_194 : decode cX11_copies 194 = .ok (.iinc 1 1, 3) := by decide +kernel
theorem dX11_copies_197 : decode cX11_copies 197 = .ok (.goto (-16), 3) := by decide +kernel
theorem dX11_copies_200 : decode cX11_copies 200 = .ok (.iconst 0, 1) := by decide +kernel
theorem dX11_copies_201 : decode cX11_copies 201 = .ok (.istore_n 1, 1) := by decide +kernel
theorem dX11_copies_202 : decode cX11_copies 202 = .ok (.iload_n 1, 1) := by decide +kernel
theorem dX11_copies_203 : decode cX11_copies 203 = .ok (.aload_n 0, 1) := by decide +kernel
theorem dX11_copies_204 : decode cX11_copies 204 = .ok (.getfield 23, 3) := by decide +kernel
theorem dX11_copies_207 : decode cX11_copies 207 = .ok (.iconst 0, 1) := by decide +kernel
theorem dX11_copies_208 : decode cX11_copies 208 = .ok (.iaload, 1) := by decide +kernel
theorem dX11_copies_209 : decode cX11_copies 209 = .ok (.if_icmp .ge 80, 3) := by decide +kernel
theorem dX11_copies_212 : decode cX11_copies 212 = .ok (.aload_n 0, 1) := by decide +kernel
theorem dX11_copies_213 : decode cX11_copies 213 = .ok (.getfield 33, 3) := by decide +kernel
theorem dX11_copies_216 : decode cX11_copies 216 = .ok (.iload_n 1, 1) := by decide +kernel
theorem dX11_copies_217 : decode cX11_copies 217 = .ok (.aload_n 0, 1) := by decide +kernel
theorem dX11_copies_218 : decode cX11_copies 218 = .ok (.getfield 33, 3) := by decide +kernel
theorem dX11_copies_221 : decode cX11_copies 221 = .ok (.bipush 6, 2) := by decide +kernel
theorem dX11_copies_223 : decode cX11_copies 223 = .ok (.iload_n 1, 1) := by decide +kernel
theorem dX11_copies_224 : decode cX11_copies 224 = .ok (.iadd, 1) := by decide +kernel
theorem dX11_copies_225 : decode cX11_copies 225 = .ok (.laload, 1) := by decide +kernel
theorem dX11_copies_226 : decode cX11_copies 226 = .ok (.lastore, 1) := by decide +kernel
theorem dX11_copies_227 : decode cX11_copies 227 = .ok (.aload_n 0, 1) := by decide +kernel
theorem dX11_copies_228 : decode cX11_copies 228 = .ok (.getfield 45, 3) := by decide +kernel
theorem dX11_copies_231 : decode cX11_copies 231 = .ok (.iload_n 1, 1) := by decide +kernel
theorem dX11_copies_232 : decode cX11_copies 232 = .ok (.aload_n 0, 1) := by decide +kernel
theorem dX11_copies_233 : decode cX11_copies 233 = .ok (.getfield 45, 3) := by decide +kernel
theorem dX11_copies_236 : decode cX11_copies 236 = .ok (.bipush 6, 2) := by decide +kernel
theorem dX11_copies_238 : decode cX11_copies 238 = .ok (.iload_n 1, 1) := by decide +kernel
theorem dX11_copies_239 : decode cX11_copies 239 = .ok (.iadd, 1) := by decide +kernel
theorem dX11_copies_240 : decode cX11_copies 240 = .ok (.iaload, 1) := by decide +kernel
theorem dX11_copies_241 : decode cX11_copies 241 = .ok (.iastore, 1) := by decide +kernel
theorem dX11_copies_242 : decode cX11_copies 242 = .ok (.iconst 0, 1) := by decide +kernel
theorem dX11_copies_243 : decode cX11_copies 243 = .ok (.istore_n 2, 1) := by decide +kernel
theorem dX11_copies_244 : decode cX11_copies 244 = .ok (.iload_n 2, 1) := by decide +kernel
theorem dX11_copies_245 : decode cX11_copies 245 = .ok (.bipush 16, 2) := by decide +kernel
theorem dX11_copies_247 : decode cX11_copies 247 = .ok (.if_icmp .ge 36, 3) := by decide +kernel
theorem dX11_copies_250 : decode cX11_copies 250 = .ok (.aload_n 0, 1) := by decide +kernel
theorem dX11_copies_251 : decode cX11_copies 251 = .ok (.getfield 57, 3) := by decide +kernel
theorem dX11_copies_254 : decode cX11_copies 254 = .ok (.bipush 16, 2) := by decide +kernel
theorem dX11_copies_256 : decode cX11_copies 256 = .ok (.iload_n 1, 1) := by decide +kernel
theorem dX11_copies_257 : decode cX11_copies 257 = .ok (.imul, 1) := by decide +kernel
theorem dX11_copies_258 : decode cX11_copies 258 = .ok (.iload_n 2, 1) := by decide +kernel
theorem dX11_copies_259 : decode cX11_copies 259 = .ok (.iadd, 1) := by decide +kernel
theorem dX11_copies_260 : decode cX11_copies 260 = .ok (.aload_n 0, 1) := by decide +kernel
theorem dX11_copies_261 : decode cX11_copies 261 = .ok (.getfield 39, 3) := by decide +kernel
theorem dX11_copies_264 : decode cX11_copies 264 = .ok (.bipush 16, 2) := by decide +kernel
theorem dX11_copies_266 : decode cX11_copies 266 = .ok (.aload_n 0, 1) := by decide +kernel
theorem dX11_copies_267 : decode cX11_copies 267 = .ok (.getfield 45, 3) := by decide +kernel
theorem dX11_copies_270 : decode cX11_copies 270 = .ok (.iload_n 1, 1) := by decide +kernel
theorem dX11_copies_271 : decode cX11_copies 271 = .ok (.iaload, 1) := by decide +kernel
theorem dX11_copies_272 : decode cX11_copies 272 = .ok (.imul, 1) := by decide +kernel
theorem dX11_copies_273 : decode cX11_copies 273 = .ok (.iload_n 2, 1) := by decide +kernel
theorem dX11_copies_274 : decode cX11_copies 274 = .ok (.iadd, 1) := by decide +kernel
theorem dX11_copies_275 : decode cX11_copies 275 = .ok (.iaload, 1) := by decide +kernel
theorem dX11_copies_276 : decode cX11_copies 276 = .ok (.iastore, 1) := by decide +kernel
theorem dX11_copies_277 : decode cX11_copies 277 = .ok (.iinc 2 1, 3) := by decide +kernel
theorem dX11_copies_280 : decode cX11_copies 280 = .ok (.goto (-36), 3) := by decide +kernel
theorem dX11_copies_283 : decode cX11_copies 283 = .ok (.iinc 1 1, 3) := by decide +kernel
theorem dX11_copies_286 : decode cX11_copies 286 = .ok (.goto (-84), 3) := by decide +kernel
theorem dX11_copies_289 : decode cX11_copies 289 = .ok (.iconst 0, 1) := by decide +kernel
theorem dX11_copies_290 : decode cX11_copies 290 = .ok (.istore_n 1, 1) := by decide +kernel
theorem dX11_copies_291 : decode cX11_copies 291 = .ok (.iload_n 1, 1) := by decide +kernel
theorem dX11_copies_292 : decode cX11_copies 292 = .ok (.iconst 2, 1) := by decide +kernel
theorem dX11_copies_293 : decode cX11_copies 293 = .ok (.aload_n 0, 1) := by decide +kernel
theorem dX11_copies_294 : decode cX11_copies 294 = .ok (.getfield 218, 3) := by decide +kernel
theorem dX11_copies_297 : decode cX11_copies 297 = .ok (.imul, 1) := by decide +kernel
theorem dX11_copies_298 : decode cX11_copies 298 = .ok (.if_icmp .ge 24, 3) := by decide +kernel
theorem dX11_copies_301 : decode cX11_copies 301 = .ok (.aload_n 0, 1) := by decide +kernel
theorem dX11_copies_302 : decode cX11_copies 302 = .ok (.getfield 57, 3) := by decide +kernel
theorem dX11_copies_305 : decode cX11_copies 305 = .ok (.bipush 96, 2) := by decide +kernel
theorem dX11_copies_307 : decode cX11_copies 307 = .ok (.iload_n 1, 1) := by decide +kernel
theorem dX11_copies_308 : decode cX11_copies 308 = .ok (.iadd, 1) := by decide +kernel
theorem dX11_copies_309 : decode cX11_copies 309 = .ok (.aload_n 0, 1) := by decide +kernel
theorem dX11_copies_310 : decode cX11_copies 310 = .ok (.getfield 48, 3) := by decide +kernel
theorem dX11_copies_313 : decode cX11_copies 313 = .ok (.iload_n 1, 1) := by decide +kernel
theorem dX11_copies_314 : decode cX11_copies 314 = .ok (.iaload, 1) := by decide +kernel
theorem dX11_copies_315 : decode cX11_copies 315 = .ok (.iastore, 1) := by decide +kernel
theorem dX11_copies_316 : decode cX11_copies 316 = .ok (.iinc 1 1, 3) := by decide +kernel
theorem dX11_copies_319 : decode cX11_copies 319 = .ok (.goto (-28), 3) := by decide +kernel
theorem dX11_copies_322 : decode cX11_copies 322 = .ok (.aload_n 0, 1) := by decide +kernel
theorem dX11_copies_323 : decode cX11_copies 323 = .ok (.getfield 57, 3) := by decide +kernel
theorem dX11_copies_326 : decode cX11_copies 326 = .ok (.bipush 116, 2) := by decide +kernel
theorem dX11_copies_328 : decode cX11_copies 328 = .ok (.aload_n 0, 1) := by decide +kernel
theorem dX11_copies_329 : decode cX11_copies 329 = .ok (.getfield 218, 3) := by decide +kernel
theorem dX11_copies_332 : decode cX11_copies 332 = .ok (.iastore, 1) := by decide +kernel
theorem dX11_copies_333 : decode cX11_copies 333 = .ok (.return_, 1) := by decide +kernel
theorem dX11_net_0 : decode cX11_net 0 = .ok (.aload_n 0, 1) := by decide +kernel
theorem dX11_net_1 : decode cX11_net 1 = .ok (.iconst 0, 1) := by decide +kernel
theorem dX11_net_2 : decode cX11_net 2 = .ok (.putfield 88, 3) := by decide +kernel
theorem dX11_net_5 : decode cX11_net 5 = .ok (.iload_n 1, 1) := by decide +kernel
theorem dX11_net_6 : decode cX11_net 6 = .ok (.i2l, 1) := by decide +kernel
theorem dX11_net_7 : decode cX11_net 7 = .ok (.lconst 0, 1) := by decide +kernel
theorem dX11_net_8 : decode cX11_net 8 = .ok (.aload_n 0, 1) := by decide +kernel
theorem dX11_net_9 : decode cX11_net 9 = .ok (.getfield 92, 3) := by decide +kernel
theorem dX11_net_12 : decode cX11_net 12 = .ok (.i2l, 1) := by decide +kernel
theorem dX11_net_13 : decode cX11_net 13 = .ok (.invokestatic 126, 3) := by decide +kernel
theorem dX11_net_16 : decode cX11_net 16 = .ok (.ifCond .ne 5, 3) := by decide +kernel
theorem dX11_net_19 : decode cX11_net 19 = .ok (.iconst (-1), 1) := by decide +kernel
theorem dX11_net_20 : decode cX11_net 20 = .ok (.ireturn, 1) := by decide +kernel
theorem dX11_net_21 : decode cX11_net 21 = .ok (.aload_n 0, 1) := by decide +kernel
theorem dX11_net_22 : decode cX11_net 22 = .ok (.iconst 0, 1) := by decide +kernel
theorem dX11_net_23 : decode cX11_net 23 = .ok (.putfield 92, 3) := by decide +kernel
theorem dX11_net_26 : decode cX11_net 26 = .ok (.aload_n 0, 1) := by decide +kernel
theorem dX11_net_27 : decode cX11_net 27 = .ok (.iload_n 1, 1) := by decide +kernel
theorem dX11_net_28 : decode cX11_net 28 = .ok (.putfield 99, 3) := by decide +kernel
theorem dX11_net_31 : decode cX11_net 31 = .ok (.aload_n 0, 1) := by decide +kernel
theorem dX11_net_32 : decode cX11_net 32 = .ok (.iconst 0, 1) := by decide +kernel
theorem dX11_net_33 : decode cX11_net 33 = .ok (.putfield 102, 3) := by decide +kernel
theorem dX11_net_36 : decode cX11_net 36 = .ok (.aload_n 0, 1) := by decide +kernel
theorem dX11_net_37 : decode cX11_net 37 = .ok (.iconst 0, 1) := by decide +kernel
theorem dX11_net_38 : decode cX11_net 38 = .ok (.putfield 136, 3) := by decide +kernel
theorem dX11_net_41 : decode cX11_net 41 = .ok (.aload_n 0, 1) := by decide +kernel
theorem dX11_net_42 : decode cX11_net 42 = .ok (.iconst 1, 1) := by decide +kernel
theorem dX11_net_43 : decode cX11_net 43 = .ok (.putfield 181, 3) := by decide +kernel
theorem dX11_net_46 : decode cX11_net 46 = .ok (.aload_n 0, 1) := by decide +kernel
theorem dX11_net_47 : decode cX11_net 47 = .ok (.getfield 13, 3) := by decide +kernel
theorem dX11_net_50 : decode cX11_net 50 = .ok (.iconst 1, 1) := by decide +kernel
theorem dX11_net_51 : decode cX11_net 51 = .ok (.bipush 7, 2) := by decide +kernel
theorem dX11_net_53 : decode cX11_net 53 = .ok (.iastore, 1) := by decide +kernel
theorem dX11_net_54 : decode cX11_net 54 = .ok (.aload_n 0, 1) := by decide +kernel
theorem dX11_net_55 : decode cX11_net 55 = .ok (.getfield 17, 3) := by decide +kernel
theorem dX11_net_58 : decode cX11_net 58 = .ok (.iconst 1, 1) := by decide +kernel
theorem dX11_net_59 : decode cX11_net 59 = .ok (.iconst 0, 1) := by decide +kernel
theorem dX11_net_60 : decode cX11_net 60 = .ok (.iastore, 1) := by decide +kernel
theorem dX11_net_61 : decode cX11_net 61 = .ok (.aload_n 0, 1) := by decide +kernel
theorem dX11_net_62 : decode cX11_net 62 = .ok (.getfield 20, 3) := by decide +kernel
theorem dX11_net_65 : decode cX11_net 65 = .ok (.iconst 1, 1) := by decide +kernel
theorem dX11_net_66 : decode cX11_net 66 = .ok (.iconst 0, 1) := by decide +kernel
theorem dX11_net_67 : decode cX11_net 67 = .ok (.iastore, 1) := by decide +kernel
theorem dX11_net_68 : decode cX11_net 68 = .ok (.aload_n 0, 1) := by decide +kernel
theorem dX11_net_69 : decode cX11_net 69 = .ok (.getfield 23, 3) := by decide +kernel
theorem dX11_net_72 : decode cX11_net 72 = .ok (.iconst 1, 1) := by decide +kernel
theorem dX11_net_73 : decode cX11_net 73 = .ok (.iconst 0, 1) := by decide +kernel
theorem dX11_net_74 : decode cX11_net 74 = .ok (.iastore, 1) := by decide +kernel
theorem dX11_net_75 : decode cX11_net 75 = .ok (.aload_n 0, 1) := by decide +kernel
theorem dX11_net_76 : decode cX11_net 76 = .ok (.iconst 0, 1) := by decide +kernel
theorem dX11_net_77 : decode cX11_net 77 = .ok (.putfield 218, 3) := by decide +kernel
theorem dX11_net_80 : decode cX11_net 80 = .ok (.sipush 128, 3) := by decide +kernel
theorem dX11_net_83 : decode cX11_net 83 = .ok (.istore_n 2, 1) := by decide +kernel
theorem dX11_net_84 : decode cX11_net 84 = .ok (.iload_n 2, 1) := by decide +kernel
theorem dX11_net_85 : decode cX11_net 85 = .ok (.sipush 256, 3) := by decide +kernel
theorem dX11_net_88 : decode cX11_net 88 = .ok (.if_icmp .ge 16, 3) := by decide +kernel
theorem dX11_net_91 : decode cX11_net 91 = .ok (.aload_n 0, 1) := by decide +kernel
theorem dX11_net_92 : decode cX11_net 92 = .ok (.getfield 39, 3) := by decide +kernel
theorem dX11_net_95 : decode cX11_net 95 = .ok (.iload_n 2, 1) := by decide +kernel
theorem dX11_net_96 : decode cX11_net 96 = .ok (.iconst 0, 1) := by decide +kernel
theorem dX11_net_97 : decode cX11_net 97 = .ok (.iastore, 1) := by decide +kernel
theorem dX11_net_98 : decode cX11_net 98 = .ok (.iinc 2 1, 3) := by decide +kernel
theorem dX11_net_101 : decode cX11_net 101 = .ok (.goto (-17), 3) := by decide +kernel
theorem dX11_net_104 : decode cX11_net 104 = .ok (.aload_n 0, 1) := by decide +kernel
theorem dX11_net_105 : decode cX11_net 105 = .ok (.invokevirtual 178, 3) := by decide +kernel
theorem dX11_net_108 : decode cX11_net 108 = .ok (.iconst 0, 1) := by decide +kernel
theorem dX11_net_109 : decode cX11_net 109 = .ok (.istore_n 2, 1) := by decide +kernel
theorem dX11_net_110 : decode cX11_net 110 = .ok (.iconst 1, 1) := by decide +kernel
theorem dX11_net_111 : decode cX11_net 111 = .ok (.istore_n 3, 1) := by decide +kernel
theorem dX11_net_112 : decode cX11_net 112 = .ok (.aload_n 0, 1) := by decide +kernel
theorem dX11_net_113 : decode cX11_net 113 = .ok (.ldc 156, 2) := by decide +kernel
theorem dX11_net_115 : decode cX11_net 115 = .ok (.invokevirtual 158, 3) := by decide +kernel
theorem dX11_net_118 : decode cX11_net 118 = .ok (.ifCond .eq 11, 3) := by decide +kernel
theorem dX11_net_121 : decode cX11_net 121 = .ok (.aload_n 0, 1) := by decide +kernel
theorem dX11_net_122 : decode cX11_net 122 = .ok (.invokevirtual 245, 3) := by decide +kernel
theorem dX11_net_125 : decode cX11_net 125 = .ok (.istore_n 3, 1) := by decide +kernel
theorem dX11_net_126 : decode cX11_net 126 = .ok (.iinc 2 1, 3) := by decide +kernel
theorem dX11_net_129 : decode cX11_net 129 = .ok (.iload_n 3, 1) := by decide +kernel
theorem dX11_net_130 : decode cX11_net 130 = .ok (.ifCond .eq 21, 3) := by decide +kernel
theorem dX11_net_133 : decode cX11_net 133 = .ok (.aload_n 0, 1) := by decide +kernel
theorem dX11_net_134 : decode cX11_net 134 = .ok (.getfield 112, 3) := by decide +kernel
theorem dX11_net_137 : decode cX11_net 137 = .ok (.ifCond .eq 14, 3) := by decide +kernel
theorem dX11_net_140 : decode cX11_net 140 = .ok (.aload_n 0, 1) := by decide +kernel
theorem dX11_net_141 : decode cX11_net 141 = .ok (.invokevirtual 248, 3) := by decide +kernel
theorem dX11_net_144 : decode cX11_net 144 = .ok (.istore_n 3, 1) := by decide +kernel
theorem dX11_net_145 : decode cX11_net 145 = .ok (.iinc 2 1, 3) := by decide +kernel
theorem dX11_net_148 : decode cX11_net 148 = .ok (.goto (-19), 3) := by decide +kernel
theorem dX11_net_151 : decode cX11_net 151 = .ok (.aload_n 0, 1) := by decide +kernel
theorem dX11_net_152 : decode cX11_net 152 = .ok (.iconst 0, 1) := by decide +kernel
theorem dX11_net_153 : decode cX11_net 153 = .ok (.putfield 181, 3) := by decide +kernel
theorem dX11_net_156 : decode cX11_net 156 = .ok (.iload_n 3, 1) := by decide +kernel
theorem dX11_net_157 : decode cX11_net 157 = .ok (.ifCond .ne 19, 3) := by decide +kernel
theorem dX11_net_160 : decode cX11_net 160 = .ok (.bipush (-2), 2) := by decide +kernel
theorem dX11_net_162 : decode cX11_net 162 = .ok (.bipush 8, 2) := by decide +kernel
theorem dX11_net_164 : decode cX11_net 164 = .ok (.aload_n 0, 1) := by decide +kernel
theorem dX11_net_165 : decode cX11_net 165 = .ok (.getfield 139, 3) := by decide +kernel
theorem dX11_net_168 : decode cX11_net 168 = .ok (.imul, 1) := by decide +kernel
theorem dX11_net_169 : decode cX11_net 169 = .ok (.aload_n 0, 1) := by decide +kernel
theorem dX11_net_170 : decode cX11_net 170 = .ok (.getfield 136, 3) := by decide +kernel
theorem dX11_net_173 : decode cX11_net 173 = .ok (.iadd, 1) := by decide +kernel
theorem dX11_net_174 : decode cX11_net 174 = .ok (.isub, 1) := by decide +kernel
theorem dX11_net_175 : decode cX11_net 175 = .ok (.ireturn, 1) := by decide +kernel
theorem dX11_net_176 : decode cX11_net 176 = .ok (.aload_n 0, 1) := by decide +kernel
theorem dX11_net_177 : decode cX11_net 177 = .ok (.invokevirtual 251, 3) := by decide +kernel
theorem dX11_net_180 : decode cX11_net 180 = .ok (.aload_n 0, 1) := by decide +kernel
theorem dX11_net_181 : decode cX11_net 181 = .ok (.iconst 0, 1) := by decide +kernel
theorem dX11_net_182 : decode cX11_net 182 = .ok (.putfield 254, 3) := by decide +kernel
theorem dX11_net_185 : decode cX11_net 185 = .ok (.aload_n 0, 1) := by decide +kernel
theorem dX11_net_186 : decode cX11_net 186 = .ok (.getfield 66, 3) := by decide +kernel
theorem dX11_net_189 : decode cX11_net 189 = .ok (.iconst 0, 1) := by decide +kernel
theorem dX11_net_190 : decode cX11_net 190 = .ok (.iconst 0, 1) := by decide +kernel
theorem dX11_net_191 : decode cX11_net 191 = .ok (.bastore, 1) := by decide +kernel
theorem dX11_net_192 : decode cX11_net 192 = .ok (.aload_n 0, 1) := by decide +kernel
theorem dX11_net_193 : decode cX11_net 193 = .ok (.getfield 66, 3) := by decide +kernel
theorem dX11_net_196 : decode cX11_net 196 = .ok (.iconst 1, 1) := by decide +kernel
theorem dX11_net_197 : decode cX11_net 197 = .ok (.iconst 0, 1) := by decide +kernel
theorem dX11_net_198 : decode cX11_net 198 = .ok (.bastore, 1) := by decide +kernel
theorem dX11_net_199 : decode cX11_net 199 = .ok (.iload_n 2, 1) := by decide +kernel
theorem dX11_net_200 : decode cX11_net 200 = .ok (.ireturn, 1) := by decide +kernel
theorem dX11_p_0 : decode cX11_p 0 = .ok (.aload_n 0, 1) := by decide +kernel
theorem dX11_p_1 : decode cX11_p 1 = .ok (.getfield 13, 3) := by decide +kernel
theorem dX11_p_4 : decode cX11_p 4 = .ok (.iconst 0, 1) := by decide +kernel
theorem dX11_p_5 : decode cX11_p 5 = .ok (.iaload, 1) := by decide +kernel
theorem dX11_p_6 : decode cX11_p 6 = .ok (.ireturn, 1) := by decide +kernel
theorem dX11_isTable_0 : decode cX11_isTable 0 = .ok (.iload_n 1, 1) := by decide +kernel
theorem dX11_isTable_1 : decode cX11_isTable 1 = .ok (.i2l, 1) := by decide +kernel
theorem dX11_isTable_2 : decode cX11_isTable 2 = .ok (.lconst 0, 1) := by decide +kernel
theorem dX11_isTable_3 : decode cX11_isTable 3 = .ok (.aload_n 0, 1) := by decide +kernel
theorem dX11_isTable_4 : decode cX11_isTable 4 = .ok (.getfield 17, 3) := by decide +kernel
theorem dX11_isTable_7 : decode cX11_isTable 7 = .ok (.iconst 0, 1) := by decide +kernel
theorem dX11_isTable_8 : decode cX11_isTable 8 = .ok (.iaload, 1) := by decide +kernel
theorem dX11_isTable_9 : decode cX11_isTable 9 = .ok (.iconst 1, 1) := by decide +kernel
theorem dX11_isTable_10 : decode cX11_isTable 10 = .ok (.isub, 1) := by decide +kernel
theorem dX11_isTable_11 : decode cX11_isTable 11 = .ok (.i2l, 1) := by decide +kernel
theorem dX11_isTable_12 : decode cX11_isTable 12 = .ok (.invokestatic 126, 3) := by decide +kernel
theorem dX11_isTable_15 : decode cX11_isTable 15 = .ok (.ireturn, 1) := by decide +kernel
theorem dX11_isBase_0 : decode cX11_isBase 0 = .ok (.iload_n 1, 1) := by decide +kernel
theorem dX11_isBase_1 : decode cX11_isBase 1 = .ok (.i2l, 1) := by decide +kernel
theorem dX11_isBase_2 : decode cX11_isBase 2 = .ok (.lconst 0, 1) := by decide +kernel
theorem dX11_isBase_3 : decode cX11_isBase 3 = .ok (.aload_n 0, 1) := by decide +kernel
theorem dX11_isBase_4 : decode cX11_isBase 4 = .ok (.getfield 20, 3) := by decide +kernel
theorem dX11_isBase_7 : decode cX11_isBase 7 = .ok (.iconst 0, 1) := by decide +kernel
theorem dX11_isBase_8 : decode cX11_isBase 8 = .ok (.iaload, 1) := by decide +kernel
theorem dX11_isBase_9 : decode cX11_isBase 9 = .ok (.iconst 1, 1) := by decide +kernel
theorem dX11_isBase_10 : decode cX11_isBase 10 = .ok (.isub, 1) := by decide +kernel
theorem dX11_isBase_11 : decode cX11_isBase 11 = .ok (.i2l, 1) := by decide +kernel
theorem dX11_isBase_12 : decode cX11_isBase 12 = .ok (.invokestatic 126, 3) := by decide +kernel
theorem dX11_isBase_15 : decode cX11_isBase 15 = .ok (.ireturn, 1) := by decide +kernel
theorem dX11_isNode_0 : decode cX11_isNode 0 = .ok (.iload_n 1, 1) := by decide +kernel
theorem dX11_isNode_1 : decode cX11_isNode 1 = .ok (.i2l, 1) := by decide +kernel
theorem dX11_isNode_2 : decode cX11_isNode 2 = .ok (.lconst 0, 1) := by decide +kernel
theorem dX11_isNode_3 : decode cX11_isNode 3 = .ok (.aload_n 0, 1) := by decide +kernel
theorem dX11_isNode_4 : decode cX11_isNode 4 = .ok (.getfield 23, 3) := by decide +kernel
theorem dX11_isNode_7 : decode cX11_isNode 7 = .ok (.iconst 0, 1) := by decide +kernel
theorem dX11_isNode_8 : decode cX11_isNode 8 = .ok (.iaload, 1) := by decide +kernel
theorem dX11_isNode_9 : decode cX11_isNode 9 = .ok (.iconst 1, 1) := by decide +kernel
theorem dX11_isNode_10 : decode cX11_isNode 10 = .ok (.isub, 1) := by decide +kernel
theorem dX11_isNode_11 : decode cX11_isNode 11 = .ok (.i2l, 1) := by decide +kernel
theorem dX11_isNode_12 : decode cX11_isNode 12 = .ok (.invokestatic 126, 3) := by decide +kernel
theorem dX11_isNode_15 : decode cX11_isNode 15 = .ok (.ireturn, 1) := by decide +kernel
theorem dX11_isWire_0 : decode cX11_isWire 0 = .ok (.iload_n 1, 1) := by decide +kernel
theorem dX11_isWire_1 : decode cX11_isWire 1 = .ok (.i2l, 1) := by decide +kernel
theorem dX11_isWire_2 : decode cX11_isWire 2 = .ok (.lconst 0, 1) := by decide +kernel
theorem dX11_isWire_3 : decode cX11_isWire 3 = .ok (.aload_n 0, 1) := by decide +kernel
theorem dX11_isWire_4 : decode cX11_isWire 4 = .ok (.getfield 57, 3) := by decide +kernel
theorem dX11_isWire_7 : decode cX11_isWire 7 = .ok (.bipush 116, 2) := by decide +kernel
theorem dX11_isWire_9 : decode cX11_isWire 9 = .ok (.iaload, 1) := by decide +kernel
theorem dX11_isWire_10 : decode cX11_isWire 10 = .ok (.iconst 1, 1) := by decide +kernel
theorem dX11_isWire_11 : decode cX11_isWire 11 = .ok (.isub, 1) := by decide +kernel
theorem dX11_isWire_12 : decode cX11_isWire 12 = .ok (.i2l, 1) := by decide +kernel
theorem dX11_isWire_13 : decode cX11_isWire 13 = .ok (.invokestatic 126, 3) := by decide +kernel
theorem dX11_isWire_16 : decode cX11_isWire 16 = .ok (.ireturn, 1) := by decide +kernel
theorem dX11_legsAt_0 : decode cX11_legsAt 0 = .ok (.aload_n 0, 1) := by decide +kernel
theorem dX11_legsAt_1 : decode cX11_legsAt 1 = .ok (.getfield 36, 3) := by decide +kernel
theorem dX11_legsAt_4 : decode cX11_legsAt 4 = .ok (.aload_n 0, 1) := by decide +kernel
theorem dX11_legsAt_5 : decode cX11_legsAt 5 = .ok (.getfield 45, 3) := by decide +kernel
theorem dX11_legsAt_8 : decode cX11_legsAt 8 = .ok (.iload_n 1, 1) := by decide +kernel
theorem dX11_legsAt_9 : decode cX11_legsAt 9 = .ok (.iaload, 1) := by decide +kernel
theorem dX11_legsAt_10 : decode cX11_legsAt 10 = .ok (.iaload, 1) := by decide +kernel
theorem dX11_legsAt_11 : decode cX11_legsAt 11 = .ok (.ireturn, 1) := by decide +kernel
theorem dX11_bits_0 : decode cX11_bits 0 = .ok (.iconst 0, 1) := by decide +kernel
theorem dX11_bits_1 : decode cX11_bits 1 = .ok (.istore_n 1, 1) := by decide +kernel
theorem dX11_bits_2 : decode cX11_bits 2 = .ok (.iload_n 0, 1) := by decide +kernel
theorem dX11_bits_3 : decode cX11_bits 3 = .ok (.istore_n 2, 1) := by decide +kernel
theorem dX11_bits_4 : decode cX11_bits 4 = .ok (.iload_n 2, 1) := by decide +kernel
theorem dX11_bits_5 : decode cX11_bits 5 = .ok (.ifCond .eq 15, 3) := by decide +kernel
theorem dX11_bits_8 : decode cX11_bits 8 = .ok (.iinc 1 1, 3) := by decide +kernel
theorem dX11_bits_11 : decode cX11_bits 11 = .ok (.iload_n 2, 1) := by decide +kernel
theorem dX11_bits_12 : decode cX11_bits 12 = .ok (.iload_n 2, 1) := by decide +kernel
theorem dX11_bits_13 : decode cX11_bits 13 = .ok (.iconst 1, 1) := by decide +kernel
theorem dX11_bits_14 : decode cX11_bits 14 = .ok (.isub, 1) := by decide +kernel
theorem dX11_bits_15 : decode cX11_bits 15 = .ok (.iand, 1) := by decide +kernel
theorem dX11_bits_16 : decode cX11_bits 16 = .ok (.istore_n 2, 1) := by decide +kernel
theorem dX11_bits_17 : decode cX11_bits 17 = .ok (.goto (-13), 3) := by decide +kernel
theorem dX11_bits_20 : decode cX11_bits 20 = .ok (.iload_n 1, 1) := by decide +kernel
theorem dX11_bits_21 : decode cX11_bits 21 = .ok (.ireturn, 1) := by decide +kernel
theorem dX11_laysTable_0 : decode cX11_laysTable 0 = .ok (.aload_n 0, 1) := by decide +kernel
theorem dX11_laysTable_1 : decode cX11_laysTable 1 = .ok (.aload_n 0, 1) := by decide +kernel
theorem dX11_laysTable_2 : decode cX11_laysTable 2 = .ok (.getfield 36, 3) := by decide +kernel
theorem dX11_laysTable_5 : decode cX11_laysTable 5 = .ok (.iload_n 1, 1) := by decide +kernel
theorem dX11_laysTable_6 : decode cX11_laysTable 6 = .ok (.iaload, 1) := by decide +kernel
theorem dX11_laysTable_7 : decode cX11_laysTable 7 = .ok (.putfield 257, 3) := by decide +kernel
theorem dX11_laysTable_10 : decode cX11_laysTable 10 = .ok (.iconst 0, 1) := by decide +kernel
theorem dX11_laysTable_11 : decode cX11_laysTable 11 = .ok (.istore_n 2, 1) := by decide +kernel
theorem dX11_laysTable_12 : decode cX11_laysTable 12 = .ok (.iload_n 2, 1) := by decide +kernel
theorem dX11_laysTable_13 : decode cX11_laysTable 13 = .ok (.iconst 1, 1) := by decide +kernel
theorem dX11_laysTable_14 : decode cX11_laysTable 14 = .ok (.aload_n 0, 1) := by decide +kernel
theorem dX11_laysTable_15 : decode cX11_laysTable 15 = .ok (.getfield 257, 3) := by decide +kernel
theorem dX11_laysTable_18 : decode cX11_laysTable 18 = .ok (.ishl, 1) := by decide +kernel
theorem dX11_laysTable_19 : decode cX11_laysTable 19 = .ok (.if_icmp .ge 26, 3) := by decide +kernel
theorem dX11_laysTable_22 : decode cX11_laysTable 22 = .ok (.aload_n 0, 1) := by decide +kernel
theorem dX11_laysTable_23 : decode cX11_laysTable 23 = .ok (.getfield 70, 3) := by decide +kernel
theorem dX11_laysTable_26 : decode cX11_laysTable 26 = .ok (.iload_n 2, 1) := by decide +kernel
theorem dX11_laysTable_27 : decode cX11_laysTable 27 = .ok (.aload_n 0, 1) := by decide +kernel
theorem dX11_laysTable_28 : decode cX11_laysTable 28 = .ok (.getfield 39, 3) := by decide +kernel
theorem dX11_laysTable_31 : decode cX11_laysTable 31 = .ok (.bipush 16, 2) := by decide +kernel
theorem dX11_laysTable_33 : decode cX11_laysTable 33 = .ok (.iload_n 1, 1) := by decide +kernel
theorem dX11_laysTable_34 : decode cX11_laysTable 34 = .ok (.imul, 1) := by decide +kernel
theorem dX11_laysTable_35 : decode cX11_laysTable 35 = .ok (.iload_n 2, 1) := by decide +kernel
theorem dX11_laysTable_36 : decode cX11_laysTable 36 = .ok (.iadd, 1) := by decide +kernel
theorem dX11_laysTable_37 : decode cX11_laysTable 37 = .ok (.iaload, 1) := by decide +kernel
theorem dX11_laysTable_38 : decode cX11_laysTable 38 = .ok (.iastore, 1) := by decide +kernel
theorem dX11_laysTable_39 : decode cX11_laysTable 39 = .ok (.iinc 2 1, 3) := by decide +kernel
theorem dX11_laysTable_42 : decode cX11_laysTable 42 = .ok (.goto (-30), 3) := by decide +kernel
theorem dX11_laysTable_45 : decode cX11_laysTable 45 = .ok (.return_, 1) := by decide +kernel
theorem dX11_table_0 : decode cX11_table 0 = .ok (.aload_n 0, 1) := by decide +kernel
theorem dX11_table_1 : decode cX11_table 1 = .ok (.iconst 0, 1) := by decide +kernel
theorem dX11_table_2 : decode cX11_table 2 = .ok (.putfield 88, 3) := by decide +kernel
theorem dX11_table_5 : decode cX11_table 5 = .ok (.aload_n 0, 1) := by decide +kernel
theorem dX11_table_6 : decode cX11_table 6 = .ok (.iload_n 1, 1) := by decide +kernel
theorem dX11_table_7 : decode cX11_table 7 = .ok (.invokevirtual 260, 3) := by decide +kernel
theorem dX11_table_10 : decode cX11_table 10 = .ok (.ifCond .ne 6, 3) := by decide +kernel
theorem dX11_table_13 : decode cX11_table 13 = .ok (.bipush (-2), 2) := by decide +kernel
theorem dX11_table_15 : decode cX11_table 15 = .ok (.ireturn, 1) := by decide +kernel
theorem dX11_table_16 : decode cX11_table 16 = .ok (.iload_n 2, 1) := by decide +kernel
theorem dX11_table_17 : decode cX11_table 17 = .ok (.iconst (-1), 1) := by decide +kernel
theorem dX11_table_18 : decode cX11_table 18 = .ok (.if_icmp .ne 12, 3) := by decide +kernel
theorem dX11_table_21 : decode cX11_table 21 = .ok (.aload_n 0, 1) := by decide +kernel
theorem dX11_table_22 : decode cX11_table 22 = .ok (.getfield 36, 3) := by decide +kernel
theorem dX11_table_25 : decode cX11_table 25 = .ok (.iload_n 1, 1) := by decide +kernel
theorem dX11_table_26 : decode cX11_table 26 = .ok (.iaload, 1) := by decide +kernel
theorem dX11_table_27 : decode cX11_table 27 = .ok (.goto 39, 3) := by decide +kernel
theorem dX11_table_30 : decode cX11_table 30 = .ok (.iload_n 2, 1) := by decide +kernel
theorem dX11_table_31 : decode cX11_table 31 = .ok (.i2l, 1) := by decide +kernel
theorem dX11_table_32 : decode cX11_table 32 = .ok (.lconst 0, 1) := by decide +kernel
theorem dX11_table_33 : decode cX11_table 33 = .ok (.iconst 1, 1) := by decide +kernel
theorem dX11_table_34 : decode cX11_table 34 = .ok (.aload_n 0, 1) := by decide +kernel
theorem dX11_table_35 : decode cX11_table 35 = .ok (.getfield 36, 3) := by decide +kernel
theorem dX11_table_38 : decode cX11_table 38 = .ok (.iload_n 1, 1) := by decide +kernel
theorem dX11_table_39 : decode cX11_table 39 = .ok (.iaload, 1) := by decide +kernel
theorem dX11_table_40 : decode cX11_table 40 = .ok (.ishl, 1) := by decide +kernel
theorem dX11_table_41 : decode cX11_table 41 = .ok (.iconst 1, 1) := by decide +kernel
theorem dX11_table_42 : decode cX11_table 42 = .ok (.isub, 1) := by decide +kernel
theorem dX11_table_43 : decode cX11_table 43 = .ok (.i2l, 1) := by decide +kernel
theorem dX11_table_44 : decode cX11_table 44 = .ok (.invokestatic 126, 3) := by decide +kernel
theorem dX11_table_47 : decode cX11_table 47 = .ok (.ifCond .eq 17, 3) := by decide +kernel
theorem dX11_table_50 : decode cX11_table 50 = .ok (.aload_n 0, 1) := by decide +kernel
theorem dX11_table_51 : decode cX11_table 51 = .ok (.getfield 39, 3) := by decide +kernel
theorem dX11_table_54 : decode cX11_table 54 = .ok (.bipush 16, 2) := by decide +kernel
theorem dX11_table_56 : decode cX11_table 56 = .ok (.iload_n 1, 1) := by decide +kernel
theorem dX11_table_57 : decode cX11_table 57 = .ok (.imul, 1) := by decide +kernel
theorem dX11_table_58 : decode cX11_table 58 = .ok (.iload_n 2, 1) := by decide +kernel
theorem dX11_table_59 : decode cX11_table 59 = .ok (.iadd, 1) := by decide +kernel
theorem dX11_table_60 : decode cX11_table 60 = .ok (.iaload, 1) := by decide +kernel
theorem dX11_table_61 : decode cX11_table 61 = .ok (.goto 5, 3) := by decide +kernel
theorem dX11_table_64 : decode cX11_table 64 = .ok (.bipush (-2), 2) := by decide +kernel
theorem dX11_table_66 : decode cX11_table 66 = .ok (.ireturn, 1) := by decide +kernel
theorem dX11_parityHere_0 : decode cX11_parityHere 0 = .ok (.iconst 1, 1) := by decide +kernel
theorem dX11_parityHere_1 : decode cX11_parityHere 1 = .ok (.istore_n 1, 1) := by decide +kernel
theorem dX11_parityHere_2 : decode cX11_parityHere 2 = .ok (.iconst 1, 1) := by decide +kernel
theorem dX11_parityHere_3 : decode cX11_parityHere 3 = .ok (.istore_n 2, 1) := by decide +kernel
theorem dX11_parityHere_4 : decode cX11_parityHere 4 = .ok (.iconst 0, 1) := by decide +kernel
theorem dX11_parityHere_5 : decode cX11_parityHere 5 = .ok (.istore_n 3, 1) := by decide +kernel
theorem dX11_parityHere_6 : decode cX11_parityHere 6 = .ok (.iload_n 3, 1) := by decide +kernel
theorem dX11_parityHere_7 : decode cX11_parityHere 7 = .ok (.iconst 1, 1) := by decide +kernel
theorem dX11_parityHere_8 : decode cX11_parityHere 8 = .ok (.aload_n 0, 1) := by decide +kernel
theorem dX11_parityHere_9 : decode cX11_parityHere 9 = .ok (.getfield 257, 3) := by decide +kernel
theorem dX11_parityHere_12 : decode cX11_parityHere 12 = .ok (.ishl, 1) := by decide +kernel
theorem dX11_parityHere_13 : decode cX11_parityHere 13 = .ok (.if_icmp .ge 37, 3) := by decide +kernel
theorem dX11_parityHere_16 : decode cX11_parityHere 16 = .ok (.aload_n 0, 1) := by decide +kernel
theorem dX11_parityHere_17 : decode cX11_parityHere 17 = .ok (.getfield 70, 3) := by decide +kernel
theorem dX11_parityHere_20 : decode cX11_parityHere 20 = .ok (.iload_n 3, 1) := by decide +kernel
theorem dX11_parityHere_21 : decode cX11_parityHere 21 = .ok (.iaload, 1) := by decide +kernel
theorem dX11_parityHere_22 : decode cX11_parityHere 22 = .ok (.ifCond .ne 6, 3) := by decide +kernel
theorem dX11_parityHere_25 : decode cX11_parityHere 25 = .ok (.goto 19, 3) := by decide +kernel
theorem dX11_parityHere_28 : decode cX11_parityHere 28 = .ok (.iload_n 3, 1) := by decide +kernel
theorem dX11_parityHere_29 : decode cX11_parityHere 29 = .ok (.invokestatic 263, 3) := by decide +kernel
theorem dX11_parityHere_32 : decode cX11_parityHere 32 = .ok (.iconst 2, 1) := by decide +kernel
theorem dX11_parityHere_33 : decode cX11_parityHere 33 = .ok (.irem, 1) := by decide +kernel
theorem dX11_parityHere_34 : decode cX11_parityHere 34 = .ok (.ifCond .ne 8, 3) := by decide +kernel
theorem dX11_parityHere_37 : decode cX11_parityHere 37 = .ok (.iconst 0, 1) := by decide +kernel
theorem dX11_parityHere_38 : decode cX11_parityHere 38 = .ok (.istore_n 2, 1) := by decide +kernel
theorem dX11_parityHere_39 : decode cX11_parityHere 39 = .ok (.goto 5, 3) := by decide +kernel
theorem dX11_parityHere_42 : decode cX11_parityHere 42 = .ok (.iconst 0, 1) := by decide +kernel
theorem dX11_parityHere_43 : decode cX11_parityHere 43 = .ok (.istore_n 1, 1) := by decide +kernel
theorem dX11_parityHere_44 : decode cX11_parityHere 44 = .ok (.iinc 3 1, 3) := by decide +kernel
theorem dX11_parityHere_47 : decode cX11_parityHere 47 = .ok (.goto (-41), 3) := by decide +kernel
theorem dX11_parityHere_50 : decode cX11_parityHere 50 = .ok (.iload_n 1, 1) := by decide +kernel
theorem dX11_parityHere_51 : decode cX11_parityHere 51 = .ok (.ifCond .eq 11, 3) := by decide +kernel
theorem dX11_parityHere_54 : decode cX11_parityHere 54 = .ok (.iload_n 2, 1) := by decide +kernel
theorem dX11_parityHere_55 : decode cX11_parityHere 55 = .ok (.ifCond .eq 7, 3) := by decide +kernel
theorem dX11_parityHere_58 : decode cX11_parityHere 58 = .ok (.iconst 2, 1) := by decide +kernel
theorem dX11_parityHere_59 : decode cX11_parityHere 59 = .ok (.goto 20, 3) := by decide +kernel
theorem dX11_parityHere_62 : decode cX11_parityHere 62 = .ok (.iload_n 1, 1) := by decide +kernel
theorem dX11_parityHere_63 : decode cX11_parityHere 63 = .ok (.ifCond .eq 7, 3) := by decide +kernel
theorem dX11_parityHere_66 : decode cX11_parityHere 66 = .ok (.iconst 0, 1) := by decide +kernel
theorem dX11_parityHere_67 : decode cX11_parityHere 67 = .ok (.goto 12, 3) := by decide +kernel
theorem dX11_parityHere_70 : decode cX11_parityHere 70 = .ok (.iload_n 2, 1) := by decide +kernel
theorem dX11_parityHere_71 : decode cX11_parityHere 71 = .ok (.ifCond .eq 7, 3) := by decide +kernel
theorem dX11_parityHere_74 : decode cX11_parityHere 74 = .ok (.iconst 1, 1) := by decide +kernel
theorem dX11_parityHere_75 : decode cX11_parityHere 75 = .ok (.goto 4, 3) := by decide +kernel
theorem dX11_parityHere_78 : decode cX11_parityHere 78 = .ok (.iconst 3, 1) := by decide +kernel
theorem dX11_parityHere_79 : decode cX11_parityHere 79 = .ok (.ireturn, 1) := by decide +kernel
theorem dX11_ruleHere_0 : decode cX11_ruleHere 0 = .ok (.iload_n 1, 1) := by decide +kernel
theorem dX11_ruleHere_1 : decode cX11_ruleHere 1 = .ok (.ifCond .eq 66, 3) := by decide +kernel
theorem dX11_ruleHere_4 : decode cX11_ruleHere 4 = .ok (.aload_n 0, 1) := by decide +kernel
theorem dX11_ruleHere_5 : decode cX11_ruleHere 5 = .ok (.getfield 70, 3) := by decide +kernel
theorem dX11_ruleHere_8 : decode cX11_ruleHere 8 = .ok (.iconst 1, 1) := by decide +kernel
theorem dX11_ruleHere_9 : decode cX11_ruleHere 9 = .ok (.iaload, 1) := by decide +kernel
theorem dX11_ruleHere_10 : decode cX11_ruleHere 10 = .ok (.aload_n 0, 1) := by decide +kernel
theorem dX11_ruleHere_11 : decode cX11_ruleHere 11 = .ok (.getfield 70, 3) := by decide +kernel
theorem dX11_ruleHere_14 : decode cX11_ruleHere 14 = .ok (.bipush 14, 2) := by decide +kernel
theorem dX11_ruleHere_16 : decode cX11_ruleHere 16 = .ok (.iaload, 1) := by decide +kernel
theorem dX11_ruleHere_17 : decode cX11_ruleHere 17 = .ok (.imul, 1) := by decide +kernel
theorem dX11_ruleHere_18 : decode cX11_ruleHere 18 = .ok (.aload_n 0, 1) := by decide +kernel
theorem dX11_ruleHere_19 : decode cX11_ruleHere 19 = .ok (.getfield 70, 3) := by decide +kernel
theorem dX11_ruleHere_22 : decode cX11_ruleHere 22 = .ok (.iconst 2, 1) := by decide +kernel
theorem dX11_ruleHere_23 : decode cX11_ruleHere 23 = .ok (.iaload, 1) := by decide +kernel
theorem dX11_ruleHere_24 : decode cX11_ruleHere 24 = .ok (.aload_n 0, 1) := by decide +kernel
theorem dX11_ruleHere_25 : decode cX11_ruleHere 25 = .ok (.getfield 70, 3) := by decide +kernel
theorem dX11_ruleHere_28 : decode cX11_ruleHere 28 = .ok (.bipush 13, 2) := by decide +kernel
theorem dX11_ruleHere_30 : decode cX11_ruleHere 30 = .ok (.iaload, 1) := by decide +kernel
theorem dX11_ruleHere_31 : decode cX11_ruleHere 31 = .ok (.imul, 1) := by decide +kernel
theorem dX11_ruleHere_32 : decode cX11_ruleHere 32 = .ok (.isub, 1) := by decide +kernel
theorem dX11_ruleHere_33 : decode cX11_ruleHere 33 = .ok (.aload_n 0, 1) := by decide +kernel
theorem dX11_ruleHere_34 : decode cX11_ruleHere 34 = .ok (.getfield 70, 3) := by decide +kernel
theorem dX11_ruleHere_37 : decode cX11_ruleHere 37 = .ok (.iconst 4, 1) := by decide +kernel
theorem dX11_ruleHere_38 : decode cX11_ruleHere 38 = .ok (.iaload, 1) := by decide +kernel
theorem dX11_ruleHere_39 : decode cX11_ruleHere 39 = .ok (.aload_n 0, 1) := by decide +kernel
theorem dX11_ruleHere_40 : decode cX11_ruleHere 40 = .ok (.getfield 70, 3) := by decide +kernel
theorem dX11_ruleHere_43 : decode cX11_ruleHere 43 = .ok (.bipush 11, 2) := by decide +kernel
theorem dX11_ruleHere_45 : decode cX11_ruleHere 45 = .ok (.iaload, 1) := by decide +kernel
theorem dX11_ruleHere_46 : decode cX11_ruleHere 46 = .ok (.imul, 1) := by decide +kernel
theorem dX11_ruleHere_47 : decode cX11_ruleHere 47 = .ok (.iadd, 1) := by decide +kernel
theorem dX11_ruleHere_48 : decode cX11_ruleHere 48 = .ok (.aload_n 0, 1) := by decide +kernel
theorem dX11_ruleHere_49 : decode cX11_ruleHere 49 = .ok (.getfield 70, 3) := by decide +kernel
theorem dX11_ruleHere_52 : decode cX11_ruleHere 52 = .ok (.bipush 8, 2) := by decide +kernel
theorem dX11_ruleHere_54 : decode cX11_ruleHere 54 = .ok (.iaload, 1) := by decide +kernel
theorem dX11_ruleHere_55 : decode cX11_ruleHere 55 = .ok (.aload_n 0, 1) := by decide +kernel
theorem dX11_ruleHere_56 : decode cX11_ruleHere 56 = .ok (.getfield 70, 3) := by decide +kernel
theorem dX11_ruleHere_59 : decode cX11_ruleHere 59 = .ok (.bipush 7, 2) := by decide +kernel
theorem dX11_ruleHere_61 : decode cX11_ruleHere 61 = .ok (.iaload, 1) := by decide +kernel
theorem dX11_ruleHere_62 : decode cX11_ruleHere 62 = .ok (.imul, 1) := by decide +kernel
theorem dX11_ruleHere_63 : decode cX11_ruleHere 63 = .ok (.isub, 1) := by decide +kernel
theorem dX11_ruleHere_64 : decode cX11_ruleHere 64 = .ok (.goto 63, 3) := by decide +kernel
theorem dX11_ruleHere_67 : decode cX11_ruleHere 67 = .ok (.aload_n 0, 1) := by decide +kernel
theorem dX11_ruleHere_68 : decode cX11_ruleHere 68 = .ok (.getfield 70, 3) := by decide +kernel
theorem dX11_ruleHere_71 : decode cX11_ruleHere 71 = .ok (.iconst 0, 1) := by decide +kernel
theorem dX11_ruleHere_72 : decode cX11_ruleHere 72 = .ok (.iaload, 1) := by decide +kernel
theorem dX11_ruleHere_73 : decode cX11_ruleHere 73 = .ok (.aload_n 0, 1) := by decide +kernel
theorem dX11_ruleHere_74 : decode cX11_ruleHere 74 = .ok (.getfield 70, 3) := by decide +kernel
theorem dX11_ruleHere_77 : decode cX11_ruleHere 77 = .ok (.bipush 15, 2) := by decide +kernel
theorem dX11_ruleHere_79 : decode cX11_ruleHere 79 = .ok (.iaload, 1) := by decide +kernel
theorem dX11_ruleHere_80 : decode cX11_ruleHere 80 = .ok (.imul, 1) := by decide +kernel
theorem dX11_ruleHere_81 : decode cX11_ruleHere 81 = .ok (.aload_n 0, 1) := by decide +kernel
theorem dX11_ruleHere_82 : decode cX11_ruleHere 82 = .ok (.getfield 70, 3) := by decide +kernel
theorem dX11_ruleHere_85 : decode cX11_ruleHere 85 = .ok (.iconst 3, 1) := by decide +kernel
theorem dX11_ruleHere_86 : decode cX11_ruleHere 86 = .ok (.iaload, 1) := by decide +kernel
theorem dX11_ruleHere_87 : decode cX11_ruleHere 87 = .ok (.aload_n 0, 1) := by decide +kernel
theorem dX11_ruleHere_88 : decode cX11_ruleHere 88 = .ok (.getfield 70, 3) := by decide +kernel
theorem dX11_ruleHere_91 : decode cX11_ruleHere 91 = .ok (.bipush 12, 2) := by decide +kernel
theorem dX11_ruleHere_93 : decode cX11_ruleHere 93 = .ok (.iaload, 1) := by decide +kernel
theorem dX11_ruleHere_94 : decode cX11_ruleHere 94 = .ok (.imul, 1) := by decide +kernel
theorem dX11_ruleHere_95 : decode cX11_ruleHere 95 = .ok (.isub, 1) := by decide +kernel
theorem dX11_ruleHere_96 : decode cX11_ruleHere 96 = .ok (.aload_n 0, 1) := by decide +kernel
theorem dX11_ruleHere_97 : decode cX11_ruleHere 97 = .ok (.getfield 70, 3) := by decide +kernel
theorem dX11_ruleHere_100 : decode cX11_ruleHere 100 = .ok (.iconst 5, 1) := by decide +kernel
theorem dX11_ruleHere_101 : decode cX11_ruleHere 101 = .ok (.iaload, 1) := by decide +kernel
theorem dX11_ruleHere_102 : decode cX11_ruleHere 102 = .ok (.aload_n 0, 1) := by decide +kernel
theorem dX11_ruleHere_103 : decode cX11_ruleHere 103 = .ok (.getfield 70, 3) := by decide +kernel
theorem dX11_ruleHere_106 : decode cX11_ruleHere 106 = .ok (.bipush 10, 2) := by decide +kernel
theorem dX11_ruleHere_108 : decode cX11_ruleHere 108 = .ok (.iaload, 1) := by decide +kernel
theorem dX11_ruleHere_109 : decode cX11_ruleHere 109 = .ok (.imul, 1) := by decide +kernel
theorem dX11_ruleHere_110 : decode cX11_ruleHere 110 = .ok (.iadd, 1) := by decide +kernel
theorem dX11_ruleHere_111 : decode cX11_ruleHere 111 = .ok (.aload_n 0, 1) := by decide +kernel
theorem dX11_ruleHere_112 : decode cX11_ruleHere 112 = .ok (.getfield 70, 3) := by decide +kernel
theorem dX11_ruleHere_115 : decode cX11_ruleHere 115 = .ok (.bipush 6, 2) := by decide +kernel
theorem dX11_ruleHere_117 : decode cX11_ruleHere 117 = .ok (.iaload, 1) := by decide +kernel
theorem dX11_ruleHere_118 : decode cX11_ruleHere 118 = .ok (.aload_n 0, 1) := by decide +kernel
theorem dX11_ruleHere_119 : decode cX11_ruleHere 119 = .ok (.getfield 70, 3) := by decide +kernel
theorem dX11_ruleHere_122 : decode cX11_ruleHere 122 = .ok (.bipush 9, 2) := by decide +kernel
theorem dX11_ruleHere_124 : decode cX11_ruleHere 124 = .ok (.iaload, 1) := by decide +kernel
theorem dX11_ruleHere_125 : decode cX11_ruleHere 125 = .ok (.imul, 1) := by decide +kernel
theorem dX11_ruleHere_126 : decode cX11_ruleHere 126 = .ok (.isub, 1) := by decide +kernel
theorem dX11_ruleHere_127 : decode cX11_ruleHere 127 = .ok (.istore_n 2, 1) := by decide +kernel
theorem dX11_ruleHere_128 : decode cX11_ruleHere 128 = .ok (.iload_n 2, 1) := by decide +kernel
theorem dX11_ruleHere_129 : decode cX11_ruleHere 129 = .ok (.i2l, 1) := by decide +kernel
theorem dX11_ruleHere_130 : decode cX11_ruleHere 130 = .ok (.aload_n 0, 1) := by decide +kernel
theorem dX11_ruleHere_131 : decode cX11_ruleHere 131 = .ok (.invokevirtual 266, 3) := by decide +kernel
theorem dX11_ruleHere_134 : decode cX11_ruleHere 134 = .ok (.invokestatic 211, 3) := by decide +kernel
theorem dX11_ruleHere_137 : decode cX11_ruleHere 137 = .ok (.ireturn, 1) := by decide +kernel
theorem dX11_isMadeHere_0 : decode cX11_isMadeHere 0 = .ok (.aload_n 0, 1) := by decide +kernel
theorem dX11_isMadeHere_1 : decode cX11_isMadeHere 1 = .ok (.invokevirtual 269, 3) := by decide +kernel
theorem dX11_isMadeHere_4 : decode cX11_isMadeHere 4 = .ok (.iconst 3, 1) := by decide +kernel
theorem dX11_isMadeHere_5 : decode cX11_isMadeHere 5 = .ok (.if_icmp .eq 31, 3) := by decide +kernel
theorem dX11_isMadeHere_8 : decode cX11_isMadeHere 8 = .ok (.aload_n 0, 1) := by decide +kernel
theorem dX11_isMadeHere_9 : decode cX11_isMadeHere 9 = .ok (.getfield 257, 3) := by decide +kernel
theorem dX11_isMadeHere_12 : decode cX11_isMadeHere 12 = .ok (.iconst 4, 1) := by decide +kernel
theorem dX11_isMadeHere_13 : decode cX11_isMadeHere 13 = .ok (.if_icmp .lt 19, 3) := by decide +kernel
theorem dX11_isMadeHere_16 : decode cX11_isMadeHere 16 = .ok (.aload_n 0, 1) := by decide +kernel
theorem dX11_isMadeHere_17 : decode cX11_isMadeHere 17 = .ok (.iconst 0, 1) := by decide +kernel
theorem dX11_isMadeHere_18 : decode cX11_isMadeHere 18 = .ok (.invokevirtual 272, 3) := by decide +kernel
theorem dX11_isMadeHere_21 : decode cX11_isMadeHere 21 = .ok (.ifCond .ne 15, 3) := by decide +kernel
theorem dX11_isMadeHere_24 : decode cX11_isMadeHere 24 = .ok (.aload_n 0, 1) := by decide +kernel
theorem dX11_isMadeHere_25 : decode cX11_isMadeHere 25 = .ok (.iconst 1, 1) := by decide +kernel
theorem dX11_isMadeHere_26 : decode cX11_isMadeHere 26 = .ok (.invokevirtual 272, 3) := by decide +kernel
theorem dX11_isMadeHere_29 : decode cX11_isMadeHere 29 = .ok (.ifCond .ne 7, 3) := by decide +kernel
theorem dX11_isMadeHere_32 : decode cX11_isMadeHere 32 = .ok (.iconst 1, 1) := by decide +kernel
theorem dX11_isMadeHere_33 : decode cX11_isMadeHere 33 = .ok (.goto 4, 3) := by decide +kernel
theorem dX11_isMadeHere_36 : decode cX11_isMadeHere 36 = .ok (.iconst 0, 1) := by decide +kernel
theorem dX11_isMadeHere_37 : decode cX11_isMadeHere 37 = .ok (.ireturn, 1) := by decide +kernel
theorem dX11_parity_0 : decode cX11_parity 0 = .ok (.aload_n 0, 1) := by decide +kernel
theorem dX11_parity_1 : decode cX11_parity 1 = .ok (.iconst 0, 1) := by decide +kernel
theorem dX11_parity_2 : decode cX11_parity 2 = .ok (.putfield 88, 3) := by decide +kernel
theorem dX11_parity_5 : decode cX11_parity 5 = .ok (.aload_n 0, 1) := by decide +kernel
theorem dX11_parity_6 : decode cX11_parity 6 = .ok (.iload_n 1, 1) := by decide +kernel
theorem dX11_parity_7 : decode cX11_parity 7 = .ok (.invokevirtual 260, 3) := by decide +kernel
theorem dX11_parity_10 : decode cX11_parity 10 = .ok (.ifCond .ne 5, 3) := by decide +kernel
theorem dX11_parity_13 : decode cX11_parity 13 = .ok (.iconst (-1), 1) := by decide +kernel
theorem dX11_parity_14 : decode cX11_parity 14 = .ok (.ireturn, 1) := by decide +kernel
theorem dX11_parity_15 : decode cX11_parity 15 = .ok (.aload_n 0, 1) := by decide +kernel
theorem dX11_parity_16 : decode cX11_parity 16 = .ok (.iload_n 1, 1) := by decide +kernel
theorem dX11_parity_17 : decode cX11_parity 17 = .ok (.invokevirtual 276, 3) := by decide +kernel
theorem dX11_parity_20 : decode cX11_parity 20 = .ok (.aload_n 0, 1) := by decide +kernel
theorem dX11_parity_21 : decode cX11_parity 21 = .ok (.invokevirtual 269, 3) := by decide +kernel
theorem dX11_parity_24 : decode cX11_parity 24 = .ok (.ireturn, 1) := by decide +kernel
theorem dX11_identity_0 : decode cX11_identity 0 = .ok (.aload_n 0, 1) := by decide +kernel
theorem dX11_identity_1 : decode cX11_identity 1 = .ok (.iconst 0, 1) := by decide +kernel
theorem dX11_identity_2 : decode cX11_identity 2 = .ok (.putfield 88, 3) := by decide +kernel
theorem dX11_identity_5 : decode cX11_identity 5 = .ok (.aload_n 0, 1) := by decide +kernel
theorem dX11_identity_6 : decode cX11_identity 6 = .ok (.iload_n 1, 1) := by decide +kernel
theorem dX11_identity_7 : decode cX11_identity 7 = .ok (.invokevirtual 260, 3) := by decide +kernel
theorem dX11_identity_10 : decode cX11_identity 10 = .ok (.ifCond .ne 5, 3) := by decide +kernel
theorem dX11_identity_13 : decode cX11_identity 13 = .ok (.iconst (-1), 1) := by decide +kernel
theorem dX11_identity_14 : decode cX11_identity 14 = .ok (.ireturn, 1) := by decide +kernel
theorem dX11_identity_15 : decode cX11_identity 15 = .ok (.aload_n 0, 1) := by decide +kernel
theorem dX11_identity_16 : decode cX11_identity 16 = .ok (.iload_n 1, 1) := by decide +kernel
theorem dX11_identity_17 : decode cX11_identity 17 = .ok (.invokevirtual 276, 3) := by decide +kernel
theorem dX11_identity_20 : decode cX11_identity 20 = .ok (.aload_n 0, 1) := by decide +kernel
theorem dX11_identity_21 : decode cX11_identity 21 = .ok (.getfield 257, 3) := by decide +kernel
theorem dX11_identity_24 : decode cX11_identity 24 = .ok (.iconst 4, 1) := by decide +kernel
theorem dX11_identity_25 : decode cX11_identity 25 = .ok (.if_icmp .ge 8, 3) := by decide +kernel
theorem dX11_identity_28 : decode cX11_identity 28 = .ok (.bipush (-2), 2) := by decide +kernel
theorem dX11_identity_30 : decode cX11_identity 30 = .ok (.goto 8, 3) := by decide +kernel
theorem dX11_identity_33 : decode cX11_identity 33 = .ok (.aload_n 0, 1) := by decide +kernel
theorem dX11_identity_34 : decode cX11_identity 34 = .ok (.iload_n 2, 1) := by decide +kernel
theorem dX11_identity_35 : decode cX11_identity 35 = .ok (.invokevirtual 272, 3) := by decide +kernel
theorem dX11_identity_38 : decode cX11_identity 38 = .ok (.ireturn, 1) := by decide +kernel
theorem dX11_made_0 : decode cX11_made 0 = .ok (.aload_n 0, 1) := by decide +kernel
theorem dX11_made_1 : decode cX11_made 1 = .ok (.iconst 0, 1) := by decide +kernel
theorem dX11_made_2 : decode cX11_made 2 = .ok (.putfield 88, 3) := by decide +kernel
theorem dX11_made_5 : decode cX11_made 5 = .ok (.aload_n 0, 1) := by decide +kernel
theorem dX11_made_6 : decode cX11_made 6 = .ok (.iload_n 1, 1) := by decide +kernel
theorem dX11_made_7 : decode cX11_made 7 = .ok (.invokevirtual 260, 3) := by decide +kernel
theorem dX11_made_10 : decode cX11_made 10 = .ok (.ifCond .ne 5, 3) := by decide +kernel
theorem dX11_made_13 : decode cX11_made 13 = .ok (.iconst (-1), 1) := by decide +kernel
theorem dX11_made_14 : decode cX11_made 14 = .ok (.ireturn, 1) := by decide +kernel
theorem dX11_made_15 : decode cX11_made 15 = .ok (.aload_n 0, 1) := by decide +kernel
theorem dX11_made_16 : decode cX11_made 16 = .ok (.iload_n 1, 1) := by decide +kernel
theorem dX11_made_17 : decode cX11_made 17 = .ok (.invokevirtual 276, 3) := by decide +kernel
theorem dX11_made_20 : decode cX11_made 20 = .ok (.aload_n 0, 1) := by decide +kernel
theorem dX11_made_21 : decode cX11_made 21 = .ok (.invokevirtual 279, 3) := by decide +kernel
theorem dX11_made_24 : decode cX11_made 24 = .ok (.ifCond .eq 7, 3) := by decide +kernel
theorem dX11_made_27 : decode cX11_made 27 = .ok (.iconst 1, 1) := by decide +kernel
theorem dX11_made_28 : decode cX11_made 28 = .ok (.goto 4, 3) := by decide +kernel
theorem dX11_made_31 : decode cX11_made 31 = .ok (.iconst 0, 1) := by decide +kernel
theorem dX11_made_32 : decode cX11_made 32 = .ok (.ireturn, 1) := by decide +kernel
theorem dX11_plain_0 : decode cX11_plain 0 = .ok (.aload_n 0, 1) := by decide +kernel
theorem dX11_plain_1 : decode cX11_plain 1 = .ok (.iconst 0, 1) := by decide +kernel
theorem dX11_plain_2 : decode cX11_plain 2 = .ok (.putfield 88, 3) := by decide +kernel
theorem dX11_plain_5 : decode cX11_plain 5 = .ok (.aload_n 0, 1) := by decide +kernel
theorem dX11_plain_6 : decode cX11_plain 6 = .ok (.iload_n 1, 1) := by decide +kernel
theorem dX11_plain_7 : decode cX11_plain 7 = .ok (.invokevirtual 260, 3) := by decide +kernel
theorem dX11_plain_10 : decode cX11_plain 10 = .ok (.ifCond .ne 5, 3) := by decide +kernel
theorem dX11_plain_13 : decode cX11_plain 13 = .ok (.iconst (-1), 1) := by decide +kernel
theorem dX11_plain_14 : decode cX11_plain 14 = .ok (.ireturn, 1) := by decide +kernel
theorem dX11_plain_15 : decode cX11_plain 15 = .ok (.aload_n 0, 1) := by decide +kernel
theorem dX11_plain_16 : decode cX11_plain 16 = .ok (.iload_n 1, 1) := by decide +kernel
theorem dX11_plain_17 : decode cX11_plain 17 = .ok (.invokevirtual 276, 3) := by decide +kernel
theorem dX11_plain_20 : decode cX11_plain 20 = .ok (.iconst 0, 1) := by decide +kernel
theorem dX11_plain_21 : decode cX11_plain 21 = .ok (.istore_n 2, 1) := by decide +kernel
theorem dX11_plain_22 : decode cX11_plain 22 = .ok (.iload_n 2, 1) := by decide +kernel
theorem dX11_plain_23 : decode cX11_plain 23 = .ok (.iconst 1, 1) := by decide +kernel
theorem dX11_plain_24 : decode cX11_plain 24 = .ok (.aload_n 0, 1) := by decide +kernel
theorem dX11_plain_25 : decode cX11_plain 25 = .ok (.getfield 257, 3) := by decide +kernel
theorem dX11_plain_28 : decode cX11_plain 28 = .ok (.ishl, 1) := by decide +kernel
theorem dX11_plain_29 : decode cX11_plain 29 = .ok (.if_icmp .ge 33, 3) := by decide +kernel
theorem dX11_plain_32 : decode cX11_plain 32 = .ok (.aload_n 0, 1) := by decide +kernel
theorem dX11_plain_33 : decode cX11_plain 33 = .ok (.getfield 70, 3) := by decide +kernel
theorem dX11_plain_36 : decode cX11_plain 36 = .ok (.iload_n 2, 1) := by decide +kernel
theorem dX11_plain_37 : decode cX11_plain 37 = .ok (.iaload, 1) := by decide +kernel
theorem dX11_plain_38 : decode cX11_plain 38 = .ok (.aload_n 0, 1) := by decide +kernel
theorem dX11_plain_39 : decode cX11_plain 39 = .ok (.getfield 70, 3) := by decide +kernel
theorem dX11_plain_42 : decode cX11_plain 42 = .ok (.iconst 1, 1) := by decide +kernel
theorem dX11_plain_43 : decode cX11_plain 43 = .ok (.iload_n 2, 1) := by decide +kernel
theorem dX11_plain_44 : decode cX11_plain 44 = .ok (.invokestatic 263, 3) := by decide +kernel
theorem dX11_plain_47 : decode cX11_plain 47 = .ok (.ishl, 1) := by decide +kernel
theorem dX11_plain_48 : decode cX11_plain 48 = .ok (.iconst 1, 1) := by decide +kernel
theorem dX11_plain_49 : decode cX11_plain 49 = .ok (.isub, 1) := by decide +kernel
theorem dX11_plain_50 : decode cX11_plain 50 = .ok (.iaload, 1) := by decide +kernel
theorem dX11_plain_51 : decode cX11_plain 51 = .ok (.if_icmp .eq 5, 3) := by decide +kernel
theorem dX11_plain_54 : decode cX11_plain 54 = .ok (.iconst 0, 1) := by decide +kernel
theorem dX11_plain_55 : decode cX11_plain 55 = .ok (.ireturn, 1) := by decide +kernel
theorem dX11_plain_56 : decode cX11_plain 56 = .ok (.iinc 2 1, 3) := by decide +kernel
theorem dX11_plain_59 : decode cX11_plain 59 = .ok (.goto (-37), 3) := by decide +kernel
theorem dX11_plain_62 : decode cX11_plain 62 = .ok (.iconst 1, 1) := by decide +kernel
theorem dX11_plain_63 : decode cX11_plain 63 = .ok (.ireturn, 1) := by decide +kernel
theorem dX11_like_0 : decode cX11_like 0 = .ok (.aload_n 0, 1) := by decide +kernel
theorem dX11_like_1 : decode cX11_like 1 = .ok (.iconst 0, 1) := by decide +kernel
theorem dX11_like_2 : decode cX11_like 2 = .ok (.putfield 88, 3) := by decide +kernel
theorem dX11_like_5 : decode cX11_like 5 = .ok (.aload_n 0, 1) := by decide +kernel
theorem dX11_like_6 : decode cX11_like 6 = .ok (.iload_n 1, 1) := by decide +kernel
theorem dX11_like_7 : decode cX11_like 7 = .ok (.invokevirtual 260, 3) := by decide +kernel
theorem dX11_like_10 : decode cX11_like 10 = .ok (.ifCond .eq 11, 3) := by decide +kernel
theorem dX11_like_13 : decode cX11_like 13 = .ok (.aload_n 0, 1) := by decide +kernel
theorem dX11_like_14 : decode cX11_like 14 = .ok (.iload_n 2, 1) := by decide +kernel
theorem dX11_like_15 : decode cX11_like 15 = .ok (.invokevirtual 260, 3) := by decide +kernel
theorem dX11_like_18 : decode cX11_like 18 = .ok (.ifCond .ne 5, 3) := by decide +kernel
theorem dX11_like_21 : decode cX11_like 21 = .ok (.iconst (-1), 1) := by decide +kernel
theorem dX11_like_22 : decode cX11_like 22 = .ok (.ireturn, 1) := by decide +kernel
theorem dX11_like_23 : decode cX11_like 23 = .ok (.aload_n 0, 1) := by decide +kernel
theorem dX11_like_24 : decode cX11_like 24 = .ok (.getfield 36, 3) := by decide +kernel
theorem dX11_like_27 : decode cX11_like 27 = .ok (.iload_n 1, 1) := by decide +kernel
theorem dX11_like_28 : decode cX11_like 28 = .ok (.iaload, 1) := by decide +kernel
theorem dX11_like_29 : decode cX11_like 29 = .ok (.aload_n 0, 1) := by decide +kernel
theorem dX11_like_30 : decode cX11_like 30 = .ok (.getfield 36, 3) := by decide +kernel
theorem dX11_like_33 : decode cX11_like 33 = .ok (.iload_n 2, 1) := by decide +kernel
theorem dX11_like_34 : decode cX11_like 34 = .ok (.iaload, 1) := by decide +kernel
theorem dX11_like_35 : decode cX11_like 35 = .ok (.if_icmp .eq 5, 3) := by decide +kernel
theorem dX11_like_38 : decode cX11_like 38 = .ok (.iconst 0, 1) := by decide +kernel
theorem dX11_like_39 : decode cX11_like 39 = .ok (.ireturn, 1) := by decide +kernel
theorem dX11_like_40 : decode cX11_like 40 = .ok (.iconst 1, 1) := by decide +kernel
theorem dX11_like_41 : decode cX11_like 41 = .ok (.istore_n 3, 1) := by decide +kernel
theorem dX11_like_42 : decode cX11_like 42 = .ok (.iload_n 3, 1) := by decide +kernel
theorem dX11_like_43 : decode cX11_like 43 = .ok (.aload_n 0, 1) := by decide +kernel
theorem dX11_like_44 : decode cX11_like 44 = .ok (.invokevirtual 266, 3) := by decide +kernel
theorem dX11_like_47 : decode cX11_like 47 = .ok (.if_icmp .ge 85, 3) := by decide +kernel
theorem dX11_like_50 : decode cX11_like 50 = .ok (.iconst 1, 1) := by decide +kernel
theorem dX11_like_51 : decode cX11_like 51 = .ok (.istore 4, 2) := by decide +kernel
theorem dX11_like_53 : decode cX11_like 53 = .ok (.iconst 0, 1) := by decide +kernel
theorem dX11_like_54 : decode cX11_like 54 = .ok (.istore 5, 2) := by decide +kernel
theorem dX11_like_56 : decode cX11_like 56 = .ok (.iload 5, 2) := by decide +kernel
theorem dX11_like_58 : decode cX11_like 58 = .ok (.iconst 1, 1) := by decide +kernel
theorem dX11_like_59 : decode cX11_like 59 = .ok (.aload_n 0, 1) := by decide +kernel
theorem dX11_like_60 : decode cX11_like 60 = .ok (.getfield 36, 3) := by decide +kernel
theorem dX11_like_63 : decode cX11_like 63 = .ok (.iload_n 1, 1) := by decide +kernel
theorem dX11_like_64 : decode cX11_like 64 = .ok (.iaload, 1) := by decide +kernel
theorem dX11_like_65 : decode cX11_like 65 = .ok (.ishl, 1) := by decide +kernel
theorem dX11_like_66 : decode cX11_like 66 = .ok (.if_icmp .ge 53, 3) := by decide +kernel
theorem dX11_like_69 : decode cX11_like 69 = .ok (.iload 4, 2) := by decide +kernel
theorem dX11_like_71 : decode cX11_like 71 = .ok (.aload_n 0, 1) := by decide +kernel
theorem dX11_like_72 : decode cX11_like 72 = .ok (.getfield 39, 3) := by decide +kernel
theorem dX11_like_75 : decode cX11_like 75 = .ok (.bipush 16, 2) := by decide +kernel
theorem dX11_like_77 : decode cX11_like 77 = .ok (.iload_n 1, 1) := by decide +kernel
theorem dX11_like_78 : decode cX11_like 78 = .ok (.imul, 1) := by decide +kernel
theorem dX11_like_79 : decode cX11_like 79 = .ok (.iload 5, 2) := by decide +kernel
theorem dX11_like_81 : decode cX11_like 81 = .ok (.iadd, 1) := by decide +kernel
theorem dX11_like_82 : decode cX11_like 82 = .ok (.iaload, 1) := by decide +kernel
theorem dX11_like_83 : decode cX11_like 83 = .ok (.iload_n 3, 1) := by decide +kernel
theorem dX11_like_84 : decode cX11_like 84 = .ok (.aload_n 0, 1) := by decide +kernel
theorem dX11_like_85 : decode cX11_like 85 = .ok (.getfield 39, 3) := by decide +kernel
theorem dX11_like_88 : decode cX11_like 88 = .ok (.bipush 16, 2) := by decide +kernel
theorem dX11_like_90 : decode cX11_like 90 = .ok (.iload_n 2, 1) := by decide +kernel
theorem dX11_like_91 : decode cX11_like 91 = .ok (.imul, 1) := by decide +kernel
theorem dX11_like_92 : decode cX11_like 92 = .ok (.iload 5, 2) := by decide +kernel
theorem dX11_like_94 : decode cX11_like 94 = .ok (.iadd, 1) := by decide +kernel
theorem dX11_like_95 : decode cX11_like 95 = .ok (.iaload, 1) := by decide +kernel
theorem dX11_like_96 : decode cX11_like 96 = .ok (.imul, 1) := by decide +kernel
theorem dX11_like_97 : decode cX11_like 97 = .ok (.aload_n 0, 1) := by decide +kernel
theorem dX11_like_98 : decode cX11_like 98 = .ok (.invokevirtual 266, 3) := by decide +kernel
theorem dX11_like_101 : decode cX11_like 101 = .ok (.irem, 1) := by decide +kernel
theorem dX11_like_102 : decode cX11_like 102 = .ok (.if_icmp .ne 7, 3) := by decide +kernel
theorem dX11_like_105 : decode cX11_like 105 = .ok (.iconst 1, 1) := by decide +kernel
theorem dX11_like_106 : decode cX11_like 106 = .ok (.goto 4, 3) := by decide +kernel
theorem dX11_like_109 : decode cX11_like 109 = .ok (.iconst 0, 1) := by decide +kernel
theorem dX11_like_110 : decode cX11_like 110 = .ok (.iand, 1) := by decide +kernel
theorem dX11_like_111 : decode cX11_like 111 = .ok (.istore 4, 2) := by decide +kernel
theorem dX11_like_113 : decode cX11_like 113 = .ok (.iinc 5 1, 3) := by decide +kernel
theorem dX11_like_116 : decode cX11_like 116 = .ok (.goto (-60), 3) := by decide +kernel
theorem dX11_like_119 : decode cX11_like 119 = .ok (.iload 4, 2) := by decide +kernel
theorem dX11_like_121 : decode cX11_like 121 = .ok (.ifCond .eq 5, 3) := by decide +kernel
theorem dX11_like_124 : decode cX11_like 124 = .ok (.iload_n 3, 1) := by decide +kernel
theorem dX11_like_125 : decode cX11_like 125 = .ok (.ireturn, 1) := by decide +kernel
theorem dX11_like_126 : decode cX11_like 126 = .ok (.iinc 3 1, 3) := by decide +kernel
theorem dX11_like_129 : decode cX11_like 129 = .ok (.goto (-87), 3) := by decide +kernel
theorem dX11_like_132 : decode cX11_like 132 = .ok (.iconst 0, 1) := by decide +kernel
theorem dX11_like_133 : decode cX11_like 133 = .ok (.ireturn, 1) := by decide +kernel
theorem dX11_inverse_0 : decode cX11_inverse 0 = .ok (.iconst 1, 1) := by decide +kernel
theorem dX11_inverse_1 : decode cX11_inverse 1 = .ok (.istore_n 2, 1) := by decide +kernel
theorem dX11_inverse_2 : decode cX11_inverse 2 = .ok (.iload_n 1, 1) := by decide +kernel
theorem dX11_inverse_3 : decode cX11_inverse 3 = .ok (.iload_n 2, 1) := by decide +kernel
theorem dX11_inverse_4 : decode cX11_inverse 4 = .ok (.imul, 1) := by decide +kernel
theorem dX11_inverse_5 : decode cX11_inverse 5 = .ok (.aload_n 0, 1) := by decide +kernel
theorem dX11_inverse_6 : decode cX11_inverse 6 = .ok (.invokevirtual 266, 3) := by decide +kernel
theorem dX11_inverse_9 : decode cX11_inverse 9 = .ok (.irem, 1) := by decide +kernel
theorem dX11_inverse_10 : decode cX11_inverse 10 = .ok (.iconst 1, 1) := by decide +kernel
theorem dX11_inverse_11 : decode cX11_inverse 11 = .ok (.if_icmp .eq 9, 3) := by decide +kernel
theorem dX11_inverse_14 : decode cX11_inverse 14 = .ok (.iinc 2 1, 3) := by decide +kernel
theorem dX11_inverse_17 : decode cX11_inverse 17 = .ok (.goto (-15), 3) := by decide +kernel
theorem dX11_inverse_20 : decode cX11_inverse 20 = .ok (.iload_n 2, 1) := by decide +kernel
theorem dX11_inverse_21 : decode cX11_inverse 21 = .ok (.ireturn, 1) := by decide +kernel
theorem dX11_spread_0 : decode cX11_spread 0 = .ok (.iconst 0, 1) := by decide +kernel
theorem dX11_spread_1 : decode cX11_spread 1 = .ok (.istore_n 3, 1) := by decide +kernel
theorem dX11_spread_2 : decode cX11_spread 2 = .ok (.iconst 0, 1) := by decide +kernel
theorem dX11_spread_3 : decode cX11_spread 3 = .ok (.istore 4, 2) := by decide +kernel
theorem dX11_spread_5 : decode cX11_spread 5 = .ok (.iconst 0, 1) := by decide +kernel
theorem dX11_spread_6 : decode cX11_spread 6 = .ok (.istore 5, 2) := by decide +kernel
theorem dX11_spread_8 : decode cX11_spread 8 = .ok (.iload 5, 2) := by decide +kernel
theorem dX11_spread_10 : decode cX11_spread 10 = .ok (.iload_n 2, 1) := by decide +kernel
theorem dX11_spread_11 : decode cX11_spread 11 = .ok (.if_icmp .ge 37, 3) := by decide +kernel
theorem dX11_spread_14 : decode cX11_spread 14 = .ok (.iload_n 1, 1) := by decide +kernel
theorem dX11_spread_15 : decode cX11_spread 15 = .ok (.iload 5, 2) := by decide +kernel
theorem dX11_spread_17 : decode cX11_spread 17 = .ok (.ishr, 1) := by decide +kernel
theorem dX11_spread_18 : decode cX11_spread 18 = .ok (.iconst 1, 1) := by decide +kernel
theorem dX11_spread_19 : decode cX11_spread 19 = .ok (.iand, 1) := by decide +kernel
theorem dX11_spread_20 : decode cX11_spread 20 = .ok (.ifCond .ne 6, 3) := by decide +kernel
theorem dX11_spread_23 : decode cX11_spread 23 = .ok (.goto 19, 3) := by decide +kernel
theorem dX11_spread_26 : decode cX11_spread 26 = .ok (.iload 4, 2) := by decide +kernel
theorem dX11_spread_28 : decode cX11_spread 28 = .ok (.iload_n 0, 1) := by decide +kernel
theorem dX11_spread_29 : decode cX11_spread 29 = .ok (.iload_n 3, 1) := by decide +kernel
theorem dX11_spread_30 : decode cX11_spread 30 = .ok (.ishr, 1) := by decide +kernel
theorem dX11_spread_31 : decode cX11_spread 31 = .ok (.iconst 1, 1) := by decide +kernel
theorem dX11_spread_32 : decode cX11_spread 32 = .ok (.iand, 1) := by decide +kernel
theorem dX11_spread_33 : decode cX11_spread 33 = .ok (.iload 5, 2) := by decide +kernel
theorem dX11_spread_35 : decode cX11_spread 35 = .ok (.ishl, 1) := by decide +kernel
theorem dX11_spread_36 : decode cX11_spread 36 = .ok (.ior, 1) := by decide +kernel
theorem dX11_spread_37 : decode cX11_spread 37 = .ok (.istore 4, 2) := by decide +kernel
theorem dX11_spread_39 : decode cX11_spread 39 = .ok (.iinc 3 1, 3) := by decide +kernel
theorem dX11_spread_42 : decode cX11_spread 42 = .ok (.iinc 5 1, 3) := by decide +kernel
theorem dX11_spread_45 : decode cX11_spread 45 = .ok (.goto (-37), 3) := by decide +kernel
theorem dX11_spread_48 : decode cX11_spread 48 = .ok (.iload 4, 2) := by decide +kernel
theorem dX11_spread_50 : decode cX11_spread 50 = .ok (.ireturn, 1) := by decide +kernel
theorem dX11_clears_0 : decode cX11_clears 0 = .ok (.aload_n 0, 1) := by decide +kernel
theorem dX11_clears_1 : decode cX11_clears 1 = .ok (.getfield 73, 3) := by decide +kernel
theorem dX11_clears_4 : decode cX11_clears 4 = .ok (.bipush 16, 2) := by decide +kernel
theorem dX11_clears_6 : decode cX11_clears 6 = .ok (.iload_n 2, 1) := by decide +kernel
theorem dX11_clears_7 : decode cX11_clears 7 = .ok (.imul, 1) := by decide +kernel
theorem dX11_clears_8 : decode cX11_clears 8 = .ok (.iload_n 3, 1) := by decide +kernel
theorem dX11_clears_9 : decode cX11_clears 9 = .ok (.iadd, 1) := by decide +kernel
theorem dX11_clears_10 : decode cX11_clears 10 = .ok (.iaload, 1) := by decide +kernel
theorem dX11_clears_11 : decode cX11_clears 11 = .ok (.istore 4, 2) := by decide +kernel
theorem dX11_clears_13 : decode cX11_clears 13 = .ok (.iconst 0, 1) := by decide +kernel
theorem dX11_clears_14 : decode cX11_clears 14 = .ok (.istore 5, 2) := by decide +kernel
theorem dX11_clears_16 : decode cX11_clears 16 = .ok (.iload 5, 2) := by decide +kernel
theorem dX11_clears_18 : decode cX11_clears 18 = .ok (.bipush 16, 2) := by decide +kernel
theorem dX11_clears_20 : decode cX11_clears 20 = .ok (.if_icmp .ge 57, 3) := by decide +kernel
theorem dX11_clears_23 : decode cX11_clears 23 = .ok (.aload_n 0, 1) := by decide +kernel
theorem dX11_clears_24 : decode cX11_clears 24 = .ok (.getfield 73, 3) := by decide +kernel
theorem dX11_clears_27 : decode cX11_clears 27 = .ok (.bipush 16, 2) := by decide +kernel
theorem dX11_clears_29 : decode cX11_clears 29 = .ok (.iload_n 2, 1) := by decide +kernel
theorem dX11_clears_30 : decode cX11_clears 30 = .ok (.imul, 1) := by decide +kernel
theorem dX11_clears_31 : decode cX11_clears 31 = .ok (.iload 5, 2) := by decide +kernel
theorem dX11_clears_33 : decode cX11_clears 33 = .ok (.iadd, 1) := by decide +kernel
theorem dX11_clears_34 : decode cX11_clears 34 = .ok (.aload_n 0, 1) := by decide +kernel
theorem dX11_clears_35 : decode cX11_clears 35 = .ok (.getfield 73, 3) := by decide +kernel
theorem dX11_clears_38 : decode cX11_clears 38 = .ok (.bipush 16, 2) := by decide +kernel
theorem dX11_clears_40 : decode cX11_clears 40 = .ok (.iload_n 2, 1) := by decide +kernel
theorem dX11_clears_41 : decode cX11_clears 41 = .ok (.imul, 1) := by decide +kernel
theorem dX11_clears_42 : decode cX11_clears 42 = .ok (.iload 5, 2) := by decide +kernel
theorem dX11_clears_44 : decode cX11_clears 44 = .ok (.iadd, 1) := by decide +kernel
theorem dX11_clears_45 : decode cX11_clears 45 = .ok (.iaload, 1) := by decide +kernel
theorem dX11_clears_46 : decode cX11_clears 46 = .ok (.iload 4, 2) := by decide +kernel
theorem dX11_clears_48 : decode cX11_clears 48 = .ok (.aload_n 0, 1) := by decide +kernel
theorem dX11_clears_49 : decode cX11_clears 49 = .ok (.getfield 73, 3) := by decide +kernel
theorem dX11_clears_52 : decode cX11_clears 52 = .ok (.bipush 16, 2) := by decide +kernel
theorem dX11_clears_54 : decode cX11_clears 54 = .ok (.iload_n 1, 1) := by decide +kernel
theorem dX11_clears_55 : decode cX11_clears 55 = .ok (.imul, 1) := by decide +kernel
theorem dX11_clears_56 : decode cX11_clears 56 = .ok (.iload 5, 2) := by decide +kernel
theorem dX11_clears_58 : decode cX11_clears 58 = .ok (.iadd, 1) := by decide +kernel
theorem dX11_clears_59 : decode cX11_clears 59 = .ok (.iaload, 1) := by decide +kernel
theorem dX11_clears_60 : decode cX11_clears 60 = .ok (.imul, 1) := by decide +kernel
theorem dX11_clears_61 : decode cX11_clears 61 = .ok (.isub, 1) := by decide +kernel
theorem dX11_clears_62 : decode cX11_clears 62 = .ok (.i2l, 1) := by decide +kernel
theorem dX11_clears_63 : decode cX11_clears 63 = .ok (.aload_n 0, 1) := by decide +kernel
theorem dX11_clears_64 : decode cX11_clears 64 = .ok (.invokevirtual 266, 3) := by decide +kernel
theorem dX11_clears_67 : decode cX11_clears 67 = .ok (.invokestatic 211, 3) := by decide +kernel
theorem dX11_clears_70 : decode cX11_clears 70 = .ok (.iastore, 1) := by decide +kernel
theorem dX11_clears_71 : decode cX11_clears 71 = .ok (.iinc 5 1, 3) := by decide +kernel
theorem dX11_clears_74 : decode cX11_clears 74 = .ok (.goto (-58), 3) := by decide +kernel
theorem dX11_clears_77 : decode cX11_clears 77 = .ok (.return_, 1) := by decide +kernel
theorem dX11_ranked_0 : decode cX11_ranked 0 = .ok (.iconst 0, 1) := by decide +kernel
theorem dX11_ranked_1 : decode cX11_ranked 1 = .ok (.istore_n 3, 1) := by decide +kernel
theorem dX11_ranked_2 : decode cX11_ranked 2 = .ok (.iconst 0, 1) := by decide +kernel
theorem dX11_ranked_3 : decode cX11_ranked 3 = .ok (.istore 4, 2) := by decide +kernel
theorem dX11_ranked_5 : decode cX11_ranked 5 = .ok (.iload 4, 2) := by decide +kernel
theorem dX11_ranked_7 : decode cX11_ranked 7 = .ok (.iload_n 2, 1) := by decide +kernel
theorem dX11_ranked_8 : decode cX11_ranked 8 = .ok (.if_icmp .ge 219, 3) := by decide +kernel
theorem dX11_ranked_11 : decode cX11_ranked 11 = .ok (.iload_n 3, 1) := by decide +kernel
theorem dX11_ranked_12 : decode cX11_ranked 12 = .ok (.iload_n 1, 1) := by decide +kernel
theorem dX11_ranked_13 : decode cX11_ranked 13 = .ok (.if_icmp .ge 214, 3) := by decide +kernel
theorem dX11_ranked_16 : decode cX11_ranked 16 = .ok (.iload_n 3, 1) := by decide +kernel
theorem dX11_ranked_17 : decode cX11_ranked 17 = .ok (.istore 5, 2) := by decide +kernel
theorem dX11_ranked_19 : decode cX11_ranked 19 = .ok (.iload 5, 2) := by decide +kernel
theorem dX11_ranked_21 : decode cX11_ranked 21 = .ok (.iload_n 1, 1) := by decide +kernel
theorem dX11_ranked_22 : decode cX11_ranked 22 = .ok (.if_icmp .ge 25, 3) := by decide +kernel
theorem dX11_ranked_25 : decode cX11_ranked 25 = .ok (.aload_n 0, 1) := by decide +kernel
theorem dX11_ranked_26 : decode cX11_ranked 26 = .ok (.getfield 73, 3) := by decide +kernel
theorem dX11_ranked_29 : decode cX11_ranked 29 = .ok (.bipush 16, 2) := by decide +kernel
theorem dX11_ranked_31 : decode cX11_ranked 31 = .ok (.iload 5, 2) := by decide +kernel
theorem dX11_ranked_33 : decode cX11_ranked 33 = .ok (.imul, 1) := by decide +kernel
theorem dX11_ranked_34 : decode cX11_ranked 34 = .ok (.iload 4, 2) := by decide +kernel
theorem dX11_ranked_36 : decode cX11_ranked 36 = .ok (.iadd, 1) := by decide +kernel
theorem dX11_ranked_37 : decode cX11_ranked 37 = .ok (.iaload, 1) := by decide +kernel
theorem dX11_ranked_38 : decode cX11_ranked 38 = .ok (.ifCond .ne 9, 3) := by decide +kernel
theorem dX11_ranked_41 : decode cX11_ranked 41 = .ok (.iinc 5 1, 3) := by decide +kernel
theorem dX11_ranked_44 : decode cX11_ranked 44 = .ok (.goto (-25), 3) := by decide +kernel
theorem dX11_ranked_47 : decode cX11_ranked 47 = .ok (.iload 5, 2) := by decide +kernel
theorem dX11_ranked_49 : decode cX11_ranked 49 = .ok (.iload_n 1, 1) := by decide +kernel
theorem dX11_ranked_50 : decode cX11_ranked 50 = .ok (.if_icmp .ne 6, 3) := by decide +kernel
theorem dX11_ranked_53 : decode cX11_ranked 53 = .ok (.goto 168, 3) := by decide +kernel
theorem dX11_ranked_56 : decode cX11_ranked 56 = .ok (.iconst 0, 1) := by decide +kernel
theorem dX11_ranked_57 : decode cX11_ranked 57 = .ok (.istore 6, 2) := by decide +kernel
theorem dX11_ranked_59 : decode cX11_ranked 59 = .ok (.iload 6, 2) := by decide +kernel
theorem dX11_ranked_61 : decode cX11_ranked 61 = .ok (.bipush 16, 2) := by decide +kernel
theorem dX11_ranked_63 : decode cX11_ranked 63 = .ok (.if_icmp .ge 63, 3) := by decide +kernel
theorem dX11_ranked_66 : decode cX11_ranked 66 = .ok (.aload_n 0, 1) := by decide +kernel
theorem dX11_ranked_67 : decode cX11_ranked 67 = .ok (.getfield 73, 3) := by decide +kernel
theorem dX11_ranked_70 : decode cX11_ranked 70 = .ok (.bipush 16, 2) := by decide +kernel
theorem dX11_ranked_72 : decode cX11_ranked 72 = .ok (.iload 5, 2) := by decide +kernel
theorem dX11_ranked_74 : decode cX11_ranked 74 = .ok (.imul, 1) := by decide +kernel
theorem dX11_ranked_75 : decode cX11_ranked 75 = .ok (.iload 6, 2) := by decide +kernel
theorem dX11_ranked_77 : decode cX11_ranked 77 = .ok (.iadd, 1) := by decide +kernel
theorem dX11_ranked_78 : decode cX11_ranked 78 = .ok (.iaload, 1) := by decide +kernel
theorem dX11_ranked_79 : decode cX11_ranked 79 = .ok (.istore 7, 2) := by decide +kernel
theorem dX11_ranked_81 : decode cX11_ranked 81 = .ok (.aload_n 0, 1) := by decide +kernel
theorem dX11_ranked_82 : decode cX11_ranked 82 = .ok (.getfield 73, 3) := by decide +kernel
theorem dX11_ranked_85 : decode cX11_ranked 85 = .ok (.bipush 16, 2) := by decide +kernel
theorem dX11_ranked_87 : decode cX11_ranked 87 = .ok (.iload 5, 2) := by decide +kernel
theorem dX11_ranked_89 : decode cX11_ranked 89 = .ok (.imul, 1) := by decide +kernel
theorem dX11_ranked_90 : decode cX11_ranked 90 = .ok (.iload 6, 2) := by decide +kernel
theorem dX11_ranked_92 : decode cX11_ranked 92 = .ok (.iadd, 1) := by decide +kernel
theorem dX11_ranked_93 : decode cX11_ranked 93 = .ok (.aload_n 0, 1) := by decide +kernel
theorem dX11_ranked_94 : decode cX11_ranked 94 = .ok (.getfield 73, 3) := by decide +kernel
theorem dX11_ranked_97 : decode cX11_ranked 97 = .ok (.bipush 16, 2) := by decide +kernel
theorem dX11_ranked_99 : decode cX11_ranked 99 = .ok (.iload_n 3, 1) := by decide +kernel
theorem dX11_ranked_100 : decode cX11_ranked 100 = .ok (.imul, 1) := by decide +kernel
theorem dX11_ranked_101 : decode cX11_ranked 101 = .ok (.iload 6, 2) := by decide +kernel
theorem dX11_ranked_103 : decode cX11_ranked 103 = .ok (.iadd, 1) := by decide +kernel
theorem dX11_ranked_104 : decode cX11_ranked 104 = .ok (.iaload, 1) := by decide +kernel
theorem dX11_ranked_105 : decode cX11_ranked 105 = .ok (.iastore, 1) := by decide +kernel
theorem dX11_ranked_106 : decode cX11_ranked 106 = .ok (.aload_n 0, 1) := by decide +kernel
theorem dX11_ranked_107 : decode cX11_ranked 107 = .ok (.getfield 73, 3) := by decide +kernel
theorem dX11_ranked_110 : decode cX11_ranked 110 = .ok (.bipush 16, 2) := by decide +kernel
theorem dX11_ranked_112 : decode cX11_ranked 112 = .ok (.iload_n 3, 1) := by decide +kernel
theorem dX11_ranked_113 : decode cX11_ranked 113 = .ok (.imul, 1) := by decide +kernel
theorem dX11_ranked_114 : decode cX11_ranked 114 = .ok (.iload 6, 2) := by decide +kernel
theorem dX11_ranked_116 : decode cX11_ranked 116 = .ok (.iadd, 1) := by decide +kernel
theorem dX11_ranked_117 : decode cX11_ranked 117 = .ok (.iload 7, 2) := by decide +kernel
theorem dX11_ranked_119 : decode cX11_ranked 119 = .ok (.iastore, 1) := by decide +kernel
theorem dX11_ranked_120 : decode cX11_ranked 120 = .ok (.iinc 6 1, 3) := by decide +kernel
theorem dX11_ranked_123 : decode cX11_ranked 123 = .ok (.goto (-64), 3) := by decide +kernel
theorem dX11_ranked_126 : decode cX11_ranked 126 = .ok (.aload_n 0, 1) := by decide +kernel
theorem dX11_ranked_127 : decode cX11_ranked 127 = .ok (.aload_n 0, 1) := by decide +kernel
theorem dX11_ranked_128 : decode cX11_ranked 128 = .ok (.getfield 73, 3) := by decide +kernel
theorem dX11_ranked_131 : decode cX11_ranked 131 = .ok (.bipush 16, 2) := by decide +kernel
theorem dX11_ranked_133 : decode cX11_ranked 133 = .ok (.iload_n 3, 1) := by decide +kernel
theorem dX11_ranked_134 : decode cX11_ranked 134 = .ok (.imul, 1) := by decide +kernel
theorem dX11_ranked_135 : decode cX11_ranked 135 = .ok (.iload 4, 2) := by decide +kernel
theorem dX11_ranked_137 : decode cX11_ranked 137 = .ok (.iadd, 1) := by decide +kernel
theorem dX11_ranked_138 : decode cX11_ranked 138 = .ok (.iaload, 1) := by decide +kernel
theorem dX11_ranked_139 : decode cX11_ranked 139 = .ok (.invokevirtual 282, 3) := by decide +kernel
theorem dX11_ranked_142 : decode cX11_ranked 142 = .ok (.istore 6, 2) := by decide +kernel
theorem dX11_ranked_144 : decode cX11_ranked 144 = .ok (.iconst 0, 1) := by decide +kernel
theorem dX11_ranked_145 : decode cX11_ranked 145 = .ok (.istore 7, 2) := by decide +kernel
theorem dX11_ranked_147 : decode cX11_ranked 147 = .ok (.iload 7, 2) := by decide +kernel
theorem dX11_ranked_149 : decode cX11_ranked 149 = .ok (.bipush 16, 2) := by decide +kernel
theorem dX11_ranked_151 : decode cX11_ranked 151 = .ok (.if_icmp .ge 41, 3) := by decide +kernel
theorem dX11_ranked_154 : decode cX11_ranked 154 = .ok (.aload_n 0, 1) := by decide +kernel
theorem dX11_ranked_155 : decode cX11_ranked 155 = .ok (.getfield 73, 3) := by decide +kernel
theorem dX11_ranked_158 : decode cX11_ranked 158 = .ok (.bipush 16, 2) := by decide +kernel
theorem dX11_ranked_160 : decode cX11_ranked 160 = .ok (.iload_n 3, 1) := by decide +kernel
theorem dX11_ranked_161 : decode cX11_ranked 161 = .ok (.imul, 1) := by decide +kernel
theorem dX11_ranked_162 : decode cX11_ranked 162 = .ok (.iload 7, 2) := by decide +kernel
theorem dX11_ranked_164 : decode cX11_ranked 164 = .ok (.iadd, 1) := by decide +kernel
theorem dX11_ranked_165 : decode cX11_ranked 165 = .ok (.aload_n 0, 1) := by decide +kernel
theorem dX11_ranked_166 : decode cX11_ranked 166 = .ok (.getfield 73, 3) := by decide +kernel
theorem dX11_ranked_169 : decode cX11_ranked 169 = .ok (.bipush 16, 2) := by decide +kernel
theorem dX11_ranked_171 : decode cX11_ranked 171 = .ok (.iload_n 3, 1) := by decide +kernel
theorem dX11_ranked_172 : decode cX11_ranked 172 = .ok (.imul, 1) := by decide +kernel
theorem dX11_ranked_173 : decode cX11_ranked 173 = .ok (.iload 7, 2) := by decide +kernel
theorem dX11_ranked_175 : decode cX11_ranked 175 = .ok (.iadd, 1) := by decide +kernel
theorem dX11_ranked_176 : decode cX11_ranked 176 = .ok (.iaload, 1) := by decide +kernel
theorem dX11_ranked_177 : decode cX11_ranked 177 = .ok (.iload 6, 2) := by decide +kernel
theorem dX11_ranked_179 : decode cX11_ranked 179 = .ok (.imul, 1) := by decide +kernel
theorem dX11_ranked_180 : decode cX11_ranked 180 = .ok (.aload_n 0, 1) := by decide +kernel
theorem dX11_ranked_181 : decode cX11_ranked 181 = .ok (.invokevirtual 266, 3) := by decide +kernel
theorem dX11_ranked_184 : decode cX11_ranked 184 = .ok (.irem, 1) := by decide +kernel
theorem dX11_ranked_185 : decode cX11_ranked 185 = .ok (.iastore, 1) := by decide +kernel
theorem dX11_ranked_186 : decode cX11_ranked 186 = .ok (.iinc 7 1, 3) := by decide +kernel
theorem dX11_ranked_189 : decode cX11_ranked 189 = .ok (.goto (-42), 3) := by decide +kernel
theorem dX11_ranked_192 : decode cX11_ranked 192 = .ok (.iload_n 3, 1) := by decide +kernel
theorem dX11_ranked_193 : decode cX11_ranked 193 = .ok (.iconst 1, 1) := by decide +kernel
theorem dX11_ranked_194 : decode cX11_ranked 194 = .ok (.iadd, 1) := by decide +kernel
theorem dX11_ranked_195 : decode cX11_ranked 195 = .ok (.istore 7, 2) := by decide +kernel
theorem dX11_ranked_197 : decode cX11_ranked 197 = .ok (.iload 7, 2) := by decide +kernel
theorem dX11_ranked_199 : decode cX11_ranked 199 = .ok (.iload_n 1, 1) := by decide +kernel
theorem dX11_ranked_200 : decode cX11_ranked 200 = .ok (.if_icmp .ge 18, 3) := by decide +kernel
theorem dX11_ranked_203 : decode cX11_ranked 203 = .ok (.aload_n 0, 1) := by decide +kernel
theorem dX11_ranked_204 : decode cX11_ranked 204 = .ok (.iload_n 3, 1) := by decide +kernel
theorem dX11_ranked_205 : decode cX11_ranked 205 = .ok (.iload 7, 2) := by decide +kernel
theorem dX11_ranked_207 : decode cX11_ranked 207 = .ok (.iload 4, 2) := by decide +kernel
theorem dX11_ranked_209 : decode cX11_ranked 209 = .ok (.invokevirtual 285, 3) := by decide +kernel
theorem dX11_ranked_212 : decode cX11_ranked 212 = .ok (.iinc 7 1, 3) := by decide +kernel
theorem dX11_ranked_215 : decode cX11_ranked 215 = .ok (.goto (-18), 3) := by decide +kernel
theorem dX11_ranked_218 : decode cX11_ranked 218 = .ok (.iinc 3 1, 3) := by decide +kernel
theorem dX11_ranked_221 : decode cX11_ranked 221 = .ok (.iinc 4 1, 3) := by decide +kernel
theorem dX11_ranked_224 : decode cX11_ranked 224 = .ok (.goto (-219), 3) := by decide +kernel
theorem dX11_ranked_227 : decode cX11_ranked 227 = .ok (.iload_n 3, 1) := by decide +kernel
theorem dX11_ranked_228 : decode cX11_ranked 228 = .ok (.ireturn, 1) := by decide +kernel
theorem dX11_rank_0 : decode cX11_rank 0 = .ok (.aload_n 0, 1) := by decide +kernel
theorem dX11_rank_1 : decode cX11_rank 1 = .ok (.iconst 0, 1) := by decide +kernel
theorem dX11_rank_2 : decode cX11_rank 2 = .ok (.putfield 88, 3) := by decide +kernel
theorem dX11_rank_5 : decode cX11_rank 5 = .ok (.aload_n 0, 1) := by decide +kernel
theorem dX11_rank_6 : decode cX11_rank 6 = .ok (.iload_n 1, 1) := by decide +kernel
theorem dX11_rank_7 : decode cX11_rank 7 = .ok (.invokevirtual 260, 3) := by decide +kernel
theorem dX11_rank_10 : decode cX11_rank 10 = .ok (.ifCond .eq 23, 3) := by decide +kernel
theorem dX11_rank_13 : decode cX11_rank 13 = .ok (.iload_n 2, 1) := by decide +kernel
theorem dX11_rank_14 : decode cX11_rank 14 = .ok (.i2l, 1) := by decide +kernel
theorem dX11_rank_15 : decode cX11_rank 15 = .ok (.lconst 0, 1) := by decide +kernel
theorem dX11_rank_16 : decode cX11_rank 16 = .ok (.iconst 1, 1) := by decide +kernel
theorem dX11_rank_17 : decode cX11_rank 17 = .ok (.aload_n 0, 1) := by decide +kernel
theorem dX11_rank_18 : decode cX11_rank 18 = .ok (.getfield 36, 3) := by decide +kernel
theorem dX11_rank_21 : decode cX11_rank 21 = .ok (.iload_n 1, 1) := by decide +kernel
theorem dX11_rank_22 : decode cX11_rank 22 = .ok (.iaload, 1) := by decide +kernel
theorem dX11_rank_23 : decode cX11_rank 23 = .ok (.ishl, 1) := by decide +kernel
theorem dX11_rank_24 : decode cX11_rank 24 = .ok (.iconst 1, 1) := by decide +kernel
theorem dX11_rank_25 : decode cX11_rank 25 = .ok (.isub, 1) := by decide +kernel
theorem dX11_rank_26 : decode cX11_rank 26 = .ok (.i2l, 1) := by decide +kernel
theorem dX11_rank_27 : decode cX11_rank 27 = .ok (.invokestatic 126, 3) := by decide +kernel
theorem dX11_rank_30 : decode cX11_rank 30 = .ok (.ifCond .ne 5, 3) := by decide +kernel
theorem dX11_rank_33 : decode cX11_rank 33 = .ok (.iconst (-1), 1) := by decide +kernel
theorem dX11_rank_34 : decode cX11_rank 34 = .ok (.ireturn, 1) := by decide +kernel
theorem dX11_rank_35 : decode cX11_rank 35 = .ok (.aload_n 0, 1) := by decide +kernel
theorem dX11_rank_36 : decode cX11_rank 36 = .ok (.getfield 36, 3) := by decide +kernel
theorem dX11_rank_39 : decode cX11_rank 39 = .ok (.iload_n 1, 1) := by decide +kernel
theorem dX11_rank_40 : decode cX11_rank 40 = .ok (.iaload, 1) := by decide +kernel
theorem dX11_rank_41 : decode cX11_rank 41 = .ok (.istore_n 3, 1) := by decide +kernel
theorem dX11_rank_42 : decode cX11_rank 42 = .ok (.iconst 1, 1) := by decide +kernel
theorem dX11_rank_43 : decode cX11_rank 43 = .ok (.iload_n 2, 1) := by decide +kernel
theorem dX11_rank_44 : decode cX11_rank 44 = .ok (.invokestatic 263, 3) := by decide +kernel
theorem dX11_rank_47 : decode cX11_rank 47 = .ok (.ishl, 1) := by decide +kernel
theorem dX11_rank_48 : decode cX11_rank 48 = .ok (.istore 4, 2) := by decide +kernel
theorem dX11_rank_50 : decode cX11_rank 50 = .ok (.iconst 1, 1) := by decide +kernel
theorem dX11_rank_51 : decode cX11_rank 51 = .ok (.iload_n 3, 1) := by decide +kernel
theorem dX11_rank_52 : decode cX11_rank 52 = .ok (.iload_n 2, 1) := by decide +kernel
theorem dX11_rank_53 : decode cX11_rank 53 = .ok (.invokestatic 263, 3) := by decide +kernel
theorem dX11_rank_56 : decode cX11_rank 56 = .ok (.isub, 1) := by decide +kernel
theorem dX11_rank_57 : decode cX11_rank 57 = .ok (.ishl, 1) := by decide +kernel
theorem dX11_rank_58 : decode cX11_rank 58 = .ok (.istore 5, 2) := by decide +kernel
theorem dX11_rank_60 : decode cX11_rank 60 = .ok (.iconst 0, 1) := by decide +kernel
theorem dX11_rank_61 : decode cX11_rank 61 = .ok (.istore 6, 2) := by decide +kernel
theorem dX11_rank_63 : decode cX11_rank 63 = .ok (.iload 6, 2) := by decide +kernel
theorem dX11_rank_65 : decode cX11_rank 65 = .ok (.sipush 256, 3) := by decide +kernel
theorem dX11_rank_68 : decode cX11_rank 68 = .ok (.if_icmp .ge 17, 3) := by decide +kernel
theorem dX11_rank_71 : decode cX11_rank 71 = .ok (.aload_n 0, 1) := by decide +kernel
theorem dX11_rank_72 : decode cX11_rank 72 = .ok (.getfield 73, 3) := by decide +kernel
theorem dX11_rank_75 : decode cX11_rank 75 = .ok (.iload 6, 2) := by decide +kernel
theorem dX11_rank_77 : decode cX11_rank 77 = .ok (.iconst 0, 1) := by decide +kernel
theorem dX11_rank_78 : decode cX11_rank 78 = .ok (.iastore, 1) := by decide +kernel
theorem dX11_rank_79 : decode cX11_rank 79 = .ok (.iinc 6 1, 3) := by decide +kernel
theorem dX11_rank_82 : decode cX11_rank 82 = .ok (.goto (-19), 3) := by decide +kernel
theorem dX11_rank_85 : decode cX11_rank 85 = .ok (.iconst 0, 1) := by decide +kernel
theorem dX11_rank_86 : decode cX11_rank 86 = .ok (.istore 6, 2) := by decide +kernel
theorem dX11_rank_88 : decode cX11_rank 88 = .ok (.iload 6, 2) := by decide +kernel
theorem dX11_rank_90 : decode cX11_rank 90 = .ok (.iload 4, 2) := by decide +kernel
theorem dX11_rank_92 : decode cX11_rank 92 = .ok (.if_icmp .ge 71, 3) := by decide +kernel
theorem dX11_rank_95 : decode cX11_rank 95 = .ok (.iconst 0, 1) := by decide +kernel
theorem dX11_rank_96 : decode cX11_rank 96 = .ok (.istore 7, 2) := by decide +kernel
theorem dX11_rank_98 : decode cX11_rank 98 = .ok (.iload 7, 2) := by decide +kernel
theorem dX11_rank_100 : decode cX11_rank 100 = .ok (.iload 5, 2) := by decide +kernel
theorem dX11_rank_102 : decode cX11_rank 102 = .ok (.if_icmp .ge 55, 3) := by decide +kernel
theorem dX11_rank_105 : decode cX11_rank 105 = .ok (.aload_n 0, 1) := by decide +kernel
theorem dX11_rank_106 : decode cX11_rank 106 = .ok (.getfield 73, 3) := by decide +kernel
theorem dX11_rank_109 : decode cX11_rank 109 = .ok (.bipush 16, 2) := by decide +kernel
theorem dX11_rank_111 : decode cX11_rank 111 = .ok (.iload 6, 2) := by decide +kernel
theorem dX11_rank_113 : decode cX11_rank 113 = .ok (.imul, 1) := by decide +kernel
theorem dX11_rank_114 : decode cX11_rank 114 = .ok (.iload 7, 2) := by decide +kernel
theorem dX11_rank_116 : decode cX11_rank 116 = .ok (.iadd, 1) := by decide +kernel
theorem dX11_rank_117 : decode cX11_rank 117 = .ok (.aload_n 0, 1) := by decide +kernel
theorem dX11_rank_118 : decode cX11_rank 118 = .ok (.getfield 39, 3) := by decide +kernel
theorem dX11_rank_121 : decode cX11_rank 121 = .ok (.bipush 16, 2) := by decide +kernel
theorem dX11_rank_123 : decode cX11_rank 123 = .ok (.iload_n 1, 1) := by decide +kernel
theorem dX11_rank_124 : decode cX11_rank 124 = .ok (.imul, 1) := by decide +kernel
theorem dX11_rank_125 : decode cX11_rank 125 = .ok (.iload 6, 2) := by decide +kernel
theorem dX11_rank_127 : decode cX11_rank 127 = .ok (.iload_n 2, 1) := by decide +kernel
theorem dX11_rank_128 : decode cX11_rank 128 = .ok (.iload_n 3, 1) := by decide +kernel
theorem dX11_rank_129 : decode cX11_rank 129 = .ok (.invokestatic 289, 3) := by decide +kernel
theorem dX11_rank_132 : decode cX11_rank 132 = .ok (.iload 7, 2) := by decide +kernel
theorem dX11_rank_134 : decode cX11_rank 134 = .ok (.iconst 1, 1) := by decide +kernel
theorem dX11_rank_135 : decode cX11_rank 135 = .ok (.iload_n 3, 1) := by decide +kernel
theorem dX11_rank_136 : decode cX11_rank 136 = .ok (.ishl, 1) := by decide +kernel
theorem dX11_rank_137 : decode cX11_rank 137 = .ok (.iconst 1, 1) := by decide +kernel
theorem dX11_rank_138 : decode cX11_rank 138 = .ok (.isub, 1) := by decide +kernel
theorem dX11_rank_139 : decode cX11_rank 139 = .ok (.iload_n 2, 1) := by decide +kernel
theorem dX11_rank_140 : decode cX11_rank 140 = .ok (.iconst (-1), 1) := by decide +kernel
theorem dX11_rank_141 : decode cX11_rank 141 = .ok (.ixor, 1) := by decide +kernel
theorem dX11_rank_142 : decode cX11_rank 142 = .ok (.iand, 1) := by decide +kernel
theorem dX11_rank_143 : decode cX11_rank 143 = .ok (.iload_n 3, 1) := by decide +kernel
theorem dX11_rank_144 : decode cX11_rank 144 = .ok (.invokestatic 289, 3) := by decide +kernel
theorem dX11_rank_147 : decode cX11_rank 147 = .ok (.ior, 1) := by decide +kernel
theorem dX11_rank_148 : decode cX11_rank 148 = .ok (.iadd, 1) := by decide +kernel
theorem dX11_rank_149 : decode cX11_rank 149 = .ok (.iaload, 1) := by decide +kernel
theorem dX11_rank_150 : decode cX11_rank 150 = .ok (.iastore, 1) := by decide +kernel
theorem dX11_rank_151 : decode cX11_rank 151 = .ok (.iinc 7 1, 3) := by decide +kernel
theorem dX11_rank_154 : decode cX11_rank 154 = .ok (.goto (-56), 3) := by decide +kernel
theorem dX11_rank_157 : decode cX11_rank 157 = .ok (.iinc 6 1, 3) := by decide +kernel
theorem dX11_rank_160 : decode cX11_rank 160 = .ok (.goto (-72), 3) := by decide +kernel
theorem dX11_rank_163 : decode cX11_rank 163 = .ok (.aload_n 0, 1) := by decide +kernel
theorem dX11_rank_164 : decode cX11_rank 164 = .ok (.iload 4, 2) := by decide +kernel
theorem dX11_rank_166 : decode cX11_rank 166 = .ok (.iload 5, 2) := by decide +kernel
theorem dX11_rank_168 : decode cX11_rank 168 = .ok (.invokevirtual 293, 3) := by decide +kernel
theorem dX11_rank_171 : decode cX11_rank 171 = .ok (.ireturn, 1) := by decide +kernel
theorem dX11_det_0 : decode cX11_det 0 = .ok (.aload_n 0, 1) := by decide +kernel
theorem dX11_det_1 : decode cX11_det 1 = .ok (.getfield 42, 3) := by decide +kernel
theorem dX11_det_4 : decode cX11_det 4 = .ok (.iconst 4, 1) := by decide +kernel
theorem dX11_det_5 : decode cX11_det 5 = .ok (.iload_n 1, 1) := by decide +kernel
theorem dX11_det_6 : decode cX11_det 6 = .ok (.imul, 1) := by decide +kernel
theorem dX11_det_7 : decode cX11_det 7 = .ok (.iaload, 1) := by decide +kernel
theorem dX11_det_8 : decode cX11_det 8 = .ok (.aload_n 0, 1) := by decide +kernel
theorem dX11_det_9 : decode cX11_det 9 = .ok (.getfield 42, 3) := by decide +kernel
theorem dX11_det_12 : decode cX11_det 12 = .ok (.iconst 4, 1) := by decide +kernel
theorem dX11_det_13 : decode cX11_det 13 = .ok (.iload_n 1, 1) := by decide +kernel
theorem dX11_det_14 : decode cX11_det 14 = .ok (.imul, 1) := by decide +kernel
theorem dX11_det_15 : decode cX11_det 15 = .ok (.iconst 3, 1) := by decide +kernel
theorem dX11_det_16 : decode cX11_det 16 = .ok (.iadd, 1) := by decide +kernel
theorem dX11_det_17 : decode cX11_det 17 = .ok (.iaload, 1) := by decide +kernel
theorem dX11_det_18 : decode cX11_det 18 = .ok (.imul, 1) := by decide +kernel
theorem dX11_det_19 : decode cX11_det 19 = .ok (.aload_n 0, 1) := by decide +kernel
theorem dX11_det_20 : decode cX11_det 20 = .ok (.getfield 42, 3) := by decide +kernel
theorem dX11_det_23 : decode cX11_det 23 = .ok (.iconst 4, 1) := by decide +kernel
theorem dX11_det_24 : decode cX11_det 24 = .ok (.iload_n 1, 1) := by decide +kernel
theorem dX11_det_25 : decode cX11_det 25 = .ok (.imul, 1) := by decide +kernel
theorem dX11_det_26 : decode cX11_det 26 = .ok (.iconst 1, 1) := by decide +kernel
theorem dX11_det_27 : decode cX11_det 27 = .ok (.iadd, 1) := by decide +kernel
theorem dX11_det_28 : decode cX11_det 28 = .ok (.iaload, 1) := by decide +kernel
theorem dX11_det_29 : decode cX11_det 29 = .ok (.aload_n 0, 1) := by decide +kernel
theorem dX11_det_30 : decode cX11_det 30 = .ok (.getfield 42, 3) := by decide +kernel
theorem dX11_det_33 : decode cX11_det 33 = .ok (.iconst 4, 1) := by decide +kernel
theorem dX11_det_34 : decode cX11_det 34 = .ok (.iload_n 1, 1) := by decide +kernel
theorem dX11_det_35 : decode cX11_det 35 = .ok (.imul, 1) := by decide +kernel
theorem dX11_det_36 : decode cX11_det 36 = .ok (.iconst 2, 1) := by decide +kernel
theorem dX11_det_37 : decode cX11_det 37 = .ok (.iadd, 1) := by decide +kernel
theorem dX11_det_38 : decode cX11_det 38 = .ok (.iaload, 1) := by decide +kernel
theorem dX11_det_39 : decode cX11_det 39 = .ok (.imul, 1) := by decide +kernel
theorem dX11_det_40 : decode cX11_det 40 = .ok (.isub, 1) := by decide +kernel
theorem dX11_det_41 : decode cX11_det 41 = .ok (.i2l, 1) := by decide +kernel
theorem dX11_det_42 : decode cX11_det 42 = .ok (.aload_n 0, 1) := by decide +kernel
theorem dX11_det_43 : decode cX11_det 43 = .ok (.invokevirtual 266, 3) := by decide +kernel
theorem dX11_det_46 : decode cX11_det 46 = .ok (.invokestatic 211, 3) := by decide +kernel
theorem dX11_det_49 : decode cX11_det 49 = .ok (.ireturn, 1) := by decide +kernel
theorem dX11_base_0 : decode cX11_base 0 = .ok (.aload_n 0, 1) := by decide +kernel
theorem dX11_base_1 : decode cX11_base 1 = .ok (.aload_n 0, 1) := by decide +kernel
theorem dX11_base_2 : decode cX11_base 2 = .ok (.iload_n 1, 1) := by decide +kernel
theorem dX11_base_3 : decode cX11_base 3 = .ok (.invokevirtual 297, 3) := by decide +kernel
theorem dX11_base_6 : decode cX11_base 6 = .ok (.ifCond .eq 19, 3) := by decide +kernel
theorem dX11_base_9 : decode cX11_base 9 = .ok (.iload_n 2, 1) := by decide +kernel
theorem dX11_base_10 : decode cX11_base 10 = .ok (.i2l, 1) := by decide +kernel
theorem dX11_base_11 : decode cX11_base 11 = .ok (.lconst 0, 1) := by decide +kernel
theorem dX11_base_12 : decode cX11_base 12 = .ok (.ldc2_w 300, 3) := by decide +kernel
theorem dX11_base_15 : decode cX11_base 15 = .ok (.invokestatic 126, 3) := by decide +kernel
theorem dX11_base_18 : decode cX11_base 18 = .ok (.ifCond .eq 7, 3) := by decide +kernel
theorem dX11_base_21 : decode cX11_base 21 = .ok (.iconst 0, 1) := by decide +kernel
theorem dX11_base_22 : decode cX11_base 22 = .ok (.goto 4, 3) := by decide +kernel
theorem dX11_base_25 : decode cX11_base 25 = .ok (.iconst 1, 1) := by decide +kernel
theorem dX11_base_26 : decode cX11_base 26 = .ok (.putfield 88, 3) := by decide +kernel
theorem dX11_base_29 : decode cX11_base 29 = .ok (.aload_n 0, 1) := by decide +kernel
theorem dX11_base_30 : decode cX11_base 30 = .ok (.getfield 88, 3) := by decide +kernel
theorem dX11_base_33 : decode cX11_base 33 = .ok (.iconst 1, 1) := by decide +kernel
theorem dX11_base_34 : decode cX11_base 34 = .ok (.if_icmp .ne 5, 3) := by decide +kernel
theorem dX11_base_37 : decode cX11_base 37 = .ok (.iconst 0, 1) := by decide +kernel
theorem dX11_base_38 : decode cX11_base 38 = .ok (.ireturn, 1) := by decide +kernel
theorem dX11_base_39 : decode cX11_base 39 = .ok (.iload_n 2, 1) := by decide +kernel
theorem dX11_base_40 : decode cX11_base 40 = .ok (.iconst 4, 1) := by decide +kernel
theorem dX11_base_41 : decode cX11_base 41 = .ok (.if_icmp .ge 16, 3) := by decide +kernel
theorem dX11_base_44 : decode cX11_base 44 = .ok (.aload_n 0, 1) := by decide +kernel
theorem dX11_base_45 : decode cX11_base 45 = .ok (.getfield 42, 3) := by decide +kernel
theorem dX11_base_48 : decode cX11_base 48 = .ok (.iconst 4, 1) := by decide +kernel
theorem dX11_base_49 : decode cX11_base 49 = .ok (.iload_n 1, 1) := by decide +kernel
theorem dX11_base_50 : decode cX11_base 50 = .ok (.imul, 1) := by decide +kernel
theorem dX11_base_51 : decode cX11_base 51 = .ok (.iload_n 2, 1) := by decide +kernel
theorem dX11_base_52 : decode cX11_base 52 = .ok (.iadd, 1) := by decide +kernel
theorem dX11_base_53 : decode cX11_base 53 = .ok (.iaload, 1) := by decide +kernel
theorem dX11_base_54 : decode cX11_base 54 = .ok (.goto 8, 3) := by decide +kernel
theorem dX11_base_57 : decode cX11_base 57 = .ok (.aload_n 0, 1) := by decide +kernel
theorem dX11_base_58 : decode cX11_base 58 = .ok (.iload_n 1, 1) := by decide +kernel
theorem dX11_base_59 : decode cX11_base 59 = .ok (.invokevirtual 302, 3) := by decide +kernel
theorem dX11_base_62 : decode cX11_base 62 = .ok (.ireturn, 1) := by decide +kernel
theorem dX11_changes_0 : decode cX11_changes 0 = .ok (.iconst 0, 1) := by decide +kernel
theorem dX11_changes_1 : decode cX11_changes 1 = .ok (.istore 9, 2) := by decide +kernel
theorem dX11_changes_3 : decode cX11_changes 3 = .ok (.iload 9, 2) := by decide +kernel
theorem dX11_changes_5 : decode cX11_changes 5 = .ok (.iconst 1, 1) := by decide +kernel
theorem dX11_changes_6 : decode cX11_changes 6 = .ok (.iload_n 3, 1) := by decide +kernel
theorem dX11_changes_7 : decode cX11_changes 7 = .ok (.ishl, 1) := by decide +kernel
theorem dX11_changes_8 : decode cX11_changes 8 = .ok (.if_icmp .ge 99, 3) := by decide +kernel
theorem dX11_changes_11 : decode cX11_changes 11 = .ok (.iload 9, 2) := by decide +kernel
theorem dX11_changes_13 : decode cX11_changes 13 = .ok (.iload 4, 2) := by decide +kernel
theorem dX11_changes_15 : decode cX11_changes 15 = .ok (.ishr, 1) := by decide +kernel
theorem dX11_changes_16 : decode cX11_changes 16 = .ok (.iconst 1, 1) := by decide +kernel
theorem dX11_changes_17 : decode cX11_changes 17 = .ok (.iand, 1) := by decide +kernel
theorem dX11_changes_18 : decode cX11_changes 18 = .ok (.iconst 1, 1) := by decide +kernel
theorem dX11_changes_19 : decode cX11_changes 19 = .ok (.if_icmp .ne 6, 3) := by decide +kernel
theorem dX11_changes_22 : decode cX11_changes 22 = .ok (.goto 79, 3) := by decide +kernel
theorem dX11_changes_25 : decode cX11_changes 25 = .ok (.aload_n 1, 1) := by decide +kernel
theorem dX11_changes_26 : decode cX11_changes 26 = .ok (.iload_n 2, 1) := by decide +kernel
theorem dX11_changes_27 : decode cX11_changes 27 = .ok (.iload 9, 2) := by decide +kernel
theorem dX11_changes_29 : decode cX11_changes 29 = .ok (.iadd, 1) := by decide +kernel
theorem dX11_changes_30 : decode cX11_changes 30 = .ok (.iaload, 1) := by decide +kernel
theorem dX11_changes_31 : decode cX11_changes 31 = .ok (.istore 10, 2) := by decide +kernel
theorem dX11_changes_33 : decode cX11_changes 33 = .ok (.aload_n 1, 1) := by decide +kernel
theorem dX11_changes_34 : decode cX11_changes 34 = .ok (.iload_n 2, 1) := by decide +kernel
theorem dX11_changes_35 : decode cX11_changes 35 = .ok (.iload 9, 2) := by decide +kernel
theorem dX11_changes_37 : decode cX11_changes 37 = .ok (.iconst 1, 1) := by decide +kernel
theorem dX11_changes_38 : decode cX11_changes 38 = .ok (.iload 4, 2) := by decide +kernel
theorem dX11_changes_40 : decode cX11_changes 40 = .ok (.ishl, 1) := by decide +kernel
theorem dX11_changes_41 : decode cX11_changes 41 = .ok (.ior, 1) := by decide +kernel
theorem dX11_changes_42 : decode cX11_changes 42 = .ok (.iadd, 1) := by decide +kernel
theorem dX11_changes_43 : decode cX11_changes 43 = .ok (.iaload, 1) := by decide +kernel
theorem dX11_changes_44 : decode cX11_changes 44 = .ok (.istore 11, 2) := by decide +kernel
theorem dX11_changes_46 : decode cX11_changes 46 = .ok (.aload_n 1, 1) := by decide +kernel
theorem dX11_changes_47 : decode cX11_changes 47 = .ok (.iload_n 2, 1) := by decide +kernel
theorem dX11_changes_48 : decode cX11_changes 48 = .ok (.iload 9, 2) := by decide +kernel
theorem dX11_changes_50 : decode cX11_changes 50 = .ok (.iadd, 1) := by decide +kernel
theorem dX11_changes_51 : decode cX11_changes 51 = .ok (.iload 5, 2) := by decide +kernel
theorem dX11_changes_53 : decode cX11_changes 53 = .ok (.iload 10, 2) := by decide +kernel
theorem dX11_changes_55 : decode cX11_changes 55 = .ok (.imul, 1) := by decide +kernel
theorem dX11_changes_56 : decode cX11_changes 56 = .ok (.iload 6, 2) := by decide +kernel
theorem dX11_changes_58 : decode cX11_changes 58 = .ok (.iload 11, 2) := by decide +kernel
theorem dX11_changes_60 : decode cX11_changes 60 = .ok (.imul, 1) := by decide +kernel
theorem dX11_changes_61 : decode cX11_changes 61 = .ok (.iadd, 1) := by decide +kernel
theorem dX11_changes_62 : decode cX11_changes 62 = .ok (.i2l, 1) := by decide +kernel
theorem dX11_changes_63 : decode cX11_changes 63 = .ok (.aload_n 0, 1) := by decide +kernel
theorem dX11_changes_64 : decode cX11_changes 64 = .ok (.invokevirtual 266, 3) := by decide +kernel
theorem dX11_changes_67 : decode cX11_changes 67 = .ok (.invokestatic 211, 3) := by decide +kernel
theorem dX11_changes_70 : decode cX11_changes 70 = .ok (.iastore, 1) := by decide +kernel
theorem dX11_changes_71 : decode cX11_changes 71 = .ok (.aload_n 1, 1) := by decide +kernel
theorem dX11_changes_72 : decode cX11_changes 72 = .ok (.iload_n 2, 1) := by decide +kernel
theorem dX11_changes_73 : decode cX11_changes 73 = .ok (.iload 9, 2) := by decide +kernel
theorem dX11_changes_75 : decode cX11_changes 75 = .ok (.iconst 1, 1) := by decide +kernel
theorem dX11_changes_76 : decode cX11_changes 76 = .ok (.iload 4, 2) := by decide +kernel
theorem dX11_changes_78 : decode cX11_changes 78 = .ok (.ishl, 1) := by decide +kernel
theorem dX11_changes_79 : decode cX11_changes 79 = .ok (.ior, 1) := by decide +kernel
theorem dX11_changes_80 : decode cX11_changes 80 = .ok (.iadd, 1) := by decide +kernel
theorem dX11_changes_81 : decode cX11_changes 81 = .ok (.iload 7, 2) := by decide +kernel
theorem dX11_changes_83 : decode cX11_changes 83 = .ok (.iload 10, 2) := by decide +kernel
theorem dX11_changes_85 : decode cX11_changes 85 = .ok (.imul, 1) := by decide +kernel
theorem dX11_changes_86 : decode cX11_changes 86 = .ok (.iload 8, 2) := by decide +kernel
theorem dX11_changes_88 : decode cX11_changes 88 = .ok (.iload 11, 2) := by decide +kernel
theorem dX11_changes_90 : decode cX11_changes 90 = .ok (.imul, 1) := by decide +kernel
theorem dX11_changes_91 : decode cX11_changes 91 = .ok (.iadd, 1) := by decide +kernel
theorem dX11_changes_92 : decode cX11_changes 92 = .ok (.i2l, 1) := by decide +kernel
theorem dX11_changes_93 : decode cX11_changes 93 = .ok (.aload_n 0, 1) := by decide +kernel
theorem dX11_changes_94 : decode cX11_changes 94 = .ok (.invokevirtual 266, 3) := by decide +kernel
theorem dX11_changes_97 : decode cX11_changes 97 = .ok (.invokestatic 211, 3) := by decide +kernel
theorem dX11_changes_100 : decode cX11_changes 100 = .ok (.iastore, 1) := by decide +kernel
theorem dX11_changes_101 : decode cX11_changes 101 = .ok (.iinc 9 1, 3) := by decide +kernel
theorem dX11_changes_104 : decode cX11_changes 104 = .ok (.goto (-101), 3) := by decide +kernel
theorem dX11_changes_107 : decode cX11_changes 107 = .ok (.return_, 1) := by decide +kernel
theorem dX11_laysBased_0 : decode cX11_laysBased 0 = .ok (.aload_n 0, 1) := by decide +kernel
theorem dX11_laysBased_1 : decode cX11_laysBased 1 = .ok (.iload_n 1, 1) := by decide +kernel
theorem dX11_laysBased_2 : decode cX11_laysBased 2 = .ok (.invokevirtual 276, 3) := by decide +kernel
theorem dX11_laysBased_5 : decode cX11_laysBased 5 = .ok (.iconst 0, 1) := by decide +kernel
theorem dX11_laysBased_6 : decode cX11_laysBased 6 = .ok (.istore 6, 2) := by decide +kernel
theorem dX11_laysBased_8 : decode cX11_laysBased 8 = .ok (.iload 6, 2) := by decide +kernel
theorem dX11_laysBased_10 : decode cX11_laysBased 10 = .ok (.aload_n 0, 1) := by decide +kernel
theorem dX11_laysBased_11 : decode cX11_laysBased 11 = .ok (.getfield 257, 3) := by decide +kernel
theorem dX11_laysBased_14 : decode cX11_laysBased 14 = .ok (.if_icmp .ge 30, 3) := by decide +kernel
theorem dX11_laysBased_17 : decode cX11_laysBased 17 = .ok (.aload_n 0, 1) := by decide +kernel
theorem dX11_laysBased_18 : decode cX11_laysBased 18 = .ok (.aload_n 0, 1) := by decide +kernel
theorem dX11_laysBased_19 : decode cX11_laysBased 19 = .ok (.getfield 70, 3) := by decide +kernel
theorem dX11_laysBased_22 : decode cX11_laysBased 22 = .ok (.iconst 0, 1) := by decide +kernel
theorem dX11_laysBased_23 : decode cX11_laysBased 23 = .ok (.aload_n 0, 1) := by decide +kernel
theorem dX11_laysBased_24 : decode cX11_laysBased 24 = .ok (.getfield 257, 3) := by decide +kernel
theorem dX11_laysBased_27 : decode cX11_laysBased 27 = .ok (.iload 6, 2) := by decide +kernel
theorem dX11_laysBased_29 : decode cX11_laysBased 29 = .ok (.iload_n 2, 1) := by decide +kernel
theorem dX11_laysBased_30 : decode cX11_laysBased 30 = .ok (.iload_n 3, 1) := by decide +kernel
theorem dX11_laysBased_31 : decode cX11_laysBased 31 = .ok (.iload 4, 2) := by decide +kernel
theorem dX11_laysBased_33 : decode cX11_laysBased 33 = .ok (.iload 5, 2) := by decide +kernel
theorem dX11_laysBased_35 : decode cX11_laysBased 35 = .ok (.invokevirtual 305, 3) := by decide +kernel
theorem dX11_laysBased_38 : decode cX11_laysBased 38 = .ok (.iinc 6 1, 3) := by decide +kernel
theorem dX11_laysBased_41 : decode cX11_laysBased 41 = .ok (.goto (-33), 3) := by decide +kernel
theorem dX11_laysBased_44 : decode cX11_laysBased 44 = .ok (.return_, 1) := by decide +kernel
theorem dX11_laysBasedBy_0 : decode cX11_laysBasedBy 0 = .ok (.aload_n 0, 1) := by decide +kernel
theorem dX11_laysBasedBy_1 : decode cX11_laysBasedBy 1 = .ok (.iload_n 1, 1) := by decide +kernel
theorem dX11_laysBasedBy_2 : decode cX11_laysBasedBy 2 = .ok (.aload_n 0, 1) := by decide +kernel
theorem dX11_laysBasedBy_3 : decode cX11_laysBasedBy 3 = .ok (.getfield 42, 3) := by decide +kernel
theorem dX11_laysBasedBy_6 : decode cX11_laysBasedBy 6 = .ok (.iconst 4, 1) := by decide +kernel
theorem dX11_laysBasedBy_7 : decode cX11_laysBasedBy 7 = .ok (.iload_n 2, 1) := by decide +kernel
theorem dX11_laysBasedBy_8 : decode cX11_laysBasedBy 8 = .ok (.imul, 1) := by decide +kernel
theorem dX11_laysBasedBy_9 : decode cX11_laysBasedBy 9 = .ok (.iaload, 1) := by decide +kernel
theorem dX11_laysBasedBy_10 : decode cX11_laysBasedBy 10 = .ok (.aload_n 0, 1) := by decide +kernel
theorem dX11_laysBasedBy_11 : decode cX11_laysBasedBy 11 = .ok (.getfield 42, 3) := by decide +kernel
theorem dX11_laysBasedBy_14 : decode cX11_laysBasedBy 14 = .ok (.iconst 4, 1) := by decide +kernel
theorem dX11_laysBasedBy_15 : decode cX11_laysBasedBy 15 = .ok (.iload_n 2, 1) := by decide +kernel
theorem dX11_laysBasedBy_16 : decode cX11_laysBasedBy 16 = .ok (.imul, 1) := by decide +kernel
theorem dX11_laysBasedBy_17 : decode cX11_laysBasedBy 17 = .ok (.iconst 1, 1) := by decide +kernel
theorem dX11_laysBasedBy_18 : decode cX11_laysBasedBy 18 = .ok (.iadd, 1) := by decide +kernel
theorem dX11_laysBasedBy_19 : decode cX11_laysBasedBy 19 = .ok (.iaload, 1) := by decide +kernel
theorem dX11_laysBasedBy_20 : decode cX11_laysBasedBy 20 = .ok (.aload_n 0, 1) := by decide +kernel
theorem dX11_laysBasedBy_21 : decode cX11_laysBasedBy 21 = .ok (.getfield 42, 3) := by decide +kernel
theorem dX11_laysBasedBy_24 : decode cX11_laysBasedBy 24 = .ok (.iconst 4, 1) := by decide +kernel
theorem dX11_laysBasedBy_25 : decode cX11_laysBasedBy 25 = .ok (.iload_n 2, 1) := by decide +kernel
theorem dX11_laysBasedBy_26 : decode cX11_laysBasedBy 26 = .ok (.imul, 1) := by decide +kernel
theorem dX11_laysBasedBy_27 : decode cX11_laysBasedBy 27 = .ok (.iconst 2, 1) := by decide +kernel
theorem dX11_laysBasedBy_28 : decode cX11_laysBasedBy 28 = .ok (.iadd, 1) := by decide +kernel
theorem dX11_laysBasedBy_29 : decode cX11_laysBasedBy 29 = .ok (.iaload, 1) := by decide +kernel
theorem dX11_laysBasedBy_30 : decode cX11_laysBasedBy 30 = .ok (.aload_n 0, 1) := by decide +kernel
theorem dX11_laysBasedBy_31 : decode cX11_laysBasedBy 31 = .ok (.getfield 42, 3) := by decide +kernel
theorem dX11_laysBasedBy_34 : decode cX11_laysBasedBy 34 = .ok (.iconst 4, 1) := by decide +kernel
theorem dX11_laysBasedBy_35 : decode cX11_laysBasedBy 35 = .ok (.iload_n 2, 1) := by decide +kernel
theorem dX11_laysBasedBy_36 : decode cX11_laysBasedBy 36 = .ok (.imul, 1) := by decide +kernel
theorem dX11_laysBasedBy_37 : decode cX11_laysBasedBy 37 = .ok (.iconst 3, 1) := by decide +kernel
theorem dX11_laysBasedBy_38 : decode cX11_laysBasedBy 38 = .ok (.iadd, 1) := by decide +kernel
theorem dX11_laysBasedBy_39 : decode cX11_laysBasedBy 39 = .ok (.iaload, 1) := by decide +kernel
theorem dX11_laysBasedBy_40 : decode cX11_laysBasedBy 40 = .ok (.invokevirtual 309, 3) := by decide +kernel
theorem dX11_laysBasedBy_43 : decode cX11_laysBasedBy 43 = .ok (.return_, 1) := by decide +kernel
theorem dX11_based_0 : decode cX11_based 0 = .ok (.aload_n 0, 1) := by decide +kernel
theorem dX11_based_1 : decode cX11_based 1 = .ok (.iconst 0, 1) := by decide +kernel
theorem dX11_based_2 : decode cX11_based 2 = .ok (.putfield 88, 3) := by decide +kernel
theorem dX11_based_5 : decode cX11_based 5 = .ok (.aload_n 0, 1) := by decide +kernel
theorem dX11_based_6 : decode cX11_based 6 = .ok (.iload_n 1, 1) := by decide +kernel
theorem dX11_based_7 : decode cX11_based 7 = .ok (.invokevirtual 260, 3) := by decide +kernel
theorem dX11_based_10 : decode cX11_based 10 = .ok (.ifCond .eq 31, 3) := by decide +kernel
theorem dX11_based_13 : decode cX11_based 13 = .ok (.aload_n 0, 1) := by decide +kernel
theorem dX11_based_14 : decode cX11_based 14 = .ok (.iload_n 2, 1) := by decide +kernel
theorem dX11_based_15 : decode cX11_based 15 = .ok (.invokevirtual 297, 3) := by decide +kernel
theorem dX11_based_18 : decode cX11_based 18 = .ok (.ifCond .eq 23, 3) := by decide +kernel
theorem dX11_based_21 : decode cX11_based 21 = .ok (.iload_n 3, 1) := by decide +kernel
theorem dX11_based_22 : decode cX11_based 22 = .ok (.i2l, 1) := by decide +kernel
theorem dX11_based_23 : decode cX11_based 23 = .ok (.lconst 0, 1) := by decide +kernel
theorem dX11_based_24 : decode cX11_based 24 = .ok (.iconst 1, 1) := by decide +kernel
theorem dX11_based_25 : decode cX11_based 25 = .ok (.aload_n 0, 1) := by decide +kernel
theorem dX11_based_26 : decode cX11_based 26 = .ok (.getfield 36, 3) := by decide +kernel
theorem dX11_based_29 : decode cX11_based 29 = .ok (.iload_n 1, 1) := by decide +kernel
theorem dX11_based_30 : decode cX11_based 30 = .ok (.iaload, 1) := by decide +kernel
theorem dX11_based_31 : decode cX11_based 31 = .ok (.ishl, 1) := by decide +kernel
theorem dX11_based_32 : decode cX11_based 32 = .ok (.iconst 1, 1) := by decide +kernel
theorem dX11_based_33 : decode cX11_based 33 = .ok (.isub, 1) := by decide +kernel
theorem dX11_based_34 : decode cX11_based 34 = .ok (.i2l, 1) := by decide +kernel
theorem dX11_based_35 : decode cX11_based 35 = .ok (.invokestatic 126, 3) := by decide +kernel
theorem dX11_based_38 : decode cX11_based 38 = .ok (.ifCond .ne 5, 3) := by decide +kernel
theorem dX11_based_41 : decode cX11_based 41 = .ok (.iconst (-1), 1) := by decide +kernel
theorem dX11_based_42 : decode cX11_based 42 = .ok (.ireturn, 1) := by decide +kernel
theorem dX11_based_43 : decode cX11_based 43 = .ok (.aload_n 0, 1) := by decide +kernel
theorem dX11_based_44 : decode cX11_based 44 = .ok (.iload_n 1, 1) := by decide +kernel
theorem dX11_based_45 : decode cX11_based 45 = .ok (.iload_n 2, 1) := by decide +kernel
theorem dX11_based_46 : decode cX11_based 46 = .ok (.invokevirtual 313, 3) := by decide +kernel
theorem dX11_based_49 : decode cX11_based 49 = .ok (.aload_n 0, 1) := by decide +kernel
theorem dX11_based_50 : decode cX11_based 50 = .ok (.getfield 70, 3) := by decide +kernel
theorem dX11_based_53 : decode cX11_based 53 = .ok (.iload_n 3, 1) := by decide +kernel
theorem dX11_based_54 : decode cX11_based 54 = .ok (.iaload, 1) := by decide +kernel
theorem dX11_based_55 : decode cX11_based 55 = .ok (.ireturn, 1) := by decide +kernel
theorem dX11_fits_0 : decode cX11_fits 0 = .ok (.aload_n 0, 1) := by decide +kernel
theorem dX11_fits_1 : decode cX11_fits 1 = .ok (.iconst 0, 1) := by decide +kernel
theorem dX11_fits_2 : decode cX11_fits 2 = .ok (.putfield 88, 3) := by decide +kernel
theorem dX11_fits_5 : decode cX11_fits 5 = .ok (.aload_n 0, 1) := by decide +kernel
theorem dX11_fits_6 : decode cX11_fits 6 = .ok (.iload_n 1, 1) := by decide +kernel
theorem dX11_fits_7 : decode cX11_fits 7 = .ok (.invokevirtual 260, 3) := by decide +kernel
theorem dX11_fits_10 : decode cX11_fits 10 = .ok (.ifCond .eq 11, 3) := by decide +kernel
theorem dX11_fits_13 : decode cX11_fits 13 = .ok (.aload_n 0, 1) := by decide +kernel
theorem dX11_fits_14 : decode cX11_fits 14 = .ok (.iload_n 2, 1) := by decide +kernel
theorem dX11_fits_15 : decode cX11_fits 15 = .ok (.invokevirtual 297, 3) := by decide +kernel
theorem dX11_fits_18 : decode cX11_fits 18 = .ok (.ifCond .ne 5, 3) := by decide +kernel
theorem dX11_fits_21 : decode cX11_fits 21 = .ok (.iconst (-1), 1) := by decide +kernel
theorem dX11_fits_22 : decode cX11_fits 22 = .ok (.ireturn, 1) := by decide +kernel
theorem dX11_fits_23 : decode cX11_fits 23 = .ok (.aload_n 0, 1) := by decide +kernel
theorem dX11_fits_24 : decode cX11_fits 24 = .ok (.iload_n 1, 1) := by decide +kernel
theorem dX11_fits_25 : decode cX11_fits 25 = .ok (.iload_n 2, 1) := by decide +kernel
theorem dX11_fits_26 : decode cX11_fits 26 = .ok (.invokevirtual 313, 3) := by decide +kernel
theorem dX11_fits_29 : decode cX11_fits 29 = .ok (.aload_n 0, 1) := by decide +kernel
theorem dX11_fits_30 : decode cX11_fits 30 = .ok (.invokevirtual 279, 3) := by decide +kernel
theorem dX11_fits_33 : decode cX11_fits 33 = .ok (.ifCond .eq 7, 3) := by decide +kernel
theorem dX11_fits_36 : decode cX11_fits 36 = .ok (.iconst 1, 1) := by decide +kernel
theorem dX11_fits_37 : decode cX11_fits 37 = .ok (.goto 4, 3) := by decide +kernel
theorem dX11_fits_40 : decode cX11_fits 40 = .ok (.iconst 0, 1) := by decide +kernel
theorem dX11_fits_41 : decode cX11_fits 41 = .ok (.ireturn, 1) := by decide +kernel
theorem dX11_first_0 : decode cX11_first 0 = .ok (.aload_n 0, 1) := by decide +kernel
theorem dX11_first_1 : decode cX11_first 1 = .ok (.iconst 0, 1) := by decide +kernel
theorem dX11_first_2 : decode cX11_first 2 = .ok (.putfield 88, 3) := by decide +kernel
theorem dX11_first_5 : decode cX11_first 5 = .ok (.aload_n 0, 1) := by decide +kernel
theorem dX11_first_6 : decode cX11_first 6 = .ok (.iload_n 1, 1) := by decide +kernel
theorem dX11_first_7 : decode cX11_first 7 = .ok (.invokevirtual 260, 3) := by decide +kernel
theorem dX11_first_10 : decode cX11_first 10 = .ok (.ifCond .ne 5, 3) := by decide +kernel
theorem dX11_first_13 : decode cX11_first 13 = .ok (.iconst (-1), 1) := by decide +kernel
theorem dX11_first_14 : decode cX11_first 14 = .ok (.ireturn, 1) := by decide +kernel
theorem dX11_first_15 : decode cX11_first 15 = .ok (.iconst 0, 1) := by decide +kernel
theorem dX11_first_16 : decode cX11_first 16 = .ok (.istore_n 2, 1) := by decide +kernel
theorem dX11_first_17 : decode cX11_first 17 = .ok (.iload_n 2, 1) := by decide +kernel
theorem dX11_first_18 : decode cX11_first 18 = .ok (.aload_n 0, 1) := by decide +kernel
theorem dX11_first_19 : decode cX11_first 19 = .ok (.getfield 20, 3) := by decide +kernel
theorem dX11_first_22 : decode cX11_first 22 = .ok (.iconst 0, 1) := by decide +kernel
theorem dX11_first_23 : decode cX11_first 23 = .ok (.iaload, 1) := by decide +kernel
theorem dX11_first_24 : decode cX11_first 24 = .ok (.if_icmp .ge 24, 3) := by decide +kernel
theorem dX11_first_27 : decode cX11_first 27 = .ok (.aload_n 0, 1) := by decide +kernel
theorem dX11_first_28 : decode cX11_first 28 = .ok (.iload_n 1, 1) := by decide +kernel
theorem dX11_first_29 : decode cX11_first 29 = .ok (.iload_n 2, 1) := by decide +kernel
theorem dX11_first_30 : decode cX11_first 30 = .ok (.invokevirtual 313, 3) := by decide +kernel
theorem dX11_first_33 : decode cX11_first 33 = .ok (.aload_n 0, 1) := by decide +kernel
theorem dX11_first_34 : decode cX11_first 34 = .ok (.invokevirtual 279, 3) := by decide +kernel
theorem dX11_first_37 : decode cX11_first 37 = .ok (.ifCond .eq 5, 3) := by decide +kernel
theorem dX11_first_40 : decode cX11_first 40 = .ok (.iload_n 2, 1) := by decide +kernel
theorem dX11_first_41 : decode cX11_first 41 = .ok (.ireturn, 1) := by decide +kernel
theorem dX11_first_42 : decode cX11_first 42 = .ok (.iinc 2 1, 3) := by decide +kernel
theorem dX11_first_45 : decode cX11_first 45 = .ok (.goto (-28), 3) := by decide +kernel
theorem dX11_first_48 : decode cX11_first 48 = .ok (.bipush (-2), 2) := by decide +kernel
theorem dX11_first_50 : decode cX11_first 50 = .ok (.ireturn, 1) := by decide +kernel
theorem dX11_seek_0 : decode cX11_seek 0 = .ok (.aload_n 0, 1) := by decide +kernel
theorem dX11_seek_1 : decode cX11_seek 1 = .ok (.iconst 0, 1) := by decide +kernel
theorem dX11_seek_2 : decode cX11_seek 2 = .ok (.putfield 88, 3) := by decide +kernel
theorem dX11_seek_5 : decode cX11_seek 5 = .ok (.aload_n 0, 1) := by decide +kernel
theorem dX11_seek_6 : decode cX11_seek 6 = .ok (.iload_n 1, 1) := by decide +kernel
theorem dX11_seek_7 : decode cX11_seek 7 = .ok (.invokevirtual 260, 3) := by decide +kernel
theorem dX11_seek_10 : decode cX11_seek 10 = .ok (.ifCond .ne 5, 3) := by decide +kernel
theorem dX11_seek_13 : decode cX11_seek 13 = .ok (.iconst (-1), 1) := by decide +kernel
theorem dX11_seek_14 : decode cX11_seek 14 = .ok (.ireturn, 1) := by decide +kernel
theorem dX11_seek_15 : decode cX11_seek 15 = .ok (.iconst 0, 1) := by decide +kernel
theorem dX11_seek_16 : decode cX11_seek 16 = .ok (.istore_n 2, 1) := by decide +kernel
theorem dX11_seek_17 : decode cX11_seek 17 = .ok (.iload_n 2, 1) := by decide +kernel
theorem dX11_seek_18 : decode cX11_seek 18 = .ok (.aload_n 0, 1) := by decide +kernel
theorem dX11_seek_19 : decode cX11_seek 19 = .ok (.invokevirtual 266, 3) := by decide +kernel
theorem dX11_seek_22 : decode cX11_seek 22 = .ok (.if_icmp .ge 58, 3) := by decide +kernel
theorem dX11_seek_25 : decode cX11_seek 25 = .ok (.iconst 0, 1) := by decide +kernel
theorem dX11_seek_26 : decode cX11_seek 26 = .ok (.istore_n 3, 1) := by decide +kernel
theorem dX11_seek_27 : decode cX11_seek 27 = .ok (.iload_n 3, 1) := by decide +kernel
theorem dX11_seek_28 : decode cX11_seek 28 = .ok (.aload_n 0, 1) := by decide +kernel
theorem dX11_seek_29 : decode cX11_seek 29 = .ok (.invokevirtual 266, 3) := by decide +kernel
theorem dX11_seek_32 : decode cX11_seek 32 = .ok (.if_icmp .ge 42, 3) := by decide +kernel
theorem dX11_seek_35 : decode cX11_seek 35 = .ok (.iload_n 2, 1) := by decide +kernel
theorem dX11_seek_36 : decode cX11_seek 36 = .ok (.iload_n 3, 1) := by decide +kernel
theorem dX11_seek_37 : decode cX11_seek 37 = .ok (.if_icmp .ne 6, 3) := by decide +kernel
theorem dX11_seek_40 : decode cX11_seek 40 = .ok (.goto 28, 3) := by decide +kernel
theorem dX11_seek_43 : decode cX11_seek 43 = .ok (.aload_n 0, 1) := by decide +kernel
theorem dX11_seek_44 : decode cX11_seek 44 = .ok (.iload_n 1, 1) := by decide +kernel
theorem dX11_seek_45 : decode cX11_seek 45 = .ok (.iconst 1, 1) := by decide +kernel
theorem dX11_seek_46 : decode cX11_seek 46 = .ok (.iconst 1, 1) := by decide +kernel
theorem dX11_seek_47 : decode cX11_seek 47 = .ok (.iload_n 2, 1) := by decide +kernel
theorem dX11_seek_48 : decode cX11_seek 48 = .ok (.iload_n 3, 1) := by decide +kernel
theorem dX11_seek_49 : decode cX11_seek 49 = .ok (.invokevirtual 309, 3) := by decide +kernel
theorem dX11_seek_52 : decode cX11_seek 52 = .ok (.aload_n 0, 1) := by decide +kernel
theorem dX11_seek_53 : decode cX11_seek 53 = .ok (.invokevirtual 279, 3) := by decide +kernel
theorem dX11_seek_56 : decode cX11_seek 56 = .ok (.ifCond .eq 12, 3) := by decide +kernel
theorem dX11_seek_59 : decode cX11_seek 59 = .ok (.aload_n 0, 1) := by decide +kernel
theorem dX11_seek_60 : decode cX11_seek 60 = .ok (.invokevirtual 266, 3) := by decide +kernel
theorem dX11_seek_63 : decode cX11_seek 63 = .ok (.iload_n 2, 1) := by decide +kernel
theorem dX11_seek_64 : decode cX11_seek 64 = .ok (.imul, 1) := by decide +kernel
theorem dX11_seek_65 : decode cX11_seek 65 = .ok (.iload_n 3, 1) := by decide +kernel
theorem dX11_seek_66 : decode cX11_seek 66 = .ok (.iadd, 1) := by decide +kernel
theorem dX11_seek_67 : decode cX11_seek 67 = .ok (.ireturn, 1) := by decide +kernel
theorem dX11_seek_68 : decode cX11_seek 68 = .ok (.iinc 3 1, 3) := by decide +kernel
theorem dX11_seek_71 : decode cX11_seek 71 = .ok (.goto (-44), 3) := by decide +kernel
theorem dX11_seek_74 : decode cX11_seek 74 = .ok (.iinc 2 1, 3) := by decide +kernel
theorem dX11_seek_77 : decode cX11_seek 77 = .ok (.goto (-60), 3) := by decide +kernel
theorem dX11_seek_80 : decode cX11_seek 80 = .ok (.bipush (-2), 2) := by decide +kernel
theorem dX11_seek_82 : decode cX11_seek 82 = .ok (.ireturn, 1) := by decide +kernel
theorem dX11_node_0 : decode cX11_node 0 = .ok (.aload_n 0, 1) := by decide +kernel
theorem dX11_node_1 : decode cX11_node 1 = .ok (.iconst 0, 1) := by decide +kernel
theorem dX11_node_2 : decode cX11_node 2 = .ok (.putfield 88, 3) := by decide +kernel
theorem dX11_node_5 : decode cX11_node 5 = .ok (.aload_n 0, 1) := by decide +kernel
theorem dX11_node_6 : decode cX11_node 6 = .ok (.iload_n 1, 1) := by decide +kernel
theorem dX11_node_7 : decode cX11_node 7 = .ok (.invokevirtual 316, 3) := by decide +kernel
theorem dX11_node_10 : decode cX11_node 10 = .ok (.ifCond .ne 6, 3) := by decide +kernel
theorem dX11_node_13 : decode cX11_node 13 = .ok (.bipush (-2), 2) := by decide +kernel
theorem dX11_node_15 : decode cX11_node 15 = .ok (.ireturn, 1) := by decide +kernel
theorem dX11_node_16 : decode cX11_node 16 = .ok (.iload_n 2, 1) := by decide +kernel
theorem dX11_node_17 : decode cX11_node 17 = .ok (.iconst (-1), 1) := by decide +kernel
theorem dX11_node_18 : decode cX11_node 18 = .ok (.if_icmp .ne 11, 3) := by decide +kernel
theorem dX11_node_21 : decode cX11_node 21 = .ok (.aload_n 0, 1) := by decide +kernel
theorem dX11_node_22 : decode cX11_node 22 = .ok (.iload_n 1, 1) := by decide +kernel
theorem dX11_node_23 : decode cX11_node 23 = .ok (.invokevirtual 319, 3) := by decide +kernel
theorem dX11_node_26 : decode cX11_node 26 = .ok (.goto 38, 3) := by decide +kernel
theorem dX11_node_29 : decode cX11_node 29 = .ok (.iload_n 2, 1) := by decide +kernel
theorem dX11_node_30 : decode cX11_node 30 = .ok (.i2l, 1) := by decide +kernel
theorem dX11_node_31 : decode cX11_node 31 = .ok (.lconst 0, 1) := by decide +kernel
theorem dX11_node_32 : decode cX11_node 32 = .ok (.iconst 1, 1) := by decide +kernel
theorem dX11_node_33 : decode cX11_node 33 = .ok (.aload_n 0, 1) := by decide +kernel
theorem dX11_node_34 : decode cX11_node 34 = .ok (.iload_n 1, 1) := by decide +kernel
theorem dX11_node_35 : decode cX11_node 35 = .ok (.invokevirtual 319, 3) := by decide +kernel
theorem dX11_node_38 : decode cX11_node 38 = .ok (.ishl, 1) := by decide +kernel
theorem dX11_node_39 : decode cX11_node 39 = .ok (.iconst 1, 1) := by decide +kernel
theorem dX11_node_40 : decode cX11_node 40 = .ok (.isub, 1) := by decide +kernel
theorem dX11_node_41 : decode cX11_node 41 = .ok (.i2l, 1) := by decide +kernel
theorem dX11_node_42 : decode cX11_node 42 = .ok (.invokestatic 126, 3) := by decide +kernel
theorem dX11_node_45 : decode cX11_node 45 = .ok (.ifCond .eq 17, 3) := by decide +kernel
theorem dX11_node_48 : decode cX11_node 48 = .ok (.aload_n 0, 1) := by decide +kernel
theorem dX11_node_49 : decode cX11_node 49 = .ok (.getfield 57, 3) := by decide +kernel
theorem dX11_node_52 : decode cX11_node 52 = .ok (.bipush 16, 2) := by decide +kernel
theorem dX11_node_54 : decode cX11_node 54 = .ok (.iload_n 1, 1) := by decide +kernel
theorem dX11_node_55 : decode cX11_node 55 = .ok (.imul, 1) := by decide +kernel
theorem dX11_node_56 : decode cX11_node 56 = .ok (.iload_n 2, 1) := by decide +kernel
theorem dX11_node_57 : decode cX11_node 57 = .ok (.iadd, 1) := by decide +kernel
theorem dX11_node_58 : decode cX11_node 58 = .ok (.iaload, 1) := by decide +kernel
theorem dX11_node_59 : decode cX11_node 59 = .ok (.goto 5, 3) := by decide +kernel
theorem dX11_node_62 : decode cX11_node 62 = .ok (.bipush (-2), 2) := by decide +kernel
theorem dX11_node_64 : decode cX11_node 64 = .ok (.ireturn, 1) := by decide +kernel
theorem dX11_wire_0 : decode cX11_wire 0 = .ok (.aload_n 0, 1) := by decide +kernel
theorem dX11_wire_1 : decode cX11_wire 1 = .ok (.aload_n 0, 1) := by decide +kernel
theorem dX11_wire_2 : decode cX11_wire 2 = .ok (.iload_n 1, 1) := by decide +kernel
theorem dX11_wire_3 : decode cX11_wire 3 = .ok (.invokevirtual 322, 3) := by decide +kernel
theorem dX11_wire_6 : decode cX11_wire 6 = .ok (.ifCond .eq 19, 3) := by decide +kernel
theorem dX11_wire_9 : decode cX11_wire 9 = .ok (.iload_n 2, 1) := by decide +kernel
theorem dX11_wire_10 : decode cX11_wire 10 = .ok (.i2l, 1) := by decide +kernel
theorem dX11_wire_11 : decode cX11_wire 11 = .ok (.lconst 0, 1) := by decide +kernel
theorem dX11_wire_12 : decode cX11_wire 12 = .ok (.ldc2_w 240, 3) := by decide +kernel
theorem dX11_wire_15 : decode cX11_wire 15 = .ok (.invokestatic 126, 3) := by decide +kernel
theorem dX11_wire_18 : decode cX11_wire 18 = .ok (.ifCond .eq 7, 3) := by decide +kernel
theorem dX11_wire_21 : decode cX11_wire 21 = .ok (.iconst 0, 1) := by decide +kernel
theorem dX11_wire_22 : decode cX11_wire 22 = .ok (.goto 4, 3) := by decide +kernel
theorem dX11_wire_25 : decode cX11_wire 25 = .ok (.iconst 1, 1) := by decide +kernel
theorem dX11_wire_26 : decode cX11_wire 26 = .ok (.putfield 88, 3) := by decide +kernel
theorem dX11_wire_29 : decode cX11_wire 29 = .ok (.aload_n 0, 1) := by decide +kernel
theorem dX11_wire_30 : decode cX11_wire 30 = .ok (.getfield 88, 3) := by decide +kernel
theorem dX11_wire_33 : decode cX11_wire 33 = .ok (.iconst 1, 1) := by decide +kernel
theorem dX11_wire_34 : decode cX11_wire 34 = .ok (.if_icmp .ne 5, 3) := by decide +kernel
theorem dX11_wire_37 : decode cX11_wire 37 = .ok (.iconst 0, 1) := by decide +kernel
theorem dX11_wire_38 : decode cX11_wire 38 = .ok (.ireturn, 1) := by decide +kernel
theorem dX11_wire_39 : decode cX11_wire 39 = .ok (.aload_n 0, 1) := by decide +kernel
theorem dX11_wire_40 : decode cX11_wire 40 = .ok (.getfield 57, 3) := by decide +kernel
theorem dX11_wire_43 : decode cX11_wire 43 = .ok (.bipush 96, 2) := by decide +kernel
theorem dX11_wire_45 : decode cX11_wire 45 = .ok (.iconst 2, 1) := by decide +kernel
theorem dX11_wire_46 : decode cX11_wire 46 = .ok (.iload_n 1, 1) := by decide +kernel
theorem dX11_wire_47 : decode cX11_wire 47 = .ok (.imul, 1) := by decide +kernel
theorem dX11_wire_48 : decode cX11_wire 48 = .ok (.iadd, 1) := by decide +kernel
theorem dX11_wire_49 : decode cX11_wire 49 = .ok (.iload_n 2, 1) := by decide +kernel
theorem dX11_wire_50 : decode cX11_wire 50 = .ok (.iconst 2, 1) := by decide +kernel
theorem dX11_wire_51 : decode cX11_wire 51 = .ok (.idiv, 1) := by decide +kernel
theorem dX11_wire_52 : decode cX11_wire 52 = .ok (.iadd, 1) := by decide +kernel
theorem dX11_wire_53 : decode cX11_wire 53 = .ok (.iaload, 1) := by decide +kernel
theorem dX11_wire_54 : decode cX11_wire 54 = .ok (.istore_n 3, 1) := by decide +kernel
theorem dX11_wire_55 : decode cX11_wire 55 = .ok (.iload_n 2, 1) := by decide +kernel
theorem dX11_wire_56 : decode cX11_wire 56 = .ok (.iconst 2, 1) := by decide +kernel
theorem dX11_wire_57 : decode cX11_wire 57 = .ok (.irem, 1) := by decide +kernel
theorem dX11_wire_58 : decode cX11_wire 58 = .ok (.ifCond .ne 9, 3) := by decide +kernel
theorem dX11_wire_61 : decode cX11_wire 61 = .ok (.iload_n 3, 1) := by decide +kernel
theorem dX11_wire_62 : decode cX11_wire 62 = .ok (.iconst 4, 1) := by decide +kernel
theorem dX11_wire_63 : decode cX11_wire 63 = .ok (.idiv, 1) := by decide +kernel
theorem dX11_wire_64 : decode cX11_wire 64 = .ok (.goto 6, 3) := by decide +kernel
theorem dX11_wire_67 : decode cX11_wire 67 = .ok (.iload_n 3, 1) := by decide +kernel
theorem dX11_wire_68 : decode cX11_wire 68 = .ok (.iconst 4, 1) := by decide +kernel
theorem dX11_wire_69 : decode cX11_wire 69 = .ok (.irem, 1) := by decide +kernel
theorem dX11_wire_70 : decode cX11_wire 70 = .ok (.ireturn, 1) := by decide +kernel
theorem dX11_wireAt_0 : decode cX11_wireAt 0 = .ok (.iconst 0, 1) := by decide +kernel
theorem dX11_wireAt_1 : decode cX11_wireAt 1 = .ok (.istore_n 2, 1) := by decide +kernel
theorem dX11_wireAt_2 : decode cX11_wireAt 2 = .ok (.iload_n 2, 1) := by decide +kernel
theorem dX11_wireAt_3 : decode cX11_wireAt 3 = .ok (.iconst 2, 1) := by decide +kernel
theorem dX11_wireAt_4 : decode cX11_wireAt 4 = .ok (.aload_n 0, 1) := by decide +kernel
theorem dX11_wireAt_5 : decode cX11_wireAt 5 = .ok (.getfield 57, 3) := by decide +kernel
theorem dX11_wireAt_8 : decode cX11_wireAt 8 = .ok (.bipush 116, 2) := by decide +kernel
theorem dX11_wireAt_10 : decode cX11_wireAt 10 = .ok (.iaload, 1) := by decide +kernel
theorem dX11_wireAt_11 : decode cX11_wireAt 11 = .ok (.imul, 1) := by decide +kernel
theorem dX11_wireAt_12 : decode cX11_wireAt 12 = .ok (.if_icmp .ge 26, 3) := by decide +kernel
theorem dX11_wireAt_15 : decode cX11_wireAt 15 = .ok (.aload_n 0, 1) := by decide +kernel
theorem dX11_wireAt_16 : decode cX11_wireAt 16 = .ok (.getfield 57, 3) := by decide +kernel
theorem dX11_wireAt_19 : decode cX11_wireAt 19 = .ok (.bipush 96, 2) := by decide +kernel
theorem dX11_wireAt_21 : decode cX11_wireAt 21 = .ok (.iload_n 2, 1) := by decide +kernel
theorem dX11_wireAt_22 : decode cX11_wireAt 22 = .ok (.iadd, 1) := by decide +kernel
theorem dX11_wireAt_23 : decode cX11_wireAt 23 = .ok (.iaload, 1) := by decide +kernel
theorem dX11_wireAt_24 : decode cX11_wireAt 24 = .ok (.iload_n 1, 1) := by decide +kernel
theorem dX11_wireAt_25 : decode cX11_wireAt 25 = .ok (.if_icmp .ne 7, 3) := by decide +kernel
theorem dX11_wireAt_28 : decode cX11_wireAt 28 = .ok (.iload_n 2, 1) := by decide +kernel
theorem dX11_wireAt_29 : decode cX11_wireAt 29 = .ok (.iconst 2, 1) := by decide +kernel
theorem dX11_wireAt_30 : decode cX11_wireAt 30 = .ok (.idiv, 1) := by decide +kernel
theorem dX11_wireAt_31 : decode cX11_wireAt 31 = .ok (.ireturn, 1) := by decide +kernel
theorem dX11_wireAt_32 : decode cX11_wireAt 32 = .ok (.iinc 2 1, 3) := by decide +kernel
theorem dX11_wireAt_35 : decode cX11_wireAt 35 = .ok (.goto (-33), 3) := by decide +kernel
theorem dX11_wireAt_38 : decode cX11_wireAt 38 = .ok (.iconst (-1), 1) := by decide +kernel
theorem dX11_wireAt_39 : decode cX11_wireAt 39 = .ok (.ireturn, 1) := by decide +kernel
theorem dX11_laysOpen_0 : decode cX11_laysOpen 0 = .ok (.aload_n 0, 1) := by decide +kernel
theorem dX11_laysOpen_1 : decode cX11_laysOpen 1 = .ok (.iconst 0, 1) := by decide +kernel
theorem dX11_laysOpen_2 : decode cX11_laysOpen 2 = .ok (.putfield 325, 3) := by decide +kernel
theorem dX11_laysOpen_5 : decode cX11_laysOpen 5 = .ok (.iconst 0, 1) := by decide +kernel
theorem dX11_laysOpen_6 : decode cX11_laysOpen 6 = .ok (.istore_n 1, 1) := by decide +kernel
theorem dX11_laysOpen_7 : decode cX11_laysOpen 7 = .ok (.iload_n 1, 1) := by decide +kernel
theorem dX11_laysOpen_8 : decode cX11_laysOpen 8 = .ok (.aload_n 0, 1) := by decide +kernel
theorem dX11_laysOpen_9 : decode cX11_laysOpen 9 = .ok (.getfield 23, 3) := by decide +kernel
theorem dX11_laysOpen_12 : decode cX11_laysOpen 12 = .ok (.iconst 0, 1) := by decide +kernel
theorem dX11_laysOpen_13 : decode cX11_laysOpen 13 = .ok (.iaload, 1) := by decide +kernel
theorem dX11_laysOpen_14 : decode cX11_laysOpen 14 = .ok (.if_icmp .ge 65, 3) := by decide +kernel
theorem dX11_laysOpen_17 : decode cX11_laysOpen 17 = .ok (.iconst 0, 1) := by decide +kernel
theorem dX11_laysOpen_18 : decode cX11_laysOpen 18 = .ok (.istore_n 2, 1) := by decide +kernel
theorem dX11_laysOpen_19 : decode cX11_laysOpen 19 = .ok (.iload_n 2, 1) := by decide +kernel
theorem dX11_laysOpen_20 : decode cX11_laysOpen 20 = .ok (.aload_n 0, 1) := by decide +kernel
theorem dX11_laysOpen_21 : decode cX11_laysOpen 21 = .ok (.iload_n 1, 1) := by decide +kernel
theorem dX11_laysOpen_22 : decode cX11_laysOpen 22 = .ok (.invokevirtual 319, 3) := by decide +kernel
theorem dX11_laysOpen_25 : decode cX11_laysOpen 25 = .ok (.if_icmp .ge 48, 3) := by decide +kernel
theorem dX11_laysOpen_28 : decode cX11_laysOpen 28 = .ok (.aload_n 0, 1) := by decide +kernel
theorem dX11_laysOpen_29 : decode cX11_laysOpen 29 = .ok (.iconst 4, 1) := by decide +kernel
theorem dX11_laysOpen_30 : decode cX11_laysOpen 30 = .ok (.iload_n 1, 1) := by decide +kernel
