theorem dX12_init_0 : decode cX12_init 0 = .ok (.aload_n 0, 1) := by decide +kernel
theorem dX12_init_1 : decode cX12_init 1 = .ok (.invokespecial 1, 3) := by decide +kernel
theorem dX12_init_4 : decode cX12_init 4 = .ok (.aload_n 0, 1) := by decide +kernel
theorem dX12_init_5 : decode cX12_init 5 = .ok (.sipush 3205, 3) := by decide +kernel
theorem dX12_init_8 : decode cX12_init 8 = .ok (.newarray .int, 2) := by decide +kernel
theorem dX12_init_10 : decode cX12_init 10 = .ok (.putfield 9, 3) := by decide +kernel
theorem dX12_init_13 : decode cX12_init 13 = .ok (.aload_n 0, 1) := by decide +kernel
theorem dX12_init_14 : decode cX12_init 14 = .ok (.sipush 3205, 3) := by decide +kernel
theorem dX12_init_17 : decode cX12_init 17 = .ok (.newarray .int, 2) := by decide +kernel
theorem dX12_init_19 : decode cX12_init 19 = .ok (.putfield 13, 3) := by decide +kernel
theorem dX12_init_22 : decode cX12_init 22 = .ok (.aload_n 0, 1) := by decide +kernel
theorem dX12_init_23 : decode cX12_init 23 = .ok (.sipush 9615, 3) := by decide +kernel
theorem dX12_init_26 : decode cX12_init 26 = .ok (.newarray .int, 2) := by decide +kernel
theorem dX12_init_28 : decode cX12_init 28 = .ok (.putfield 16, 3) := by decide +kernel
theorem dX12_init_31 : decode cX12_init 31 = .ok (.aload_n 0, 1) := by decide +kernel
theorem dX12_init_32 : decode cX12_init 32 = .ok (.iconst 3, 1) := by decide +kernel
theorem dX12_init_33 : decode cX12_init 33 = .ok (.newarray .boolean, 2) := by decide +kernel
theorem dX12_init_35 : decode cX12_init 35 = .ok (.putfield 19, 3) := by decide +kernel
theorem dX12_init_38 : decode cX12_init 38 = .ok (.aload_n 0, 1) := by decide +kernel
theorem dX12_init_39 : decode cX12_init 39 = .ok (.sipush 900, 3) := by decide +kernel
theorem dX12_init_42 : decode cX12_init 42 = .ok (.newarray .int, 2) := by decide +kernel
theorem dX12_init_44 : decode cX12_init 44 = .ok (.putfield 23, 3) := by decide +kernel
theorem dX12_init_47 : decode cX12_init 47 = .ok (.aload_n 0, 1) := by decide +kernel
theorem dX12_init_48 : decode cX12_init 48 = .ok (.iconst (-1), 1) := by decide +kernel
theorem dX12_init_49 : decode cX12_init 49 = .ok (.putfield 26, 3) := by decide +kernel
theorem dX12_init_52 : decode cX12_init 52 = .ok (.aload_n 0, 1) := by decide +kernel
theorem dX12_init_53 : decode cX12_init 53 = .ok (.bipush 64, 2) := by decide +kernel
theorem dX12_init_55 : decode cX12_init 55 = .ok (.newarray .int, 2) := by decide +kernel
theorem dX12_init_57 : decode cX12_init 57 = .ok (.putfield 30, 3) := by decide +kernel
theorem dX12_init_60 : decode cX12_init 60 = .ok (.aload_n 0, 1) := by decide +kernel
theorem dX12_init_61 : decode cX12_init 61 = .ok (.bipush 6, 2) := by decide +kernel
theorem dX12_init_63 : decode cX12_init 63 = .ok (.newarray .int, 2) := by decide +kernel
theorem dX12_init_65 : decode cX12_init 65 = .ok (.putfield 33, 3) := by decide +kernel
theorem dX12_init_68 : decode cX12_init 68 = .ok (.aload_n 0, 1) := by decide +kernel
theorem dX12_init_69 : decode cX12_init 69 = .ok (.bipush 10, 2) := by decide +kernel
theorem dX12_init_71 : decode cX12_init 71 = .ok (.newarray .int, 2) := by decide +kernel
theorem dX12_init_73 : decode cX12_init 73 = .ok (.dup, 1) := by decide +kernel
theorem dX12_init_74 : decode cX12_init 74 = .ok (.iconst 0, 1) := by decide +kernel
theorem dX12_init_75 : decode cX12_init 75 = .ok (.iconst (-1), 1) := by decide +kernel
theorem dX12_init_76 : decode cX12_init 76 = .ok (.iastore, 1) := by decide +kernel
theorem dX12_init_77 : decode cX12_init 77 = .ok (.dup, 1) := by decide +kernel
theorem dX12_init_78 : decode cX12_init 78 = .ok (.iconst 1, 1) := by decide +kernel
theorem dX12_init_79 : decode cX12_init 79 = .ok (.iconst (-1), 1) := by decide +kernel
theorem dX12_init_80 : decode cX12_init 80 = .ok (.iastore, 1) := by decide +kernel
theorem dX12_init_81 : decode cX12_init 81 = .ok (.dup, 1) := by decide +kernel
theorem dX12_init_82 : decode cX12_init 82 = .ok (.iconst 2, 1) := by decide +kernel
theorem dX12_init_83 : decode cX12_init 83 = .ok (.iconst (-1), 1) := by decide +kernel
theorem dX12_init_84 : decode cX12_init 84 = .ok (.iastore, 1) := by decide +kernel
theorem dX12_init_85 : decode cX12_init 85 = .ok (.dup, 1) := by decide +kernel
theorem dX12_init_86 : decode cX12_init 86 = .ok (.iconst 3, 1) := by decide +kernel
theorem dX12_init_87 : decode cX12_init 87 = .ok (.iconst (-1), 1) := by decide +kernel
theorem dX12_init_88 : decode cX12_init 88 = .ok (.iastore, 1) := by decide +kernel
theorem dX12_init_89 : decode cX12_init 89 = .ok (.dup, 1) := by decide +kernel
theorem dX12_init_90 : decode cX12_init 90 = .ok (.iconst 4, 1) := by decide +kernel
theorem dX12_init_91 : decode cX12_init 91 = .ok (.iconst (-1), 1) := by decide +kernel
theorem dX12_init_92 : decode cX12_init 92 = .ok (.iastore, 1) := by decide +kernel
theorem dX12_init_93 : decode cX12_init 93 = .ok (.dup, 1) := by decide +kernel
theorem dX12_init_94 : decode cX12_init 94 = .ok (.iconst 5, 1) := by decide +kernel
theorem dX12_init_95 : decode cX12_init 95 = .ok (.iconst (-1), 1) := by decide +kernel
theorem dX12_init_96 : decode cX12_init 96 = .ok (.iastore, 1) := by decide +kernel
theorem dX12_init_97 : decode cX12_init 97 = .ok (.dup, 1) := by decide +kernel
theorem dX12_init_98 : decode cX12_init 98 = .ok (.bipush 6, 2) := by decide +kernel
theorem dX12_init_100 : decode cX12_init 100 = .ok (.iconst (-1), 1) := by decide +kernel
theorem dX12_init_101 : decode cX12_init 101 = .ok (.iastore, 1) := by decide +kernel
theorem dX12_init_102 : decode cX12_init 102 = .ok (.dup, 1) := by decide +kernel
theorem dX12_init_103 : decode cX12_init 103 = .ok (.bipush 7, 2) := by decide +kernel
theorem dX12_init_105 : decode cX12_init 105 = .ok (.iconst (-1), 1) := by decide +kernel
theorem dX12_init_106 : decode cX12_init 106 = .ok (.iastore, 1) := by decide +kernel
theorem dX12_init_107 : decode cX12_init 107 = .ok (.dup, 1) := by decide +kernel
theorem dX12_init_108 : decode cX12_init 108 = .ok (.bipush 8, 2) := by decide +kernel
theorem dX12_init_110 : decode cX12_init 110 = .ok (.iconst (-1), 1) := by decide +kernel
theorem dX12_init_111 : decode cX12_init 111 = .ok (.iastore, 1) := by decide +kernel
theorem dX12_init_112 : decode cX12_init 112 = .ok (.dup, 1) := by decide +kernel
theorem dX12_init_113 : decode cX12_init 113 = .ok (.bipush 9, 2) := by decide +kernel
theorem dX12_init_115 : decode cX12_init 115 = .ok (.iconst (-1), 1) := by decide +kernel
theorem dX12_init_116 : decode cX12_init 116 = .ok (.iastore, 1) := by decide +kernel
theorem dX12_init_117 : decode cX12_init 117 = .ok (.putfield 36, 3) := by decide +kernel
theorem dX12_init_120 : decode cX12_init 120 = .ok (.aload_n 0, 1) := by decide +kernel
theorem dX12_init_121 : decode cX12_init 121 = .ok (.bipush 41, 2) := by decide +kernel
theorem dX12_init_123 : decode cX12_init 123 = .ok (.newarray .int, 2) := by decide +kernel
theorem dX12_init_125 : decode cX12_init 125 = .ok (.putfield 39, 3) := by decide +kernel
theorem dX12_init_128 : decode cX12_init 128 = .ok (.aload_n 0, 1) := by decide +kernel
theorem dX12_init_129 : decode cX12_init 129 = .ok (.bipush 40, 2) := by decide +kernel
theorem dX12_init_131 : decode cX12_init 131 = .ok (.newarray .int, 2) := by decide +kernel
theorem dX12_init_133 : decode cX12_init 133 = .ok (.putfield 42, 3) := by decide +kernel
theorem dX12_init_136 : decode cX12_init 136 = .ok (.aload_n 0, 1) := by decide +kernel
theorem dX12_init_137 : decode cX12_init 137 = .ok (.bipush 10, 2) := by decide +kernel
theorem dX12_init_139 : decode cX12_init 139 = .ok (.newarray .int, 2) := by decide +kernel
theorem dX12_init_141 : decode cX12_init 141 = .ok (.putfield 45, 3) := by decide +kernel
theorem dX12_init_144 : decode cX12_init 144 = .ok (.aload_n 0, 1) := by decide +kernel
theorem dX12_init_145 : decode cX12_init 145 = .ok (.iconst 3, 1) := by decide +kernel
theorem dX12_init_146 : decode cX12_init 146 = .ok (.newarray .int, 2) := by decide +kernel
theorem dX12_init_148 : decode cX12_init 148 = .ok (.putfield 48, 3) := by decide +kernel
theorem dX12_init_151 : decode cX12_init 151 = .ok (.aload_n 0, 1) := by decide +kernel
theorem dX12_init_152 : decode cX12_init 152 = .ok (.iconst 3, 1) := by decide +kernel
theorem dX12_init_153 : decode cX12_init 153 = .ok (.newarray .int, 2) := by decide +kernel
theorem dX12_init_155 : decode cX12_init 155 = .ok (.putfield 51, 3) := by decide +kernel
theorem dX12_init_158 : decode cX12_init 158 = .ok (.aload_n 0, 1) := by decide +kernel
theorem dX12_init_159 : decode cX12_init 159 = .ok (.bipush 64, 2) := by decide +kernel
theorem dX12_init_161 : decode cX12_init 161 = .ok (.newarray .int, 2) := by decide +kernel
theorem dX12_init_163 : decode cX12_init 163 = .ok (.putfield 54, 3) := by decide +kernel
theorem dX12_init_166 : decode cX12_init 166 = .ok (.aload_n 0, 1) := by decide +kernel
theorem dX12_init_167 : decode cX12_init 167 = .ok (.bipush 8, 2) := by decide +kernel
theorem dX12_init_169 : decode cX12_init 169 = .ok (.newarray .int, 2) := by decide +kernel
theorem dX12_init_171 : decode cX12_init 171 = .ok (.putfield 57, 3) := by decide +kernel
theorem dX12_init_174 : decode cX12_init 174 = .ok (.aload_n 0, 1) := by decide +kernel
theorem dX12_init_175 : decode cX12_init 175 = .ok (.bipush 8, 2) := by decide +kernel
theorem dX12_init_177 : decode cX12_init 177 = .ok (.newarray .int, 2) := by decide +kernel
theorem dX12_init_179 : decode cX12_init 179 = .ok (.putfield 60, 3) := by decide +kernel
theorem dX12_init_182 : decode cX12_init 182 = .ok (.aload_n 0, 1) := by decide +kernel
theorem dX12_init_183 : decode cX12_init 183 = .ok (.bipush 8, 2) := by decide +kernel
theorem dX12_init_185 : decode cX12_init 185 = .ok (.newarray .int, 2) := by decide +kernel
theorem dX12_init_187 : decode cX12_init 187 = .ok (.putfield 63, 3) := by decide +kernel
theorem dX12_init_190 : decode cX12_init 190 = .ok (.aload_n 0, 1) := by decide +kernel
theorem dX12_init_191 : decode cX12_init 191 = .ok (.bipush 64, 2) := by decide +kernel
theorem dX12_init_193 : decode cX12_init 193 = .ok (.newarray .int, 2) := by decide +kernel
theorem dX12_init_195 : decode cX12_init 195 = .ok (.putfield 66, 3) := by decide +kernel
theorem dX12_init_198 : decode cX12_init 198 = .ok (.aload_n 0, 1) := by decide +kernel
theorem dX12_init_199 : decode cX12_init 199 = .ok (.bipush 8, 2) := by decide +kernel
theorem dX12_init_201 : decode cX12_init 201 = .ok (.newarray .int, 2) := by decide +kernel
theorem dX12_init_203 : decode cX12_init 203 = .ok (.putfield 69, 3) := by decide +kernel
theorem dX12_init_206 : decode cX12_init 206 = .ok (.aload_n 0, 1) := by decide +kernel
theorem dX12_init_207 : decode cX12_init 207 = .ok (.iconst 4, 1) := by decide +kernel
theorem dX12_init_208 : decode cX12_init 208 = .ok (.newarray .int, 2) := by decide +kernel
theorem dX12_init_210 : decode cX12_init 210 = .ok (.dup, 1) := by decide +kernel
theorem dX12_init_211 : decode cX12_init 211 = .ok (.iconst 0, 1) := by decide +kernel
theorem dX12_init_212 : decode cX12_init 212 = .ok (.iconst (-1), 1) := by decide +kernel
theorem dX12_init_213 : decode cX12_init 213 = .ok (.iastore, 1) := by decide +kernel
theorem dX12_init_214 : decode cX12_init 214 = .ok (.dup, 1) := by decide +kernel
theorem dX12_init_215 : decode cX12_init 215 = .ok (.iconst 1, 1) := by decide +kernel
theorem dX12_init_216 : decode cX12_init 216 = .ok (.iconst (-1), 1) := by decide +kernel
theorem dX12_init_217 : decode cX12_init 217 = .ok (.iastore, 1) := by decide +kernel
theorem dX12_init_218 : decode cX12_init 218 = .ok (.dup, 1) := by decide +kernel
theorem dX12_init_219 : decode cX12_init 219 = .ok (.iconst 2, 1) := by decide +kernel
theorem dX12_init_220 : decode cX12_init 220 = .ok (.iconst (-1), 1) := by decide +kernel
theorem dX12_init_221 : decode cX12_init 221 = .ok (.iastore, 1) := by decide +kernel
theorem dX12_init_222 : decode cX12_init 222 = .ok (.dup, 1) := by decide +kernel
theorem dX12_init_223 : decode cX12_init 223 = .ok (.iconst 3, 1) := by decide +kernel
theorem dX12_init_224 : decode cX12_init 224 = .ok (.iconst (-1), 1) := by decide +kernel
theorem dX12_init_225 : decode cX12_init 225 = .ok (.iastore, 1) := by decide +kernel
theorem dX12_init_226 : decode cX12_init 226 = .ok (.putfield 72, 3) := by decide +kernel
theorem dX12_init_229 : decode cX12_init 229 = .ok (.aload_n 0, 1) := by decide +kernel
theorem dX12_init_230 : decode cX12_init 230 = .ok (.iconst 4, 1) := by decide +kernel
theorem dX12_init_231 : decode cX12_init 231 = .ok (.newarray .int, 2) := by decide +kernel
theorem dX12_init_233 : decode cX12_init 233 = .ok (.putfield 75, 3) := by decide +kernel
theorem dX12_init_236 : decode cX12_init 236 = .ok (.aload_n 0, 1) := by decide +kernel
theorem dX12_init_237 : decode cX12_init 237 = .ok (.bipush 120, 2) := by decide +kernel
theorem dX12_init_239 : decode cX12_init 239 = .ok (.newarray .long, 2) := by decide +kernel
theorem dX12_init_241 : decode cX12_init 241 = .ok (.putfield 78, 3) := by decide +kernel
theorem dX12_init_244 : decode cX12_init 244 = .ok (.aload_n 0, 1) := by decide +kernel
theorem dX12_init_245 : decode cX12_init 245 = .ok (.getfield 9, 3) := by decide +kernel
theorem dX12_init_248 : decode cX12_init 248 = .ok (.iconst 1, 1) := by decide +kernel
theorem dX12_init_249 : decode cX12_init 249 = .ok (.iconst 2, 1) := by decide +kernel
theorem dX12_init_250 : decode cX12_init 250 = .ok (.iastore, 1) := by decide +kernel
theorem dX12_init_251 : decode cX12_init 251 = .ok (.iconst 0, 1) := by decide +kernel
theorem dX12_init_252 : decode cX12_init 252 = .ok (.istore_n 1, 1) := by decide +kernel
theorem dX12_init_253 : decode cX12_init 253 = .ok (.iload_n 1, 1) := by decide +kernel
theorem dX12_init_254 : decode cX12_init 254 = .ok (.bipush 8, 2) := by decide +kernel
theorem dX12_init_256 : decode cX12_init 256 = .ok (.if_icmp .ge 19, 3) := by decide +kernel
theorem dX12_init_259 : decode cX12_init 259 = .ok (.aload_n 0, 1) := by decide +kernel
theorem dX12_init_260 : decode cX12_init 260 = .ok (.getfield 9, 3) := by decide +kernel
theorem dX12_init_263 : decode cX12_init 263 = .ok (.bipush 38, 2) := by decide +kernel
theorem dX12_init_265 : decode cX12_init 265 = .ok (.iload_n 1, 1) := by decide +kernel
theorem dX12_init_266 : decode cX12_init 266 = .ok (.iadd, 1) := by decide +kernel
theorem dX12_init_267 : decode cX12_init 267 = .ok (.iconst (-1), 1) := by decide +kernel
theorem dX12_init_268 : decode cX12_init 268 = .ok (.iastore, 1) := by decide +kernel
theorem dX12_init_269 : decode cX12_init 269 = .ok (.iinc 1 1, 3) := by decide +kernel
theorem dX12_init_272 : decode cX12_init 272 = .ok (.goto (-19), 3) := by decide +kernel
theorem dX12_init_275 : decode cX12_init 275 = .ok (.return_, 1) := by decide +kernel
theorem dX12_thrown_0 : decode cX12_thrown 0 = .ok (.aload_n 0, 1) := by decide +kernel
theorem dX12_thrown_1 : decode cX12_thrown 1 = .ok (.getfield 82, 3) := by decide +kernel
theorem dX12_thrown_4 : decode cX12_thrown 4 = .ok (.ireturn, 1) := by decide +kernel
theorem dX12_fails_0 : decode cX12_fails 0 = .ok (.aload_n 0, 1) := by decide +kernel
theorem dX12_fails_1 : decode cX12_fails 1 = .ok (.iload_n 1, 1) := by decide +kernel
theorem dX12_fails_2 : decode cX12_fails 2 = .ok (.putfield 82, 3) := by decide +kernel
theorem dX12_fails_5 : decode cX12_fails 5 = .ok (.iconst 0, 1) := by decide +kernel
theorem dX12_fails_6 : decode cX12_fails 6 = .ok (.ireturn, 1) := by decide +kernel
theorem dX12_within_0 : decode cX12_within 0 = .ok (.lload_n 0, 1) := by decide +kernel
theorem dX12_within_1 : decode cX12_within 1 = .ok (.lload_n 2, 1) := by decide +kernel
theorem dX12_within_2 : decode cX12_within 2 = .ok (.lcmp, 1) := by decide +kernel
theorem dX12_within_3 : decode cX12_within 3 = .ok (.ifCond .lt 14, 3) := by decide +kernel
theorem dX12_within_6 : decode cX12_within 6 = .ok (.lload_n 0, 1) := by decide +kernel
theorem dX12_within_7 : decode cX12_within 7 = .ok (.lload 4, 2) := by decide +kernel
theorem dX12_within_9 : decode cX12_within 9 = .ok (.lcmp, 1) := by decide +kernel
theorem dX12_within_10 : decode cX12_within 10 = .ok (.ifCond .gt 7, 3) := by decide +kernel
theorem dX12_within_13 : decode cX12_within 13 = .ok (.iconst 1, 1) := by decide +kernel
theorem dX12_within_14 : decode cX12_within 14 = .ok (.goto 4, 3) := by decide +kernel
theorem dX12_within_17 : decode cX12_within 17 = .ok (.iconst 0, 1) := by decide +kernel
theorem dX12_within_18 : decode cX12_within 18 = .ok (.ireturn, 1) := by decide +kernel
theorem dX12_has_0 : decode cX12_has 0 = .ok (.iload_n 0, 1) := by decide +kernel
theorem dX12_has_1 : decode cX12_has 1 = .ok (.iload_n 1, 1) := by decide +kernel
theorem dX12_has_2 : decode cX12_has 2 = .ok (.ishr, 1) := by decide +kernel
theorem dX12_has_3 : decode cX12_has 3 = .ok (.iconst 1, 1) := by decide +kernel
theorem dX12_has_4 : decode cX12_has 4 = .ok (.iand, 1) := by decide +kernel
theorem dX12_has_5 : decode cX12_has 5 = .ok (.iconst 1, 1) := by decide +kernel
theorem dX12_has_6 : decode cX12_has 6 = .ok (.if_icmp .ne 7, 3) := by decide +kernel
theorem dX12_has_9 : decode cX12_has 9 = .ok (.iconst 1, 1) := by decide +kernel
theorem dX12_has_10 : decode cX12_has 10 = .ok (.goto 4, 3) := by decide +kernel
theorem dX12_has_13 : decode cX12_has 13 = .ok (.iconst 0, 1) := by decide +kernel
theorem dX12_has_14 : decode cX12_has 14 = .ok (.ireturn, 1) := by decide +kernel
theorem dX12_size_0 : decode cX12_size 0 = .ok (.iconst 0, 1) := by decide +kernel
theorem dX12_size_1 : decode cX12_size 1 = .ok (.istore_n 1, 1) := by decide +kernel
theorem dX12_size_2 : decode cX12_size 2 = .ok (.iload_n 0, 1) := by decide +kernel
theorem dX12_size_3 : decode cX12_size 3 = .ok (.istore_n 2, 1) := by decide +kernel
theorem dX12_size_4 : decode cX12_size 4 = .ok (.iload_n 2, 1) := by decide +kernel
theorem dX12_size_5 : decode cX12_size 5 = .ok (.ifCond .eq 15, 3) := by decide +kernel
theorem dX12_size_8 : decode cX12_size 8 = .ok (.iinc 1 1, 3) := by decide +kernel
theorem dX12_size_11 : decode cX12_size 11 = .ok (.iload_n 2, 1) := by decide +kernel
theorem dX12_size_12 : decode cX12_size 12 = .ok (.iload_n 2, 1) := by decide +kernel
theorem dX12_size_13 : decode cX12_size 13 = .ok (.iconst 1, 1) := by decide +kernel
theorem dX12_size_14 : decode cX12_size 14 = .ok (.isub, 1) := by decide +kernel
theorem dX12_size_15 : decode cX12_size 15 = .ok (.iand, 1) := by decide +kernel
theorem dX12_size_16 : decode cX12_size 16 = .ok (.istore_n 2, 1) := by decide +kernel
theorem dX12_size_17 : decode cX12_size 17 = .ok (.goto (-13), 3) := by decide +kernel
theorem dX12_size_20 : decode cX12_size 20 = .ok (.iload_n 1, 1) := by decide +kernel
theorem dX12_size_21 : decode cX12_size 21 = .ok (.ireturn, 1) := by decide +kernel
theorem dX12_feed_0 : decode cX12_feed 0 = .ok (.aload_n 0, 1) := by decide +kernel
theorem dX12_feed_1 : decode cX12_feed 1 = .ok (.iconst 0, 1) := by decide +kernel
theorem dX12_feed_2 : decode cX12_feed 2 = .ok (.putfield 82, 3) := by decide +kernel
theorem dX12_feed_5 : decode cX12_feed 5 = .ok (.aload_n 0, 1) := by decide +kernel
theorem dX12_feed_6 : decode cX12_feed 6 = .ok (.getfield 85, 3) := by decide +kernel
theorem dX12_feed_9 : decode cX12_feed 9 = .ok (.bipush 20, 2) := by decide +kernel
theorem dX12_feed_11 : decode cX12_feed 11 = .ok (.iadd, 1) := by decide +kernel
theorem dX12_feed_12 : decode cX12_feed 12 = .ok (.sipush 900, 3) := by decide +kernel
theorem dX12_feed_15 : decode cX12_feed 15 = .ok (.if_icmp .le 5, 3) := by decide +kernel
theorem dX12_feed_18 : decode cX12_feed 18 = .ok (.iconst (-1), 1) := by decide +kernel
theorem dX12_feed_19 : decode cX12_feed 19 = .ok (.ireturn, 1) := by decide +kernel
theorem dX12_feed_20 : decode cX12_feed 20 = .ok (.iconst 0, 1) := by decide +kernel
theorem dX12_feed_21 : decode cX12_feed 21 = .ok (.istore 6, 2) := by decide +kernel
theorem dX12_feed_23 : decode cX12_feed 23 = .ok (.iload 6, 2) := by decide +kernel
theorem dX12_feed_25 : decode cX12_feed 25 = .ok (.bipush 20, 2) := by decide +kernel
theorem dX12_feed_27 : decode cX12_feed 27 = .ok (.if_icmp .ge 93, 3) := by decide +kernel
theorem dX12_feed_30 : decode cX12_feed 30 = .ok (.iload 6, 2) := by decide +kernel
theorem dX12_feed_32 : decode cX12_feed 32 = .ok (.iconst 4, 1) := by decide +kernel
theorem dX12_feed_33 : decode cX12_feed 33 = .ok (.if_icmp .ge 7, 3) := by decide +kernel
theorem dX12_feed_36 : decode cX12_feed 36 = .ok (.iload_n 1, 1) := by decide +kernel
theorem dX12_feed_37 : decode cX12_feed 37 = .ok (.goto 39, 3) := by decide +kernel
theorem dX12_feed_40 : decode cX12_feed 40 = .ok (.iload 6, 2) := by decide +kernel
theorem dX12_feed_42 : decode cX12_feed 42 = .ok (.bipush 8, 2) := by decide +kernel
theorem dX12_feed_44 : decode cX12_feed 44 = .ok (.if_icmp .ge 7, 3) := by decide +kernel
theorem dX12_feed_47 : decode cX12_feed 47 = .ok (.iload_n 2, 1) := by decide +kernel
theorem dX12_feed_48 : decode cX12_feed 48 = .ok (.goto 28, 3) := by decide +kernel
theorem dX12_feed_51 : decode cX12_feed 51 = .ok (.iload 6, 2) := by decide +kernel
theorem dX12_feed_53 : decode cX12_feed 53 = .ok (.bipush 12, 2) := by decide +kernel
theorem dX12_feed_55 : decode cX12_feed 55 = .ok (.if_icmp .ge 7, 3) := by decide +kernel
theorem dX12_feed_58 : decode cX12_feed 58 = .ok (.iload_n 3, 1) := by decide +kernel
theorem dX12_feed_59 : decode cX12_feed 59 = .ok (.goto 17, 3) := by decide +kernel
theorem dX12_feed_62 : decode cX12_feed 62 = .ok (.iload 6, 2) := by decide +kernel
theorem dX12_feed_64 : decode cX12_feed 64 = .ok (.bipush 16, 2) := by decide +kernel
theorem dX12_feed_66 : decode cX12_feed 66 = .ok (.if_icmp .ge 8, 3) := by decide +kernel
theorem dX12_feed_69 : decode cX12_feed 69 = .ok (.iload 4, 2) := by decide +kernel
theorem dX12_feed_71 : decode cX12_feed 71 = .ok (.goto 5, 3) := by decide +kernel
theorem dX12_feed_74 : decode cX12_feed 74 = .ok (.iload 5, 2) := by decide +kernel
theorem dX12_feed_76 : decode cX12_feed 76 = .ok (.istore 7, 2) := by decide +kernel
theorem dX12_feed_78 : decode cX12_feed 78 = .ok (.aload_n 0, 1) := by decide +kernel
theorem dX12_feed_79 : decode cX12_feed 79 = .ok (.getfield 23, 3) := by decide +kernel
theorem dX12_feed_82 : decode cX12_feed 82 = .ok (.aload_n 0, 1) := by decide +kernel
theorem dX12_feed_83 : decode cX12_feed 83 = .ok (.getfield 85, 3) := by decide +kernel
theorem dX12_feed_86 : decode cX12_feed 86 = .ok (.iload 7, 2) := by decide +kernel
theorem dX12_feed_88 : decode cX12_feed 88 = .ok (.bipush 24, 2) := by decide +kernel
theorem dX12_feed_90 : decode cX12_feed 90 = .ok (.bipush 8, 2) := by decide +kernel
theorem dX12_feed_92 : decode cX12_feed 92 = .ok (.iload 6, 2) := by decide +kernel
theorem dX12_feed_94 : decode cX12_feed 94 = .ok (.iconst 3, 1) := by decide +kernel
theorem dX12_feed_95 : decode cX12_feed 95 = .ok (.iand, 1) := by decide +kernel
theorem dX12_feed_96 : decode cX12_feed 96 = .ok (.imul, 1) := by decide +kernel
theorem dX12_feed_97 : decode cX12_feed 97 = .ok (.isub, 1) := by decide +kernel
theorem dX12_feed_98 : decode cX12_feed 98 = .ok (.iushr, 1) := by decide +kernel
theorem dX12_feed_99 : decode cX12_feed 99 = .ok (.sipush 255, 3) := by decide +kernel
theorem dX12_feed_102 : decode cX12_feed 102 = .ok (.iand, 1) := by decide +kernel
theorem dX12_feed_103 : decode cX12_feed 103 = .ok (.iastore, 1) := by decide +kernel
theorem dX12_feed_104 : decode cX12_feed 104 = .ok (.aload_n 0, 1) := by decide +kernel
theorem dX12_feed_105 : decode cX12_feed 105 = .ok (.dup, 1) := by decide +kernel
theorem dX12_feed_106 : decode cX12_feed 106 = .ok (.getfield 85, 3) := by decide +kernel
theorem dX12_feed_109 : decode cX12_feed 109 = .ok (.iconst 1, 1) := by decide +kernel
theorem dX12_feed_110 : decode cX12_feed 110 = .ok (.iadd, 1) := by decide +kernel
theorem dX12_feed_111 : decode cX12_feed 111 = .ok (.putfield 85, 3) := by decide +kernel
theorem dX12_feed_114 : decode cX12_feed 114 = .ok (.iinc 6 1, 3) := by decide +kernel
theorem dX12_feed_117 : decode cX12_feed 117 = .ok (.goto (-94), 3) := by decide +kernel
theorem dX12_feed_120 : decode cX12_feed 120 = .ok (.aload_n 0, 1) := by decide +kernel
theorem dX12_feed_121 : decode cX12_feed 121 = .ok (.getfield 85, 3) := by decide +kernel
theorem dX12_feed_124 : decode cX12_feed 124 = .ok (.ireturn, 1) := by decide +kernel
theorem dX12_see_0 : decode cX12_see 0 = .ok (.iload_n 1, 1) := by decide +kernel
theorem dX12_see_1 : decode cX12_see 1 = .ok (.aload_n 0, 1) := by decide +kernel
theorem dX12_see_2 : decode cX12_see 2 = .ok (.getfield 88, 3) := by decide +kernel
theorem dX12_see_5 : decode cX12_see 5 = .ok (.if_icmp .ge 12, 3) := by decide +kernel
theorem dX12_see_8 : decode cX12_see 8 = .ok (.aload_n 0, 1) := by decide +kernel
theorem dX12_see_9 : decode cX12_see 9 = .ok (.getfield 23, 3) := by decide +kernel
theorem dX12_see_12 : decode cX12_see 12 = .ok (.iload_n 1, 1) := by decide +kernel
theorem dX12_see_13 : decode cX12_see 13 = .ok (.iaload, 1) := by decide +kernel
theorem dX12_see_14 : decode cX12_see 14 = .ok (.goto 4, 3) := by decide +kernel
theorem dX12_see_17 : decode cX12_see 17 = .ok (.iconst 0, 1) := by decide +kernel
theorem dX12_see_18 : decode cX12_see 18 = .ok (.ireturn, 1) := by decide +kernel
theorem dX12_isLetter_0 : decode cX12_isLetter 0 = .ok (.iload_n 0, 1) := by decide +kernel
theorem dX12_isLetter_1 : decode cX12_isLetter 1 = .ok (.bipush 97, 2) := by decide +kernel
theorem dX12_isLetter_3 : decode cX12_isLetter 3 = .ok (.if_icmp .lt 13, 3) := by decide +kernel
theorem dX12_isLetter_6 : decode cX12_isLetter 6 = .ok (.iload_n 0, 1) := by decide +kernel
theorem dX12_isLetter_7 : decode cX12_isLetter 7 = .ok (.bipush 122, 2) := by decide +kernel
theorem dX12_isLetter_9 : decode cX12_isLetter 9 = .ok (.if_icmp .gt 7, 3) := by decide +kernel
theorem dX12_isLetter_12 : decode cX12_isLetter 12 = .ok (.iconst 1, 1) := by decide +kernel
theorem dX12_isLetter_13 : decode cX12_isLetter 13 = .ok (.goto 4, 3) := by decide +kernel
theorem dX12_isLetter_16 : decode cX12_isLetter 16 = .ok (.iconst 0, 1) := by decide +kernel
theorem dX12_isLetter_17 : decode cX12_isLetter 17 = .ok (.ireturn, 1) := by decide +kernel
theorem dX12_isDigit_0 : decode cX12_isDigit 0 = .ok (.iload_n 0, 1) := by decide +kernel
theorem dX12_isDigit_1 : decode cX12_isDigit 1 = .ok (.bipush 48, 2) := by decide +kernel
theorem dX12_isDigit_3 : decode cX12_isDigit 3 = .ok (.if_icmp .lt 13, 3) := by decide +kernel
theorem dX12_isDigit_6 : decode cX12_isDigit 6 = .ok (.iload_n 0, 1) := by decide +kernel
theorem dX12_isDigit_7 : decode cX12_isDigit 7 = .ok (.bipush 57, 2) := by decide +kernel
theorem dX12_isDigit_9 : decode cX12_isDigit 9 = .ok (.if_icmp .gt 7, 3) := by decide +kernel
theorem dX12_isDigit_12 : decode cX12_isDigit 12 = .ok (.iconst 1, 1) := by decide +kernel
theorem dX12_isDigit_13 : decode cX12_isDigit 13 = .ok (.goto 4, 3) := by decide +kernel
theorem dX12_isDigit_16 : decode cX12_isDigit 16 = .ok (.iconst 0, 1) := by decide +kernel
theorem dX12_isDigit_17 : decode cX12_isDigit 17 = .ok (.ireturn, 1) := by decide +kernel
theorem dX12_isSignByte_0 : decode cX12_isSignByte 0 = .ok (.iload_n 0, 1) := by decide +kernel
theorem dX12_isSignByte_1 : decode cX12_isSignByte 1 = .ok (.bipush 91, 2) := by decide +kernel
theorem dX12_isSignByte_3 : decode cX12_isSignByte 3 = .ok (.if_icmp .eq 33, 3) := by decide +kernel
theorem dX12_isSignByte_6 : decode cX12_isSignByte 6 = .ok (.iload_n 0, 1) := by decide +kernel
theorem dX12_isSignByte_7 : decode cX12_isSignByte 7 = .ok (.bipush 93, 2) := by decide +kernel
theorem dX12_isSignByte_9 : decode cX12_isSignByte 9 = .ok (.if_icmp .eq 27, 3) := by decide +kernel
theorem dX12_isSignByte_12 : decode cX12_isSignByte 12 = .ok (.iload_n 0, 1) := by decide +kernel
theorem dX12_isSignByte_13 : decode cX12_isSignByte 13 = .ok (.bipush 61, 2) := by decide +kernel
theorem dX12_isSignByte_15 : decode cX12_isSignByte 15 = .ok (.if_icmp .eq 21, 3) := by decide +kernel
theorem dX12_isSignByte_18 : decode cX12_isSignByte 18 = .ok (.iload_n 0, 1) := by decide +kernel
theorem dX12_isSignByte_19 : decode cX12_isSignByte 19 = .ok (.bipush 60, 2) := by decide +kernel
theorem dX12_isSignByte_21 : decode cX12_isSignByte 21 = .ok (.if_icmp .eq 15, 3) := by decide +kernel
theorem dX12_isSignByte_24 : decode cX12_isSignByte 24 = .ok (.iload_n 0, 1) := by decide +kernel
theorem dX12_isSignByte_25 : decode cX12_isSignByte 25 = .ok (.bipush 62, 2) := by decide +kernel
theorem dX12_isSignByte_27 : decode cX12_isSignByte 27 = .ok (.if_icmp .eq 9, 3) := by decide +kernel
theorem dX12_isSignByte_30 : decode cX12_isSignByte 30 = .ok (.iload_n 0, 1) := by decide +kernel
theorem dX12_isSignByte_31 : decode cX12_isSignByte 31 = .ok (.bipush 58, 2) := by decide +kernel
theorem dX12_isSignByte_33 : decode cX12_isSignByte 33 = .ok (.if_icmp .ne 7, 3) := by decide +kernel
theorem dX12_isSignByte_36 : decode cX12_isSignByte 36 = .ok (.iconst 1, 1) := by decide +kernel
theorem dX12_isSignByte_37 : decode cX12_isSignByte 37 = .ok (.goto 4, 3) := by decide +kernel
theorem dX12_isSignByte_40 : decode cX12_isSignByte 40 = .ok (.iconst 0, 1) := by decide +kernel
theorem dX12_isSignByte_41 : decode cX12_isSignByte 41 = .ok (.istore_n 1, 1) := by decide +kernel
theorem dX12_isSignByte_42 : decode cX12_isSignByte 42 = .ok (.iload_n 1, 1) := by decide +kernel
theorem dX12_isSignByte_43 : decode cX12_isSignByte 43 = .ok (.ifCond .ne 39, 3) := by decide +kernel
theorem dX12_isSignByte_46 : decode cX12_isSignByte 46 = .ok (.iload_n 0, 1) := by decide +kernel
theorem dX12_isSignByte_47 : decode cX12_isSignByte 47 = .ok (.bipush 59, 2) := by decide +kernel
theorem dX12_isSignByte_49 : decode cX12_isSignByte 49 = .ok (.if_icmp .eq 33, 3) := by decide +kernel
theorem dX12_isSignByte_52 : decode cX12_isSignByte 52 = .ok (.iload_n 0, 1) := by decide +kernel
theorem dX12_isSignByte_53 : decode cX12_isSignByte 53 = .ok (.bipush 43, 2) := by decide +kernel
theorem dX12_isSignByte_55 : decode cX12_isSignByte 55 = .ok (.if_icmp .eq 27, 3) := by decide +kernel
theorem dX12_isSignByte_58 : decode cX12_isSignByte 58 = .ok (.iload_n 0, 1) := by decide +kernel
theorem dX12_isSignByte_59 : decode cX12_isSignByte 59 = .ok (.bipush 45, 2) := by decide +kernel
theorem dX12_isSignByte_61 : decode cX12_isSignByte 61 = .ok (.if_icmp .eq 21, 3) := by decide +kernel
theorem dX12_isSignByte_64 : decode cX12_isSignByte 64 = .ok (.iload_n 0, 1) := by decide +kernel
theorem dX12_isSignByte_65 : decode cX12_isSignByte 65 = .ok (.bipush 42, 2) := by decide +kernel
theorem dX12_isSignByte_67 : decode cX12_isSignByte 67 = .ok (.if_icmp .eq 15, 3) := by decide +kernel
theorem dX12_isSignByte_70 : decode cX12_isSignByte 70 = .ok (.iload_n 0, 1) := by decide +kernel
theorem dX12_isSignByte_71 : decode cX12_isSignByte 71 = .ok (.bipush 40, 2) := by decide +kernel
theorem dX12_isSignByte_73 : decode cX12_isSignByte 73 = .ok (.if_icmp .eq 9, 3) := by decide +kernel
theorem dX12_isSignByte_76 : decode cX12_isSignByte 76 = .ok (.iload_n 0, 1) := by decide +kernel
theorem dX12_isSignByte_77 : decode cX12_isSignByte 77 = .ok (.bipush 41, 2) := by decide +kernel
theorem dX12_isSignByte_79 : decode cX12_isSignByte 79 = .ok (.if_icmp .ne 7, 3) := by decide +kernel
theorem dX12_isSignByte_82 : decode cX12_isSignByte 82 = .ok (.iconst 1, 1) := by decide +kernel
theorem dX12_isSignByte_83 : decode cX12_isSignByte 83 = .ok (.goto 4, 3) := by decide +kernel
theorem dX12_isSignByte_86 : decode cX12_isSignByte 86 = .ok (.iconst 0, 1) := by decide +kernel
theorem dX12_isSignByte_87 : decode cX12_isSignByte 87 = .ok (.ireturn, 1) := by decide +kernel
theorem dX12_readsOn_0 : decode cX12_readsOn 0 = .ok (.aload_n 0, 1) := by decide +kernel
theorem dX12_readsOn_1 : decode cX12_readsOn 1 = .ok (.getfield 91, 3) := by decide +kernel
theorem dX12_readsOn_4 : decode cX12_readsOn 4 = .ok (.aload_n 0, 1) := by decide +kernel
theorem dX12_readsOn_5 : decode cX12_readsOn 5 = .ok (.getfield 88, 3) := by decide +kernel
theorem dX12_readsOn_8 : decode cX12_readsOn 8 = .ok (.if_icmp .ge 44, 3) := by decide +kernel
theorem dX12_readsOn_11 : decode cX12_readsOn 11 = .ok (.aload_n 0, 1) := by decide +kernel
theorem dX12_readsOn_12 : decode cX12_readsOn 12 = .ok (.getfield 23, 3) := by decide +kernel
theorem dX12_readsOn_15 : decode cX12_readsOn 15 = .ok (.aload_n 0, 1) := by decide +kernel
theorem dX12_readsOn_16 : decode cX12_readsOn 16 = .ok (.getfield 91, 3) := by decide +kernel
theorem dX12_readsOn_19 : decode cX12_readsOn 19 = .ok (.iaload, 1) := by decide +kernel
theorem dX12_readsOn_20 : decode cX12_readsOn 20 = .ok (.bipush 32, 2) := by decide +kernel
theorem dX12_readsOn_22 : decode cX12_readsOn 22 = .ok (.if_icmp .eq 17, 3) := by decide +kernel
theorem dX12_readsOn_25 : decode cX12_readsOn 25 = .ok (.aload_n 0, 1) := by decide +kernel
theorem dX12_readsOn_26 : decode cX12_readsOn 26 = .ok (.getfield 23, 3) := by decide +kernel
theorem dX12_readsOn_29 : decode cX12_readsOn 29 = .ok (.aload_n 0, 1) := by decide +kernel
theorem dX12_readsOn_30 : decode cX12_readsOn 30 = .ok (.getfield 91, 3) := by decide +kernel
theorem dX12_readsOn_33 : decode cX12_readsOn 33 = .ok (.iaload, 1) := by decide +kernel
theorem dX12_readsOn_34 : decode cX12_readsOn 34 = .ok (.bipush 10, 2) := by decide +kernel
theorem dX12_readsOn_36 : decode cX12_readsOn 36 = .ok (.if_icmp .ne 16, 3) := by decide +kernel
theorem dX12_readsOn_39 : decode cX12_readsOn 39 = .ok (.aload_n 0, 1) := by decide +kernel
theorem dX12_readsOn_40 : decode cX12_readsOn 40 = .ok (.dup, 1) := by decide +kernel
theorem dX12_readsOn_41 : decode cX12_readsOn 41 = .ok (.getfield 91, 3) := by decide +kernel
theorem dX12_readsOn_44 : decode cX12_readsOn 44 = .ok (.iconst 1, 1) := by decide +kernel
theorem dX12_readsOn_45 : decode cX12_readsOn 45 = .ok (.iadd, 1) := by decide +kernel
theorem dX12_readsOn_46 : decode cX12_readsOn 46 = .ok (.putfield 91, 3) := by decide +kernel
theorem dX12_readsOn_49 : decode cX12_readsOn 49 = .ok (.goto (-49), 3) := by decide +kernel
theorem dX12_readsOn_52 : decode cX12_readsOn 52 = .ok (.aload_n 0, 1) := by decide +kernel
theorem dX12_readsOn_53 : decode cX12_readsOn 53 = .ok (.aload_n 0, 1) := by decide +kernel
theorem dX12_readsOn_54 : decode cX12_readsOn 54 = .ok (.getfield 91, 3) := by decide +kernel
theorem dX12_readsOn_57 : decode cX12_readsOn 57 = .ok (.putfield 94, 3) := by decide +kernel
theorem dX12_readsOn_60 : decode cX12_readsOn 60 = .ok (.aload_n 0, 1) := by decide +kernel
theorem dX12_readsOn_61 : decode cX12_readsOn 61 = .ok (.getfield 91, 3) := by decide +kernel
theorem dX12_readsOn_64 : decode cX12_readsOn 64 = .ok (.aload_n 0, 1) := by decide +kernel
theorem dX12_readsOn_65 : decode cX12_readsOn 65 = .ok (.getfield 88, 3) := by decide +kernel
theorem dX12_readsOn_68 : decode cX12_readsOn 68 = .ok (.if_icmp .lt 9, 3) := by decide +kernel
theorem dX12_readsOn_71 : decode cX12_readsOn 71 = .ok (.aload_n 0, 1) := by decide +kernel
theorem dX12_readsOn_72 : decode cX12_readsOn 72 = .ok (.iconst 0, 1) := by decide +kernel
theorem dX12_readsOn_73 : decode cX12_readsOn 73 = .ok (.putfield 97, 3) := by decide +kernel
theorem dX12_readsOn_76 : decode cX12_readsOn 76 = .ok (.return_, 1) := by decide +kernel
theorem dX12_readsOn_77 : decode cX12_readsOn 77 = .ok (.aload_n 0, 1) := by decide +kernel
theorem dX12_readsOn_78 : decode cX12_readsOn 78 = .ok (.getfield 23, 3) := by decide +kernel
theorem dX12_readsOn_81 : decode cX12_readsOn 81 = .ok (.aload_n 0, 1) := by decide +kernel
theorem dX12_readsOn_82 : decode cX12_readsOn 82 = .ok (.getfield 91, 3) := by decide +kernel
theorem dX12_readsOn_85 : decode cX12_readsOn 85 = .ok (.iaload, 1) := by decide +kernel
theorem dX12_readsOn_86 : decode cX12_readsOn 86 = .ok (.istore_n 1, 1) := by decide +kernel
theorem dX12_readsOn_87 : decode cX12_readsOn 87 = .ok (.iload_n 1, 1) := by decide +kernel
theorem dX12_readsOn_88 : decode cX12_readsOn 88 = .ok (.invokestatic 100, 3) := by decide +kernel
theorem dX12_readsOn_91 : decode cX12_readsOn 91 = .ok (.ifCond .eq 38, 3) := by decide +kernel
theorem dX12_readsOn_94 : decode cX12_readsOn 94 = .ok (.aload_n 0, 1) := by decide +kernel
theorem dX12_readsOn_95 : decode cX12_readsOn 95 = .ok (.aload_n 0, 1) := by decide +kernel
theorem dX12_readsOn_96 : decode cX12_readsOn 96 = .ok (.getfield 91, 3) := by decide +kernel
theorem dX12_readsOn_99 : decode cX12_readsOn 99 = .ok (.invokevirtual 104, 3) := by decide +kernel
theorem dX12_readsOn_102 : decode cX12_readsOn 102 = .ok (.invokestatic 100, 3) := by decide +kernel
theorem dX12_readsOn_105 : decode cX12_readsOn 105 = .ok (.ifCond .eq 16, 3) := by decide +kernel
theorem dX12_readsOn_108 : decode cX12_readsOn 108 = .ok (.aload_n 0, 1) := by decide +kernel
theorem dX12_readsOn_109 : decode cX12_readsOn 109 = .ok (.dup, 1) := by decide +kernel
theorem dX12_readsOn_110 : decode cX12_readsOn 110 = .ok (.getfield 91, 3) := by decide +kernel
theorem dX12_readsOn_113 : decode cX12_readsOn 113 = .ok (.iconst 1, 1) := by decide +kernel
theorem dX12_readsOn_114 : decode cX12_readsOn 114 = .ok (.iadd, 1) := by decide +kernel
theorem dX12_readsOn_115 : decode cX12_readsOn 115 = .ok (.putfield 91, 3) := by decide +kernel
theorem dX12_readsOn_118 : decode cX12_readsOn 118 = .ok (.goto (-24), 3) := by decide +kernel
theorem dX12_readsOn_121 : decode cX12_readsOn 121 = .ok (.aload_n 0, 1) := by decide +kernel
theorem dX12_readsOn_122 : decode cX12_readsOn 122 = .ok (.iconst 1, 1) := by decide +kernel
theorem dX12_readsOn_123 : decode cX12_readsOn 123 = .ok (.putfield 97, 3) := by decide +kernel
theorem dX12_readsOn_126 : decode cX12_readsOn 126 = .ok (.goto 137, 3) := by decide +kernel
theorem dX12_readsOn_129 : decode cX12_readsOn 129 = .ok (.iload_n 1, 1) := by decide +kernel
theorem dX12_readsOn_130 : decode cX12_readsOn 130 = .ok (.invokestatic 108, 3) := by decide +kernel
theorem dX12_readsOn_133 : decode cX12_readsOn 133 = .ok (.ifCond .eq 104, 3) := by decide +kernel
theorem dX12_readsOn_136 : decode cX12_readsOn 136 = .ok (.aload_n 0, 1) := by decide +kernel
theorem dX12_readsOn_137 : decode cX12_readsOn 137 = .ok (.iconst 0, 1) := by decide +kernel
theorem dX12_readsOn_138 : decode cX12_readsOn 138 = .ok (.putfield 111, 3) := by decide +kernel
theorem dX12_readsOn_141 : decode cX12_readsOn 141 = .ok (.aload_n 0, 1) := by decide +kernel
theorem dX12_readsOn_142 : decode cX12_readsOn 142 = .ok (.aload_n 0, 1) := by decide +kernel
theorem dX12_readsOn_143 : decode cX12_readsOn 143 = .ok (.getfield 91, 3) := by decide +kernel
theorem dX12_readsOn_146 : decode cX12_readsOn 146 = .ok (.invokevirtual 104, 3) := by decide +kernel
theorem dX12_readsOn_149 : decode cX12_readsOn 149 = .ok (.invokestatic 108, 3) := by decide +kernel
theorem dX12_readsOn_152 : decode cX12_readsOn 152 = .ok (.ifCond .eq 60, 3) := by decide +kernel
theorem dX12_readsOn_155 : decode cX12_readsOn 155 = .ok (.aload_n 0, 1) := by decide +kernel
theorem dX12_readsOn_156 : decode cX12_readsOn 156 = .ok (.aload_n 0, 1) := by decide +kernel
theorem dX12_readsOn_157 : decode cX12_readsOn 157 = .ok (.getfield 91, 3) := by decide +kernel
theorem dX12_readsOn_160 : decode cX12_readsOn 160 = .ok (.aload_n 0, 1) := by decide +kernel
theorem dX12_readsOn_161 : decode cX12_readsOn 161 = .ok (.getfield 94, 3) := by decide +kernel
theorem dX12_readsOn_164 : decode cX12_readsOn 164 = .ok (.isub, 1) := by decide +kernel
theorem dX12_readsOn_165 : decode cX12_readsOn 165 = .ok (.iconst 3, 1) := by decide +kernel
theorem dX12_readsOn_166 : decode cX12_readsOn 166 = .ok (.if_icmp .ge 26, 3) := by decide +kernel
theorem dX12_readsOn_169 : decode cX12_readsOn 169 = .ok (.bipush 10, 2) := by decide +kernel
theorem dX12_readsOn_171 : decode cX12_readsOn 171 = .ok (.aload_n 0, 1) := by decide +kernel
theorem dX12_readsOn_172 : decode cX12_readsOn 172 = .ok (.getfield 111, 3) := by decide +kernel
theorem dX12_readsOn_175 : decode cX12_readsOn 175 = .ok (.imul, 1) := by decide +kernel
theorem dX12_readsOn_176 : decode cX12_readsOn 176 = .ok (.aload_n 0, 1) := by decide +kernel
theorem dX12_readsOn_177 : decode cX12_readsOn 177 = .ok (.getfield 23, 3) := by decide +kernel
theorem dX12_readsOn_180 : decode cX12_readsOn 180 = .ok (.aload_n 0, 1) := by decide +kernel
theorem dX12_readsOn_181 : decode cX12_readsOn 181 = .ok (.getfield 91, 3) := by decide +kernel
theorem dX12_readsOn_184 : decode cX12_readsOn 184 = .ok (.iaload, 1) := by decide +kernel
theorem dX12_readsOn_185 : decode cX12_readsOn 185 = .ok (.iadd, 1) := by decide +kernel
theorem dX12_readsOn_186 : decode cX12_readsOn 186 = .ok (.bipush 48, 2) := by decide +kernel
theorem dX12_readsOn_188 : decode cX12_readsOn 188 = .ok (.isub, 1) := by decide +kernel
theorem dX12_readsOn_189 : decode cX12_readsOn 189 = .ok (.goto 7, 3) := by decide +kernel
theorem dX12_readsOn_192 : decode cX12_readsOn 192 = .ok (.aload_n 0, 1) := by decide +kernel
theorem dX12_readsOn_193 : decode cX12_readsOn 193 = .ok (.getfield 111, 3) := by decide +kernel
theorem dX12_readsOn_196 : decode cX12_readsOn 196 = .ok (.putfield 111, 3) := by decide +kernel
theorem dX12_readsOn_199 : decode cX12_readsOn 199 = .ok (.aload_n 0, 1) := by decide +kernel
theorem dX12_readsOn_200 : decode cX12_readsOn 200 = .ok (.dup, 1) := by decide +kernel
theorem dX12_readsOn_201 : decode cX12_readsOn 201 = .ok (.getfield 91, 3) := by decide +kernel
theorem dX12_readsOn_204 : decode cX12_readsOn 204 = .ok (.iconst 1, 1) := by decide +kernel
theorem dX12_readsOn_205 : decode cX12_readsOn 205 = .ok (.iadd, 1) := by decide +kernel
theorem dX12_readsOn_206 : decode cX12_readsOn 206 = .ok (.putfield 91, 3) := by decide +kernel
theorem dX12_readsOn_209 : decode cX12_readsOn 209 = .ok (.goto (-68), 3) := by decide +kernel
theorem dX12_readsOn_212 : decode cX12_readsOn 212 = .ok (.aload_n 0, 1) := by decide +kernel
theorem dX12_readsOn_213 : decode cX12_readsOn 213 = .ok (.aload_n 0, 1) := by decide +kernel
theorem dX12_readsOn_214 : decode cX12_readsOn 214 = .ok (.getfield 91, 3) := by decide +kernel
theorem dX12_readsOn_217 : decode cX12_readsOn 217 = .ok (.aload_n 0, 1) := by decide +kernel
theorem dX12_readsOn_218 : decode cX12_readsOn 218 = .ok (.getfield 94, 3) := by decide +kernel
theorem dX12_readsOn_221 : decode cX12_readsOn 221 = .ok (.isub, 1) := by decide +kernel
theorem dX12_readsOn_222 : decode cX12_readsOn 222 = .ok (.iconst 3, 1) := by decide +kernel
theorem dX12_readsOn_223 : decode cX12_readsOn 223 = .ok (.if_icmp .le 7, 3) := by decide +kernel
theorem dX12_readsOn_226 : decode cX12_readsOn 226 = .ok (.iconst 3, 1) := by decide +kernel
theorem dX12_readsOn_227 : decode cX12_readsOn 227 = .ok (.goto 4, 3) := by decide +kernel
theorem dX12_readsOn_230 : decode cX12_readsOn 230 = .ok (.iconst 2, 1) := by decide +kernel
theorem dX12_readsOn_231 : decode cX12_readsOn 231 = .ok (.putfield 97, 3) := by decide +kernel
theorem dX12_readsOn_234 : decode cX12_readsOn 234 = .ok (.goto 29, 3) := by decide +kernel
theorem dX12_readsOn_237 : decode cX12_readsOn 237 = .ok (.aload_n 0, 1) := by decide +kernel
theorem dX12_readsOn_238 : decode cX12_readsOn 238 = .ok (.iload_n 1, 1) := by decide +kernel
theorem dX12_readsOn_239 : decode cX12_readsOn 239 = .ok (.invokestatic 114, 3) := by decide +kernel
theorem dX12_readsOn_242 : decode cX12_readsOn 242 = .ok (.ifCond .eq 7, 3) := by decide +kernel
theorem dX12_readsOn_245 : decode cX12_readsOn 245 = .ok (.iload_n 1, 1) := by decide +kernel
theorem dX12_readsOn_246 : decode cX12_readsOn 246 = .ok (.goto 4, 3) := by decide +kernel
theorem dX12_readsOn_249 : decode cX12_readsOn 249 = .ok (.iconst 3, 1) := by decide +kernel
theorem dX12_readsOn_250 : decode cX12_readsOn 250 = .ok (.putfield 97, 3) := by decide +kernel
theorem dX12_readsOn_253 : decode cX12_readsOn 253 = .ok (.aload_n 0, 1) := by decide +kernel
theorem dX12_readsOn_254 : decode cX12_readsOn 254 = .ok (.dup, 1) := by decide +kernel
theorem dX12_readsOn_255 : decode cX12_readsOn 255 = .ok (.getfield 91, 3) := by decide +kernel
theorem dX12_readsOn_258 : decode cX12_readsOn 258 = .ok (.iconst 1, 1) := by decide +kernel
theorem dX12_readsOn_259 : decode cX12_readsOn 259 = .ok (.iadd, 1) := by decide +kernel
theorem dX12_readsOn_260 : decode cX12_readsOn 260 = .ok (.putfield 91, 3) := by decide +kernel
theorem dX12_readsOn_263 : decode cX12_readsOn 263 = .ok (.return_, 1) := by decide +kernel
theorem dX12_blames_0 : decode cX12_blames 0 = .ok (.aload_n 0, 1) := by decide +kernel
theorem dX12_blames_1 : decode cX12_blames 1 = .ok (.getfield 117, 3) := by decide +kernel
theorem dX12_blames_4 : decode cX12_blames 4 = .ok (.ifCond .eq 4, 3) := by decide +kernel
theorem dX12_blames_7 : decode cX12_blames 7 = .ok (.return_, 1) := by decide +kernel
theorem dX12_blames_8 : decode cX12_blames 8 = .ok (.aload_n 0, 1) := by decide +kernel
theorem dX12_blames_9 : decode cX12_blames 9 = .ok (.aload_n 0, 1) := by decide +kernel
theorem dX12_blames_10 : decode cX12_blames 10 = .ok (.getfield 97, 3) := by decide +kernel
theorem dX12_blames_13 : decode cX12_blames 13 = .ok (.iconst 3, 1) := by decide +kernel
theorem dX12_blames_14 : decode cX12_blames 14 = .ok (.if_icmp .ne 7, 3) := by decide +kernel
theorem dX12_blames_17 : decode cX12_blames 17 = .ok (.iconst 1, 1) := by decide +kernel
theorem dX12_blames_18 : decode cX12_blames 18 = .ok (.goto 4, 3) := by decide +kernel
theorem dX12_blames_21 : decode cX12_blames 21 = .ok (.iload_n 1, 1) := by decide +kernel
theorem dX12_blames_22 : decode cX12_blames 22 = .ok (.putfield 117, 3) := by decide +kernel
theorem dX12_blames_25 : decode cX12_blames 25 = .ok (.aload_n 0, 1) := by decide +kernel
theorem dX12_blames_26 : decode cX12_blames 26 = .ok (.aload_n 0, 1) := by decide +kernel
theorem dX12_blames_27 : decode cX12_blames 27 = .ok (.getfield 94, 3) := by decide +kernel
theorem dX12_blames_30 : decode cX12_blames 30 = .ok (.putfield 120, 3) := by decide +kernel
theorem dX12_blames_33 : decode cX12_blames 33 = .ok (.return_, 1) := by decide +kernel
theorem dX12_isWord_0 : decode cX12_isWord 0 = .ok (.aload_n 0, 1) := by decide +kernel
theorem dX12_isWord_1 : decode cX12_isWord 1 = .ok (.getfield 117, 3) := by decide +kernel
theorem dX12_isWord_4 : decode cX12_isWord 4 = .ok (.ifCond .ne 31, 3) := by decide +kernel
theorem dX12_isWord_7 : decode cX12_isWord 7 = .ok (.aload_n 0, 1) := by decide +kernel
theorem dX12_isWord_8 : decode cX12_isWord 8 = .ok (.getfield 97, 3) := by decide +kernel
theorem dX12_isWord_11 : decode cX12_isWord 11 = .ok (.iconst 1, 1) := by decide +kernel
theorem dX12_isWord_12 : decode cX12_isWord 12 = .ok (.if_icmp .ne 23, 3) := by decide +kernel
theorem dX12_isWord_15 : decode cX12_isWord 15 = .ok (.aload_n 0, 1) := by decide +kernel
theorem dX12_isWord_16 : decode cX12_isWord 16 = .ok (.getfield 91, 3) := by decide +kernel
theorem dX12_isWord_19 : decode cX12_isWord 19 = .ok (.aload_n 0, 1) := by decide +kernel
theorem dX12_isWord_20 : decode cX12_isWord 20 = .ok (.getfield 94, 3) := by decide +kernel
theorem dX12_isWord_23 : decode cX12_isWord 23 = .ok (.isub, 1) := by decide +kernel
theorem dX12_isWord_24 : decode cX12_isWord 24 = .ok (.aload_n 1, 1) := by decide +kernel
theorem dX12_isWord_25 : decode cX12_isWord 25 = .ok (.invokevirtual 123, 3) := by decide +kernel
theorem dX12_isWord_28 : decode cX12_isWord 28 = .ok (.if_icmp .ne 7, 3) := by decide +kernel
theorem dX12_isWord_31 : decode cX12_isWord 31 = .ok (.iconst 1, 1) := by decide +kernel
theorem dX12_isWord_32 : decode cX12_isWord 32 = .ok (.goto 4, 3) := by decide +kernel
theorem dX12_isWord_35 : decode cX12_isWord 35 = .ok (.iconst 0, 1) := by decide +kernel
theorem dX12_isWord_36 : decode cX12_isWord 36 = .ok (.istore_n 2, 1) := by decide +kernel
theorem dX12_isWord_37 : decode cX12_isWord 37 = .ok (.iconst 0, 1) := by decide +kernel
theorem dX12_isWord_38 : decode cX12_isWord 38 = .ok (.istore_n 3, 1) := by decide +kernel
theorem dX12_isWord_39 : decode cX12_isWord 39 = .ok (.iload_n 2, 1) := by decide +kernel
theorem dX12_isWord_40 : decode cX12_isWord 40 = .ok (.ifCond .eq 42, 3) := by decide +kernel
theorem dX12_isWord_43 : decode cX12_isWord 43 = .ok (.iload_n 3, 1) := by decide +kernel
theorem dX12_isWord_44 : decode cX12_isWord 44 = .ok (.aload_n 1, 1) := by decide +kernel
theorem dX12_isWord_45 : decode cX12_isWord 45 = .ok (.invokevirtual 123, 3) := by decide +kernel
theorem dX12_isWord_48 : decode cX12_isWord 48 = .ok (.if_icmp .ge 34, 3) := by decide +kernel
theorem dX12_isWord_51 : decode cX12_isWord 51 = .ok (.aload_n 0, 1) := by decide +kernel
theorem dX12_isWord_52 : decode cX12_isWord 52 = .ok (.getfield 23, 3) := by decide +kernel
theorem dX12_isWord_55 : decode cX12_isWord 55 = .ok (.aload_n 0, 1) := by decide +kernel
theorem dX12_isWord_56 : decode cX12_isWord 56 = .ok (.getfield 94, 3) := by decide +kernel
theorem dX12_isWord_59 : decode cX12_isWord 59 = .ok (.iload_n 3, 1) := by decide +kernel
theorem dX12_isWord_60 : decode cX12_isWord 60 = .ok (.iadd, 1) := by decide +kernel
theorem dX12_isWord_61 : decode cX12_isWord 61 = .ok (.iaload, 1) := by decide +kernel
theorem dX12_isWord_62 : decode cX12_isWord 62 = .ok (.aload_n 1, 1) := by decide +kernel
theorem dX12_isWord_63 : decode cX12_isWord 63 = .ok (.iload_n 3, 1) := by decide +kernel
theorem dX12_isWord_64 : decode cX12_isWord 64 = .ok (.invokevirtual 128, 3) := by decide +kernel
theorem dX12_isWord_67 : decode cX12_isWord 67 = .ok (.if_icmp .ne 7, 3) := by decide +kernel
theorem dX12_isWord_70 : decode cX12_isWord 70 = .ok (.iconst 1, 1) := by decide +kernel
theorem dX12_isWord_71 : decode cX12_isWord 71 = .ok (.goto 4, 3) := by decide +kernel
theorem dX12_isWord_74 : decode cX12_isWord 74 = .ok (.iconst 0, 1) := by decide +kernel
theorem dX12_isWord_75 : decode cX12_isWord 75 = .ok (.istore_n 2, 1) := by decide +kernel
theorem dX12_isWord_76 : decode cX12_isWord 76 = .ok (.iinc 3 1, 3) := by decide +kernel
theorem dX12_isWord_79 : decode cX12_isWord 79 = .ok (.goto (-40), 3) := by decide +kernel
theorem dX12_isWord_82 : decode cX12_isWord 82 = .ok (.iload_n 2, 1) := by decide +kernel
theorem dX12_isWord_83 : decode cX12_isWord 83 = .ok (.ireturn, 1) := by decide +kernel
theorem dX12_took_0 : decode cX12_took 0 = .ok (.aload_n 0, 1) := by decide +kernel
theorem dX12_took_1 : decode cX12_took 1 = .ok (.aload_n 1, 1) := by decide +kernel
theorem dX12_took_2 : decode cX12_took 2 = .ok (.invokevirtual 132, 3) := by decide +kernel
theorem dX12_took_5 : decode cX12_took 5 = .ok (.istore_n 2, 1) := by decide +kernel
theorem dX12_took_6 : decode cX12_took 6 = .ok (.iload_n 2, 1) := by decide +kernel
theorem dX12_took_7 : decode cX12_took 7 = .ok (.ifCond .eq 7, 3) := by decide +kernel
theorem dX12_took_10 : decode cX12_took 10 = .ok (.aload_n 0, 1) := by decide +kernel
theorem dX12_took_11 : decode cX12_took 11 = .ok (.invokevirtual 136, 3) := by decide +kernel
theorem dX12_took_14 : decode cX12_took 14 = .ok (.iload_n 2, 1) := by decide +kernel
theorem dX12_took_15 : decode cX12_took 15 = .ok (.ireturn, 1) := by decide +kernel
theorem dX12_isSign_0 : decode cX12_isSign 0 = .ok (.aload_n 0, 1) := by decide +kernel
theorem dX12_isSign_1 : decode cX12_isSign 1 = .ok (.getfield 117, 3) := by decide +kernel
theorem dX12_isSign_4 : decode cX12_isSign 4 = .ok (.ifCond .ne 15, 3) := by decide +kernel
theorem dX12_isSign_7 : decode cX12_isSign 7 = .ok (.aload_n 0, 1) := by decide +kernel
theorem dX12_isSign_8 : decode cX12_isSign 8 = .ok (.getfield 97, 3) := by decide +kernel
theorem dX12_isSign_11 : decode cX12_isSign 11 = .ok (.iload_n 1, 1) := by decide +kernel
theorem dX12_isSign_12 : decode cX12_isSign 12 = .ok (.if_icmp .ne 7, 3) := by decide +kernel
theorem dX12_isSign_15 : decode cX12_isSign 15 = .ok (.iconst 1, 1) := by decide +kernel
theorem dX12_isSign_16 : decode cX12_isSign 16 = .ok (.goto 4, 3) := by decide +kernel
theorem dX12_isSign_19 : decode cX12_isSign 19 = .ok (.iconst 0, 1) := by decide +kernel
theorem dX12_isSign_20 : decode cX12_isSign 20 = .ok (.ireturn, 1) := by decide +kernel
theorem dX12_mustSign_0 : decode cX12_mustSign 0 = .ok (.aload_n 0, 1) := by decide +kernel
theorem dX12_mustSign_1 : decode cX12_mustSign 1 = .ok (.getfield 97, 3) := by decide +kernel
theorem dX12_mustSign_4 : decode cX12_mustSign 4 = .ok (.iload_n 1, 1) := by decide +kernel
theorem dX12_mustSign_5 : decode cX12_mustSign 5 = .ok (.if_icmp .eq 8, 3) := by decide +kernel
theorem dX12_mustSign_8 : decode cX12_mustSign 8 = .ok (.aload_n 0, 1) := by decide +kernel
theorem dX12_mustSign_9 : decode cX12_mustSign 9 = .ok (.iconst 2, 1) := by decide +kernel
theorem dX12_mustSign_10 : decode cX12_mustSign 10 = .ok (.invokevirtual 139, 3) := by decide +kernel
theorem dX12_mustSign_13 : decode cX12_mustSign 13 = .ok (.aload_n 0, 1) := by decide +kernel
theorem dX12_mustSign_14 : decode cX12_mustSign 14 = .ok (.getfield 117, 3) := by decide +kernel
theorem dX12_mustSign_17 : decode cX12_mustSign 17 = .ok (.ifCond .ne 7, 3) := by decide +kernel
theorem dX12_mustSign_20 : decode cX12_mustSign 20 = .ok (.aload_n 0, 1) := by decide +kernel
theorem dX12_mustSign_21 : decode cX12_mustSign 21 = .ok (.invokevirtual 136, 3) := by decide +kernel
theorem dX12_mustSign_24 : decode cX12_mustSign 24 = .ok (.return_, 1) := by decide +kernel
theorem dX12_number_0 : decode cX12_number 0 = .ok (.aload_n 0, 1) := by decide +kernel
theorem dX12_number_1 : decode cX12_number 1 = .ok (.getfield 97, 3) := by decide +kernel
theorem dX12_number_4 : decode cX12_number 4 = .ok (.iconst 2, 1) := by decide +kernel
theorem dX12_number_5 : decode cX12_number 5 = .ok (.if_icmp .eq 11, 3) := by decide +kernel
theorem dX12_number_8 : decode cX12_number 8 = .ok (.aload_n 0, 1) := by decide +kernel
theorem dX12_number_9 : decode cX12_number 9 = .ok (.iconst 2, 1) := by decide +kernel
theorem dX12_number_10 : decode cX12_number 10 = .ok (.invokevirtual 139, 3) := by decide +kernel
theorem dX12_number_13 : decode cX12_number 13 = .ok (.goto 23, 3) := by decide +kernel
theorem dX12_number_16 : decode cX12_number 16 = .ok (.aload_n 0, 1) := by decide +kernel
theorem dX12_number_17 : decode cX12_number 17 = .ok (.getfield 111, 3) := by decide +kernel
theorem dX12_number_20 : decode cX12_number 20 = .ok (.i2l, 1) := by decide +kernel
theorem dX12_number_21 : decode cX12_number 21 = .ok (.iload_n 1, 1) := by decide +kernel
theorem dX12_number_22 : decode cX12_number 22 = .ok (.i2l, 1) := by decide +kernel
theorem dX12_number_23 : decode cX12_number 23 = .ok (.iload_n 2, 1) := by decide +kernel
theorem dX12_number_24 : decode cX12_number 24 = .ok (.i2l, 1) := by decide +kernel
theorem dX12_number_25 : decode cX12_number 25 = .ok (.invokestatic 143, 3) := by decide +kernel
theorem dX12_number_28 : decode cX12_number 28 = .ok (.ifCond .ne 8, 3) := by decide +kernel
theorem dX12_number_31 : decode cX12_number 31 = .ok (.aload_n 0, 1) := by decide +kernel
theorem dX12_number_32 : decode cX12_number 32 = .ok (.iconst 3, 1) := by decide +kernel
theorem dX12_number_33 : decode cX12_number 33 = .ok (.invokevirtual 139, 3) := by decide +kernel
theorem dX12_number_36 : decode cX12_number 36 = .ok (.aload_n 0, 1) := by decide +kernel
theorem dX12_number_37 : decode cX12_number 37 = .ok (.getfield 111, 3) := by decide +kernel
theorem dX12_number_40 : decode cX12_number 40 = .ok (.istore_n 3, 1) := by decide +kernel
theorem dX12_number_41 : decode cX12_number 41 = .ok (.aload_n 0, 1) := by decide +kernel
theorem dX12_number_42 : decode cX12_number 42 = .ok (.getfield 117, 3) := by decide +kernel
theorem dX12_number_45 : decode cX12_number 45 = .ok (.ifCond .ne 7, 3) := by decide +kernel
theorem dX12_number_48 : decode cX12_number 48 = .ok (.aload_n 0, 1) := by decide +kernel
theorem dX12_number_49 : decode cX12_number 49 = .ok (.invokevirtual 136, 3) := by decide +kernel
theorem dX12_number_52 : decode cX12_number 52 = .ok (.aload_n 0, 1) := by decide +kernel
theorem dX12_number_53 : decode cX12_number 53 = .ok (.getfield 117, 3) := by decide +kernel
theorem dX12_number_56 : decode cX12_number 56 = .ok (.ifCond .ne 7, 3) := by decide +kernel
theorem dX12_number_59 : decode cX12_number 59 = .ok (.iload_n 3, 1) := by decide +kernel
theorem dX12_number_60 : decode cX12_number 60 = .ok (.goto 4, 3) := by decide +kernel
theorem dX12_number_63 : decode cX12_number 63 = .ok (.iload_n 1, 1) := by decide +kernel
theorem dX12_number_64 : decode cX12_number 64 = .ok (.ireturn, 1) := by decide +kernel
theorem dX12_mustWord_0 : decode cX12_mustWord 0 = .ok (.aload_n 0, 1) := by decide +kernel
theorem dX12_mustWord_1 : decode cX12_mustWord 1 = .ok (.aload_n 1, 1) := by decide +kernel
theorem dX12_mustWord_2 : decode cX12_mustWord 2 = .ok (.invokevirtual 147, 3) := by decide +kernel
theorem dX12_mustWord_5 : decode cX12_mustWord 5 = .ok (.ifCond .ne 8, 3) := by decide +kernel
theorem dX12_mustWord_8 : decode cX12_mustWord 8 = .ok (.aload_n 0, 1) := by decide +kernel
theorem dX12_mustWord_9 : decode cX12_mustWord 9 = .ok (.iconst 2, 1) := by decide +kernel
theorem dX12_mustWord_10 : decode cX12_mustWord 10 = .ok (.invokevirtual 139, 3) := by decide +kernel
theorem dX12_mustWord_13 : decode cX12_mustWord 13 = .ok (.return_, 1) := by decide +kernel
theorem dX12_laysStep_0 : decode cX12_laysStep 0 = .ok (.aload_n 0, 1) := by decide +kernel
theorem dX12_laysStep_1 : decode cX12_laysStep 1 = .ok (.getfield 117, 3) := by decide +kernel
theorem dX12_laysStep_4 : decode cX12_laysStep 4 = .ok (.ifCond .eq 4, 3) := by decide +kernel
theorem dX12_laysStep_7 : decode cX12_laysStep 7 = .ok (.return_, 1) := by decide +kernel
theorem dX12_laysStep_8 : decode cX12_laysStep 8 = .ok (.aload_n 0, 1) := by decide +kernel
theorem dX12_laysStep_9 : decode cX12_laysStep 9 = .ok (.getfield 13, 3) := by decide +kernel
theorem dX12_laysStep_12 : decode cX12_laysStep 12 = .ok (.aload_n 0, 1) := by decide +kernel
theorem dX12_laysStep_13 : decode cX12_laysStep 13 = .ok (.getfield 150, 3) := by decide +kernel
theorem dX12_laysStep_16 : decode cX12_laysStep 16 = .ok (.aload_n 0, 1) := by decide +kernel
theorem dX12_laysStep_17 : decode cX12_laysStep 17 = .ok (.getfield 13, 3) := by decide +kernel
theorem dX12_laysStep_20 : decode cX12_laysStep 20 = .ok (.aload_n 0, 1) := by decide +kernel
theorem dX12_laysStep_21 : decode cX12_laysStep 21 = .ok (.getfield 153, 3) := by decide +kernel
theorem dX12_laysStep_24 : decode cX12_laysStep 24 = .ok (.iaload, 1) := by decide +kernel
theorem dX12_laysStep_25 : decode cX12_laysStep 25 = .ok (.iadd, 1) := by decide +kernel
theorem dX12_laysStep_26 : decode cX12_laysStep 26 = .ok (.iload_n 1, 1) := by decide +kernel
theorem dX12_laysStep_27 : decode cX12_laysStep 27 = .ok (.iastore, 1) := by decide +kernel
theorem dX12_laysStep_28 : decode cX12_laysStep 28 = .ok (.aload_n 0, 1) := by decide +kernel
theorem dX12_laysStep_29 : decode cX12_laysStep 29 = .ok (.getfield 13, 3) := by decide +kernel
theorem dX12_laysStep_32 : decode cX12_laysStep 32 = .ok (.aload_n 0, 1) := by decide +kernel
theorem dX12_laysStep_33 : decode cX12_laysStep 33 = .ok (.getfield 153, 3) := by decide +kernel
theorem dX12_laysStep_36 : decode cX12_laysStep 36 = .ok (.dup2, 1) := by decide +kernel
theorem dX12_laysStep_37 : decode cX12_laysStep 37 = .ok (.iaload, 1) := by decide +kernel
theorem dX12_laysStep_38 : decode cX12_laysStep 38 = .ok (.iconst 1, 1) := by decide +kernel
theorem dX12_laysStep_39 : decode cX12_laysStep 39 = .ok (.iadd, 1) := by decide +kernel
theorem dX12_laysStep_40 : decode cX12_laysStep 40 = .ok (.iastore, 1) := by decide +kernel
theorem dX12_laysStep_41 : decode cX12_laysStep 41 = .ok (.return_, 1) := by decide +kernel
theorem dX12_beginsLaw_0 : decode cX12_beginsLaw 0 = .ok (.aload_n 0, 1) := by decide +kernel
theorem dX12_beginsLaw_1 : decode cX12_beginsLaw 1 = .ok (.iload_n 1, 1) := by decide +kernel
theorem dX12_beginsLaw_2 : decode cX12_beginsLaw 2 = .ok (.putfield 153, 3) := by decide +kernel
theorem dX12_beginsLaw_5 : decode cX12_beginsLaw 5 = .ok (.aload_n 0, 1) := by decide +kernel
theorem dX12_beginsLaw_6 : decode cX12_beginsLaw 6 = .ok (.iload_n 2, 1) := by decide +kernel
theorem dX12_beginsLaw_7 : decode cX12_beginsLaw 7 = .ok (.putfield 150, 3) := by decide +kernel
theorem dX12_beginsLaw_10 : decode cX12_beginsLaw 10 = .ok (.aload_n 0, 1) := by decide +kernel
theorem dX12_beginsLaw_11 : decode cX12_beginsLaw 11 = .ok (.getfield 13, 3) := by decide +kernel
theorem dX12_beginsLaw_14 : decode cX12_beginsLaw 14 = .ok (.iload_n 1, 1) := by decide +kernel
theorem dX12_beginsLaw_15 : decode cX12_beginsLaw 15 = .ok (.iconst 0, 1) := by decide +kernel
theorem dX12_beginsLaw_16 : decode cX12_beginsLaw 16 = .ok (.iastore, 1) := by decide +kernel
theorem dX12_beginsLaw_17 : decode cX12_beginsLaw 17 = .ok (.aload_n 0, 1) := by decide +kernel
theorem dX12_beginsLaw_18 : decode cX12_beginsLaw 18 = .ok (.bipush 58, 2) := by decide +kernel
theorem dX12_beginsLaw_20 : decode cX12_beginsLaw 20 = .ok (.invokevirtual 156, 3) := by decide +kernel
theorem dX12_beginsLaw_23 : decode cX12_beginsLaw 23 = .ok (.return_, 1) := by decide +kernel
theorem dX12_goesIn_0 : decode cX12_goesIn 0 = .ok (.aload_n 0, 1) := by decide +kernel
theorem dX12_goesIn_1 : decode cX12_goesIn 1 = .ok (.getfield 159, 3) := by decide +kernel
theorem dX12_goesIn_4 : decode cX12_goesIn 4 = .ok (.bipush 6, 2) := by decide +kernel
theorem dX12_goesIn_6 : decode cX12_goesIn 6 = .ok (.if_icmp .ne 8, 3) := by decide +kernel
theorem dX12_goesIn_9 : decode cX12_goesIn 9 = .ok (.aload_n 0, 1) := by decide +kernel
theorem dX12_goesIn_10 : decode cX12_goesIn 10 = .ok (.iconst 4, 1) := by decide +kernel
theorem dX12_goesIn_11 : decode cX12_goesIn 11 = .ok (.invokevirtual 139, 3) := by decide +kernel
theorem dX12_goesIn_14 : decode cX12_goesIn 14 = .ok (.aload_n 0, 1) := by decide +kernel
theorem dX12_goesIn_15 : decode cX12_goesIn 15 = .ok (.dup, 1) := by decide +kernel
theorem dX12_goesIn_16 : decode cX12_goesIn 16 = .ok (.getfield 159, 3) := by decide +kernel
theorem dX12_goesIn_19 : decode cX12_goesIn 19 = .ok (.iconst 1, 1) := by decide +kernel
theorem dX12_goesIn_20 : decode cX12_goesIn 20 = .ok (.iadd, 1) := by decide +kernel
theorem dX12_goesIn_21 : decode cX12_goesIn 21 = .ok (.putfield 159, 3) := by decide +kernel
theorem dX12_goesIn_24 : decode cX12_goesIn 24 = .ok (.aload_n 0, 1) := by decide +kernel
theorem dX12_goesIn_25 : decode cX12_goesIn 25 = .ok (.getfield 117, 3) := by decide +kernel
theorem dX12_goesIn_28 : decode cX12_goesIn 28 = .ok (.ifCond .ne 7, 3) := by decide +kernel
theorem dX12_goesIn_31 : decode cX12_goesIn 31 = .ok (.aload_n 0, 1) := by decide +kernel
theorem dX12_goesIn_32 : decode cX12_goesIn 32 = .ok (.invokevirtual 136, 3) := by decide +kernel
theorem dX12_goesIn_35 : decode cX12_goesIn 35 = .ok (.return_, 1) := by decide +kernel
theorem dX12_readTruth_0 : decode cX12_readTruth 0 = .ok (.aload_n 0, 1) := by decide +kernel
theorem dX12_readTruth_1 : decode cX12_readTruth 1 = .ok (.invokevirtual 162, 3) := by decide +kernel
theorem dX12_readTruth_4 : decode cX12_readTruth 4 = .ok (.aload_n 0, 1) := by decide +kernel
theorem dX12_readTruth_5 : decode cX12_readTruth 5 = .ok (.ldc 165, 2) := by decide +kernel
theorem dX12_readTruth_7 : decode cX12_readTruth 7 = .ok (.invokevirtual 147, 3) := by decide +kernel
theorem dX12_readTruth_10 : decode cX12_readTruth 10 = .ok (.ifCond .eq 16, 3) := by decide +kernel
theorem dX12_readTruth_13 : decode cX12_readTruth 13 = .ok (.aload_n 0, 1) := by decide +kernel
theorem dX12_readTruth_14 : decode cX12_readTruth 14 = .ok (.invokevirtual 162, 3) := by decide +kernel
theorem dX12_readTruth_17 : decode cX12_readTruth 17 = .ok (.aload_n 0, 1) := by decide +kernel
theorem dX12_readTruth_18 : decode cX12_readTruth 18 = .ok (.bipush 17, 2) := by decide +kernel
theorem dX12_readTruth_20 : decode cX12_readTruth 20 = .ok (.invokevirtual 167, 3) := by decide +kernel
theorem dX12_readTruth_23 : decode cX12_readTruth 23 = .ok (.goto (-19), 3) := by decide +kernel
theorem dX12_readTruth_26 : decode cX12_readTruth 26 = .ok (.return_, 1) := by decide +kernel
theorem dX12_readBoth_0 : decode cX12_readBoth 0 = .ok (.aload_n 0, 1) := by decide +kernel
theorem dX12_readBoth_1 : decode cX12_readBoth 1 = .ok (.invokevirtual 170, 3) := by decide +kernel
theorem dX12_readBoth_4 : decode cX12_readBoth 4 = .ok (.aload_n 0, 1) := by decide +kernel
theorem dX12_readBoth_5 : decode cX12_readBoth 5 = .ok (.ldc 173, 2) := by decide +kernel
theorem dX12_readBoth_7 : decode cX12_readBoth 7 = .ok (.invokevirtual 147, 3) := by decide +kernel
theorem dX12_readBoth_10 : decode cX12_readBoth 10 = .ok (.ifCond .eq 16, 3) := by decide +kernel
theorem dX12_readBoth_13 : decode cX12_readBoth 13 = .ok (.aload_n 0, 1) := by decide +kernel
theorem dX12_readBoth_14 : decode cX12_readBoth 14 = .ok (.invokevirtual 170, 3) := by decide +kernel
theorem dX12_readBoth_17 : decode cX12_readBoth 17 = .ok (.aload_n 0, 1) := by decide +kernel
theorem dX12_readBoth_18 : decode cX12_readBoth 18 = .ok (.bipush 16, 2) := by decide +kernel
theorem dX12_readBoth_20 : decode cX12_readBoth 20 = .ok (.invokevirtual 167, 3) := by decide +kernel
theorem dX12_readBoth_23 : decode cX12_readBoth 23 = .ok (.goto (-19), 3) := by decide +kernel
theorem dX12_readBoth_26 : decode cX12_readBoth 26 = .ok (.return_, 1) := by decide +kernel
theorem dX12_readUnit_0 : decode cX12_readUnit 0 = .ok (.aload_n 0, 1) := by decide +kernel
theorem dX12_readUnit_1 : decode cX12_readUnit 1 = .ok (.getfield 117, 3) := by decide +kernel
theorem dX12_readUnit_4 : decode cX12_readUnit 4 = .ok (.ifCond .eq 4, 3) := by decide +kernel
theorem dX12_readUnit_7 : decode cX12_readUnit 7 = .ok (.return_, 1) := by decide +kernel
theorem dX12_readUnit_8 : decode cX12_readUnit 8 = .ok (.aload_n 0, 1) := by decide +kernel
theorem dX12_readUnit_9 : decode cX12_readUnit 9 = .ok (.ldc 175, 2) := by decide +kernel
theorem dX12_readUnit_11 : decode cX12_readUnit 11 = .ok (.invokevirtual 132, 3) := by decide +kernel
theorem dX12_readUnit_14 : decode cX12_readUnit 14 = .ok (.ifCond .eq 30, 3) := by decide +kernel
theorem dX12_readUnit_17 : decode cX12_readUnit 17 = .ok (.aload_n 0, 1) := by decide +kernel
theorem dX12_readUnit_18 : decode cX12_readUnit 18 = .ok (.invokevirtual 177, 3) := by decide +kernel
theorem dX12_readUnit_21 : decode cX12_readUnit 21 = .ok (.aload_n 0, 1) := by decide +kernel
theorem dX12_readUnit_22 : decode cX12_readUnit 22 = .ok (.invokevirtual 170, 3) := by decide +kernel
theorem dX12_readUnit_25 : decode cX12_readUnit 25 = .ok (.aload_n 0, 1) := by decide +kernel
theorem dX12_readUnit_26 : decode cX12_readUnit 26 = .ok (.bipush 18, 2) := by decide +kernel
theorem dX12_readUnit_28 : decode cX12_readUnit 28 = .ok (.invokevirtual 167, 3) := by decide +kernel
theorem dX12_readUnit_31 : decode cX12_readUnit 31 = .ok (.aload_n 0, 1) := by decide +kernel
theorem dX12_readUnit_32 : decode cX12_readUnit 32 = .ok (.dup, 1) := by decide +kernel
theorem dX12_readUnit_33 : decode cX12_readUnit 33 = .ok (.getfield 159, 3) := by decide +kernel
theorem dX12_readUnit_36 : decode cX12_readUnit 36 = .ok (.iconst 1, 1) := by decide +kernel
theorem dX12_readUnit_37 : decode cX12_readUnit 37 = .ok (.isub, 1) := by decide +kernel
theorem dX12_readUnit_38 : decode cX12_readUnit 38 = .ok (.putfield 159, 3) := by decide +kernel
theorem dX12_readUnit_41 : decode cX12_readUnit 41 = .ok (.goto 114, 3) := by decide +kernel
theorem dX12_readUnit_44 : decode cX12_readUnit 44 = .ok (.aload_n 0, 1) := by decide +kernel
theorem dX12_readUnit_45 : decode cX12_readUnit 45 = .ok (.bipush 91, 2) := by decide +kernel
theorem dX12_readUnit_47 : decode cX12_readUnit 47 = .ok (.invokevirtual 180, 3) := by decide +kernel
theorem dX12_readUnit_50 : decode cX12_readUnit 50 = .ok (.ifCond .eq 30, 3) := by decide +kernel
theorem dX12_readUnit_53 : decode cX12_readUnit 53 = .ok (.aload_n 0, 1) := by decide +kernel
theorem dX12_readUnit_54 : decode cX12_readUnit 54 = .ok (.invokevirtual 177, 3) := by decide +kernel
theorem dX12_readUnit_57 : decode cX12_readUnit 57 = .ok (.aload_n 0, 1) := by decide +kernel
theorem dX12_readUnit_58 : decode cX12_readUnit 58 = .ok (.invokevirtual 183, 3) := by decide +kernel
theorem dX12_readUnit_61 : decode cX12_readUnit 61 = .ok (.aload_n 0, 1) := by decide +kernel
theorem dX12_readUnit_62 : decode cX12_readUnit 62 = .ok (.bipush 93, 2) := by decide +kernel
theorem dX12_readUnit_64 : decode cX12_readUnit 64 = .ok (.invokevirtual 156, 3) := by decide +kernel
theorem dX12_readUnit_67 : decode cX12_readUnit 67 = .ok (.aload_n 0, 1) := by decide +kernel
theorem dX12_readUnit_68 : decode cX12_readUnit 68 = .ok (.dup, 1) := by decide +kernel
theorem dX12_readUnit_69 : decode cX12_readUnit 69 = .ok (.getfield 159, 3) := by decide +kernel
theorem dX12_readUnit_72 : decode cX12_readUnit 72 = .ok (.iconst 1, 1) := by decide +kernel
theorem dX12_readUnit_73 : decode cX12_readUnit 73 = .ok (.isub, 1) := by decide +kernel
theorem dX12_readUnit_74 : decode cX12_readUnit 74 = .ok (.putfield 159, 3) := by decide +kernel
theorem dX12_readUnit_77 : decode cX12_readUnit 77 = .ok (.goto 78, 3) := by decide +kernel
theorem dX12_readUnit_80 : decode cX12_readUnit 80 = .ok (.aload_n 0, 1) := by decide +kernel
theorem dX12_readUnit_81 : decode cX12_readUnit 81 = .ok (.invokevirtual 186, 3) := by decide +kernel
theorem dX12_readUnit_84 : decode cX12_readUnit 84 = .ok (.aload_n 0, 1) := by decide +kernel
theorem dX12_readUnit_85 : decode cX12_readUnit 85 = .ok (.getfield 97, 3) := by decide +kernel
theorem dX12_readUnit_88 : decode cX12_readUnit 88 = .ok (.istore_n 1, 1) := by decide +kernel
theorem dX12_readUnit_89 : decode cX12_readUnit 89 = .ok (.iload_n 1, 1) := by decide +kernel
theorem dX12_readUnit_90 : decode cX12_readUnit 90 = .ok (.bipush 61, 2) := by decide +kernel
theorem dX12_readUnit_92 : decode cX12_readUnit 92 = .ok (.if_icmp .eq 20, 3) := by decide +kernel
theorem dX12_readUnit_95 : decode cX12_readUnit 95 = .ok (.iload_n 1, 1) := by decide +kernel
theorem dX12_readUnit_96 : decode cX12_readUnit 96 = .ok (.bipush 60, 2) := by decide +kernel
theorem dX12_readUnit_98 : decode cX12_readUnit 98 = .ok (.if_icmp .eq 14, 3) := by decide +kernel
theorem dX12_readUnit_101 : decode cX12_readUnit 101 = .ok (.iload_n 1, 1) := by decide +kernel
theorem dX12_readUnit_102 : decode cX12_readUnit 102 = .ok (.bipush 62, 2) := by decide +kernel
theorem dX12_readUnit_104 : decode cX12_readUnit 104 = .ok (.if_icmp .eq 8, 3) := by decide +kernel
theorem dX12_readUnit_107 : decode cX12_readUnit 107 = .ok (.aload_n 0, 1) := by decide +kernel
theorem dX12_readUnit_108 : decode cX12_readUnit 108 = .ok (.iconst 2, 1) := by decide +kernel
theorem dX12_readUnit_109 : decode cX12_readUnit 109 = .ok (.invokevirtual 139, 3) := by decide +kernel
theorem dX12_readUnit_112 : decode cX12_readUnit 112 = .ok (.aload_n 0, 1) := by decide +kernel
theorem dX12_readUnit_113 : decode cX12_readUnit 113 = .ok (.getfield 117, 3) := by decide +kernel
theorem dX12_readUnit_116 : decode cX12_readUnit 116 = .ok (.ifCond .ne 7, 3) := by decide +kernel
theorem dX12_readUnit_119 : decode cX12_readUnit 119 = .ok (.aload_n 0, 1) := by decide +kernel
theorem dX12_readUnit_120 : decode cX12_readUnit 120 = .ok (.invokevirtual 136, 3) := by decide +kernel
theorem dX12_readUnit_123 : decode cX12_readUnit 123 = .ok (.aload_n 0, 1) := by decide +kernel
theorem dX12_readUnit_124 : decode cX12_readUnit 124 = .ok (.invokevirtual 186, 3) := by decide +kernel
theorem dX12_readUnit_127 : decode cX12_readUnit 127 = .ok (.aload_n 0, 1) := by decide +kernel
theorem dX12_readUnit_128 : decode cX12_readUnit 128 = .ok (.iload_n 1, 1) := by decide +kernel
theorem dX12_readUnit_129 : decode cX12_readUnit 129 = .ok (.bipush 61, 2) := by decide +kernel
theorem dX12_readUnit_131 : decode cX12_readUnit 131 = .ok (.if_icmp .ne 8, 3) := by decide +kernel
theorem dX12_readUnit_134 : decode cX12_readUnit 134 = .ok (.bipush 13, 2) := by decide +kernel
theorem dX12_readUnit_136 : decode cX12_readUnit 136 = .ok (.goto 16, 3) := by decide +kernel
theorem dX12_readUnit_139 : decode cX12_readUnit 139 = .ok (.iload_n 1, 1) := by decide +kernel
theorem dX12_readUnit_140 : decode cX12_readUnit 140 = .ok (.bipush 60, 2) := by decide +kernel
theorem dX12_readUnit_142 : decode cX12_readUnit 142 = .ok (.if_icmp .ne 8, 3) := by decide +kernel
theorem dX12_readUnit_145 : decode cX12_readUnit 145 = .ok (.bipush 14, 2) := by decide +kernel
theorem dX12_readUnit_147 : decode cX12_readUnit 147 = .ok (.goto 5, 3) := by decide +kernel
theorem dX12_readUnit_150 : decode cX12_readUnit 150 = .ok (.bipush 15, 2) := by decide +kernel
theorem dX12_readUnit_152 : decode cX12_readUnit 152 = .ok (.invokevirtual 167, 3) := by decide +kernel
theorem dX12_readUnit_155 : decode cX12_readUnit 155 = .ok (.return_, 1) := by decide +kernel
theorem dX12_readSum_0 : decode cX12_readSum 0 = .ok (.aload_n 0, 1) := by decide +kernel
theorem dX12_readSum_1 : decode cX12_readSum 1 = .ok (.invokevirtual 189, 3) := by decide +kernel
theorem dX12_readSum_4 : decode cX12_readSum 4 = .ok (.aload_n 0, 1) := by decide +kernel
theorem dX12_readSum_5 : decode cX12_readSum 5 = .ok (.bipush 43, 2) := by decide +kernel
theorem dX12_readSum_7 : decode cX12_readSum 7 = .ok (.invokevirtual 180, 3) := by decide +kernel
theorem dX12_readSum_10 : decode cX12_readSum 10 = .ok (.ifCond .ne 12, 3) := by decide +kernel
theorem dX12_readSum_13 : decode cX12_readSum 13 = .ok (.aload_n 0, 1) := by decide +kernel
theorem dX12_readSum_14 : decode cX12_readSum 14 = .ok (.bipush 45, 2) := by decide +kernel
theorem dX12_readSum_16 : decode cX12_readSum 16 = .ok (.invokevirtual 180, 3) := by decide +kernel
theorem dX12_readSum_19 : decode cX12_readSum 19 = .ok (.ifCond .eq 36, 3) := by decide +kernel
theorem dX12_readSum_22 : decode cX12_readSum 22 = .ok (.aload_n 0, 1) := by decide +kernel
theorem dX12_readSum_23 : decode cX12_readSum 23 = .ok (.getfield 97, 3) := by decide +kernel
theorem dX12_readSum_26 : decode cX12_readSum 26 = .ok (.istore_n 1, 1) := by decide +kernel
theorem dX12_readSum_27 : decode cX12_readSum 27 = .ok (.aload_n 0, 1) := by decide +kernel
theorem dX12_readSum_28 : decode cX12_readSum 28 = .ok (.invokevirtual 136, 3) := by decide +kernel
theorem dX12_readSum_31 : decode cX12_readSum 31 = .ok (.aload_n 0, 1) := by decide +kernel
theorem dX12_readSum_32 : decode cX12_readSum 32 = .ok (.invokevirtual 189, 3) := by decide +kernel
theorem dX12_readSum_35 : decode cX12_readSum 35 = .ok (.aload_n 0, 1) := by decide +kernel
theorem dX12_readSum_36 : decode cX12_readSum 36 = .ok (.iload_n 1, 1) := by decide +kernel
theorem dX12_readSum_37 : decode cX12_readSum 37 = .ok (.bipush 43, 2) := by decide +kernel
theorem dX12_readSum_39 : decode cX12_readSum 39 = .ok (.if_icmp .ne 8, 3) := by decide +kernel
theorem dX12_readSum_42 : decode cX12_readSum 42 = .ok (.bipush 10, 2) := by decide +kernel
theorem dX12_readSum_44 : decode cX12_readSum 44 = .ok (.goto 5, 3) := by decide +kernel
theorem dX12_readSum_47 : decode cX12_readSum 47 = .ok (.bipush 11, 2) := by decide +kernel
theorem dX12_readSum_49 : decode cX12_readSum 49 = .ok (.invokevirtual 167, 3) := by decide +kernel
theorem dX12_readSum_52 : decode cX12_readSum 52 = .ok (.goto (-48), 3) := by decide +kernel
theorem dX12_readSum_55 : decode cX12_readSum 55 = .ok (.return_, 1) := by decide +kernel
theorem dX12_readTerm_0 : decode cX12_readTerm 0 = .ok (.aload_n 0, 1) := by decide +kernel
theorem dX12_readTerm_1 : decode cX12_readTerm 1 = .ok (.invokevirtual 192, 3) := by decide +kernel
theorem dX12_readTerm_4 : decode cX12_readTerm 4 = .ok (.aload_n 0, 1) := by decide +kernel
theorem dX12_readTerm_5 : decode cX12_readTerm 5 = .ok (.bipush 42, 2) := by decide +kernel
theorem dX12_readTerm_7 : decode cX12_readTerm 7 = .ok (.invokevirtual 180, 3) := by decide +kernel
theorem dX12_readTerm_10 : decode cX12_readTerm 10 = .ok (.ifCond .eq 20, 3) := by decide +kernel
theorem dX12_readTerm_13 : decode cX12_readTerm 13 = .ok (.aload_n 0, 1) := by decide +kernel
theorem dX12_readTerm_14 : decode cX12_readTerm 14 = .ok (.invokevirtual 136, 3) := by decide +kernel
theorem dX12_readTerm_17 : decode cX12_readTerm 17 = .ok (.aload_n 0, 1) := by decide +kernel
theorem dX12_readTerm_18 : decode cX12_readTerm 18 = .ok (.invokevirtual 192, 3) := by decide +kernel
theorem dX12_readTerm_21 : decode cX12_readTerm 21 = .ok (.aload_n 0, 1) := by decide +kernel
theorem dX12_readTerm_22 : decode cX12_readTerm 22 = .ok (.bipush 12, 2) := by decide +kernel
theorem dX12_readTerm_24 : decode cX12_readTerm 24 = .ok (.invokevirtual 167, 3) := by decide +kernel
theorem dX12_readTerm_27 : decode cX12_readTerm 27 = .ok (.goto (-23), 3) := by decide +kernel
theorem dX12_readTerm_30 : decode cX12_readTerm 30 = .ok (.return_, 1) := by decide +kernel
theorem dX12_lawWord_0 : decode cX12_lawWord 0 = .ok (.aload_n 0, 1) := by decide +kernel
theorem dX12_lawWord_1 : decode cX12_lawWord 1 = .ok (.getfield 153, 3) := by decide +kernel
theorem dX12_lawWord_4 : decode cX12_lawWord 4 = .ok (.iconst 4, 1) := by decide +kernel
theorem dX12_lawWord_5 : decode cX12_lawWord 5 = .ok (.if_icmp .ne 31, 3) := by decide +kernel
theorem dX12_lawWord_8 : decode cX12_lawWord 8 = .ok (.aload_n 0, 1) := by decide +kernel
theorem dX12_lawWord_9 : decode cX12_lawWord 9 = .ok (.ldc 195, 2) := by decide +kernel
theorem dX12_lawWord_11 : decode cX12_lawWord 11 = .ok (.invokevirtual 147, 3) := by decide +kernel
theorem dX12_lawWord_14 : decode cX12_lawWord 14 = .ok (.ifCond .eq 7, 3) := by decide +kernel
theorem dX12_lawWord_17 : decode cX12_lawWord 17 = .ok (.iconst 0, 1) := by decide +kernel
theorem dX12_lawWord_18 : decode cX12_lawWord 18 = .ok (.goto 17, 3) := by decide +kernel
theorem dX12_lawWord_21 : decode cX12_lawWord 21 = .ok (.aload_n 0, 1) := by decide +kernel
theorem dX12_lawWord_22 : decode cX12_lawWord 22 = .ok (.ldc 197, 2) := by decide +kernel
theorem dX12_lawWord_24 : decode cX12_lawWord 24 = .ok (.invokevirtual 147, 3) := by decide +kernel
theorem dX12_lawWord_27 : decode cX12_lawWord 27 = .ok (.ifCond .eq 7, 3) := by decide +kernel
theorem dX12_lawWord_30 : decode cX12_lawWord 30 = .ok (.iconst 1, 1) := by decide +kernel
theorem dX12_lawWord_31 : decode cX12_lawWord 31 = .ok (.goto 4, 3) := by decide +kernel
theorem dX12_lawWord_34 : decode cX12_lawWord 34 = .ok (.iconst (-1), 1) := by decide +kernel
theorem dX12_lawWord_35 : decode cX12_lawWord 35 = .ok (.ireturn, 1) := by decide +kernel
theorem dX12_lawWord_36 : decode cX12_lawWord 36 = .ok (.aload_n 0, 1) := by decide +kernel
theorem dX12_lawWord_37 : decode cX12_lawWord 37 = .ok (.ldc 199, 2) := by decide +kernel
theorem dX12_lawWord_39 : decode cX12_lawWord 39 = .ok (.invokevirtual 147, 3) := by decide +kernel
theorem dX12_lawWord_42 : decode cX12_lawWord 42 = .ok (.ifCond .eq 5, 3) := by decide +kernel
theorem dX12_lawWord_45 : decode cX12_lawWord 45 = .ok (.iconst 0, 1) := by decide +kernel
theorem dX12_lawWord_46 : decode cX12_lawWord 46 = .ok (.ireturn, 1) := by decide +kernel
theorem dX12_lawWord_47 : decode cX12_lawWord 47 = .ok (.aload_n 0, 1) := by decide +kernel
theorem dX12_lawWord_48 : decode cX12_lawWord 48 = .ok (.ldc 201, 2) := by decide +kernel
theorem dX12_lawWord_50 : decode cX12_lawWord 50 = .ok (.invokevirtual 147, 3) := by decide +kernel
theorem dX12_lawWord_53 : decode cX12_lawWord 53 = .ok (.ifCond .eq 5, 3) := by decide +kernel
theorem dX12_lawWord_56 : decode cX12_lawWord 56 = .ok (.iconst 1, 1) := by decide +kernel
theorem dX12_lawWord_57 : decode cX12_lawWord 57 = .ok (.ireturn, 1) := by decide +kernel
theorem dX12_lawWord_58 : decode cX12_lawWord 58 = .ok (.aload_n 0, 1) := by decide +kernel
theorem dX12_lawWord_59 : decode cX12_lawWord 59 = .ok (.ldc 203, 2) := by decide +kernel
theorem dX12_lawWord_61 : decode cX12_lawWord 61 = .ok (.invokevirtual 147, 3) := by decide +kernel
theorem dX12_lawWord_64 : decode cX12_lawWord 64 = .ok (.ifCond .eq 5, 3) := by decide +kernel
theorem dX12_lawWord_67 : decode cX12_lawWord 67 = .ok (.iconst 2, 1) := by decide +kernel
theorem dX12_lawWord_68 : decode cX12_lawWord 68 = .ok (.ireturn, 1) := by decide +kernel
theorem dX12_lawWord_69 : decode cX12_lawWord 69 = .ok (.aload_n 0, 1) := by decide +kernel
theorem dX12_lawWord_70 : decode cX12_lawWord 70 = .ok (.ldc 205, 2) := by decide +kernel
theorem dX12_lawWord_72 : decode cX12_lawWord 72 = .ok (.invokevirtual 147, 3) := by decide +kernel
theorem dX12_lawWord_75 : decode cX12_lawWord 75 = .ok (.ifCond .eq 5, 3) := by decide +kernel
theorem dX12_lawWord_78 : decode cX12_lawWord 78 = .ok (.iconst 3, 1) := by decide +kernel
theorem dX12_lawWord_79 : decode cX12_lawWord 79 = .ok (.ireturn, 1) := by decide +kernel
theorem dX12_lawWord_80 : decode cX12_lawWord 80 = .ok (.aload_n 0, 1) := by decide +kernel
theorem dX12_lawWord_81 : decode cX12_lawWord 81 = .ok (.getfield 153, 3) := by decide +kernel
theorem dX12_lawWord_84 : decode cX12_lawWord 84 = .ok (.iconst 3, 1) := by decide +kernel
theorem dX12_lawWord_85 : decode cX12_lawWord 85 = .ok (.if_icmp .ne 5, 3) := by decide +kernel
theorem dX12_lawWord_88 : decode cX12_lawWord 88 = .ok (.iconst (-1), 1) := by decide +kernel
theorem dX12_lawWord_89 : decode cX12_lawWord 89 = .ok (.ireturn, 1) := by decide +kernel
theorem dX12_lawWord_90 : decode cX12_lawWord 90 = .ok (.aload_n 0, 1) := by decide +kernel
theorem dX12_lawWord_91 : decode cX12_lawWord 91 = .ok (.ldc 207, 2) := by decide +kernel
theorem dX12_lawWord_93 : decode cX12_lawWord 93 = .ok (.invokevirtual 147, 3) := by decide +kernel
theorem dX12_lawWord_96 : decode cX12_lawWord 96 = .ok (.ifCond .eq 7, 3) := by decide +kernel
theorem dX12_lawWord_99 : decode cX12_lawWord 99 = .ok (.iconst 4, 1) := by decide +kernel
theorem dX12_lawWord_100 : decode cX12_lawWord 100 = .ok (.goto 17, 3) := by decide +kernel
theorem dX12_lawWord_103 : decode cX12_lawWord 103 = .ok (.aload_n 0, 1) := by decide +kernel
theorem dX12_lawWord_104 : decode cX12_lawWord 104 = .ok (.ldc 209, 2) := by decide +kernel
theorem dX12_lawWord_106 : decode cX12_lawWord 106 = .ok (.invokevirtual 147, 3) := by decide +kernel
theorem dX12_lawWord_109 : decode cX12_lawWord 109 = .ok (.ifCond .eq 7, 3) := by decide +kernel
theorem dX12_lawWord_112 : decode cX12_lawWord 112 = .ok (.iconst 5, 1) := by decide +kernel
theorem dX12_lawWord_113 : decode cX12_lawWord 113 = .ok (.goto 4, 3) := by decide +kernel
theorem dX12_lawWord_116 : decode cX12_lawWord 116 = .ok (.iconst (-1), 1) := by decide +kernel
theorem dX12_lawWord_117 : decode cX12_lawWord 117 = .ok (.ireturn, 1) := by decide +kernel
theorem dX12_readAtom_0 : decode cX12_readAtom 0 = .ok (.aload_n 0, 1) := by decide +kernel
theorem dX12_readAtom_1 : decode cX12_readAtom 1 = .ok (.getfield 117, 3) := by decide +kernel
theorem dX12_readAtom_4 : decode cX12_readAtom 4 = .ok (.ifCond .eq 4, 3) := by decide +kernel
theorem dX12_readAtom_7 : decode cX12_readAtom 7 = .ok (.return_, 1) := by decide +kernel
theorem dX12_readAtom_8 : decode cX12_readAtom 8 = .ok (.aload_n 0, 1) := by decide +kernel
theorem dX12_readAtom_9 : decode cX12_readAtom 9 = .ok (.invokevirtual 211, 3) := by decide +kernel
theorem dX12_readAtom_12 : decode cX12_readAtom 12 = .ok (.istore_n 1, 1) := by decide +kernel
theorem dX12_readAtom_13 : decode cX12_readAtom 13 = .ok (.iload_n 1, 1) := by decide +kernel
theorem dX12_readAtom_14 : decode cX12_readAtom 14 = .ok (.iconst (-1), 1) := by decide +kernel
theorem dX12_readAtom_15 : decode cX12_readAtom 15 = .ok (.if_icmp .eq 14, 3) := by decide +kernel
theorem dX12_readAtom_18 : decode cX12_readAtom 18 = .ok (.aload_n 0, 1) := by decide +kernel
theorem dX12_readAtom_19 : decode cX12_readAtom 19 = .ok (.bipush 100, 2) := by decide +kernel
theorem dX12_readAtom_21 : decode cX12_readAtom 21 = .ok (.iload_n 1, 1) := by decide +kernel
theorem dX12_readAtom_22 : decode cX12_readAtom 22 = .ok (.iadd, 1) := by decide +kernel
theorem dX12_readAtom_23 : decode cX12_readAtom 23 = .ok (.invokevirtual 167, 3) := by decide +kernel
theorem dX12_readAtom_26 : decode cX12_readAtom 26 = .ok (.goto 57, 3) := by decide +kernel
theorem dX12_readAtom_29 : decode cX12_readAtom 29 = .ok (.aload_n 0, 1) := by decide +kernel
theorem dX12_readAtom_30 : decode cX12_readAtom 30 = .ok (.bipush 40, 2) := by decide +kernel
theorem dX12_readAtom_32 : decode cX12_readAtom 32 = .ok (.invokevirtual 180, 3) := by decide +kernel
theorem dX12_readAtom_35 : decode cX12_readAtom 35 = .ok (.ifCond .eq 30, 3) := by decide +kernel
theorem dX12_readAtom_38 : decode cX12_readAtom 38 = .ok (.aload_n 0, 1) := by decide +kernel
theorem dX12_readAtom_39 : decode cX12_readAtom 39 = .ok (.invokevirtual 177, 3) := by decide +kernel
theorem dX12_readAtom_42 : decode cX12_readAtom 42 = .ok (.aload_n 0, 1) := by decide +kernel
theorem dX12_readAtom_43 : decode cX12_readAtom 43 = .ok (.invokevirtual 186, 3) := by decide +kernel
theorem dX12_readAtom_46 : decode cX12_readAtom 46 = .ok (.aload_n 0, 1) := by decide +kernel
theorem dX12_readAtom_47 : decode cX12_readAtom 47 = .ok (.bipush 41, 2) := by decide +kernel
theorem dX12_readAtom_49 : decode cX12_readAtom 49 = .ok (.invokevirtual 156, 3) := by decide +kernel
theorem dX12_readAtom_52 : decode cX12_readAtom 52 = .ok (.aload_n 0, 1) := by decide +kernel
theorem dX12_readAtom_53 : decode cX12_readAtom 53 = .ok (.dup, 1) := by decide +kernel
theorem dX12_readAtom_54 : decode cX12_readAtom 54 = .ok (.getfield 159, 3) := by decide +kernel
theorem dX12_readAtom_57 : decode cX12_readAtom 57 = .ok (.iconst 1, 1) := by decide +kernel
theorem dX12_readAtom_58 : decode cX12_readAtom 58 = .ok (.isub, 1) := by decide +kernel
theorem dX12_readAtom_59 : decode cX12_readAtom 59 = .ok (.putfield 159, 3) := by decide +kernel
theorem dX12_readAtom_62 : decode cX12_readAtom 62 = .ok (.goto 21, 3) := by decide +kernel
theorem dX12_readAtom_65 : decode cX12_readAtom 65 = .ok (.aload_n 0, 1) := by decide +kernel
theorem dX12_readAtom_66 : decode cX12_readAtom 66 = .ok (.iconst 0, 1) := by decide +kernel
theorem dX12_readAtom_67 : decode cX12_readAtom 67 = .ok (.sipush 999, 3) := by decide +kernel
theorem dX12_readAtom_70 : decode cX12_readAtom 70 = .ok (.invokevirtual 214, 3) := by decide +kernel
theorem dX12_readAtom_73 : decode cX12_readAtom 73 = .ok (.istore_n 2, 1) := by decide +kernel
theorem dX12_readAtom_74 : decode cX12_readAtom 74 = .ok (.aload_n 0, 1) := by decide +kernel
theorem dX12_readAtom_75 : decode cX12_readAtom 75 = .ok (.sipush 1000, 3) := by decide +kernel
theorem dX12_readAtom_78 : decode cX12_readAtom 78 = .ok (.iload_n 2, 1) := by decide +kernel
theorem dX12_readAtom_79 : decode cX12_readAtom 79 = .ok (.iadd, 1) := by decide +kernel
theorem dX12_readAtom_80 : decode cX12_readAtom 80 = .ok (.invokevirtual 167, 3) := by decide +kernel
theorem dX12_readAtom_83 : decode cX12_readAtom 83 = .ok (.return_, 1) := by decide +kernel
theorem dX12_begins_0 : decode cX12_begins 0 = .ok (.aload_n 0, 1) := by decide +kernel
theorem dX12_begins_1 : decode cX12_begins 1 = .ok (.getfield 13, 3) := by decide +kernel
theorem dX12_begins_4 : decode cX12_begins 4 = .ok (.iload_n 1, 1) := by decide +kernel
theorem dX12_begins_5 : decode cX12_begins 5 = .ok (.iaload, 1) := by decide +kernel
theorem dX12_begins_6 : decode cX12_begins 6 = .ok (.iload_n 2, 1) := by decide +kernel
theorem dX12_begins_7 : decode cX12_begins 7 = .ok (.if_icmp .ne 8, 3) := by decide +kernel
theorem dX12_begins_10 : decode cX12_begins 10 = .ok (.aload_n 0, 1) := by decide +kernel
theorem dX12_begins_11 : decode cX12_begins 11 = .ok (.iconst 4, 1) := by decide +kernel
theorem dX12_begins_12 : decode cX12_begins 12 = .ok (.invokevirtual 139, 3) := by decide +kernel
theorem dX12_begins_15 : decode cX12_begins 15 = .ok (.aload_n 0, 1) := by decide +kernel
theorem dX12_begins_16 : decode cX12_begins 16 = .ok (.getfield 117, 3) := by decide +kernel
theorem dX12_begins_19 : decode cX12_begins 19 = .ok (.ifCond .ne 7, 3) := by decide +kernel
theorem dX12_begins_22 : decode cX12_begins 22 = .ok (.aload_n 0, 1) := by decide +kernel
theorem dX12_begins_23 : decode cX12_begins 23 = .ok (.invokevirtual 136, 3) := by decide +kernel
theorem dX12_begins_26 : decode cX12_begins 26 = .ok (.aload_n 0, 1) := by decide +kernel
theorem dX12_begins_27 : decode cX12_begins 27 = .ok (.getfield 117, 3) := by decide +kernel
theorem dX12_begins_30 : decode cX12_begins 30 = .ok (.ifCond .ne 7, 3) := by decide +kernel
theorem dX12_begins_33 : decode cX12_begins 33 = .ok (.iconst 1, 1) := by decide +kernel
theorem dX12_begins_34 : decode cX12_begins 34 = .ok (.goto 4, 3) := by decide +kernel
theorem dX12_begins_37 : decode cX12_begins 37 = .ok (.iconst 0, 1) := by decide +kernel
theorem dX12_begins_38 : decode cX12_begins 38 = .ok (.ireturn, 1) := by decide +kernel
theorem dX12_lineTold_0 : decode cX12_lineTold 0 = .ok (.aload_n 0, 1) := by decide +kernel
theorem dX12_lineTold_1 : decode cX12_lineTold 1 = .ok (.iconst 0, 1) := by decide +kernel
theorem dX12_lineTold_2 : decode cX12_lineTold 2 = .ok (.aload_n 0, 1) := by decide +kernel
theorem dX12_lineTold_3 : decode cX12_lineTold 3 = .ok (.getfield 13, 3) := by decide +kernel
theorem dX12_lineTold_6 : decode cX12_lineTold 6 = .ok (.iconst 1, 1) := by decide +kernel
theorem dX12_lineTold_7 : decode cX12_lineTold 7 = .ok (.iaload, 1) := by decide +kernel
theorem dX12_lineTold_8 : decode cX12_lineTold 8 = .ok (.iconst 1, 1) := by decide +kernel
theorem dX12_lineTold_9 : decode cX12_lineTold 9 = .ok (.isub, 1) := by decide +kernel
theorem dX12_lineTold_10 : decode cX12_lineTold 10 = .ok (.invokevirtual 214, 3) := by decide +kernel
theorem dX12_lineTold_13 : decode cX12_lineTold 13 = .ok (.ireturn, 1) := by decide +kernel
theorem dX12_readCord_0 : decode cX12_readCord 0 = .ok (.aload_n 0, 1) := by decide +kernel
theorem dX12_readCord_1 : decode cX12_readCord 1 = .ok (.iconst 2, 1) := by decide +kernel
theorem dX12_readCord_2 : decode cX12_readCord 2 = .ok (.iconst 3, 1) := by decide +kernel
theorem dX12_readCord_3 : decode cX12_readCord 3 = .ok (.invokevirtual 218, 3) := by decide +kernel
theorem dX12_readCord_6 : decode cX12_readCord 6 = .ok (.ifCond .ne 4, 3) := by decide +kernel
theorem dX12_readCord_9 : decode cX12_readCord 9 = .ok (.return_, 1) := by decide +kernel
theorem dX12_readCord_10 : decode cX12_readCord 10 = .ok (.iconst 0, 1) := by decide +kernel
theorem dX12_readCord_11 : decode cX12_readCord 11 = .ok (.istore_n 1, 1) := by decide +kernel
theorem dX12_readCord_12 : decode cX12_readCord 12 = .ok (.aload_n 0, 1) := by decide +kernel
theorem dX12_readCord_13 : decode cX12_readCord 13 = .ok (.getfield 117, 3) := by decide +kernel
theorem dX12_readCord_16 : decode cX12_readCord 16 = .ok (.ifCond .ne 23, 3) := by decide +kernel
theorem dX12_readCord_19 : decode cX12_readCord 19 = .ok (.aload_n 0, 1) := by decide +kernel
theorem dX12_readCord_20 : decode cX12_readCord 20 = .ok (.getfield 97, 3) := by decide +kernel
theorem dX12_readCord_23 : decode cX12_readCord 23 = .ok (.iconst 2, 1) := by decide +kernel
theorem dX12_readCord_24 : decode cX12_readCord 24 = .ok (.if_icmp .ne 15, 3) := by decide +kernel
theorem dX12_readCord_27 : decode cX12_readCord 27 = .ok (.iload_n 1, 1) := by decide +kernel
theorem dX12_readCord_28 : decode cX12_readCord 28 = .ok (.iconst 1, 1) := by decide +kernel
theorem dX12_readCord_29 : decode cX12_readCord 29 = .ok (.aload_n 0, 1) := by decide +kernel
theorem dX12_readCord_30 : decode cX12_readCord 30 = .ok (.invokevirtual 222, 3) := by decide +kernel
theorem dX12_readCord_33 : decode cX12_readCord 33 = .ok (.ishl, 1) := by decide +kernel
theorem dX12_readCord_34 : decode cX12_readCord 34 = .ok (.ior, 1) := by decide +kernel
theorem dX12_readCord_35 : decode cX12_readCord 35 = .ok (.istore_n 1, 1) := by decide +kernel
theorem dX12_readCord_36 : decode cX12_readCord 36 = .ok (.goto (-24), 3) := by decide +kernel
theorem dX12_readCord_39 : decode cX12_readCord 39 = .ok (.aload_n 0, 1) := by decide +kernel
theorem dX12_readCord_40 : decode cX12_readCord 40 = .ok (.getfield 117, 3) := by decide +kernel
theorem dX12_readCord_43 : decode cX12_readCord 43 = .ok (.ifCond .eq 4, 3) := by decide +kernel
theorem dX12_readCord_46 : decode cX12_readCord 46 = .ok (.return_, 1) := by decide +kernel
theorem dX12_readCord_47 : decode cX12_readCord 47 = .ok (.aload_n 0, 1) := by decide +kernel
theorem dX12_readCord_48 : decode cX12_readCord 48 = .ok (.getfield 13, 3) := by decide +kernel
theorem dX12_readCord_51 : decode cX12_readCord 51 = .ok (.bipush 48, 2) := by decide +kernel
theorem dX12_readCord_53 : decode cX12_readCord 53 = .ok (.aload_n 0, 1) := by decide +kernel
theorem dX12_readCord_54 : decode cX12_readCord 54 = .ok (.getfield 13, 3) := by decide +kernel
theorem dX12_readCord_57 : decode cX12_readCord 57 = .ok (.iconst 2, 1) := by decide +kernel
theorem dX12_readCord_58 : decode cX12_readCord 58 = .ok (.iaload, 1) := by decide +kernel
theorem dX12_readCord_59 : decode cX12_readCord 59 = .ok (.iadd, 1) := by decide +kernel
theorem dX12_readCord_60 : decode cX12_readCord 60 = .ok (.iload_n 1, 1) := by decide +kernel
theorem dX12_readCord_61 : decode cX12_readCord 61 = .ok (.ifCond .ne 16, 3) := by decide +kernel
theorem dX12_readCord_64 : decode cX12_readCord 64 = .ok (.iconst 1, 1) := by decide +kernel
theorem dX12_readCord_65 : decode cX12_readCord 65 = .ok (.aload_n 0, 1) := by decide +kernel
theorem dX12_readCord_66 : decode cX12_readCord 66 = .ok (.getfield 13, 3) := by decide +kernel
theorem dX12_readCord_69 : decode cX12_readCord 69 = .ok (.iconst 1, 1) := by decide +kernel
theorem dX12_readCord_70 : decode cX12_readCord 70 = .ok (.iaload, 1) := by decide +kernel
theorem dX12_readCord_71 : decode cX12_readCord 71 = .ok (.ishl, 1) := by decide +kernel
theorem dX12_readCord_72 : decode cX12_readCord 72 = .ok (.iconst 1, 1) := by decide +kernel
theorem dX12_readCord_73 : decode cX12_readCord 73 = .ok (.isub, 1) := by decide +kernel
theorem dX12_readCord_74 : decode cX12_readCord 74 = .ok (.goto 4, 3) := by decide +kernel
theorem dX12_readCord_77 : decode cX12_readCord 77 = .ok (.iload_n 1, 1) := by decide +kernel
theorem dX12_readCord_78 : decode cX12_readCord 78 = .ok (.iastore, 1) := by decide +kernel
theorem dX12_readCord_79 : decode cX12_readCord 79 = .ok (.aload_n 0, 1) := by decide +kernel
theorem dX12_readCord_80 : decode cX12_readCord 80 = .ok (.getfield 13, 3) := by decide +kernel
theorem dX12_readCord_83 : decode cX12_readCord 83 = .ok (.iconst 2, 1) := by decide +kernel
theorem dX12_readCord_84 : decode cX12_readCord 84 = .ok (.dup2, 1) := by decide +kernel
theorem dX12_readCord_85 : decode cX12_readCord 85 = .ok (.iaload, 1) := by decide +kernel
theorem dX12_readCord_86 : decode cX12_readCord 86 = .ok (.iconst 1, 1) := by decide +kernel
theorem dX12_readCord_87 : decode cX12_readCord 87 = .ok (.iadd, 1) := by decide +kernel
theorem dX12_readCord_88 : decode cX12_readCord 88 = .ok (.iastore, 1) := by decide +kernel
theorem dX12_readCord_89 : decode cX12_readCord 89 = .ok (.return_, 1) := by decide +kernel
theorem dX12_readCall_0 : decode cX12_readCall 0 = .ok (.aload_n 0, 1) := by decide +kernel
theorem dX12_readCall_1 : decode cX12_readCall 1 = .ok (.bipush 7, 2) := by decide +kernel
theorem dX12_readCall_3 : decode cX12_readCall 3 = .ok (.bipush 10, 2) := by decide +kernel
theorem dX12_readCall_5 : decode cX12_readCall 5 = .ok (.invokevirtual 218, 3) := by decide +kernel
theorem dX12_readCall_8 : decode cX12_readCall 8 = .ok (.ifCond .ne 4, 3) := by decide +kernel
theorem dX12_readCall_11 : decode cX12_readCall 11 = .ok (.return_, 1) := by decide +kernel
theorem dX12_readCall_12 : decode cX12_readCall 12 = .ok (.aload_n 0, 1) := by decide +kernel
theorem dX12_readCall_13 : decode cX12_readCall 13 = .ok (.invokevirtual 222, 3) := by decide +kernel
theorem dX12_readCall_16 : decode cX12_readCall 16 = .ok (.istore_n 1, 1) := by decide +kernel
theorem dX12_readCall_17 : decode cX12_readCall 17 = .ok (.aload_n 0, 1) := by decide +kernel
theorem dX12_readCall_18 : decode cX12_readCall 18 = .ok (.ldc 201, 2) := by decide +kernel
theorem dX12_readCall_20 : decode cX12_readCall 20 = .ok (.invokevirtual 225, 3) := by decide +kernel
theorem dX12_readCall_23 : decode cX12_readCall 23 = .ok (.aload_n 0, 1) := by decide +kernel
theorem dX12_readCall_24 : decode cX12_readCall 24 = .ok (.getfield 117, 3) := by decide +kernel
theorem dX12_readCall_27 : decode cX12_readCall 27 = .ok (.ifCond .ne 24, 3) := by decide +kernel
theorem dX12_readCall_30 : decode cX12_readCall 30 = .ok (.aload_n 0, 1) := by decide +kernel
theorem dX12_readCall_31 : decode cX12_readCall 31 = .ok (.getfield 97, 3) := by decide +kernel
theorem dX12_readCall_34 : decode cX12_readCall 34 = .ok (.iconst 2, 1) := by decide +kernel
theorem dX12_readCall_35 : decode cX12_readCall 35 = .ok (.if_icmp .ne 16, 3) := by decide +kernel
theorem dX12_readCall_38 : decode cX12_readCall 38 = .ok (.aload_n 0, 1) := by decide +kernel
theorem dX12_readCall_39 : decode cX12_readCall 39 = .ok (.getfield 111, 3) := by decide +kernel
theorem dX12_readCall_42 : decode cX12_readCall 42 = .ok (.iload_n 1, 1) := by decide +kernel
theorem dX12_readCall_43 : decode cX12_readCall 43 = .ok (.if_icmp .ne 8, 3) := by decide +kernel
theorem dX12_readCall_46 : decode cX12_readCall 46 = .ok (.aload_n 0, 1) := by decide +kernel
theorem dX12_readCall_47 : decode cX12_readCall 47 = .ok (.iconst 3, 1) := by decide +kernel
theorem dX12_readCall_48 : decode cX12_readCall 48 = .ok (.invokevirtual 139, 3) := by decide +kernel
theorem dX12_readCall_51 : decode cX12_readCall 51 = .ok (.aload_n 0, 1) := by decide +kernel
theorem dX12_readCall_52 : decode cX12_readCall 52 = .ok (.invokevirtual 222, 3) := by decide +kernel
theorem dX12_readCall_55 : decode cX12_readCall 55 = .ok (.istore_n 2, 1) := by decide +kernel
theorem dX12_readCall_56 : decode cX12_readCall 56 = .ok (.aload_n 0, 1) := by decide +kernel
theorem dX12_readCall_57 : decode cX12_readCall 57 = .ok (.ldc 229, 2) := by decide +kernel
theorem dX12_readCall_59 : decode cX12_readCall 59 = .ok (.invokevirtual 225, 3) := by decide +kernel
theorem dX12_readCall_62 : decode cX12_readCall 62 = .ok (.aload_n 0, 1) := by decide +kernel
theorem dX12_readCall_63 : decode cX12_readCall 63 = .ok (.iconst 0, 1) := by decide +kernel
theorem dX12_readCall_64 : decode cX12_readCall 64 = .ok (.sipush 999, 3) := by decide +kernel
theorem dX12_readCall_67 : decode cX12_readCall 67 = .ok (.invokevirtual 214, 3) := by decide +kernel
theorem dX12_readCall_70 : decode cX12_readCall 70 = .ok (.istore_n 3, 1) := by decide +kernel
theorem dX12_readCall_71 : decode cX12_readCall 71 = .ok (.aload_n 0, 1) := by decide +kernel
theorem dX12_readCall_72 : decode cX12_readCall 72 = .ok (.ldc 231, 2) := by decide +kernel
theorem dX12_readCall_74 : decode cX12_readCall 74 = .ok (.invokevirtual 225, 3) := by decide +kernel
theorem dX12_readCall_77 : decode cX12_readCall 77 = .ok (.aload_n 0, 1) := by decide +kernel
theorem dX12_readCall_78 : decode cX12_readCall 78 = .ok (.iconst 1, 1) := by decide +kernel
theorem dX12_readCall_79 : decode cX12_readCall 79 = .ok (.bipush 99, 2) := by decide +kernel
theorem dX12_readCall_81 : decode cX12_readCall 81 = .ok (.invokevirtual 214, 3) := by decide +kernel
theorem dX12_readCall_84 : decode cX12_readCall 84 = .ok (.istore 4, 2) := by decide +kernel
theorem dX12_readCall_86 : decode cX12_readCall 86 = .ok (.aload_n 0, 1) := by decide +kernel
theorem dX12_readCall_87 : decode cX12_readCall 87 = .ok (.getfield 117, 3) := by decide +kernel
theorem dX12_readCall_90 : decode cX12_readCall 90 = .ok (.ifCond .ne 15, 3) := by decide +kernel
theorem dX12_readCall_93 : decode cX12_readCall 93 = .ok (.aload_n 0, 1) := by decide +kernel
theorem dX12_readCall_94 : decode cX12_readCall 94 = .ok (.getfield 13, 3) := by decide +kernel
theorem dX12_readCall_97 : decode cX12_readCall 97 = .ok (.iload_n 1, 1) := by decide +kernel
theorem dX12_readCall_98 : decode cX12_readCall 98 = .ok (.iload_n 2, 1) := by decide +kernel
theorem dX12_readCall_99 : decode cX12_readCall 99 = .ok (.iload_n 3, 1) := by decide +kernel
theorem dX12_readCall_100 : decode cX12_readCall 100 = .ok (.iload 4, 2) := by decide +kernel
theorem dX12_readCall_102 : decode cX12_readCall 102 = .ok (.invokestatic 233, 3) := by decide +kernel
theorem dX12_readCall_105 : decode cX12_readCall 105 = .ok (.return_, 1) := by decide +kernel
theorem dX12_laysCall_0 : decode cX12_laysCall 0 = .ok (.aload_n 0, 1) := by decide +kernel
theorem dX12_laysCall_1 : decode cX12_laysCall 1 = .ok (.bipush 7, 2) := by decide +kernel
theorem dX12_laysCall_3 : decode cX12_laysCall 3 = .ok (.iaload, 1) := by decide +kernel
theorem dX12_laysCall_4 : decode cX12_laysCall 4 = .ok (.istore 5, 2) := by decide +kernel
theorem dX12_laysCall_6 : decode cX12_laysCall 6 = .ok (.aload_n 0, 1) := by decide +kernel
theorem dX12_laysCall_7 : decode cX12_laysCall 7 = .ok (.bipush 51, 2) := by decide +kernel
theorem dX12_laysCall_9 : decode cX12_laysCall 9 = .ok (.iload 5, 2) := by decide +kernel
theorem dX12_laysCall_11 : decode cX12_laysCall 11 = .ok (.iadd, 1) := by decide +kernel
theorem dX12_laysCall_12 : decode cX12_laysCall 12 = .ok (.iload_n 1, 1) := by decide +kernel
theorem dX12_laysCall_13 : decode cX12_laysCall 13 = .ok (.iastore, 1) := by decide +kernel
theorem dX12_laysCall_14 : decode cX12_laysCall 14 = .ok (.aload_n 0, 1) := by decide +kernel
theorem dX12_laysCall_15 : decode cX12_laysCall 15 = .ok (.bipush 61, 2) := by decide +kernel
theorem dX12_laysCall_17 : decode cX12_laysCall 17 = .ok (.iload 5, 2) := by decide +kernel
theorem dX12_laysCall_19 : decode cX12_laysCall 19 = .ok (.iadd, 1) := by decide +kernel
theorem dX12_laysCall_20 : decode cX12_laysCall 20 = .ok (.iload_n 2, 1) := by decide +kernel
theorem dX12_laysCall_21 : decode cX12_laysCall 21 = .ok (.iastore, 1) := by decide +kernel
theorem dX12_laysCall_22 : decode cX12_laysCall 22 = .ok (.aload_n 0, 1) := by decide +kernel
theorem dX12_laysCall_23 : decode cX12_laysCall 23 = .ok (.bipush 71, 2) := by decide +kernel
theorem dX12_laysCall_25 : decode cX12_laysCall 25 = .ok (.iload 5, 2) := by decide +kernel
theorem dX12_laysCall_27 : decode cX12_laysCall 27 = .ok (.iadd, 1) := by decide +kernel
theorem dX12_laysCall_28 : decode cX12_laysCall 28 = .ok (.iload_n 3, 1) := by decide +kernel
theorem dX12_laysCall_29 : decode cX12_laysCall 29 = .ok (.iastore, 1) := by decide +kernel
theorem dX12_laysCall_30 : decode cX12_laysCall 30 = .ok (.aload_n 0, 1) := by decide +kernel
theorem dX12_laysCall_31 : decode cX12_laysCall 31 = .ok (.bipush 81, 2) := by decide +kernel
theorem dX12_laysCall_33 : decode cX12_laysCall 33 = .ok (.iload 5, 2) := by decide +kernel
theorem dX12_laysCall_35 : decode cX12_laysCall 35 = .ok (.iadd, 1) := by decide +kernel
theorem dX12_laysCall_36 : decode cX12_laysCall 36 = .ok (.iload 4, 2) := by decide +kernel
theorem dX12_laysCall_38 : decode cX12_laysCall 38 = .ok (.iastore, 1) := by decide +kernel
theorem dX12_laysCall_39 : decode cX12_laysCall 39 = .ok (.aload_n 0, 1) := by decide +kernel
theorem dX12_laysCall_40 : decode cX12_laysCall 40 = .ok (.bipush 8, 2) := by decide +kernel
theorem dX12_laysCall_42 : decode cX12_laysCall 42 = .ok (.iload 5, 2) := by decide +kernel
theorem dX12_laysCall_44 : decode cX12_laysCall 44 = .ok (.iadd, 1) := by decide +kernel
theorem dX12_laysCall_45 : decode cX12_laysCall 45 = .ok (.iconst 0, 1) := by decide +kernel
theorem dX12_laysCall_46 : decode cX12_laysCall 46 = .ok (.iastore, 1) := by decide +kernel
theorem dX12_laysCall_47 : decode cX12_laysCall 47 = .ok (.aload_n 0, 1) := by decide +kernel
theorem dX12_laysCall_48 : decode cX12_laysCall 48 = .ok (.bipush 18, 2) := by decide +kernel
theorem dX12_laysCall_50 : decode cX12_laysCall 50 = .ok (.iload 5, 2) := by decide +kernel
theorem dX12_laysCall_52 : decode cX12_laysCall 52 = .ok (.iadd, 1) := by decide +kernel
theorem dX12_laysCall_53 : decode cX12_laysCall 53 = .ok (.iconst (-1), 1) := by decide +kernel
theorem dX12_laysCall_54 : decode cX12_laysCall 54 = .ok (.iastore, 1) := by decide +kernel
theorem dX12_laysCall_55 : decode cX12_laysCall 55 = .ok (.aload_n 0, 1) := by decide +kernel
theorem dX12_laysCall_56 : decode cX12_laysCall 56 = .ok (.bipush 28, 2) := by decide +kernel
theorem dX12_laysCall_58 : decode cX12_laysCall 58 = .ok (.iload 5, 2) := by decide +kernel
theorem dX12_laysCall_60 : decode cX12_laysCall 60 = .ok (.iadd, 1) := by decide +kernel
theorem dX12_laysCall_61 : decode cX12_laysCall 61 = .ok (.iconst (-1), 1) := by decide +kernel
theorem dX12_laysCall_62 : decode cX12_laysCall 62 = .ok (.iastore, 1) := by decide +kernel
theorem dX12_laysCall_63 : decode cX12_laysCall 63 = .ok (.aload_n 0, 1) := by decide +kernel
theorem dX12_laysCall_64 : decode cX12_laysCall 64 = .ok (.bipush 7, 2) := by decide +kernel
theorem dX12_laysCall_66 : decode cX12_laysCall 66 = .ok (.dup2, 1) := by decide +kernel
theorem dX12_laysCall_67 : decode cX12_laysCall 67 = .ok (.iaload, 1) := by decide +kernel
theorem dX12_laysCall_68 : decode cX12_laysCall 68 = .ok (.iconst 1, 1) := by decide +kernel
theorem dX12_laysCall_69 : decode cX12_laysCall 69 = .ok (.iadd, 1) := by decide +kernel
theorem dX12_laysCall_70 : decode cX12_laysCall 70 = .ok (.iastore, 1) := by decide +kernel
theorem dX12_laysCall_71 : decode cX12_laysCall 71 = .ok (.return_, 1) := by decide +kernel
theorem dX12_readStop_0 : decode cX12_readStop 0 = .ok (.aload_n 0, 1) := by decide +kernel
theorem dX12_readStop_1 : decode cX12_readStop 1 = .ok (.bipush 59, 2) := by decide +kernel
theorem dX12_readStop_3 : decode cX12_readStop 3 = .ok (.invokevirtual 156, 3) := by decide +kernel
theorem dX12_readStop_6 : decode cX12_readStop 6 = .ok (.aload_n 0, 1) := by decide +kernel
theorem dX12_readStop_7 : decode cX12_readStop 7 = .ok (.getfield 117, 3) := by decide +kernel
theorem dX12_readStop_10 : decode cX12_readStop 10 = .ok (.ifCond .ne 13, 3) := by decide +kernel
theorem dX12_readStop_13 : decode cX12_readStop 13 = .ok (.aload_n 0, 1) := by decide +kernel
theorem dX12_readStop_14 : decode cX12_readStop 14 = .ok (.getfield 13, 3) := by decide +kernel
theorem dX12_readStop_17 : decode cX12_readStop 17 = .ok (.iconst 0, 1) := by decide +kernel
theorem dX12_readStop_18 : decode cX12_readStop 18 = .ok (.dup2, 1) := by decide +kernel
theorem dX12_readStop_19 : decode cX12_readStop 19 = .ok (.iaload, 1) := by decide +kernel
theorem dX12_readStop_20 : decode cX12_readStop 20 = .ok (.iconst 1, 1) := by decide +kernel
theorem dX12_readStop_21 : decode cX12_readStop 21 = .ok (.iadd, 1) := by decide +kernel
theorem dX12_readStop_22 : decode cX12_readStop 22 = .ok (.iastore, 1) := by decide +kernel
theorem dX12_readStop_23 : decode cX12_readStop 23 = .ok (.return_, 1) := by decide +kernel
theorem dX12_readLine_0 : decode cX12_readLine 0 = .ok (.aload_n 0, 1) := by decide +kernel
theorem dX12_readLine_1 : decode cX12_readLine 1 = .ok (.ldc 237, 2) := by decide +kernel
theorem dX12_readLine_3 : decode cX12_readLine 3 = .ok (.invokevirtual 132, 3) := by decide +kernel
theorem dX12_readLine_6 : decode cX12_readLine 6 = .ok (.ifCond .eq 10, 3) := by decide +kernel
theorem dX12_readLine_9 : decode cX12_readLine 9 = .ok (.aload_n 0, 1) := by decide +kernel
theorem dX12_readLine_10 : decode cX12_readLine 10 = .ok (.invokevirtual 239, 3) := by decide +kernel
theorem dX12_readLine_13 : decode cX12_readLine 13 = .ok (.goto 123, 3) := by decide +kernel
theorem dX12_readLine_16 : decode cX12_readLine 16 = .ok (.aload_n 0, 1) := by decide +kernel
theorem dX12_readLine_17 : decode cX12_readLine 17 = .ok (.ldc 205, 2) := by decide +kernel
theorem dX12_readLine_19 : decode cX12_readLine 19 = .ok (.invokevirtual 132, 3) := by decide +kernel
theorem dX12_readLine_22 : decode cX12_readLine 22 = .ok (.ifCond .eq 10, 3) := by decide +kernel
theorem dX12_readLine_25 : decode cX12_readLine 25 = .ok (.aload_n 0, 1) := by decide +kernel
theorem dX12_readLine_26 : decode cX12_readLine 26 = .ok (.invokevirtual 242, 3) := by decide +kernel
theorem dX12_readLine_29 : decode cX12_readLine 29 = .ok (.goto 107, 3) := by decide +kernel
theorem dX12_readLine_32 : decode cX12_readLine 32 = .ok (.aload_n 0, 1) := by decide +kernel
theorem dX12_readLine_33 : decode cX12_readLine 33 = .ok (.ldc 203, 2) := by decide +kernel
theorem dX12_readLine_35 : decode cX12_readLine 35 = .ok (.invokevirtual 147, 3) := by decide +kernel
theorem dX12_readLine_38 : decode cX12_readLine 38 = .ok (.ifCond .eq 21, 3) := by decide +kernel
theorem dX12_readLine_41 : decode cX12_readLine 41 = .ok (.aload_n 0, 1) := by decide +kernel
theorem dX12_readLine_42 : decode cX12_readLine 42 = .ok (.getfield 13, 3) := by decide +kernel
theorem dX12_readLine_45 : decode cX12_readLine 45 = .ok (.bipush 47, 2) := by decide +kernel
theorem dX12_readLine_47 : decode cX12_readLine 47 = .ok (.aload_n 0, 1) := by decide +kernel
theorem dX12_readLine_48 : decode cX12_readLine 48 = .ok (.iconst 0, 1) := by decide +kernel
theorem dX12_readLine_49 : decode cX12_readLine 49 = .ok (.sipush 999, 3) := by decide +kernel
theorem dX12_readLine_52 : decode cX12_readLine 52 = .ok (.invokevirtual 214, 3) := by decide +kernel
theorem dX12_readLine_55 : decode cX12_readLine 55 = .ok (.iastore, 1) := by decide +kernel
theorem dX12_readLine_56 : decode cX12_readLine 56 = .ok (.goto 80, 3) := by decide +kernel
theorem dX12_readLine_59 : decode cX12_readLine 59 = .ok (.aload_n 0, 1) := by decide +kernel
theorem dX12_readLine_60 : decode cX12_readLine 60 = .ok (.ldc 245, 2) := by decide +kernel
theorem dX12_readLine_62 : decode cX12_readLine 62 = .ok (.invokevirtual 147, 3) := by decide +kernel
theorem dX12_readLine_65 : decode cX12_readLine 65 = .ok (.ifCond .eq 18, 3) := by decide +kernel
theorem dX12_readLine_68 : decode cX12_readLine 68 = .ok (.aload_n 0, 1) := by decide +kernel
theorem dX12_readLine_69 : decode cX12_readLine 69 = .ok (.iconst 3, 1) := by decide +kernel
theorem dX12_readLine_70 : decode cX12_readLine 70 = .ok (.sipush 501, 3) := by decide +kernel
theorem dX12_readLine_73 : decode cX12_readLine 73 = .ok (.invokevirtual 247, 3) := by decide +kernel
theorem dX12_readLine_76 : decode cX12_readLine 76 = .ok (.aload_n 0, 1) := by decide +kernel
theorem dX12_readLine_77 : decode cX12_readLine 77 = .ok (.invokevirtual 186, 3) := by decide +kernel
theorem dX12_readLine_80 : decode cX12_readLine 80 = .ok (.goto 56, 3) := by decide +kernel
theorem dX12_readLine_83 : decode cX12_readLine 83 = .ok (.aload_n 0, 1) := by decide +kernel
theorem dX12_readLine_84 : decode cX12_readLine 84 = .ok (.ldc 207, 2) := by decide +kernel
theorem dX12_readLine_86 : decode cX12_readLine 86 = .ok (.invokevirtual 147, 3) := by decide +kernel
theorem dX12_readLine_89 : decode cX12_readLine 89 = .ok (.ifCond .eq 18, 3) := by decide +kernel
theorem dX12_readLine_92 : decode cX12_readLine 92 = .ok (.aload_n 0, 1) := by decide +kernel
theorem dX12_readLine_93 : decode cX12_readLine 93 = .ok (.iconst 4, 1) := by decide +kernel
theorem dX12_readLine_94 : decode cX12_readLine 94 = .ok (.sipush 1401, 3) := by decide +kernel
theorem dX12_readLine_97 : decode cX12_readLine 97 = .ok (.invokevirtual 247, 3) := by decide +kernel
theorem dX12_readLine_100 : decode cX12_readLine 100 = .ok (.aload_n 0, 1) := by decide +kernel
theorem dX12_readLine_101 : decode cX12_readLine 101 = .ok (.invokevirtual 186, 3) := by decide +kernel
theorem dX12_readLine_104 : decode cX12_readLine 104 = .ok (.goto 32, 3) := by decide +kernel
theorem dX12_readLine_107 : decode cX12_readLine 107 = .ok (.aload_n 0, 1) := by decide +kernel
theorem dX12_readLine_108 : decode cX12_readLine 108 = .ok (.ldc 251, 2) := by decide +kernel
theorem dX12_readLine_110 : decode cX12_readLine 110 = .ok (.invokevirtual 147, 3) := by decide +kernel
theorem dX12_readLine_113 : decode cX12_readLine 113 = .ok (.ifCond .eq 18, 3) := by decide +kernel
theorem dX12_readLine_116 : decode cX12_readLine 116 = .ok (.aload_n 0, 1) := by decide +kernel
theorem dX12_readLine_117 : decode cX12_readLine 117 = .ok (.iconst 5, 1) := by decide +kernel
theorem dX12_readLine_118 : decode cX12_readLine 118 = .ok (.sipush 2301, 3) := by decide +kernel
theorem dX12_readLine_121 : decode cX12_readLine 121 = .ok (.invokevirtual 247, 3) := by decide +kernel
theorem dX12_readLine_124 : decode cX12_readLine 124 = .ok (.aload_n 0, 1) := by decide +kernel
theorem dX12_readLine_125 : decode cX12_readLine 125 = .ok (.invokevirtual 183, 3) := by decide +kernel
theorem dX12_readLine_128 : decode cX12_readLine 128 = .ok (.goto 8, 3) := by decide +kernel
theorem dX12_readLine_131 : decode cX12_readLine 131 = .ok (.aload_n 0, 1) := by decide +kernel
theorem dX12_readLine_132 : decode cX12_readLine 132 = .ok (.iconst 2, 1) := by decide +kernel
theorem dX12_readLine_133 : decode cX12_readLine 133 = .ok (.invokevirtual 139, 3) := by decide +kernel
theorem dX12_readLine_136 : decode cX12_readLine 136 = .ok (.aload_n 0, 1) := by decide +kernel
theorem dX12_readLine_137 : decode cX12_readLine 137 = .ok (.invokevirtual 253, 3) := by decide +kernel
theorem dX12_readLine_140 : decode cX12_readLine 140 = .ok (.return_, 1) := by decide +kernel
theorem dX12_exchange_0 : decode cX12_exchange 0 = .ok (.aload_n 0, 1) := by decide +kernel
theorem dX12_exchange_1 : decode cX12_exchange 1 = .ok (.iconst 0, 1) := by decide +kernel
theorem dX12_exchange_2 : decode cX12_exchange 2 = .ok (.putfield 82, 3) := by decide +kernel
theorem dX12_exchange_5 : decode cX12_exchange 5 = .ok (.iload_n 1, 1) := by decide +kernel
theorem dX12_exchange_6 : decode cX12_exchange 6 = .ok (.i2l, 1) := by decide +kernel
theorem dX12_exchange_7 : decode cX12_exchange 7 = .ok (.lconst 0, 1) := by decide +kernel
theorem dX12_exchange_8 : decode cX12_exchange 8 = .ok (.aload_n 0, 1) := by decide +kernel
theorem dX12_exchange_9 : decode cX12_exchange 9 = .ok (.getfield 85, 3) := by decide +kernel
theorem dX12_exchange_12 : decode cX12_exchange 12 = .ok (.i2l, 1) := by decide +kernel
theorem dX12_exchange_13 : decode cX12_exchange 13 = .ok (.invokestatic 143, 3) := by decide +kernel
theorem dX12_exchange_16 : decode cX12_exchange 16 = .ok (.ifCond .ne 9, 3) := by decide +kernel
theorem dX12_exchange_19 : decode cX12_exchange 19 = .ok (.aload_n 0, 1) := by decide +kernel
theorem dX12_exchange_20 : decode cX12_exchange 20 = .ok (.iconst 1, 1) := by decide +kernel
theorem dX12_exchange_21 : decode cX12_exchange 21 = .ok (.invokevirtual 256, 3) := by decide +kernel
theorem dX12_exchange_24 : decode cX12_exchange 24 = .ok (.ireturn, 1) := by decide +kernel
theorem dX12_exchange_25 : decode cX12_exchange 25 = .ok (.aload_n 0, 1) := by decide +kernel
theorem dX12_exchange_26 : decode cX12_exchange 26 = .ok (.iload_n 1, 1) := by decide +kernel
theorem dX12_exchange_27 : decode cX12_exchange 27 = .ok (.putfield 88, 3) := by decide +kernel
theorem dX12_exchange_30 : decode cX12_exchange 30 = .ok (.aload_n 0, 1) := by decide +kernel
theorem dX12_exchange_31 : decode cX12_exchange 31 = .ok (.iconst 0, 1) := by decide +kernel
theorem dX12_exchange_32 : decode cX12_exchange 32 = .ok (.putfield 85, 3) := by decide +kernel
theorem dX12_exchange_35 : decode cX12_exchange 35 = .ok (.aload_n 0, 1) := by decide +kernel
theorem dX12_exchange_36 : decode cX12_exchange 36 = .ok (.iconst 0, 1) := by decide +kernel
theorem dX12_exchange_37 : decode cX12_exchange 37 = .ok (.putfield 91, 3) := by decide +kernel
theorem dX12_exchange_40 : decode cX12_exchange 40 = .ok (.aload_n 0, 1) := by decide +kernel
theorem dX12_exchange_41 : decode cX12_exchange 41 = .ok (.iconst 0, 1) := by decide +kernel
theorem dX12_exchange_42 : decode cX12_exchange 42 = .ok (.putfield 117, 3) := by decide +kernel
theorem dX12_exchange_45 : decode cX12_exchange 45 = .ok (.aload_n 0, 1) := by decide +kernel
theorem dX12_exchange_46 : decode cX12_exchange 46 = .ok (.iconst 0, 1) := by decide +kernel
theorem dX12_exchange_47 : decode cX12_exchange 47 = .ok (.putfield 159, 3) := by decide +kernel
theorem dX12_exchange_50 : decode cX12_exchange 50 = .ok (.iconst 0, 1) := by decide +kernel
theorem dX12_exchange_51 : decode cX12_exchange 51 = .ok (.istore_n 2, 1) := by decide +kernel
theorem dX12_exchange_52 : decode cX12_exchange 52 = .ok (.iload_n 2, 1) := by decide +kernel
theorem dX12_exchange_53 : decode cX12_exchange 53 = .ok (.sipush 3205, 3) := by decide +kernel
theorem dX12_exchange_56 : decode cX12_exchange 56 = .ok (.if_icmp .ge 16, 3) := by decide +kernel
theorem dX12_exchange_59 : decode cX12_exchange 59 = .ok (.aload_n 0, 1) := by decide +kernel
theorem dX12_exchange_60 : decode cX12_exchange 60 = .ok (.getfield 13, 3) := by decide +kernel
theorem dX12_exchange_63 : decode cX12_exchange 63 = .ok (.iload_n 2, 1) := by decide +kernel
theorem dX12_exchange_64 : decode cX12_exchange 64 = .ok (.iconst 0, 1) := by decide +kernel
theorem dX12_exchange_65 : decode cX12_exchange 65 = .ok (.iastore, 1) := by decide +kernel
theorem dX12_exchange_66 : decode cX12_exchange 66 = .ok (.iinc 2 1, 3) := by decide +kernel
theorem dX12_exchange_69 : decode cX12_exchange 69 = .ok (.goto (-17), 3) := by decide +kernel
theorem dX12_exchange_72 : decode cX12_exchange 72 = .ok (.iconst 0, 1) := by decide +kernel
theorem dX12_exchange_73 : decode cX12_exchange 73 = .ok (.istore_n 2, 1) := by decide +kernel
theorem dX12_exchange_74 : decode cX12_exchange 74 = .ok (.iload_n 2, 1) := by decide +kernel
theorem dX12_exchange_75 : decode cX12_exchange 75 = .ok (.bipush 8, 2) := by decide +kernel
theorem dX12_exchange_77 : decode cX12_exchange 77 = .ok (.if_icmp .ge 19, 3) := by decide +kernel
theorem dX12_exchange_80 : decode cX12_exchange 80 = .ok (.aload_n 0, 1) := by decide +kernel
theorem dX12_exchange_81 : decode cX12_exchange 81 = .ok (.getfield 13, 3) := by decide +kernel
theorem dX12_exchange_84 : decode cX12_exchange 84 = .ok (.bipush 38, 2) := by decide +kernel
theorem dX12_exchange_86 : decode cX12_exchange 86 = .ok (.iload_n 2, 1) := by decide +kernel
theorem dX12_exchange_87 : decode cX12_exchange 87 = .ok (.iadd, 1) := by decide +kernel
theorem dX12_exchange_88 : decode cX12_exchange 88 = .ok (.iconst (-1), 1) := by decide +kernel
theorem dX12_exchange_89 : decode cX12_exchange 89 = .ok (.iastore, 1) := by decide +kernel
theorem dX12_exchange_90 : decode cX12_exchange 90 = .ok (.iinc 2 1, 3) := by decide +kernel
theorem dX12_exchange_93 : decode cX12_exchange 93 = .ok (.goto (-19), 3) := by decide +kernel
theorem dX12_exchange_96 : decode cX12_exchange 96 = .ok (.aload_n 0, 1) := by decide +kernel
theorem dX12_exchange_97 : decode cX12_exchange 97 = .ok (.invokevirtual 136, 3) := by decide +kernel
theorem dX12_exchange_100 : decode cX12_exchange 100 = .ok (.aload_n 0, 1) := by decide +kernel
theorem dX12_exchange_101 : decode cX12_exchange 101 = .ok (.ldc_w 259, 3) := by decide +kernel
theorem dX12_exchange_104 : decode cX12_exchange 104 = .ok (.invokevirtual 225, 3) := by decide +kernel
theorem dX12_exchange_107 : decode cX12_exchange 107 = .ok (.aload_n 0, 1) := by decide +kernel
theorem dX12_exchange_108 : decode cX12_exchange 108 = .ok (.getfield 13, 3) := by decide +kernel
theorem dX12_exchange_111 : decode cX12_exchange 111 = .ok (.iconst 1, 1) := by decide +kernel
theorem dX12_exchange_112 : decode cX12_exchange 112 = .ok (.aload_n 0, 1) := by decide +kernel
theorem dX12_exchange_113 : decode cX12_exchange 113 = .ok (.iconst 2, 1) := by decide +kernel
theorem dX12_exchange_114 : decode cX12_exchange 114 = .ok (.bipush 8, 2) := by decide +kernel
theorem dX12_exchange_116 : decode cX12_exchange 116 = .ok (.invokevirtual 214, 3) := by decide +kernel
theorem dX12_exchange_119 : decode cX12_exchange 119 = .ok (.iastore, 1) := by decide +kernel
theorem dX12_exchange_120 : decode cX12_exchange 120 = .ok (.aload_n 0, 1) := by decide +kernel
theorem dX12_exchange_121 : decode cX12_exchange 121 = .ok (.invokevirtual 253, 3) := by decide +kernel
theorem dX12_exchange_124 : decode cX12_exchange 124 = .ok (.aload_n 0, 1) := by decide +kernel
theorem dX12_exchange_125 : decode cX12_exchange 125 = .ok (.getfield 117, 3) := by decide +kernel
theorem dX12_exchange_128 : decode cX12_exchange 128 = .ok (.ifCond .ne 17, 3) := by decide +kernel
theorem dX12_exchange_131 : decode cX12_exchange 131 = .ok (.aload_n 0, 1) := by decide +kernel
theorem dX12_exchange_132 : decode cX12_exchange 132 = .ok (.getfield 97, 3) := by decide +kernel
theorem dX12_exchange_135 : decode cX12_exchange 135 = .ok (.ifCond .eq 10, 3) := by decide +kernel
theorem dX12_exchange_138 : decode cX12_exchange 138 = .ok (.aload_n 0, 1) := by decide +kernel
theorem dX12_exchange_139 : decode cX12_exchange 139 = .ok (.invokevirtual 261, 3) := by decide +kernel
theorem dX12_exchange_142 : decode cX12_exchange 142 = .ok (.goto (-18), 3) := by decide +kernel
theorem dX12_exchange_145 : decode cX12_exchange 145 = .ok (.aload_n 0, 1) := by decide +kernel
theorem dX12_exchange_146 : decode cX12_exchange 146 = .ok (.aload_n 0, 1) := by decide +kernel
theorem dX12_exchange_147 : decode cX12_exchange 147 = .ok (.getfield 117, 3) := by decide +kernel
theorem dX12_exchange_150 : decode cX12_exchange 150 = .ok (.putfield 264, 3) := by decide +kernel
theorem dX12_exchange_153 : decode cX12_exchange 153 = .ok (.aload_n 0, 1) := by decide +kernel
theorem dX12_exchange_154 : decode cX12_exchange 154 = .ok (.aload_n 0, 1) := by decide +kernel
theorem dX12_exchange_155 : decode cX12_exchange 155 = .ok (.getfield 117, 3) := by decide +kernel
theorem dX12_exchange_158 : decode cX12_exchange 158 = .ok (.ifCond .ne 7, 3) := by decide +kernel
theorem dX12_exchange_161 : decode cX12_exchange 161 = .ok (.iconst (-1), 1) := by decide +kernel
theorem dX12_exchange_162 : decode cX12_exchange 162 = .ok (.goto 7, 3) := by decide +kernel
theorem dX12_exchange_165 : decode cX12_exchange 165 = .ok (.aload_n 0, 1) := by decide +kernel
theorem dX12_exchange_166 : decode cX12_exchange 166 = .ok (.getfield 120, 3) := by decide +kernel
theorem dX12_exchange_169 : decode cX12_exchange 169 = .ok (.putfield 26, 3) := by decide +kernel
theorem dX12_exchange_172 : decode cX12_exchange 172 = .ok (.aload_n 0, 1) := by decide +kernel
theorem dX12_exchange_173 : decode cX12_exchange 173 = .ok (.getfield 117, 3) := by decide +kernel
theorem dX12_exchange_176 : decode cX12_exchange 176 = .ok (.ifCond .eq 11, 3) := by decide +kernel
theorem dX12_exchange_179 : decode cX12_exchange 179 = .ok (.bipush (-10), 2) := by decide +kernel
theorem dX12_exchange_181 : decode cX12_exchange 181 = .ok (.aload_n 0, 1) := by decide +kernel
theorem dX12_exchange_182 : decode cX12_exchange 182 = .ok (.getfield 117, 3) := by decide +kernel
theorem dX12_exchange_185 : decode cX12_exchange 185 = .ok (.isub, 1) := by decide +kernel
theorem dX12_exchange_186 : decode cX12_exchange 186 = .ok (.ireturn, 1) := by decide +kernel
theorem dX12_exchange_187 : decode cX12_exchange 187 = .ok (.iconst 0, 1) := by decide +kernel
theorem dX12_exchange_188 : decode cX12_exchange 188 = .ok (.istore_n 2, 1) := by decide +kernel
theorem dX12_exchange_189 : decode cX12_exchange 189 = .ok (.iload_n 2, 1) := by decide +kernel
theorem dX12_exchange_190 : decode cX12_exchange 190 = .ok (.sipush 3205, 3) := by decide +kernel
theorem dX12_exchange_193 : decode cX12_exchange 193 = .ok (.if_icmp .ge 21, 3) := by decide +kernel
theorem dX12_exchange_196 : decode cX12_exchange 196 = .ok (.aload_n 0, 1) := by decide +kernel
theorem dX12_exchange_197 : decode cX12_exchange 197 = .ok (.getfield 9, 3) := by decide +kernel
theorem dX12_exchange_200 : decode cX12_exchange 200 = .ok (.iload_n 2, 1) := by decide +kernel
theorem dX12_exchange_201 : decode cX12_exchange 201 = .ok (.aload_n 0, 1) := by decide +kernel
theorem dX12_exchange_202 : decode cX12_exchange 202 = .ok (.getfield 13, 3) := by decide +kernel
theorem dX12_exchange_205 : decode cX12_exchange 205 = .ok (.iload_n 2, 1) := by decide +kernel
theorem dX12_exchange_206 : decode cX12_exchange 206 = .ok (.iaload, 1) := by decide +kernel
theorem dX12_exchange_207 : decode cX12_exchange 207 = .ok (.iastore, 1) := by decide +kernel
theorem dX12_exchange_208 : decode cX12_exchange 208 = .ok (.iinc 2 1, 3) := by decide +kernel
theorem dX12_exchange_211 : decode cX12_exchange 211 = .ok (.goto (-22), 3) := by decide +kernel
theorem dX12_exchange_214 : decode cX12_exchange 214 = .ok (.iconst 0, 1) := by decide +kernel
theorem dX12_exchange_215 : decode cX12_exchange 215 = .ok (.istore_n 2, 1) := by decide +kernel
theorem dX12_exchange_216 : decode cX12_exchange 216 = .ok (.iload_n 2, 1) := by decide +kernel
theorem dX12_exchange_217 : decode cX12_exchange 217 = .ok (.aload_n 0, 1) := by decide +kernel
theorem dX12_exchange_218 : decode cX12_exchange 218 = .ok (.invokevirtual 267, 3) := by decide +kernel
theorem dX12_exchange_221 : decode cX12_exchange 221 = .ok (.if_icmp .ge 38, 3) := by decide +kernel
theorem dX12_exchange_224 : decode cX12_exchange 224 = .ok (.aload_n 0, 1) := by decide +kernel
theorem dX12_exchange_225 : decode cX12_exchange 225 = .ok (.getfield 9, 3) := by decide +kernel
theorem dX12_exchange_228 : decode cX12_exchange 228 = .ok (.bipush 71, 2) := by decide +kernel
theorem dX12_exchange_230 : decode cX12_exchange 230 = .ok (.iload_n 2, 1) := by decide +kernel
theorem dX12_exchange_231 : decode cX12_exchange 231 = .ok (.iadd, 1) := by decide +kernel
theorem dX12_exchange_232 : decode cX12_exchange 232 = .ok (.iaload, 1) := by decide +kernel
theorem dX12_exchange_233 : decode cX12_exchange 233 = .ok (.aload_n 0, 1) := by decide +kernel
theorem dX12_exchange_234 : decode cX12_exchange 234 = .ok (.getfield 9, 3) := by decide +kernel
theorem dX12_exchange_237 : decode cX12_exchange 237 = .ok (.bipush 47, 2) := by decide +kernel
theorem dX12_exchange_239 : decode cX12_exchange 239 = .ok (.iaload, 1) := by decide +kernel
theorem dX12_exchange_240 : decode cX12_exchange 240 = .ok (.if_icmp .ge 13, 3) := by decide +kernel
theorem dX12_exchange_243 : decode cX12_exchange 243 = .ok (.aload_n 0, 1) := by decide +kernel
theorem dX12_exchange_244 : decode cX12_exchange 244 = .ok (.getfield 9, 3) := by decide +kernel
theorem dX12_exchange_247 : decode cX12_exchange 247 = .ok (.bipush 8, 2) := by decide +kernel
theorem dX12_exchange_249 : decode cX12_exchange 249 = .ok (.iload_n 2, 1) := by decide +kernel
theorem dX12_exchange_250 : decode cX12_exchange 250 = .ok (.iadd, 1) := by decide +kernel
theorem dX12_exchange_251 : decode cX12_exchange 251 = .ok (.iconst 3, 1) := by decide +kernel
theorem dX12_exchange_252 : decode cX12_exchange 252 = .ok (.iastore, 1) := by decide +kernel
theorem dX12_exchange_253 : decode cX12_exchange 253 = .ok (.iinc 2 1, 3) := by decide +kernel
theorem dX12_exchange_256 : decode cX12_exchange 256 = .ok (.goto (-40), 3) := by decide +kernel
theorem dX12_exchange_259 : decode cX12_exchange 259 = .ok (.aload_n 0, 1) := by decide +kernel
theorem dX12_exchange_260 : decode cX12_exchange 260 = .ok (.getfield 9, 3) := by decide +kernel
theorem dX12_exchange_263 : decode cX12_exchange 263 = .ok (.iconst 0, 1) := by decide +kernel
theorem dX12_exchange_264 : decode cX12_exchange 264 = .ok (.iaload, 1) := by decide +kernel
theorem dX12_exchange_265 : decode cX12_exchange 265 = .ok (.ireturn, 1) := by decide +kernel
theorem dX12_fault_0 : decode cX12_fault 0 = .ok (.aload_n 0, 1) := by decide +kernel
theorem dX12_fault_1 : decode cX12_fault 1 = .ok (.iconst 0, 1) := by decide +kernel
theorem dX12_fault_2 : decode cX12_fault 2 = .ok (.putfield 82, 3) := by decide +kernel
theorem dX12_fault_5 : decode cX12_fault 5 = .ok (.iload_n 1, 1) := by decide +kernel
theorem dX12_fault_6 : decode cX12_fault 6 = .ok (.ifCond .ne 10, 3) := by decide +kernel
theorem dX12_fault_9 : decode cX12_fault 9 = .ok (.aload_n 0, 1) := by decide +kernel
theorem dX12_fault_10 : decode cX12_fault 10 = .ok (.getfield 264, 3) := by decide +kernel
theorem dX12_fault_13 : decode cX12_fault 13 = .ok (.goto 16, 3) := by decide +kernel
theorem dX12_fault_16 : decode cX12_fault 16 = .ok (.iload_n 1, 1) := by decide +kernel
theorem dX12_fault_17 : decode cX12_fault 17 = .ok (.iconst 1, 1) := by decide +kernel
theorem dX12_fault_18 : decode cX12_fault 18 = .ok (.if_icmp .ne 10, 3) := by decide +kernel
theorem dX12_fault_21 : decode cX12_fault 21 = .ok (.aload_n 0, 1) := by decide +kernel
theorem dX12_fault_22 : decode cX12_fault 22 = .ok (.getfield 26, 3) := by decide +kernel
theorem dX12_fault_25 : decode cX12_fault 25 = .ok (.goto 4, 3) := by decide +kernel
theorem dX12_fault_28 : decode cX12_fault 28 = .ok (.iconst (-1), 1) := by decide +kernel
theorem dX12_fault_29 : decode cX12_fault 29 = .ok (.ireturn, 1) := by decide +kernel
theorem dX12_calls_0 : decode cX12_calls 0 = .ok (.aload_n 0, 1) := by decide +kernel
theorem dX12_calls_1 : decode cX12_calls 1 = .ok (.getfield 9, 3) := by decide +kernel
theorem dX12_calls_4 : decode cX12_calls 4 = .ok (.bipush 7, 2) := by decide +kernel
theorem dX12_calls_6 : decode cX12_calls 6 = .ok (.iaload, 1) := by decide +kernel
theorem dX12_calls_7 : decode cX12_calls 7 = .ok (.ireturn, 1) := by decide +kernel
theorem dX12_isLine_0 : decode cX12_isLine 0 = .ok (.lload_n 1, 1) := by decide +kernel
theorem dX12_isLine_1 : decode cX12_isLine 1 = .ok (.lconst 0, 1) := by decide +kernel
theorem dX12_isLine_2 : decode cX12_isLine 2 = .ok (.aload_n 0, 1) := by decide +kernel
theorem dX12_isLine_3 : decode cX12_isLine 3 = .ok (.getfield 9, 3) := by decide +kernel
theorem dX12_isLine_6 : decode cX12_isLine 6 = .ok (.iconst 1, 1) := by decide +kernel
theorem dX12_isLine_7 : decode cX12_isLine 7 = .ok (.iaload, 1) := by decide +kernel
theorem dX12_isLine_8 : decode cX12_isLine 8 = .ok (.iconst 1, 1) := by decide +kernel
theorem dX12_isLine_9 : decode cX12_isLine 9 = .ok (.isub, 1) := by decide +kernel
theorem dX12_isLine_10 : decode cX12_isLine 10 = .ok (.i2l, 1) := by decide +kernel
theorem dX12_isLine_11 : decode cX12_isLine 11 = .ok (.invokestatic 143, 3) := by decide +kernel
theorem dX12_isLine_14 : decode cX12_isLine 14 = .ok (.ireturn, 1) := by decide +kernel
theorem dX12_isCall_0 : decode cX12_isCall 0 = .ok (.lload_n 1, 1) := by decide +kernel
theorem dX12_isCall_1 : decode cX12_isCall 1 = .ok (.lconst 0, 1) := by decide +kernel
theorem dX12_isCall_2 : decode cX12_isCall 2 = .ok (.aload_n 0, 1) := by decide +kernel
theorem dX12_isCall_3 : decode cX12_isCall 3 = .ok (.invokevirtual 267, 3) := by decide +kernel
theorem dX12_isCall_6 : decode cX12_isCall 6 = .ok (.iconst 1, 1) := by decide +kernel
theorem dX12_isCall_7 : decode cX12_isCall 7 = .ok (.isub, 1) := by decide +kernel
theorem dX12_isCall_8 : decode cX12_isCall 8 = .ok (.i2l, 1) := by decide +kernel
theorem dX12_isCall_9 : decode cX12_isCall 9 = .ok (.invokestatic 143, 3) := by decide +kernel
theorem dX12_isCall_12 : decode cX12_isCall 12 = .ok (.ireturn, 1) := by decide +kernel
theorem dX12_isShut_0 : decode cX12_isShut 0 = .ok (.aload_n 0, 1) := by decide +kernel
theorem dX12_isShut_1 : decode cX12_isShut 1 = .ok (.getfield 9, 3) := by decide +kernel
theorem dX12_isShut_4 : decode cX12_isShut 4 = .ok (.bipush 46, 2) := by decide +kernel
theorem dX12_isShut_6 : decode cX12_isShut 6 = .ok (.iaload, 1) := by decide +kernel
theorem dX12_isShut_7 : decode cX12_isShut 7 = .ok (.iload_n 1, 1) := by decide +kernel
theorem dX12_isShut_8 : decode cX12_isShut 8 = .ok (.invokestatic 270, 3) := by decide +kernel
theorem dX12_isShut_11 : decode cX12_isShut 11 = .ok (.ireturn, 1) := by decide +kernel
theorem dX12_bound_0 : decode cX12_bound 0 = .ok (.ldc2_w 273, 3) := by decide +kernel
theorem dX12_bound_3 : decode cX12_bound 3 = .ok (.ldc2_w 275, 3) := by decide +kernel
theorem dX12_bound_6 : decode cX12_bound 6 = .ok (.lload_n 0, 1) := by decide +kernel
theorem dX12_bound_7 : decode cX12_bound 7 = .ok (.invokestatic 277, 3) := by decide +kernel
theorem dX12_bound_10 : decode cX12_bound 10 = .ok (.invokestatic 283, 3) := by decide +kernel
theorem dX12_bound_13 : decode cX12_bound 13 = .ok (.l2i, 1) := by decide +kernel
theorem dX12_bound_14 : decode cX12_bound 14 = .ok (.ireturn, 1) := by decide +kernel
theorem dX12_done_0 : decode cX12_done 0 = .ok (.iload_n 0, 1) := by decide +kernel
theorem dX12_done_1 : decode cX12_done 1 = .ok (.tableswitch 114 10 16 #[43, 50, 57, 64, 76, 88, 100], 43) := by decide +kernel
theorem dX12_done_44 : decode cX12_done 44 = .ok (.lload_n 1, 1) := by decide +kernel
theorem dX12_done_45 : decode cX12_done 45 = .ok (.lload_n 3, 1) := by decide +kernel
theorem dX12_done_46 : decode cX12_done 46 = .ok (.ladd, 1) := by decide +kernel
theorem dX12_done_47 : decode cX12_done 47 = .ok (.invokestatic 286, 3) := by decide +kernel
theorem dX12_done_50 : decode cX12_done 50 = .ok (.ireturn, 1) := by decide +kernel
theorem dX12_done_51 : decode cX12_done 51 = .ok (.lload_n 1, 1) := by decide +kernel
theorem dX12_done_52 : decode cX12_done 52 = .ok (.lload_n 3, 1) := by decide +kernel
theorem dX12_done_53 : decode cX12_done 53 = .ok (.lsub, 1) := by decide +kernel
theorem dX12_done_54 : decode cX12_done 54 = .ok (.invokestatic 286, 3) := by decide +kernel
theorem dX12_done_57 : decode cX12_done 57 = .ok (.ireturn, 1) := by decide +kernel
theorem dX12_done_58 : decode cX12_done 58 = .ok (.lload_n 1, 1) := by decide +kernel
theorem dX12_done_59 : decode cX12_done 59 = .ok (.lload_n 3, 1) := by decide +kernel
theorem dX12_done_60 : decode cX12_done 60 = .ok (.lmul, 1) := by decide +kernel
theorem dX12_done_61 : decode cX12_done 61 = .ok (.invokestatic 286, 3) := by decide +kernel
theorem dX12_done_64 : decode cX12_done 64 = .ok (.ireturn, 1) := by decide +kernel
theorem dX12_done_65 : decode cX12_done 65 = .ok (.lload_n 1, 1) := by decide +kernel
theorem dX12_done_66 : decode cX12_done 66 = .ok (.lload_n 3, 1) := by decide +kernel
theorem dX12_done_67 : decode cX12_done 67 = .ok (.lcmp, 1) := by decide +kernel
theorem dX12_done_68 : decode cX12_done 68 = .ok (.ifCond .ne 7, 3) := by decide +kernel
theorem dX12_done_71 : decode cX12_done 71 = .ok (.iconst 1, 1) := by decide +kernel
theorem dX12_done_72 : decode cX12_done 72 = .ok (.goto 4, 3) := by decide +kernel
theorem dX12_done_75 : decode cX12_done 75 = .ok (.iconst 0, 1) := by decide +kernel
theorem dX12_done_76 : decode cX12_done 76 = .ok (.ireturn, 1) := by decide +kernel
theorem dX12_done_77 : decode cX12_done 77 = .ok (.lload_n 1, 1) := by decide +kernel
theorem dX12_done_78 : decode cX12_done 78 = .ok (.lload_n 3, 1) := by decide +kernel
theorem dX12_done_79 : decode cX12_done 79 = .ok (.lcmp, 1) := by decide +kernel
theorem dX12_done_80 : decode cX12_done 80 = .ok (.ifCond .ge 7, 3) := by decide +kernel
theorem dX12_done_83 : decode cX12_done 83 = .ok (.iconst 1, 1) := by decide +kernel
theorem dX12_done_84 : decode cX12_done 84 = .ok (.goto 4, 3) := by decide +kernel
theorem dX12_done_87 : decode cX12_done 87 = .ok (.iconst 0, 1) := by decide +kernel
theorem dX12_done_88 : decode cX12_done 88 = .ok (.ireturn, 1) := by decide +kernel
theorem dX12_done_89 : decode cX12_done 89 = .ok (.lload_n 1, 1) := by decide +kernel
theorem dX12_done_90 : decode cX12_done 90 = .ok (.lload_n 3, 1) := by decide +kernel
theorem dX12_done_91 : decode cX12_done 91 = .ok (.lcmp, 1) := by decide +kernel
theorem dX12_done_92 : decode cX12_done 92 = .ok (.ifCond .le 7, 3) := by decide +kernel
theorem dX12_done_95 : decode cX12_done 95 = .ok (.iconst 1, 1) := by decide +kernel
theorem dX12_done_96 : decode cX12_done 96 = .ok (.goto 4, 3) := by decide +kernel
theorem dX12_done_99 : decode cX12_done 99 = .ok (.iconst 0, 1) := by decide +kernel
theorem dX12_done_100 : decode cX12_done 100 = .ok (.ireturn, 1) := by decide +kernel
theorem dX12_done_101 : decode cX12_done 101 = .ok (.lload_n 1, 1) := by decide +kernel
theorem dX12_done_102 : decode cX12_done 102 = .ok (.lload_n 3, 1) := by decide +kernel
theorem dX12_done_103 : decode cX12_done 103 = .ok (.ladd, 1) := by decide +kernel
theorem dX12_done_104 : decode cX12_done 104 = .ok (.lconst 1, 1) := by decide +kernel
theorem dX12_done_105 : decode cX12_done 105 = .ok (.lcmp, 1) := by decide +kernel
theorem dX12_done_106 : decode cX12_done 106 = .ok (.ifCond .le 7, 3) := by decide +kernel
theorem dX12_done_109 : decode cX12_done 109 = .ok (.iconst 1, 1) := by decide +kernel
theorem dX12_done_110 : decode cX12_done 110 = .ok (.goto 4, 3) := by decide +kernel
theorem dX12_done_113 : decode cX12_done 113 = .ok (.iconst 0, 1) := by decide +kernel
theorem dX12_done_114 : decode cX12_done 114 = .ok (.ireturn, 1) := by decide +kernel
theorem dX12_done_115 : decode cX12_done 115 = .ok (.lload_n 1, 1) := by decide +kernel
theorem dX12_done_116 : decode cX12_done 116 = .ok (.lload_n 3, 1) := by decide +kernel
theorem dX12_done_117 : decode cX12_done 117 = .ok (.ladd, 1) := by decide +kernel
theorem dX12_done_118 : decode cX12_done 118 = .ok (.lconst 0, 1) := by decide +kernel
theorem dX12_done_119 : decode cX12_done 119 = .ok (.lcmp, 1) := by decide +kernel
theorem dX12_done_120 : decode cX12_done 120 = .ok (.ifCond .le 7, 3) := by decide +kernel
theorem dX12_done_123 : decode cX12_done 123 = .ok (.iconst 1, 1) := by decide +kernel
theorem dX12_done_124 : decode cX12_done 124 = .ok (.goto 4, 3) := by decide +kernel
theorem dX12_done_127 : decode cX12_done 127 = .ok (.iconst 0, 1) := by decide +kernel
theorem dX12_done_128 : decode cX12_done 128 = .ok (.ireturn, 1) := by decide +kernel
theorem dX12_lawOf_0 : decode cX12_lawOf 0 = .ok (.iconst 0, 1) := by decide +kernel
theorem dX12_lawOf_1 : decode cX12_lawOf 1 = .ok (.istore_n 3, 1) := by decide +kernel
theorem dX12_lawOf_2 : decode cX12_lawOf 2 = .ok (.iconst 0, 1) := by decide +kernel
theorem dX12_lawOf_3 : decode cX12_lawOf 3 = .ok (.istore 4, 2) := by decide +kernel
theorem dX12_lawOf_5 : decode cX12_lawOf 5 = .ok (.iload 4, 2) := by decide +kernel
theorem dX12_lawOf_7 : decode cX12_lawOf 7 = .ok (.aload_n 0, 1) := by decide +kernel
theorem dX12_lawOf_8 : decode cX12_lawOf 8 = .ok (.getfield 9, 3) := by decide +kernel
theorem dX12_lawOf_11 : decode cX12_lawOf 11 = .ok (.iload_n 1, 1) := by decide +kernel
theorem dX12_lawOf_12 : decode cX12_lawOf 12 = .ok (.iaload, 1) := by decide +kernel
theorem dX12_lawOf_13 : decode cX12_lawOf 13 = .ok (.if_icmp .ge 126, 3) := by decide +kernel
theorem dX12_lawOf_16 : decode cX12_lawOf 16 = .ok (.aload_n 0, 1) := by decide +kernel
theorem dX12_lawOf_17 : decode cX12_lawOf 17 = .ok (.getfield 9, 3) := by decide +kernel
theorem dX12_lawOf_20 : decode cX12_lawOf 20 = .ok (.iload_n 2, 1) := by decide +kernel
theorem dX12_lawOf_21 : decode cX12_lawOf 21 = .ok (.iload 4, 2) := by decide +kernel
theorem dX12_lawOf_23 : decode cX12_lawOf 23 = .ok (.iadd, 1) := by decide +kernel
theorem dX12_lawOf_24 : decode cX12_lawOf 24 = .ok (.iaload, 1) := by decide +kernel
theorem dX12_lawOf_25 : decode cX12_lawOf 25 = .ok (.istore 5, 2) := by decide +kernel
theorem dX12_lawOf_27 : decode cX12_lawOf 27 = .ok (.iload 5, 2) := by decide +kernel
theorem dX12_lawOf_29 : decode cX12_lawOf 29 = .ok (.bipush 100, 2) := by decide +kernel
theorem dX12_lawOf_31 : decode cX12_lawOf 31 = .ok (.if_icmp .lt 42, 3) := by decide +kernel
theorem dX12_lawOf_34 : decode cX12_lawOf 34 = .ok (.aload_n 0, 1) := by decide +kernel
theorem dX12_lawOf_35 : decode cX12_lawOf 35 = .ok (.getfield 30, 3) := by decide +kernel
theorem dX12_lawOf_38 : decode cX12_lawOf 38 = .ok (.iload_n 3, 1) := by decide +kernel
theorem dX12_lawOf_39 : decode cX12_lawOf 39 = .ok (.iload 5, 2) := by decide +kernel
theorem dX12_lawOf_41 : decode cX12_lawOf 41 = .ok (.sipush 1000, 3) := by decide +kernel
theorem dX12_lawOf_44 : decode cX12_lawOf 44 = .ok (.if_icmp .lt 12, 3) := by decide +kernel
theorem dX12_lawOf_47 : decode cX12_lawOf 47 = .ok (.iload 5, 2) := by decide +kernel
theorem dX12_lawOf_49 : decode cX12_lawOf 49 = .ok (.sipush 1000, 3) := by decide +kernel
theorem dX12_lawOf_52 : decode cX12_lawOf 52 = .ok (.isub, 1) := by decide +kernel
theorem dX12_lawOf_53 : decode cX12_lawOf 53 = .ok (.goto 13, 3) := by decide +kernel
theorem dX12_lawOf_56 : decode cX12_lawOf 56 = .ok (.aload_n 0, 1) := by decide +kernel
theorem dX12_lawOf_57 : decode cX12_lawOf 57 = .ok (.getfield 33, 3) := by decide +kernel
theorem dX12_lawOf_60 : decode cX12_lawOf 60 = .ok (.iload 5, 2) := by decide +kernel
theorem dX12_lawOf_62 : decode cX12_lawOf 62 = .ok (.bipush 100, 2) := by decide +kernel
theorem dX12_lawOf_64 : decode cX12_lawOf 64 = .ok (.isub, 1) := by decide +kernel
theorem dX12_lawOf_65 : decode cX12_lawOf 65 = .ok (.iaload, 1) := by decide +kernel
theorem dX12_lawOf_66 : decode cX12_lawOf 66 = .ok (.iastore, 1) := by decide +kernel
theorem dX12_lawOf_67 : decode cX12_lawOf 67 = .ok (.iinc 3 1, 3) := by decide +kernel
theorem dX12_lawOf_70 : decode cX12_lawOf 70 = .ok (.goto 63, 3) := by decide +kernel
theorem dX12_lawOf_73 : decode cX12_lawOf 73 = .ok (.iload 5, 2) := by decide +kernel
theorem dX12_lawOf_75 : decode cX12_lawOf 75 = .ok (.bipush 18, 2) := by decide +kernel
theorem dX12_lawOf_77 : decode cX12_lawOf 77 = .ok (.if_icmp .ne 24, 3) := by decide +kernel
theorem dX12_lawOf_80 : decode cX12_lawOf 80 = .ok (.aload_n 0, 1) := by decide +kernel
theorem dX12_lawOf_81 : decode cX12_lawOf 81 = .ok (.getfield 30, 3) := by decide +kernel
theorem dX12_lawOf_84 : decode cX12_lawOf 84 = .ok (.iload_n 3, 1) := by decide +kernel
theorem dX12_lawOf_85 : decode cX12_lawOf 85 = .ok (.iconst 1, 1) := by decide +kernel
theorem dX12_lawOf_86 : decode cX12_lawOf 86 = .ok (.isub, 1) := by decide +kernel
theorem dX12_lawOf_87 : decode cX12_lawOf 87 = .ok (.iconst 1, 1) := by decide +kernel
theorem dX12_lawOf_88 : decode cX12_lawOf 88 = .ok (.aload_n 0, 1) := by decide +kernel
theorem dX12_lawOf_89 : decode cX12_lawOf 89 = .ok (.getfield 30, 3) := by decide +kernel
theorem dX12_lawOf_92 : decode cX12_lawOf 92 = .ok (.iload_n 3, 1) := by decide +kernel
theorem dX12_lawOf_93 : decode cX12_lawOf 93 = .ok (.iconst 1, 1) := by decide +kernel
theorem dX12_lawOf_94 : decode cX12_lawOf 94 = .ok (.isub, 1) := by decide +kernel
theorem dX12_lawOf_95 : decode cX12_lawOf 95 = .ok (.iaload, 1) := by decide +kernel
theorem dX12_lawOf_96 : decode cX12_lawOf 96 = .ok (.isub, 1) := by decide +kernel
theorem dX12_lawOf_97 : decode cX12_lawOf 97 = .ok (.iastore, 1) := by decide +kernel
theorem dX12_lawOf_98 : decode cX12_lawOf 98 = .ok (.goto 35, 3) := by decide +kernel
theorem dX12_lawOf_101 : decode cX12_lawOf 101 = .ok (.iinc 3 (-1), 3) := by decide +kernel
theorem dX12_lawOf_104 : decode cX12_lawOf 104 = .ok (.aload_n 0, 1) := by decide +kernel
theorem dX12_lawOf_105 : decode cX12_lawOf 105 = .ok (.getfield 30, 3) := by decide +kernel
theorem dX12_lawOf_108 : decode cX12_lawOf 108 = .ok (.iload_n 3, 1) := by decide +kernel
theorem dX12_lawOf_109 : decode cX12_lawOf 109 = .ok (.iconst 1, 1) := by decide +kernel
theorem dX12_lawOf_110 : decode cX12_lawOf 110 = .ok (.isub, 1) := by decide +kernel
theorem dX12_lawOf_111 : decode cX12_lawOf 111 = .ok (.iload 5, 2) := by decide +kernel
theorem dX12_lawOf_113 : decode cX12_lawOf 113 = .ok (.aload_n 0, 1) := by decide +kernel
theorem dX12_lawOf_114 : decode cX12_lawOf 114 = .ok (.getfield 30, 3) := by decide +kernel
theorem dX12_lawOf_117 : decode cX12_lawOf 117 = .ok (.iload_n 3, 1) := by decide +kernel
theorem dX12_lawOf_118 : decode cX12_lawOf 118 = .ok (.iconst 1, 1) := by decide +kernel
theorem dX12_lawOf_119 : decode cX12_lawOf 119 = .ok (.isub, 1) := by decide +kernel
theorem dX12_lawOf_120 : decode cX12_lawOf 120 = .ok (.iaload, 1) := by decide +kernel
theorem dX12_lawOf_121 : decode cX12_lawOf 121 = .ok (.i2l, 1) := by decide +kernel
theorem dX12_lawOf_122 : decode cX12_lawOf 122 = .ok (.aload_n 0, 1) := by decide +kernel
theorem dX12_lawOf_123 : decode cX12_lawOf 123 = .ok (.getfield 30, 3) := by decide +kernel
theorem dX12_lawOf_126 : decode cX12_lawOf 126 = .ok (.iload_n 3, 1) := by decide +kernel
theorem dX12_lawOf_127 : decode cX12_lawOf 127 = .ok (.iaload, 1) := by decide +kernel
theorem dX12_lawOf_128 : decode cX12_lawOf 128 = .ok (.i2l, 1) := by decide +kernel
theorem dX12_lawOf_129 : decode cX12_lawOf 129 = .ok (.invokestatic 290, 3) := by decide +kernel
theorem dX12_lawOf_132 : decode cX12_lawOf 132 = .ok (.iastore, 1) := by decide +kernel
theorem dX12_lawOf_133 : decode cX12_lawOf 133 = .ok (.iinc 4 1, 3) := by decide +kernel
theorem dX12_lawOf_136 : decode cX12_lawOf 136 = .ok (.goto (-131), 3) := by decide +kernel
theorem dX12_lawOf_139 : decode cX12_lawOf 139 = .ok (.aload_n 0, 1) := by decide +kernel
theorem dX12_lawOf_140 : decode cX12_lawOf 140 = .ok (.getfield 30, 3) := by decide +kernel
theorem dX12_lawOf_143 : decode cX12_lawOf 143 = .ok (.iconst 0, 1) := by decide +kernel
theorem dX12_lawOf_144 : decode cX12_lawOf 144 = .ok (.iaload, 1) := by decide +kernel
theorem dX12_lawOf_145 : decode cX12_lawOf 145 = .ok (.ireturn, 1) := by decide +kernel
theorem dX12_asks_0 : decode cX12_asks 0 = .ok (.aload_n 0, 1) := by decide +kernel
theorem dX12_asks_1 : decode cX12_asks 1 = .ok (.getfield 33, 3) := by decide +kernel
theorem dX12_asks_4 : decode cX12_asks 4 = .ok (.iconst 0, 1) := by decide +kernel
theorem dX12_asks_5 : decode cX12_asks 5 = .ok (.iload_n 1, 1) := by decide +kernel
theorem dX12_asks_6 : decode cX12_asks 6 = .ok (.iastore, 1) := by decide +kernel
theorem dX12_asks_7 : decode cX12_asks 7 = .ok (.aload_n 0, 1) := by decide +kernel
theorem dX12_asks_8 : decode cX12_asks 8 = .ok (.getfield 33, 3) := by decide +kernel
theorem dX12_asks_11 : decode cX12_asks 11 = .ok (.iconst 1, 1) := by decide +kernel
theorem dX12_asks_12 : decode cX12_asks 12 = .ok (.iload_n 2, 1) := by decide +kernel
theorem dX12_asks_13 : decode cX12_asks 13 = .ok (.iastore, 1) := by decide +kernel
theorem dX12_asks_14 : decode cX12_asks 14 = .ok (.aload_n 0, 1) := by decide +kernel
theorem dX12_asks_15 : decode cX12_asks 15 = .ok (.getfield 33, 3) := by decide +kernel
theorem dX12_asks_18 : decode cX12_asks 18 = .ok (.iconst 2, 1) := by decide +kernel
theorem dX12_asks_19 : decode cX12_asks 19 = .ok (.iload_n 3, 1) := by decide +kernel
theorem dX12_asks_20 : decode cX12_asks 20 = .ok (.bipush 60, 2) := by decide +kernel
theorem dX12_asks_22 : decode cX12_asks 22 = .ok (.irem, 1) := by decide +kernel
theorem dX12_asks_23 : decode cX12_asks 23 = .ok (.iastore, 1) := by decide +kernel
theorem dX12_asks_24 : decode cX12_asks 24 = .ok (.aload_n 0, 1) := by decide +kernel
theorem dX12_asks_25 : decode cX12_asks 25 = .ok (.getfield 33, 3) := by decide +kernel
theorem dX12_asks_28 : decode cX12_asks 28 = .ok (.iconst 3, 1) := by decide +kernel
theorem dX12_asks_29 : decode cX12_asks 29 = .ok (.iload 4, 2) := by decide +kernel
theorem dX12_asks_31 : decode cX12_asks 31 = .ok (.iastore, 1) := by decide +kernel
theorem dX12_asks_32 : decode cX12_asks 32 = .ok (.return_, 1) := by decide +kernel
theorem dX12_comesBy_0 : decode cX12_comesBy 0 = .ok (.aload_n 0, 1) := by decide +kernel
theorem dX12_comesBy_1 : decode cX12_comesBy 1 = .ok (.getfield 9, 3) := by decide +kernel
theorem dX12_comesBy_4 : decode cX12_comesBy 4 = .ok (.iconst 3, 1) := by decide +kernel
theorem dX12_comesBy_5 : decode cX12_comesBy 5 = .ok (.iaload, 1) := by decide +kernel
theorem dX12_comesBy_6 : decode cX12_comesBy 6 = .ok (.ifCond .ne 13, 3) := by decide +kernel
theorem dX12_comesBy_9 : decode cX12_comesBy 9 = .ok (.aload_n 0, 1) := by decide +kernel
theorem dX12_comesBy_10 : decode cX12_comesBy 10 = .ok (.getfield 9, 3) := by decide +kernel
theorem dX12_comesBy_13 : decode cX12_comesBy 13 = .ok (.bipush 61, 2) := by decide +kernel
theorem dX12_comesBy_15 : decode cX12_comesBy 15 = .ok (.iload_n 1, 1) := by decide +kernel
theorem dX12_comesBy_16 : decode cX12_comesBy 16 = .ok (.iadd, 1) := by decide +kernel
theorem dX12_comesBy_17 : decode cX12_comesBy 17 = .ok (.iaload, 1) := by decide +kernel
theorem dX12_comesBy_18 : decode cX12_comesBy 18 = .ok (.ireturn, 1) := by decide +kernel
theorem dX12_comesBy_19 : decode cX12_comesBy 19 = .ok (.aload_n 0, 1) := by decide +kernel
theorem dX12_comesBy_20 : decode cX12_comesBy 20 = .ok (.aload_n 0, 1) := by decide +kernel
theorem dX12_comesBy_21 : decode cX12_comesBy 21 = .ok (.getfield 9, 3) := by decide +kernel
theorem dX12_comesBy_24 : decode cX12_comesBy 24 = .ok (.bipush 51, 2) := by decide +kernel
theorem dX12_comesBy_26 : decode cX12_comesBy 26 = .ok (.iload_n 1, 1) := by decide +kernel
theorem dX12_comesBy_27 : decode cX12_comesBy 27 = .ok (.iadd, 1) := by decide +kernel
theorem dX12_comesBy_28 : decode cX12_comesBy 28 = .ok (.iaload, 1) := by decide +kernel
theorem dX12_comesBy_29 : decode cX12_comesBy 29 = .ok (.aload_n 0, 1) := by decide +kernel
theorem dX12_comesBy_30 : decode cX12_comesBy 30 = .ok (.getfield 9, 3) := by decide +kernel
theorem dX12_comesBy_33 : decode cX12_comesBy 33 = .ok (.bipush 61, 2) := by decide +kernel
theorem dX12_comesBy_35 : decode cX12_comesBy 35 = .ok (.iload_n 1, 1) := by decide +kernel
theorem dX12_comesBy_36 : decode cX12_comesBy 36 = .ok (.iadd, 1) := by decide +kernel
theorem dX12_comesBy_37 : decode cX12_comesBy 37 = .ok (.iaload, 1) := by decide +kernel
theorem dX12_comesBy_38 : decode cX12_comesBy 38 = .ok (.iload_n 2, 1) := by decide +kernel
theorem dX12_comesBy_39 : decode cX12_comesBy 39 = .ok (.iload_n 1, 1) := by decide +kernel
theorem dX12_comesBy_40 : decode cX12_comesBy 40 = .ok (.invokevirtual 294, 3) := by decide +kernel
theorem dX12_comesBy_43 : decode cX12_comesBy 43 = .ok (.aload_n 0, 1) := by decide +kernel
theorem dX12_comesBy_44 : decode cX12_comesBy 44 = .ok (.getfield 9, 3) := by decide +kernel
theorem dX12_comesBy_47 : decode cX12_comesBy 47 = .ok (.bipush 61, 2) := by decide +kernel
theorem dX12_comesBy_49 : decode cX12_comesBy 49 = .ok (.iload_n 1, 1) := by decide +kernel
theorem dX12_comesBy_50 : decode cX12_comesBy 50 = .ok (.iadd, 1) := by decide +kernel
theorem dX12_comesBy_51 : decode cX12_comesBy 51 = .ok (.iaload, 1) := by decide +kernel
theorem dX12_comesBy_52 : decode cX12_comesBy 52 = .ok (.aload_n 0, 1) := by decide +kernel
theorem dX12_comesBy_53 : decode cX12_comesBy 53 = .ok (.iconst 3, 1) := by decide +kernel
theorem dX12_comesBy_54 : decode cX12_comesBy 54 = .ok (.sipush 501, 3) := by decide +kernel
theorem dX12_comesBy_57 : decode cX12_comesBy 57 = .ok (.invokevirtual 298, 3) := by decide +kernel
theorem dX12_comesBy_60 : decode cX12_comesBy 60 = .ok (.iadd, 1) := by decide +kernel
theorem dX12_comesBy_61 : decode cX12_comesBy 61 = .ok (.aload_n 0, 1) := by decide +kernel
theorem dX12_comesBy_62 : decode cX12_comesBy 62 = .ok (.getfield 9, 3) := by decide +kernel
theorem dX12_comesBy_65 : decode cX12_comesBy 65 = .ok (.iconst 1, 1) := by decide +kernel
theorem dX12_comesBy_66 : decode cX12_comesBy 66 = .ok (.iaload, 1) := by decide +kernel
theorem dX12_comesBy_67 : decode cX12_comesBy 67 = .ok (.irem, 1) := by decide +kernel
theorem dX12_comesBy_68 : decode cX12_comesBy 68 = .ok (.istore_n 3, 1) := by decide +kernel
theorem dX12_comesBy_69 : decode cX12_comesBy 69 = .ok (.iload_n 3, 1) := by decide +kernel
theorem dX12_comesBy_70 : decode cX12_comesBy 70 = .ok (.ifCond .ge 14, 3) := by decide +kernel
theorem dX12_comesBy_73 : decode cX12_comesBy 73 = .ok (.iload_n 3, 1) := by decide +kernel
theorem dX12_comesBy_74 : decode cX12_comesBy 74 = .ok (.aload_n 0, 1) := by decide +kernel
theorem dX12_comesBy_75 : decode cX12_comesBy 75 = .ok (.getfield 9, 3) := by decide +kernel
theorem dX12_comesBy_78 : decode cX12_comesBy 78 = .ok (.iconst 1, 1) := by decide +kernel
theorem dX12_comesBy_79 : decode cX12_comesBy 79 = .ok (.iaload, 1) := by decide +kernel
theorem dX12_comesBy_80 : decode cX12_comesBy 80 = .ok (.iadd, 1) := by decide +kernel
theorem dX12_comesBy_81 : decode cX12_comesBy 81 = .ok (.goto 4, 3) := by decide +kernel
theorem dX12_comesBy_84 : decode cX12_comesBy 84 = .ok (.iload_n 3, 1) := by decide +kernel
theorem dX12_comesBy_85 : decode cX12_comesBy 85 = .ok (.ireturn, 1) := by decide +kernel
theorem dX12_likesHow_0 : decode cX12_likesHow 0 = .ok (.aload_n 0, 1) := by decide +kernel
theorem dX12_likesHow_1 : decode cX12_likesHow 1 = .ok (.getfield 9, 3) := by decide +kernel
theorem dX12_likesHow_4 : decode cX12_likesHow 4 = .ok (.iconst 4, 1) := by decide +kernel
theorem dX12_likesHow_5 : decode cX12_likesHow 5 = .ok (.iaload, 1) := by decide +kernel
theorem dX12_likesHow_6 : decode cX12_likesHow 6 = .ok (.ifCond .ne 5, 3) := by decide +kernel
theorem dX12_likesHow_9 : decode cX12_likesHow 9 = .ok (.iconst 0, 1) := by decide +kernel
theorem dX12_likesHow_10 : decode cX12_likesHow 10 = .ok (.ireturn, 1) := by decide +kernel
theorem dX12_likesHow_11 : decode cX12_likesHow 11 = .ok (.aload_n 0, 1) := by decide +kernel
theorem dX12_likesHow_12 : decode cX12_likesHow 12 = .ok (.getfield 33, 3) := by decide +kernel
theorem dX12_likesHow_15 : decode cX12_likesHow 15 = .ok (.iconst 0, 1) := by decide +kernel
theorem dX12_likesHow_16 : decode cX12_likesHow 16 = .ok (.iload_n 1, 1) := by decide +kernel
theorem dX12_likesHow_17 : decode cX12_likesHow 17 = .ok (.iastore, 1) := by decide +kernel
theorem dX12_likesHow_18 : decode cX12_likesHow 18 = .ok (.aload_n 0, 1) := by decide +kernel
theorem dX12_likesHow_19 : decode cX12_likesHow 19 = .ok (.getfield 33, 3) := by decide +kernel
theorem dX12_likesHow_22 : decode cX12_likesHow 22 = .ok (.iconst 1, 1) := by decide +kernel
theorem dX12_likesHow_23 : decode cX12_likesHow 23 = .ok (.iload_n 2, 1) := by decide +kernel
theorem dX12_likesHow_24 : decode cX12_likesHow 24 = .ok (.iastore, 1) := by decide +kernel
theorem dX12_likesHow_25 : decode cX12_likesHow 25 = .ok (.aload_n 0, 1) := by decide +kernel
theorem dX12_likesHow_26 : decode cX12_likesHow 26 = .ok (.iconst 4, 1) := by decide +kernel
theorem dX12_likesHow_27 : decode cX12_likesHow 27 = .ok (.sipush 1401, 3) := by decide +kernel
theorem dX12_likesHow_30 : decode cX12_likesHow 30 = .ok (.invokevirtual 298, 3) := by decide +kernel
theorem dX12_likesHow_33 : decode cX12_likesHow 33 = .ok (.ireturn, 1) := by decide +kernel
theorem dX12_marriesBy_0 : decode cX12_marriesBy 0 = .ok (.aload_n 0, 1) := by decide +kernel
theorem dX12_marriesBy_1 : decode cX12_marriesBy 1 = .ok (.getfield 9, 3) := by decide +kernel
theorem dX12_marriesBy_4 : decode cX12_marriesBy 4 = .ok (.iconst 5, 1) := by decide +kernel
theorem dX12_marriesBy_5 : decode cX12_marriesBy 5 = .ok (.iaload, 1) := by decide +kernel
theorem dX12_marriesBy_6 : decode cX12_marriesBy 6 = .ok (.ifCond .ne 5, 3) := by decide +kernel
theorem dX12_marriesBy_9 : decode cX12_marriesBy 9 = .ok (.iconst 0, 1) := by decide +kernel
theorem dX12_marriesBy_10 : decode cX12_marriesBy 10 = .ok (.ireturn, 1) := by decide +kernel
theorem dX12_marriesBy_11 : decode cX12_marriesBy 11 = .ok (.aload_n 0, 1) := by decide +kernel
theorem dX12_marriesBy_12 : decode cX12_marriesBy 12 = .ok (.aload_n 0, 1) := by decide +kernel
theorem dX12_marriesBy_13 : decode cX12_marriesBy 13 = .ok (.getfield 9, 3) := by decide +kernel
theorem dX12_marriesBy_16 : decode cX12_marriesBy 16 = .ok (.bipush 51, 2) := by decide +kernel
theorem dX12_marriesBy_18 : decode cX12_marriesBy 18 = .ok (.iload_n 1, 1) := by decide +kernel
theorem dX12_marriesBy_19 : decode cX12_marriesBy 19 = .ok (.iadd, 1) := by decide +kernel
theorem dX12_marriesBy_20 : decode cX12_marriesBy 20 = .ok (.iaload, 1) := by decide +kernel
theorem dX12_marriesBy_21 : decode cX12_marriesBy 21 = .ok (.iload_n 2, 1) := by decide +kernel
theorem dX12_marriesBy_22 : decode cX12_marriesBy 22 = .ok (.invokevirtual 301, 3) := by decide +kernel
theorem dX12_marriesBy_25 : decode cX12_marriesBy 25 = .ok (.istore_n 3, 1) := by decide +kernel
theorem dX12_marriesBy_26 : decode cX12_marriesBy 26 = .ok (.aload_n 0, 1) := by decide +kernel
theorem dX12_marriesBy_27 : decode cX12_marriesBy 27 = .ok (.iload_n 2, 1) := by decide +kernel
theorem dX12_marriesBy_28 : decode cX12_marriesBy 28 = .ok (.aload_n 0, 1) := by decide +kernel
theorem dX12_marriesBy_29 : decode cX12_marriesBy 29 = .ok (.getfield 9, 3) := by decide +kernel
theorem dX12_marriesBy_32 : decode cX12_marriesBy 32 = .ok (.bipush 51, 2) := by decide +kernel
theorem dX12_marriesBy_34 : decode cX12_marriesBy 34 = .ok (.iload_n 1, 1) := by decide +kernel
theorem dX12_marriesBy_35 : decode cX12_marriesBy 35 = .ok (.iadd, 1) := by decide +kernel
theorem dX12_marriesBy_36 : decode cX12_marriesBy 36 = .ok (.iaload, 1) := by decide +kernel
theorem dX12_marriesBy_37 : decode cX12_marriesBy 37 = .ok (.invokevirtual 301, 3) := by decide +kernel
theorem dX12_marriesBy_40 : decode cX12_marriesBy 40 = .ok (.istore 4, 2) := by decide +kernel
theorem dX12_marriesBy_42 : decode cX12_marriesBy 42 = .ok (.aload_n 0, 1) := by decide +kernel
theorem dX12_marriesBy_43 : decode cX12_marriesBy 43 = .ok (.aload_n 0, 1) := by decide +kernel
theorem dX12_marriesBy_44 : decode cX12_marriesBy 44 = .ok (.getfield 9, 3) := by decide +kernel
theorem dX12_marriesBy_47 : decode cX12_marriesBy 47 = .ok (.bipush 51, 2) := by decide +kernel
theorem dX12_marriesBy_49 : decode cX12_marriesBy 49 = .ok (.iload_n 1, 1) := by decide +kernel
theorem dX12_marriesBy_50 : decode cX12_marriesBy 50 = .ok (.iadd, 1) := by decide +kernel
theorem dX12_marriesBy_51 : decode cX12_marriesBy 51 = .ok (.iaload, 1) := by decide +kernel
theorem dX12_marriesBy_52 : decode cX12_marriesBy 52 = .ok (.iload_n 2, 1) := by decide +kernel
theorem dX12_marriesBy_53 : decode cX12_marriesBy 53 = .ok (.aload_n 0, 1) := by decide +kernel
theorem dX12_marriesBy_54 : decode cX12_marriesBy 54 = .ok (.getfield 9, 3) := by decide +kernel
theorem dX12_marriesBy_57 : decode cX12_marriesBy 57 = .ok (.bipush 47, 2) := by decide +kernel
theorem dX12_marriesBy_59 : decode cX12_marriesBy 59 = .ok (.iaload, 1) := by decide +kernel
theorem dX12_marriesBy_60 : decode cX12_marriesBy 60 = .ok (.iload_n 1, 1) := by decide +kernel
theorem dX12_marriesBy_61 : decode cX12_marriesBy 61 = .ok (.invokevirtual 294, 3) := by decide +kernel
theorem dX12_marriesBy_64 : decode cX12_marriesBy 64 = .ok (.aload_n 0, 1) := by decide +kernel
theorem dX12_marriesBy_65 : decode cX12_marriesBy 65 = .ok (.getfield 33, 3) := by decide +kernel
theorem dX12_marriesBy_68 : decode cX12_marriesBy 68 = .ok (.iconst 4, 1) := by decide +kernel
theorem dX12_marriesBy_69 : decode cX12_marriesBy 69 = .ok (.iload_n 3, 1) := by decide +kernel
theorem dX12_marriesBy_70 : decode cX12_marriesBy 70 = .ok (.iastore, 1) := by decide +kernel
theorem dX12_marriesBy_71 : decode cX12_marriesBy 71 = .ok (.aload_n 0, 1) := by decide +kernel
theorem dX12_marriesBy_72 : decode cX12_marriesBy 72 = .ok (.getfield 33, 3) := by decide +kernel
theorem dX12_marriesBy_75 : decode cX12_marriesBy 75 = .ok (.iconst 5, 1) := by decide +kernel
theorem dX12_marriesBy_76 : decode cX12_marriesBy 76 = .ok (.iload 4, 2) := by decide +kernel
theorem dX12_marriesBy_78 : decode cX12_marriesBy 78 = .ok (.iastore, 1) := by decide +kernel
theorem dX12_marriesBy_79 : decode cX12_marriesBy 79 = .ok (.aload_n 0, 1) := by decide +kernel
theorem dX12_marriesBy_80 : decode cX12_marriesBy 80 = .ok (.iconst 5, 1) := by decide +kernel
theorem dX12_marriesBy_81 : decode cX12_marriesBy 81 = .ok (.sipush 2301, 3) := by decide +kernel
theorem dX12_marriesBy_84 : decode cX12_marriesBy 84 = .ok (.invokevirtual 298, 3) := by decide +kernel
theorem dX12_marriesBy_87 : decode cX12_marriesBy 87 = .ok (.iconst 1, 1) := by decide +kernel
theorem dX12_marriesBy_88 : decode cX12_marriesBy 88 = .ok (.if_icmp .ne 7, 3) := by decide +kernel
theorem dX12_marriesBy_91 : decode cX12_marriesBy 91 = .ok (.iconst 1, 1) := by decide +kernel
theorem dX12_marriesBy_92 : decode cX12_marriesBy 92 = .ok (.goto 4, 3) := by decide +kernel
theorem dX12_marriesBy_95 : decode cX12_marriesBy 95 = .ok (.iconst 0, 1) := by decide +kernel
theorem dX12_marriesBy_96 : decode cX12_marriesBy 96 = .ok (.ireturn, 1) := by decide +kernel
theorem dX12_busyIn_0 : decode cX12_busyIn 0 = .ok (.iconst 0, 1) := by decide +kernel
theorem dX12_busyIn_1 : decode cX12_busyIn 1 = .ok (.istore_n 2, 1) := by decide +kernel
theorem dX12_busyIn_2 : decode cX12_busyIn 2 = .ok (.iload_n 2, 1) := by decide +kernel
theorem dX12_busyIn_3 : decode cX12_busyIn 3 = .ok (.aload_n 0, 1) := by decide +kernel
theorem dX12_busyIn_4 : decode cX12_busyIn 4 = .ok (.invokevirtual 267, 3) := by decide +kernel
theorem dX12_busyIn_7 : decode cX12_busyIn 7 = .ok (.if_icmp .ge 50, 3) := by decide +kernel
theorem dX12_busyIn_10 : decode cX12_busyIn 10 = .ok (.aload_n 0, 1) := by decide +kernel
theorem dX12_busyIn_11 : decode cX12_busyIn 11 = .ok (.getfield 9, 3) := by decide +kernel
theorem dX12_busyIn_14 : decode cX12_busyIn 14 = .ok (.bipush 8, 2) := by decide +kernel
theorem dX12_busyIn_16 : decode cX12_busyIn 16 = .ok (.iload_n 2, 1) := by decide +kernel
theorem dX12_busyIn_17 : decode cX12_busyIn 17 = .ok (.iadd, 1) := by decide +kernel
theorem dX12_busyIn_18 : decode cX12_busyIn 18 = .ok (.iaload, 1) := by decide +kernel
theorem dX12_busyIn_19 : decode cX12_busyIn 19 = .ok (.iconst 1, 1) := by decide +kernel
theorem dX12_busyIn_20 : decode cX12_busyIn 20 = .ok (.if_icmp .ne 31, 3) := by decide +kernel
theorem dX12_busyIn_23 : decode cX12_busyIn 23 = .ok (.aload_n 0, 1) := by decide +kernel
theorem dX12_busyIn_24 : decode cX12_busyIn 24 = .ok (.getfield 9, 3) := by decide +kernel
theorem dX12_busyIn_27 : decode cX12_busyIn 27 = .ok (.bipush 51, 2) := by decide +kernel
theorem dX12_busyIn_29 : decode cX12_busyIn 29 = .ok (.iload_n 2, 1) := by decide +kernel
theorem dX12_busyIn_30 : decode cX12_busyIn 30 = .ok (.iadd, 1) := by decide +kernel
theorem dX12_busyIn_31 : decode cX12_busyIn 31 = .ok (.iaload, 1) := by decide +kernel
theorem dX12_busyIn_32 : decode cX12_busyIn 32 = .ok (.iload_n 1, 1) := by decide +kernel
theorem dX12_busyIn_33 : decode cX12_busyIn 33 = .ok (.if_icmp .eq 16, 3) := by decide +kernel
theorem dX12_busyIn_36 : decode cX12_busyIn 36 = .ok (.aload_n 0, 1) := by decide +kernel
theorem dX12_busyIn_37 : decode cX12_busyIn 37 = .ok (.getfield 9, 3) := by decide +kernel
theorem dX12_busyIn_40 : decode cX12_busyIn 40 = .ok (.bipush 18, 2) := by decide +kernel
theorem dX12_busyIn_42 : decode cX12_busyIn 42 = .ok (.iload_n 2, 1) := by decide +kernel
theorem dX12_busyIn_43 : decode cX12_busyIn 43 = .ok (.iadd, 1) := by decide +kernel
theorem dX12_busyIn_44 : decode cX12_busyIn 44 = .ok (.iaload, 1) := by decide +kernel
theorem dX12_busyIn_45 : decode cX12_busyIn 45 = .ok (.iload_n 1, 1) := by decide +kernel
theorem dX12_busyIn_46 : decode cX12_busyIn 46 = .ok (.if_icmp .ne 5, 3) := by decide +kernel
theorem dX12_busyIn_49 : decode cX12_busyIn 49 = .ok (.iload_n 2, 1) := by decide +kernel
theorem dX12_busyIn_50 : decode cX12_busyIn 50 = .ok (.ireturn, 1) := by decide +kernel
theorem dX12_busyIn_51 : decode cX12_busyIn 51 = .ok (.iinc 2 1, 3) := by decide +kernel
theorem dX12_busyIn_54 : decode cX12_busyIn 54 = .ok (.goto (-52), 3) := by decide +kernel
theorem dX12_busyIn_57 : decode cX12_busyIn 57 = .ok (.iconst (-1), 1) := by decide +kernel
theorem dX12_busyIn_58 : decode cX12_busyIn 58 = .ok (.ireturn, 1) := by decide +kernel
theorem dX12_callOn_0 : decode cX12_callOn 0 = .ok (.iconst 0, 1) := by decide +kernel
theorem dX12_callOn_1 : decode cX12_callOn 1 = .ok (.istore_n 2, 1) := by decide +kernel
theorem dX12_callOn_2 : decode cX12_callOn 2 = .ok (.iload_n 2, 1) := by decide +kernel
theorem dX12_callOn_3 : decode cX12_callOn 3 = .ok (.aload_n 0, 1) := by decide +kernel
theorem dX12_callOn_4 : decode cX12_callOn 4 = .ok (.invokevirtual 267, 3) := by decide +kernel
theorem dX12_callOn_7 : decode cX12_callOn 7 = .ok (.if_icmp .ge 37, 3) := by decide +kernel
theorem dX12_callOn_10 : decode cX12_callOn 10 = .ok (.aload_n 0, 1) := by decide +kernel
theorem dX12_callOn_11 : decode cX12_callOn 11 = .ok (.getfield 9, 3) := by decide +kernel
theorem dX12_callOn_14 : decode cX12_callOn 14 = .ok (.bipush 8, 2) := by decide +kernel
theorem dX12_callOn_16 : decode cX12_callOn 16 = .ok (.iload_n 2, 1) := by decide +kernel
theorem dX12_callOn_17 : decode cX12_callOn 17 = .ok (.iadd, 1) := by decide +kernel
theorem dX12_callOn_18 : decode cX12_callOn 18 = .ok (.iaload, 1) := by decide +kernel
theorem dX12_callOn_19 : decode cX12_callOn 19 = .ok (.iconst 1, 1) := by decide +kernel
theorem dX12_callOn_20 : decode cX12_callOn 20 = .ok (.if_icmp .ne 18, 3) := by decide +kernel
theorem dX12_callOn_23 : decode cX12_callOn 23 = .ok (.aload_n 0, 1) := by decide +kernel
theorem dX12_callOn_24 : decode cX12_callOn 24 = .ok (.getfield 9, 3) := by decide +kernel
theorem dX12_callOn_27 : decode cX12_callOn 27 = .ok (.bipush 28, 2) := by decide +kernel
theorem dX12_callOn_29 : decode cX12_callOn 29 = .ok (.iload_n 2, 1) := by decide +kernel
theorem dX12_callOn_30 : decode cX12_callOn 30 = .ok (.iadd, 1) := by decide +kernel
theorem dX12_callOn_31 : decode cX12_callOn 31 = .ok (.iaload, 1) := by decide +kernel
theorem dX12_callOn_32 : decode cX12_callOn 32 = .ok (.iload_n 1, 1) := by decide +kernel
theorem dX12_callOn_33 : decode cX12_callOn 33 = .ok (.if_icmp .ne 5, 3) := by decide +kernel
theorem dX12_callOn_36 : decode cX12_callOn 36 = .ok (.iload_n 2, 1) := by decide +kernel
theorem dX12_callOn_37 : decode cX12_callOn 37 = .ok (.ireturn, 1) := by decide +kernel
theorem dX12_callOn_38 : decode cX12_callOn 38 = .ok (.iinc 2 1, 3) := by decide +kernel
theorem dX12_callOn_41 : decode cX12_callOn 41 = .ok (.goto (-39), 3) := by decide +kernel
theorem dX12_callOn_44 : decode cX12_callOn 44 = .ok (.iconst (-1), 1) := by decide +kernel
theorem dX12_callOn_45 : decode cX12_callOn 45 = .ok (.ireturn, 1) := by decide +kernel
theorem dX12_freeCord_0 : decode cX12_freeCord 0 = .ok (.iconst 0, 1) := by decide +kernel
theorem dX12_freeCord_1 : decode cX12_freeCord 1 = .ok (.istore_n 3, 1) := by decide +kernel
theorem dX12_freeCord_2 : decode cX12_freeCord 2 = .ok (.iload_n 3, 1) := by decide +kernel
theorem dX12_freeCord_3 : decode cX12_freeCord 3 = .ok (.aload_n 0, 1) := by decide +kernel
theorem dX12_freeCord_4 : decode cX12_freeCord 4 = .ok (.getfield 9, 3) := by decide +kernel
theorem dX12_freeCord_7 : decode cX12_freeCord 7 = .ok (.iconst 2, 1) := by decide +kernel
theorem dX12_freeCord_8 : decode cX12_freeCord 8 = .ok (.iaload, 1) := by decide +kernel
theorem dX12_freeCord_9 : decode cX12_freeCord 9 = .ok (.if_icmp .ge 52, 3) := by decide +kernel
theorem dX12_freeCord_12 : decode cX12_freeCord 12 = .ok (.aload_n 0, 1) := by decide +kernel
theorem dX12_freeCord_13 : decode cX12_freeCord 13 = .ok (.getfield 9, 3) := by decide +kernel
theorem dX12_freeCord_16 : decode cX12_freeCord 16 = .ok (.bipush 48, 2) := by decide +kernel
theorem dX12_freeCord_18 : decode cX12_freeCord 18 = .ok (.iload_n 3, 1) := by decide +kernel
theorem dX12_freeCord_19 : decode cX12_freeCord 19 = .ok (.iadd, 1) := by decide +kernel
theorem dX12_freeCord_20 : decode cX12_freeCord 20 = .ok (.iaload, 1) := by decide +kernel
theorem dX12_freeCord_21 : decode cX12_freeCord 21 = .ok (.iload_n 1, 1) := by decide +kernel
theorem dX12_freeCord_22 : decode cX12_freeCord 22 = .ok (.invokestatic 270, 3) := by decide +kernel
theorem dX12_freeCord_25 : decode cX12_freeCord 25 = .ok (.ifCond .eq 30, 3) := by decide +kernel
theorem dX12_freeCord_28 : decode cX12_freeCord 28 = .ok (.aload_n 0, 1) := by decide +kernel
theorem dX12_freeCord_29 : decode cX12_freeCord 29 = .ok (.getfield 9, 3) := by decide +kernel
theorem dX12_freeCord_32 : decode cX12_freeCord 32 = .ok (.bipush 48, 2) := by decide +kernel
theorem dX12_freeCord_34 : decode cX12_freeCord 34 = .ok (.iload_n 3, 1) := by decide +kernel
theorem dX12_freeCord_35 : decode cX12_freeCord 35 = .ok (.iadd, 1) := by decide +kernel
theorem dX12_freeCord_36 : decode cX12_freeCord 36 = .ok (.iaload, 1) := by decide +kernel
theorem dX12_freeCord_37 : decode cX12_freeCord 37 = .ok (.iload_n 2, 1) := by decide +kernel
theorem dX12_freeCord_38 : decode cX12_freeCord 38 = .ok (.invokestatic 270, 3) := by decide +kernel
theorem dX12_freeCord_41 : decode cX12_freeCord 41 = .ok (.ifCond .eq 14, 3) := by decide +kernel
theorem dX12_freeCord_44 : decode cX12_freeCord 44 = .ok (.aload_n 0, 1) := by decide +kernel
theorem dX12_freeCord_45 : decode cX12_freeCord 45 = .ok (.iload_n 3, 1) := by decide +kernel
theorem dX12_freeCord_46 : decode cX12_freeCord 46 = .ok (.invokevirtual 304, 3) := by decide +kernel
theorem dX12_freeCord_49 : decode cX12_freeCord 49 = .ok (.iconst (-1), 1) := by decide +kernel
theorem dX12_freeCord_50 : decode cX12_freeCord 50 = .ok (.if_icmp .ne 5, 3) := by decide +kernel
theorem dX12_freeCord_53 : decode cX12_freeCord 53 = .ok (.iload_n 3, 1) := by decide +kernel
theorem dX12_freeCord_54 : decode cX12_freeCord 54 = .ok (.ireturn, 1) := by decide +kernel
theorem dX12_freeCord_55 : decode cX12_freeCord 55 = .ok (.iinc 3 1, 3) := by decide +kernel
theorem dX12_freeCord_58 : decode cX12_freeCord 58 = .ok (.goto (-56), 3) := by decide +kernel
theorem dX12_freeCord_61 : decode cX12_freeCord 61 = .ok (.iconst (-1), 1) := by decide +kernel
theorem dX12_freeCord_62 : decode cX12_freeCord 62 = .ok (.ireturn, 1) := by decide +kernel
theorem dX12_callBegins_0 : decode cX12_callBegins 0 = .ok (.aload_n 0, 1) := by decide +kernel
theorem dX12_callBegins_1 : decode cX12_callBegins 1 = .ok (.getfield 9, 3) := by decide +kernel
theorem dX12_callBegins_4 : decode cX12_callBegins 4 = .ok (.bipush 51, 2) := by decide +kernel
theorem dX12_callBegins_6 : decode cX12_callBegins 6 = .ok (.iload_n 1, 1) := by decide +kernel
theorem dX12_callBegins_7 : decode cX12_callBegins 7 = .ok (.iadd, 1) := by decide +kernel
theorem dX12_callBegins_8 : decode cX12_callBegins 8 = .ok (.iaload, 1) := by decide +kernel
theorem dX12_callBegins_9 : decode cX12_callBegins 9 = .ok (.istore_n 2, 1) := by decide +kernel
theorem dX12_callBegins_10 : decode cX12_callBegins 10 = .ok (.aload_n 0, 1) := by decide +kernel
theorem dX12_callBegins_11 : decode cX12_callBegins 11 = .ok (.getfield 36, 3) := by decide +kernel
theorem dX12_callBegins_14 : decode cX12_callBegins 14 = .ok (.iload_n 1, 1) := by decide +kernel
theorem dX12_callBegins_15 : decode cX12_callBegins 15 = .ok (.iaload, 1) := by decide +kernel
theorem dX12_callBegins_16 : decode cX12_callBegins 16 = .ok (.iconst (-1), 1) := by decide +kernel
theorem dX12_callBegins_17 : decode cX12_callBegins 17 = .ok (.if_icmp .ne 18, 3) := by decide +kernel
theorem dX12_callBegins_20 : decode cX12_callBegins 20 = .ok (.aload_n 0, 1) := by decide +kernel
theorem dX12_callBegins_21 : decode cX12_callBegins 21 = .ok (.iload_n 1, 1) := by decide +kernel
theorem dX12_callBegins_22 : decode cX12_callBegins 22 = .ok (.aload_n 0, 1) := by decide +kernel
theorem dX12_callBegins_23 : decode cX12_callBegins 23 = .ok (.getfield 9, 3) := by decide +kernel
theorem dX12_callBegins_26 : decode cX12_callBegins 26 = .ok (.bipush 47, 2) := by decide +kernel
theorem dX12_callBegins_28 : decode cX12_callBegins 28 = .ok (.iaload, 1) := by decide +kernel
theorem dX12_callBegins_29 : decode cX12_callBegins 29 = .ok (.invokevirtual 307, 3) := by decide +kernel
theorem dX12_callBegins_32 : decode cX12_callBegins 32 = .ok (.goto 9, 3) := by decide +kernel
theorem dX12_callBegins_35 : decode cX12_callBegins 35 = .ok (.aload_n 0, 1) := by decide +kernel
theorem dX12_callBegins_36 : decode cX12_callBegins 36 = .ok (.getfield 36, 3) := by decide +kernel
theorem dX12_callBegins_39 : decode cX12_callBegins 39 = .ok (.iload_n 1, 1) := by decide +kernel
theorem dX12_callBegins_40 : decode cX12_callBegins 40 = .ok (.iaload, 1) := by decide +kernel
theorem dX12_callBegins_41 : decode cX12_callBegins 41 = .ok (.istore_n 3, 1) := by decide +kernel
theorem dX12_callBegins_42 : decode cX12_callBegins 42 = .ok (.iload_n 3, 1) := by decide +kernel
theorem dX12_callBegins_43 : decode cX12_callBegins 43 = .ok (.iload_n 2, 1) := by decide +kernel
theorem dX12_callBegins_44 : decode cX12_callBegins 44 = .ok (.if_icmp .eq 37, 3) := by decide +kernel
theorem dX12_callBegins_47 : decode cX12_callBegins 47 = .ok (.aload_n 0, 1) := by decide +kernel
theorem dX12_callBegins_48 : decode cX12_callBegins 48 = .ok (.iload_n 2, 1) := by decide +kernel
theorem dX12_callBegins_49 : decode cX12_callBegins 49 = .ok (.invokevirtual 310, 3) := by decide +kernel
theorem dX12_callBegins_52 : decode cX12_callBegins 52 = .ok (.ifCond .ne 29, 3) := by decide +kernel
theorem dX12_callBegins_55 : decode cX12_callBegins 55 = .ok (.aload_n 0, 1) := by decide +kernel
theorem dX12_callBegins_56 : decode cX12_callBegins 56 = .ok (.iload_n 3, 1) := by decide +kernel
theorem dX12_callBegins_57 : decode cX12_callBegins 57 = .ok (.invokevirtual 310, 3) := by decide +kernel
theorem dX12_callBegins_60 : decode cX12_callBegins 60 = .ok (.ifCond .ne 21, 3) := by decide +kernel
theorem dX12_callBegins_63 : decode cX12_callBegins 63 = .ok (.aload_n 0, 1) := by decide +kernel
theorem dX12_callBegins_64 : decode cX12_callBegins 64 = .ok (.iload_n 2, 1) := by decide +kernel
theorem dX12_callBegins_65 : decode cX12_callBegins 65 = .ok (.invokevirtual 313, 3) := by decide +kernel
theorem dX12_callBegins_68 : decode cX12_callBegins 68 = .ok (.iconst (-1), 1) := by decide +kernel
theorem dX12_callBegins_69 : decode cX12_callBegins 69 = .ok (.if_icmp .ne 12, 3) := by decide +kernel
theorem dX12_callBegins_72 : decode cX12_callBegins 72 = .ok (.aload_n 0, 1) := by decide +kernel
theorem dX12_callBegins_73 : decode cX12_callBegins 73 = .ok (.iload_n 3, 1) := by decide +kernel
theorem dX12_callBegins_74 : decode cX12_callBegins 74 = .ok (.invokevirtual 313, 3) := by decide +kernel
theorem dX12_callBegins_77 : decode cX12_callBegins 77 = .ok (.iconst (-1), 1) := by decide +kernel
theorem dX12_callBegins_78 : decode cX12_callBegins 78 = .ok (.if_icmp .eq 7, 3) := by decide +kernel
theorem dX12_callBegins_81 : decode cX12_callBegins 81 = .ok (.iconst (-1), 1) := by decide +kernel
theorem dX12_callBegins_82 : decode cX12_callBegins 82 = .ok (.goto 9, 3) := by decide +kernel
theorem dX12_callBegins_85 : decode cX12_callBegins 85 = .ok (.aload_n 0, 1) := by decide +kernel
theorem dX12_callBegins_86 : decode cX12_callBegins 86 = .ok (.iload_n 2, 1) := by decide +kernel
theorem dX12_callBegins_87 : decode cX12_callBegins 87 = .ok (.iload_n 3, 1) := by decide +kernel
theorem dX12_callBegins_88 : decode cX12_callBegins 88 = .ok (.invokevirtual 316, 3) := by decide +kernel
theorem dX12_callBegins_91 : decode cX12_callBegins 91 = .ok (.istore 4, 2) := by decide +kernel
theorem dX12_callBegins_93 : decode cX12_callBegins 93 = .ok (.iload 4, 2) := by decide +kernel
theorem dX12_callBegins_95 : decode cX12_callBegins 95 = .ok (.iconst (-1), 1) := by decide +kernel
theorem dX12_callBegins_96 : decode cX12_callBegins 96 = .ok (.if_icmp .ne 26, 3) := by decide +kernel
theorem dX12_callBegins_99 : decode cX12_callBegins 99 = .ok (.aload_n 0, 1) := by decide +kernel
theorem dX12_callBegins_100 : decode cX12_callBegins 100 = .ok (.getfield 9, 3) := by decide +kernel
theorem dX12_callBegins_103 : decode cX12_callBegins 103 = .ok (.bipush 8, 2) := by decide +kernel
theorem dX12_callBegins_105 : decode cX12_callBegins 105 = .ok (.iload_n 1, 1) := by decide +kernel
theorem dX12_callBegins_106 : decode cX12_callBegins 106 = .ok (.iadd, 1) := by decide +kernel
theorem dX12_callBegins_107 : decode cX12_callBegins 107 = .ok (.iconst 3, 1) := by decide +kernel
theorem dX12_callBegins_108 : decode cX12_callBegins 108 = .ok (.iastore, 1) := by decide +kernel
theorem dX12_callBegins_109 : decode cX12_callBegins 109 = .ok (.aload_n 0, 1) := by decide +kernel
theorem dX12_callBegins_110 : decode cX12_callBegins 110 = .ok (.dup, 1) := by decide +kernel
theorem dX12_callBegins_111 : decode cX12_callBegins 111 = .ok (.getfield 319, 3) := by decide +kernel
theorem dX12_callBegins_114 : decode cX12_callBegins 114 = .ok (.iconst 1, 1) := by decide +kernel
theorem dX12_callBegins_115 : decode cX12_callBegins 115 = .ok (.iload_n 1, 1) := by decide +kernel
theorem dX12_callBegins_116 : decode cX12_callBegins 116 = .ok (.ishl, 1) := by decide +kernel
theorem dX12_callBegins_117 : decode cX12_callBegins 117 = .ok (.ior, 1) := by decide +kernel
theorem dX12_callBegins_118 : decode cX12_callBegins 118 = .ok (.putfield 319, 3) := by decide +kernel
theorem dX12_callBegins_121 : decode cX12_callBegins 121 = .ok (.return_, 1) := by decide +kernel
theorem dX12_callBegins_122 : decode cX12_callBegins 122 = .ok (.aload_n 0, 1) := by decide +kernel
theorem dX12_callBegins_123 : decode cX12_callBegins 123 = .ok (.getfield 9, 3) := by decide +kernel
theorem dX12_callBegins_126 : decode cX12_callBegins 126 = .ok (.bipush 8, 2) := by decide +kernel
theorem dX12_callBegins_128 : decode cX12_callBegins 128 = .ok (.iload_n 1, 1) := by decide +kernel
theorem dX12_callBegins_129 : decode cX12_callBegins 129 = .ok (.iadd, 1) := by decide +kernel
theorem dX12_callBegins_130 : decode cX12_callBegins 130 = .ok (.iconst 1, 1) := by decide +kernel
theorem dX12_callBegins_131 : decode cX12_callBegins 131 = .ok (.iastore, 1) := by decide +kernel
theorem dX12_callBegins_132 : decode cX12_callBegins 132 = .ok (.aload_n 0, 1) := by decide +kernel
theorem dX12_callBegins_133 : decode cX12_callBegins 133 = .ok (.getfield 9, 3) := by decide +kernel
theorem dX12_callBegins_136 : decode cX12_callBegins 136 = .ok (.bipush 18, 2) := by decide +kernel
theorem dX12_callBegins_138 : decode cX12_callBegins 138 = .ok (.iload_n 1, 1) := by decide +kernel
theorem dX12_callBegins_139 : decode cX12_callBegins 139 = .ok (.iadd, 1) := by decide +kernel
theorem dX12_callBegins_140 : decode cX12_callBegins 140 = .ok (.iload_n 3, 1) := by decide +kernel
theorem dX12_callBegins_141 : decode cX12_callBegins 141 = .ok (.iastore, 1) := by decide +kernel
theorem dX12_callBegins_142 : decode cX12_callBegins 142 = .ok (.aload_n 0, 1) := by decide +kernel
theorem dX12_callBegins_143 : decode cX12_callBegins 143 = .ok (.getfield 9, 3) := by decide +kernel
theorem dX12_callBegins_146 : decode cX12_callBegins 146 = .ok (.bipush 28, 2) := by decide +kernel
theorem dX12_callBegins_148 : decode cX12_callBegins 148 = .ok (.iload_n 1, 1) := by decide +kernel
theorem dX12_callBegins_149 : decode cX12_callBegins 149 = .ok (.iadd, 1) := by decide +kernel
theorem dX12_callBegins_150 : decode cX12_callBegins 150 = .ok (.iload 4, 2) := by decide +kernel
theorem dX12_callBegins_152 : decode cX12_callBegins 152 = .ok (.iastore, 1) := by decide +kernel
theorem dX12_callBegins_153 : decode cX12_callBegins 153 = .ok (.iload_n 3, 1) := by decide +kernel
theorem dX12_callBegins_154 : decode cX12_callBegins 154 = .ok (.aload_n 0, 1) := by decide +kernel
theorem dX12_callBegins_155 : decode cX12_callBegins 155 = .ok (.getfield 9, 3) := by decide +kernel
theorem dX12_callBegins_158 : decode cX12_callBegins 158 = .ok (.bipush 61, 2) := by decide +kernel
theorem dX12_callBegins_160 : decode cX12_callBegins 160 = .ok (.iload_n 1, 1) := by decide +kernel
theorem dX12_callBegins_161 : decode cX12_callBegins 161 = .ok (.iadd, 1) := by decide +kernel
theorem dX12_callBegins_162 : decode cX12_callBegins 162 = .ok (.iaload, 1) := by decide +kernel
theorem dX12_callBegins_163 : decode cX12_callBegins 163 = .ok (.if_icmp .eq 38, 3) := by decide +kernel
theorem dX12_callBegins_166 : decode cX12_callBegins 166 = .ok (.aload_n 0, 1) := by decide +kernel
theorem dX12_callBegins_167 : decode cX12_callBegins 167 = .ok (.getfield 9, 3) := by decide +kernel
theorem dX12_callBegins_170 : decode cX12_callBegins 170 = .ok (.bipush 38, 2) := by decide +kernel
theorem dX12_callBegins_172 : decode cX12_callBegins 172 = .ok (.iload_n 2, 1) := by decide +kernel
theorem dX12_callBegins_173 : decode cX12_callBegins 173 = .ok (.iadd, 1) := by decide +kernel
theorem dX12_callBegins_174 : decode cX12_callBegins 174 = .ok (.iaload, 1) := by decide +kernel
theorem dX12_callBegins_175 : decode cX12_callBegins 175 = .ok (.iconst (-1), 1) := by decide +kernel
theorem dX12_callBegins_176 : decode cX12_callBegins 176 = .ok (.if_icmp .ne 25, 3) := by decide +kernel
theorem dX12_callBegins_179 : decode cX12_callBegins 179 = .ok (.aload_n 0, 1) := by decide +kernel
theorem dX12_callBegins_180 : decode cX12_callBegins 180 = .ok (.getfield 9, 3) := by decide +kernel
theorem dX12_callBegins_183 : decode cX12_callBegins 183 = .ok (.bipush 38, 2) := by decide +kernel
theorem dX12_callBegins_185 : decode cX12_callBegins 185 = .ok (.iload_n 3, 1) := by decide +kernel
theorem dX12_callBegins_186 : decode cX12_callBegins 186 = .ok (.iadd, 1) := by decide +kernel
theorem dX12_callBegins_187 : decode cX12_callBegins 187 = .ok (.iaload, 1) := by decide +kernel
theorem dX12_callBegins_188 : decode cX12_callBegins 188 = .ok (.iconst (-1), 1) := by decide +kernel
theorem dX12_callBegins_189 : decode cX12_callBegins 189 = .ok (.if_icmp .ne 12, 3) := by decide +kernel
theorem dX12_callBegins_192 : decode cX12_callBegins 192 = .ok (.aload_n 0, 1) := by decide +kernel
theorem dX12_callBegins_193 : decode cX12_callBegins 193 = .ok (.iload_n 1, 1) := by decide +kernel
theorem dX12_callBegins_194 : decode cX12_callBegins 194 = .ok (.iload_n 3, 1) := by decide +kernel
theorem dX12_callBegins_195 : decode cX12_callBegins 195 = .ok (.invokevirtual 322, 3) := by decide +kernel
theorem dX12_callBegins_198 : decode cX12_callBegins 198 = .ok (.ifCond .ne 4, 3) := by decide +kernel
theorem dX12_callBegins_201 : decode cX12_callBegins 201 = .ok (.return_, 1) := by decide +kernel
theorem dX12_callBegins_202 : decode cX12_callBegins 202 = .ok (.aload_n 0, 1) := by decide +kernel
theorem dX12_callBegins_203 : decode cX12_callBegins 203 = .ok (.getfield 9, 3) := by decide +kernel
theorem dX12_callBegins_206 : decode cX12_callBegins 206 = .ok (.bipush 38, 2) := by decide +kernel
theorem dX12_callBegins_208 : decode cX12_callBegins 208 = .ok (.iload_n 2, 1) := by decide +kernel
theorem dX12_callBegins_209 : decode cX12_callBegins 209 = .ok (.iadd, 1) := by decide +kernel
theorem dX12_callBegins_210 : decode cX12_callBegins 210 = .ok (.iload_n 3, 1) := by decide +kernel
theorem dX12_callBegins_211 : decode cX12_callBegins 211 = .ok (.iastore, 1) := by decide +kernel
theorem dX12_callBegins_212 : decode cX12_callBegins 212 = .ok (.aload_n 0, 1) := by decide +kernel
theorem dX12_callBegins_213 : decode cX12_callBegins 213 = .ok (.getfield 9, 3) := by decide +kernel
theorem dX12_callBegins_216 : decode cX12_callBegins 216 = .ok (.bipush 38, 2) := by decide +kernel
theorem dX12_callBegins_218 : decode cX12_callBegins 218 = .ok (.iload_n 3, 1) := by decide +kernel
theorem dX12_callBegins_219 : decode cX12_callBegins 219 = .ok (.iadd, 1) := by decide +kernel
theorem dX12_callBegins_220 : decode cX12_callBegins 220 = .ok (.iload_n 2, 1) := by decide +kernel
theorem dX12_callBegins_221 : decode cX12_callBegins 221 = .ok (.iastore, 1) := by decide +kernel
theorem dX12_callBegins_222 : decode cX12_callBegins 222 = .ok (.return_, 1) := by decide +kernel
theorem dX12_minute_0 : decode cX12_minute 0 = .ok (.aload_n 0, 1) := by decide +kernel
theorem dX12_minute_1 : decode cX12_minute 1 = .ok (.iconst 0, 1) := by decide +kernel
theorem dX12_minute_2 : decode cX12_minute 2 = .ok (.putfield 319, 3) := by decide +kernel
theorem dX12_minute_5 : decode cX12_minute 5 = .ok (.iconst 0, 1) := by decide +kernel
theorem dX12_minute_6 : decode cX12_minute 6 = .ok (.istore_n 1, 1) := by decide +kernel
theorem dX12_minute_7 : decode cX12_minute 7 = .ok (.iload_n 1, 1) := by decide +kernel
theorem dX12_minute_8 : decode cX12_minute 8 = .ok (.aload_n 0, 1) := by decide +kernel
theorem dX12_minute_9 : decode cX12_minute 9 = .ok (.invokevirtual 267, 3) := by decide +kernel
theorem dX12_minute_12 : decode cX12_minute 12 = .ok (.if_icmp .ge 61, 3) := by decide +kernel
theorem dX12_minute_15 : decode cX12_minute 15 = .ok (.aload_n 0, 1) := by decide +kernel
theorem dX12_minute_16 : decode cX12_minute 16 = .ok (.getfield 9, 3) := by decide +kernel
theorem dX12_minute_19 : decode cX12_minute 19 = .ok (.bipush 8, 2) := by decide +kernel
theorem dX12_minute_21 : decode cX12_minute 21 = .ok (.iload_n 1, 1) := by decide +kernel
theorem dX12_minute_22 : decode cX12_minute 22 = .ok (.iadd, 1) := by decide +kernel
theorem dX12_minute_23 : decode cX12_minute 23 = .ok (.iaload, 1) := by decide +kernel
theorem dX12_minute_24 : decode cX12_minute 24 = .ok (.iconst 1, 1) := by decide +kernel
theorem dX12_minute_25 : decode cX12_minute 25 = .ok (.if_icmp .ne 42, 3) := by decide +kernel
theorem dX12_minute_28 : decode cX12_minute 28 = .ok (.aload_n 0, 1) := by decide +kernel
theorem dX12_minute_29 : decode cX12_minute 29 = .ok (.getfield 9, 3) := by decide +kernel
theorem dX12_minute_32 : decode cX12_minute 32 = .ok (.bipush 71, 2) := by decide +kernel
theorem dX12_minute_34 : decode cX12_minute 34 = .ok (.iload_n 1, 1) := by decide +kernel
theorem dX12_minute_35 : decode cX12_minute 35 = .ok (.iadd, 1) := by decide +kernel
theorem dX12_minute_36 : decode cX12_minute 36 = .ok (.iaload, 1) := by decide +kernel
theorem dX12_minute_37 : decode cX12_minute 37 = .ok (.aload_n 0, 1) := by decide +kernel
theorem dX12_minute_38 : decode cX12_minute 38 = .ok (.getfield 9, 3) := by decide +kernel
theorem dX12_minute_41 : decode cX12_minute 41 = .ok (.bipush 81, 2) := by decide +kernel
theorem dX12_minute_43 : decode cX12_minute 43 = .ok (.iload_n 1, 1) := by decide +kernel
theorem dX12_minute_44 : decode cX12_minute 44 = .ok (.iadd, 1) := by decide +kernel
theorem dX12_minute_45 : decode cX12_minute 45 = .ok (.iaload, 1) := by decide +kernel
theorem dX12_minute_46 : decode cX12_minute 46 = .ok (.iadd, 1) := by decide +kernel
theorem dX12_minute_47 : decode cX12_minute 47 = .ok (.aload_n 0, 1) := by decide +kernel
theorem dX12_minute_48 : decode cX12_minute 48 = .ok (.getfield 9, 3) := by decide +kernel
theorem dX12_minute_51 : decode cX12_minute 51 = .ok (.bipush 47, 2) := by decide +kernel
theorem dX12_minute_53 : decode cX12_minute 53 = .ok (.iaload, 1) := by decide +kernel
theorem dX12_minute_54 : decode cX12_minute 54 = .ok (.if_icmp .gt 13, 3) := by decide +kernel
theorem dX12_minute_57 : decode cX12_minute 57 = .ok (.aload_n 0, 1) := by decide +kernel
theorem dX12_minute_58 : decode cX12_minute 58 = .ok (.getfield 9, 3) := by decide +kernel
theorem dX12_minute_61 : decode cX12_minute 61 = .ok (.bipush 8, 2) := by decide +kernel
theorem dX12_minute_63 : decode cX12_minute 63 = .ok (.iload_n 1, 1) := by decide +kernel
theorem dX12_minute_64 : decode cX12_minute 64 = .ok (.iadd, 1) := by decide +kernel
theorem dX12_minute_65 : decode cX12_minute 65 = .ok (.iconst 2, 1) := by decide +kernel
theorem dX12_minute_66 : decode cX12_minute 66 = .ok (.iastore, 1) := by decide +kernel
theorem dX12_minute_67 : decode cX12_minute 67 = .ok (.iinc 1 1, 3) := by decide +kernel
theorem dX12_minute_70 : decode cX12_minute 70 = .ok (.goto (-63), 3) := by decide +kernel
theorem dX12_minute_73 : decode cX12_minute 73 = .ok (.iconst 0, 1) := by decide +kernel
theorem dX12_minute_74 : decode cX12_minute 74 = .ok (.istore_n 1, 1) := by decide +kernel
theorem dX12_minute_75 : decode cX12_minute 75 = .ok (.iload_n 1, 1) := by decide +kernel
theorem dX12_minute_76 : decode cX12_minute 76 = .ok (.aload_n 0, 1) := by decide +kernel
theorem dX12_minute_77 : decode cX12_minute 77 = .ok (.invokevirtual 267, 3) := by decide +kernel
theorem dX12_minute_80 : decode cX12_minute 80 = .ok (.if_icmp .ge 45, 3) := by decide +kernel
theorem dX12_minute_83 : decode cX12_minute 83 = .ok (.aload_n 0, 1) := by decide +kernel
theorem dX12_minute_84 : decode cX12_minute 84 = .ok (.getfield 9, 3) := by decide +kernel
theorem dX12_minute_87 : decode cX12_minute 87 = .ok (.bipush 8, 2) := by decide +kernel
theorem dX12_minute_89 : decode cX12_minute 89 = .ok (.iload_n 1, 1) := by decide +kernel
theorem dX12_minute_90 : decode cX12_minute 90 = .ok (.iadd, 1) := by decide +kernel
theorem dX12_minute_91 : decode cX12_minute 91 = .ok (.iaload, 1) := by decide +kernel
theorem dX12_minute_92 : decode cX12_minute 92 = .ok (.ifCond .ne 27, 3) := by decide +kernel
theorem dX12_minute_95 : decode cX12_minute 95 = .ok (.aload_n 0, 1) := by decide +kernel
theorem dX12_minute_96 : decode cX12_minute 96 = .ok (.getfield 9, 3) := by decide +kernel
theorem dX12_minute_99 : decode cX12_minute 99 = .ok (.bipush 71, 2) := by decide +kernel
theorem dX12_minute_101 : decode cX12_minute 101 = .ok (.iload_n 1, 1) := by decide +kernel
theorem dX12_minute_102 : decode cX12_minute 102 = .ok (.iadd, 1) := by decide +kernel
theorem dX12_minute_103 : decode cX12_minute 103 = .ok (.iaload, 1) := by decide +kernel
theorem dX12_minute_104 : decode cX12_minute 104 = .ok (.aload_n 0, 1) := by decide +kernel
theorem dX12_minute_105 : decode cX12_minute 105 = .ok (.getfield 9, 3) := by decide +kernel
theorem dX12_minute_108 : decode cX12_minute 108 = .ok (.bipush 47, 2) := by decide +kernel
theorem dX12_minute_110 : decode cX12_minute 110 = .ok (.iaload, 1) := by decide +kernel
theorem dX12_minute_111 : decode cX12_minute 111 = .ok (.if_icmp .ne 8, 3) := by decide +kernel
theorem dX12_minute_114 : decode cX12_minute 114 = .ok (.aload_n 0, 1) := by decide +kernel
theorem dX12_minute_115 : decode cX12_minute 115 = .ok (.iload_n 1, 1) := by decide +kernel
theorem dX12_minute_116 : decode cX12_minute 116 = .ok (.invokevirtual 325, 3) := by decide +kernel
theorem dX12_minute_119 : decode cX12_minute 119 = .ok (.iinc 1 1, 3) := by decide +kernel
theorem dX12_minute_122 : decode cX12_minute 122 = .ok (.goto (-47), 3) := by decide +kernel
theorem dX12_minute_125 : decode cX12_minute 125 = .ok (.aload_n 0, 1) := by decide +kernel
theorem dX12_minute_126 : decode cX12_minute 126 = .ok (.getfield 9, 3) := by decide +kernel
theorem dX12_minute_129 : decode cX12_minute 129 = .ok (.bipush 47, 2) := by decide +kernel
theorem dX12_minute_131 : decode cX12_minute 131 = .ok (.dup2, 1) := by decide +kernel
theorem dX12_minute_132 : decode cX12_minute 132 = .ok (.iaload, 1) := by decide +kernel
theorem dX12_minute_133 : decode cX12_minute 133 = .ok (.iconst 1, 1) := by decide +kernel
theorem dX12_minute_134 : decode cX12_minute 134 = .ok (.iadd, 1) := by decide +kernel
theorem dX12_minute_135 : decode cX12_minute 135 = .ok (.iastore, 1) := by decide +kernel
theorem dX12_minute_136 : decode cX12_minute 136 = .ok (.return_, 1) := by decide +kernel
theorem dX12_line_0 : decode cX12_line 0 = .ok (.aload_n 0, 1) := by decide +kernel
theorem dX12_line_1 : decode cX12_line 1 = .ok (.aload_n 0, 1) := by decide +kernel
theorem dX12_line_2 : decode cX12_line 2 = .ok (.iload_n 1, 1) := by decide +kernel
theorem dX12_line_3 : decode cX12_line 3 = .ok (.i2l, 1) := by decide +kernel
theorem dX12_line_4 : decode cX12_line 4 = .ok (.invokevirtual 328, 3) := by decide +kernel
theorem dX12_line_7 : decode cX12_line 7 = .ok (.ifCond .ne 7, 3) := by decide +kernel
theorem dX12_line_10 : decode cX12_line 10 = .ok (.iconst 1, 1) := by decide +kernel
theorem dX12_line_11 : decode cX12_line 11 = .ok (.goto 20, 3) := by decide +kernel
theorem dX12_line_14 : decode cX12_line 14 = .ok (.iload_n 2, 1) := by decide +kernel
theorem dX12_line_15 : decode cX12_line 15 = .ok (.i2l, 1) := by decide +kernel
theorem dX12_line_16 : decode cX12_line 16 = .ok (.lconst 0, 1) := by decide +kernel
theorem dX12_line_17 : decode cX12_line 17 = .ok (.ldc2_w 332, 3) := by decide +kernel
theorem dX12_line_20 : decode cX12_line 20 = .ok (.invokestatic 143, 3) := by decide +kernel
theorem dX12_line_23 : decode cX12_line 23 = .ok (.ifCond .eq 7, 3) := by decide +kernel
theorem dX12_line_26 : decode cX12_line 26 = .ok (.iconst 0, 1) := by decide +kernel
theorem dX12_line_27 : decode cX12_line 27 = .ok (.goto 4, 3) := by decide +kernel
theorem dX12_line_30 : decode cX12_line 30 = .ok (.iconst 2, 1) := by decide +kernel
theorem dX12_line_31 : decode cX12_line 31 = .ok (.putfield 82, 3) := by decide +kernel
theorem dX12_line_34 : decode cX12_line 34 = .ok (.aload_n 0, 1) := by decide +kernel
theorem dX12_line_35 : decode cX12_line 35 = .ok (.getfield 82, 3) := by decide +kernel
theorem dX12_line_38 : decode cX12_line 38 = .ok (.ifCond .le 5, 3) := by decide +kernel
theorem dX12_line_41 : decode cX12_line 41 = .ok (.iconst 0, 1) := by decide +kernel
theorem dX12_line_42 : decode cX12_line 42 = .ok (.ireturn, 1) := by decide +kernel
theorem dX12_line_43 : decode cX12_line 43 = .ok (.iload_n 2, 1) := by decide +kernel
theorem dX12_line_44 : decode cX12_line 44 = .ok (.ifCond .le 34, 3) := by decide +kernel
theorem dX12_line_47 : decode cX12_line 47 = .ok (.iload_n 2, 1) := by decide +kernel
theorem dX12_line_48 : decode cX12_line 48 = .ok (.iconst 1, 1) := by decide +kernel
theorem dX12_line_49 : decode cX12_line 49 = .ok (.if_icmp .ne 15, 3) := by decide +kernel
theorem dX12_line_52 : decode cX12_line 52 = .ok (.aload_n 0, 1) := by decide +kernel
theorem dX12_line_53 : decode cX12_line 53 = .ok (.getfield 9, 3) := by decide +kernel
theorem dX12_line_56 : decode cX12_line 56 = .ok (.bipush 38, 2) := by decide +kernel
theorem dX12_line_58 : decode cX12_line 58 = .ok (.iload_n 1, 1) := by decide +kernel
theorem dX12_line_59 : decode cX12_line 59 = .ok (.iadd, 1) := by decide +kernel
theorem dX12_line_60 : decode cX12_line 60 = .ok (.iaload, 1) := by decide +kernel
theorem dX12_line_61 : decode cX12_line 61 = .ok (.goto 16, 3) := by decide +kernel
theorem dX12_line_64 : decode cX12_line 64 = .ok (.aload_n 0, 1) := by decide +kernel
theorem dX12_line_65 : decode cX12_line 65 = .ok (.iload_n 1, 1) := by decide +kernel
theorem dX12_line_66 : decode cX12_line 66 = .ok (.invokevirtual 310, 3) := by decide +kernel
theorem dX12_line_69 : decode cX12_line 69 = .ok (.ifCond .eq 7, 3) := by decide +kernel
theorem dX12_line_72 : decode cX12_line 72 = .ok (.iconst 1, 1) := by decide +kernel
theorem dX12_line_73 : decode cX12_line 73 = .ok (.goto 4, 3) := by decide +kernel
theorem dX12_line_76 : decode cX12_line 76 = .ok (.iconst 0, 1) := by decide +kernel
theorem dX12_line_77 : decode cX12_line 77 = .ok (.ireturn, 1) := by decide +kernel
theorem dX12_line_78 : decode cX12_line 78 = .ok (.aload_n 0, 1) := by decide +kernel
theorem dX12_line_79 : decode cX12_line 79 = .ok (.iload_n 1, 1) := by decide +kernel
theorem dX12_line_80 : decode cX12_line 80 = .ok (.invokevirtual 313, 3) := by decide +kernel
theorem dX12_line_83 : decode cX12_line 83 = .ok (.istore_n 3, 1) := by decide +kernel
theorem dX12_line_84 : decode cX12_line 84 = .ok (.iload_n 3, 1) := by decide +kernel
theorem dX12_line_85 : decode cX12_line 85 = .ok (.iconst (-1), 1) := by decide +kernel
theorem dX12_line_86 : decode cX12_line 86 = .ok (.if_icmp .ne 7, 3) := by decide +kernel
theorem dX12_line_89 : decode cX12_line 89 = .ok (.iconst (-1), 1) := by decide +kernel
theorem dX12_line_90 : decode cX12_line 90 = .ok (.goto 37, 3) := by decide +kernel
theorem dX12_line_93 : decode cX12_line 93 = .ok (.aload_n 0, 1) := by decide +kernel
theorem dX12_line_94 : decode cX12_line 94 = .ok (.getfield 9, 3) := by decide +kernel
theorem dX12_line_97 : decode cX12_line 97 = .ok (.bipush 51, 2) := by decide +kernel
theorem dX12_line_99 : decode cX12_line 99 = .ok (.iload_n 3, 1) := by decide +kernel
theorem dX12_line_100 : decode cX12_line 100 = .ok (.iadd, 1) := by decide +kernel
theorem dX12_line_101 : decode cX12_line 101 = .ok (.iaload, 1) := by decide +kernel
theorem dX12_line_102 : decode cX12_line 102 = .ok (.iload_n 1, 1) := by decide +kernel
theorem dX12_line_103 : decode cX12_line 103 = .ok (.if_icmp .ne 15, 3) := by decide +kernel
theorem dX12_line_106 : decode cX12_line 106 = .ok (.aload_n 0, 1) := by decide +kernel
theorem dX12_line_107 : decode cX12_line 107 = .ok (.getfield 9, 3) := by decide +kernel
theorem dX12_line_110 : decode cX12_line 110 = .ok (.bipush 18, 2) := by decide +kernel
theorem dX12_line_112 : decode cX12_line 112 = .ok (.iload_n 3, 1) := by decide +kernel
theorem dX12_line_113 : decode cX12_line 113 = .ok (.iadd, 1) := by decide +kernel
theorem dX12_line_114 : decode cX12_line 114 = .ok (.iaload, 1) := by decide +kernel
theorem dX12_line_115 : decode cX12_line 115 = .ok (.goto 12, 3) := by decide +kernel
theorem dX12_line_118 : decode cX12_line 118 = .ok (.aload_n 0, 1) := by decide +kernel
theorem dX12_line_119 : decode cX12_line 119 = .ok (.getfield 9, 3) := by decide +kernel
theorem dX12_line_122 : decode cX12_line 122 = .ok (.bipush 51, 2) := by decide +kernel
theorem dX12_line_124 : decode cX12_line 124 = .ok (.iload_n 3, 1) := by decide +kernel
theorem dX12_line_125 : decode cX12_line 125 = .ok (.iadd, 1) := by decide +kernel
theorem dX12_line_126 : decode cX12_line 126 = .ok (.iaload, 1) := by decide +kernel
theorem dX12_line_127 : decode cX12_line 127 = .ok (.ireturn, 1) := by decide +kernel
theorem dX12_cord_0 : decode cX12_cord 0 = .ok (.aload_n 0, 1) := by decide +kernel
theorem dX12_cord_1 : decode cX12_cord 1 = .ok (.iload_n 1, 1) := by decide +kernel
theorem dX12_cord_2 : decode cX12_cord 2 = .ok (.i2l, 1) := by decide +kernel
theorem dX12_cord_3 : decode cX12_cord 3 = .ok (.lconst 0, 1) := by decide +kernel
theorem dX12_cord_4 : decode cX12_cord 4 = .ok (.aload_n 0, 1) := by decide +kernel
theorem dX12_cord_5 : decode cX12_cord 5 = .ok (.getfield 9, 3) := by decide +kernel
theorem dX12_cord_8 : decode cX12_cord 8 = .ok (.iconst 2, 1) := by decide +kernel
theorem dX12_cord_9 : decode cX12_cord 9 = .ok (.iaload, 1) := by decide +kernel
theorem dX12_cord_10 : decode cX12_cord 10 = .ok (.iconst 1, 1) := by decide +kernel
theorem dX12_cord_11 : decode cX12_cord 11 = .ok (.isub, 1) := by decide +kernel
theorem dX12_cord_12 : decode cX12_cord 12 = .ok (.i2l, 1) := by decide +kernel
theorem dX12_cord_13 : decode cX12_cord 13 = .ok (.invokestatic 143, 3) := by decide +kernel
theorem dX12_cord_16 : decode cX12_cord 16 = .ok (.ifCond .ne 7, 3) := by decide +kernel
theorem dX12_cord_19 : decode cX12_cord 19 = .ok (.iconst 1, 1) := by decide +kernel
theorem dX12_cord_20 : decode cX12_cord 20 = .ok (.goto 18, 3) := by decide +kernel
theorem dX12_cord_23 : decode cX12_cord 23 = .ok (.iload_n 2, 1) := by decide +kernel
theorem dX12_cord_24 : decode cX12_cord 24 = .ok (.i2l, 1) := by decide +kernel
theorem dX12_cord_25 : decode cX12_cord 25 = .ok (.lconst 0, 1) := by decide +kernel
theorem dX12_cord_26 : decode cX12_cord 26 = .ok (.lconst 1, 1) := by decide +kernel
theorem dX12_cord_27 : decode cX12_cord 27 = .ok (.invokestatic 143, 3) := by decide +kernel
theorem dX12_cord_30 : decode cX12_cord 30 = .ok (.ifCond .eq 7, 3) := by decide +kernel
theorem dX12_cord_33 : decode cX12_cord 33 = .ok (.iconst 0, 1) := by decide +kernel
theorem dX12_cord_34 : decode cX12_cord 34 = .ok (.goto 4, 3) := by decide +kernel
theorem dX12_cord_37 : decode cX12_cord 37 = .ok (.iconst 2, 1) := by decide +kernel
theorem dX12_cord_38 : decode cX12_cord 38 = .ok (.putfield 82, 3) := by decide +kernel
theorem dX12_cord_41 : decode cX12_cord 41 = .ok (.aload_n 0, 1) := by decide +kernel
theorem dX12_cord_42 : decode cX12_cord 42 = .ok (.getfield 82, 3) := by decide +kernel
theorem dX12_cord_45 : decode cX12_cord 45 = .ok (.ifCond .le 5, 3) := by decide +kernel
theorem dX12_cord_48 : decode cX12_cord 48 = .ok (.iconst 0, 1) := by decide +kernel
theorem dX12_cord_49 : decode cX12_cord 49 = .ok (.ireturn, 1) := by decide +kernel
theorem dX12_cord_50 : decode cX12_cord 50 = .ok (.iload_n 2, 1) := by decide +kernel
theorem dX12_cord_51 : decode cX12_cord 51 = .ok (.ifCond .ne 15, 3) := by decide +kernel
theorem dX12_cord_54 : decode cX12_cord 54 = .ok (.aload_n 0, 1) := by decide +kernel
theorem dX12_cord_55 : decode cX12_cord 55 = .ok (.getfield 9, 3) := by decide +kernel
theorem dX12_cord_58 : decode cX12_cord 58 = .ok (.bipush 48, 2) := by decide +kernel
theorem dX12_cord_60 : decode cX12_cord 60 = .ok (.iload_n 1, 1) := by decide +kernel
theorem dX12_cord_61 : decode cX12_cord 61 = .ok (.iadd, 1) := by decide +kernel
theorem dX12_cord_62 : decode cX12_cord 62 = .ok (.iaload, 1) := by decide +kernel
theorem dX12_cord_63 : decode cX12_cord 63 = .ok (.goto 8, 3) := by decide +kernel
theorem dX12_cord_66 : decode cX12_cord 66 = .ok (.aload_n 0, 1) := by decide +kernel
theorem dX12_cord_67 : decode cX12_cord 67 = .ok (.iload_n 1, 1) := by decide +kernel
theorem dX12_cord_68 : decode cX12_cord 68 = .ok (.invokevirtual 304, 3) := by decide +kernel
theorem dX12_cord_71 : decode cX12_cord 71 = .ok (.ireturn, 1) := by decide +kernel
theorem dX12_call_0 : decode cX12_call 0 = .ok (.aload_n 0, 1) := by decide +kernel
theorem dX12_call_1 : decode cX12_call 1 = .ok (.aload_n 0, 1) := by decide +kernel
theorem dX12_call_2 : decode cX12_call 2 = .ok (.iload_n 1, 1) := by decide +kernel
theorem dX12_call_3 : decode cX12_call 3 = .ok (.i2l, 1) := by decide +kernel
theorem dX12_call_4 : decode cX12_call 4 = .ok (.invokevirtual 334, 3) := by decide +kernel
theorem dX12_call_7 : decode cX12_call 7 = .ok (.ifCond .ne 7, 3) := by decide +kernel
theorem dX12_call_10 : decode cX12_call 10 = .ok (.iconst 1, 1) := by decide +kernel
theorem dX12_call_11 : decode cX12_call 11 = .ok (.goto 20, 3) := by decide +kernel
theorem dX12_call_14 : decode cX12_call 14 = .ok (.iload_n 2, 1) := by decide +kernel
theorem dX12_call_15 : decode cX12_call 15 = .ok (.i2l, 1) := by decide +kernel
theorem dX12_call_16 : decode cX12_call 16 = .ok (.lconst 0, 1) := by decide +kernel
theorem dX12_call_17 : decode cX12_call 17 = .ok (.ldc2_w 337, 3) := by decide +kernel
theorem dX12_call_20 : decode cX12_call 20 = .ok (.invokestatic 143, 3) := by decide +kernel
theorem dX12_call_23 : decode cX12_call 23 = .ok (.ifCond .eq 7, 3) := by decide +kernel
theorem dX12_call_26 : decode cX12_call 26 = .ok (.iconst 0, 1) := by decide +kernel
theorem dX12_call_27 : decode cX12_call 27 = .ok (.goto 4, 3) := by decide +kernel
theorem dX12_call_30 : decode cX12_call 30 = .ok (.iconst 2, 1) := by decide +kernel
theorem dX12_call_31 : decode cX12_call 31 = .ok (.putfield 82, 3) := by decide +kernel
theorem dX12_call_34 : decode cX12_call 34 = .ok (.aload_n 0, 1) := by decide +kernel
theorem dX12_call_35 : decode cX12_call 35 = .ok (.getfield 82, 3) := by decide +kernel
theorem dX12_call_38 : decode cX12_call 38 = .ok (.ifCond .le 5, 3) := by decide +kernel
theorem dX12_call_41 : decode cX12_call 41 = .ok (.iconst 0, 1) := by decide +kernel
theorem dX12_call_42 : decode cX12_call 42 = .ok (.ireturn, 1) := by decide +kernel
theorem dX12_call_43 : decode cX12_call 43 = .ok (.iload_n 2, 1) := by decide +kernel
theorem dX12_call_44 : decode cX12_call 44 = .ok (.tableswitch 100 0 5 #[40, 50, 60, 70, 80, 90], 40) := by decide +kernel
theorem dX12_call_84 : decode cX12_call 84 = .ok (.aload_n 0, 1) := by decide +kernel
theorem dX12_call_85 : decode cX12_call 85 = .ok (.getfield 9, 3) := by decide +kernel
theorem dX12_call_88 : decode cX12_call 88 = .ok (.bipush 51, 2) := by decide +kernel
theorem dX12_call_90 : decode cX12_call 90 = .ok (.iload_n 1, 1) := by decide +kernel
theorem dX12_call_91 : decode cX12_call 91 = .ok (.iadd, 1) := by decide +kernel
theorem dX12_call_92 : decode cX12_call 92 = .ok (.iaload, 1) := by decide +kernel
theorem dX12_call_93 : decode cX12_call 93 = .ok (.ireturn, 1) := by decide +kernel
theorem dX12_call_94 : decode cX12_call 94 = .ok (.aload_n 0, 1) := by decide +kernel
theorem dX12_call_95 : decode cX12_call 95 = .ok (.getfield 9, 3) := by decide +kernel
theorem dX12_call_98 : decode cX12_call 98 = .ok (.bipush 61, 2) := by decide +kernel
theorem dX12_call_100 : decode cX12_call 100 = .ok (.iload_n 1, 1) := by decide +kernel
theorem dX12_call_101 : decode cX12_call 101 = .ok (.iadd, 1) := by decide +kernel
theorem dX12_call_102 : decode cX12_call 102 = .ok (.iaload, 1) := by decide +kernel
theorem dX12_call_103 : decode cX12_call 103 = .ok (.ireturn, 1) := by decide +kernel
theorem dX12_call_104 : decode cX12_call 104 = .ok (.aload_n 0, 1) := by decide +kernel
theorem dX12_call_105 : decode cX12_call 105 = .ok (.getfield 9, 3) := by decide +kernel
theorem dX12_call_108 : decode cX12_call 108 = .ok (.bipush 71, 2) := by decide +kernel
theorem dX12_call_110 : decode cX12_call 110 = .ok (.iload_n 1, 1) := by decide +kernel
theorem dX12_call_111 : decode cX12_call 111 = .ok (.iadd, 1) := by decide +kernel
theorem dX12_call_112 : decode cX12_call 112 = .ok (.iaload, 1) := by decide +kernel
theorem dX12_call_113 : decode cX12_call 113 = .ok (.ireturn, 1) := by decide +kernel
theorem dX12_call_114 : decode cX12_call 114 = .ok (.aload_n 0, 1) := by decide +kernel
theorem dX12_call_115 : decode cX12_call 115 = .ok (.getfield 9, 3) := by decide +kernel
theorem dX12_call_118 : decode cX12_call 118 = .ok (.bipush 81, 2) := by decide +kernel
theorem dX12_call_120 : decode cX12_call 120 = .ok (.iload_n 1, 1) := by decide +kernel
theorem dX12_call_121 : decode cX12_call 121 = .ok (.iadd, 1) := by decide +kernel
theorem dX12_call_122 : decode cX12_call 122 = .ok (.iaload, 1) := by decide +kernel
theorem dX12_call_123 : decode cX12_call 123 = .ok (.ireturn, 1) := by decide +kernel
theorem dX12_call_124 : decode cX12_call 124 = .ok (.aload_n 0, 1) := by decide +kernel
theorem dX12_call_125 : decode cX12_call 125 = .ok (.getfield 9, 3) := by decide +kernel
theorem dX12_call_128 : decode cX12_call 128 = .ok (.bipush 8, 2) := by decide +kernel
theorem dX12_call_130 : decode cX12_call 130 = .ok (.iload_n 1, 1) := by decide +kernel
theorem dX12_call_131 : decode cX12_call 131 = .ok (.iadd, 1) := by decide +kernel
theorem dX12_call_132 : decode cX12_call 132 = .ok (.iaload, 1) := by decide +kernel
theorem dX12_call_133 : decode cX12_call 133 = .ok (.ireturn, 1) := by decide +kernel
theorem dX12_call_134 : decode cX12_call 134 = .ok (.aload_n 0, 1) := by decide +kernel
theorem dX12_call_135 : decode cX12_call 135 = .ok (.getfield 9, 3) := by decide +kernel
theorem dX12_call_138 : decode cX12_call 138 = .ok (.bipush 18, 2) := by decide +kernel
theorem dX12_call_140 : decode cX12_call 140 = .ok (.iload_n 1, 1) := by decide +kernel
theorem dX12_call_141 : decode cX12_call 141 = .ok (.iadd, 1) := by decide +kernel
theorem dX12_call_142 : decode cX12_call 142 = .ok (.iaload, 1) := by decide +kernel
theorem dX12_call_143 : decode cX12_call 143 = .ok (.ireturn, 1) := by decide +kernel
theorem dX12_call_144 : decode cX12_call 144 = .ok (.aload_n 0, 1) := by decide +kernel
theorem dX12_call_145 : decode cX12_call 145 = .ok (.getfield 9, 3) := by decide +kernel
theorem dX12_call_148 : decode cX12_call 148 = .ok (.bipush 28, 2) := by decide +kernel
theorem dX12_call_150 : decode cX12_call 150 = .ok (.iload_n 1, 1) := by decide +kernel
theorem dX12_call_151 : decode cX12_call 151 = .ok (.iadd, 1) := by decide +kernel
theorem dX12_call_152 : decode cX12_call 152 = .ok (.iaload, 1) := by decide +kernel
theorem dX12_call_153 : decode cX12_call 153 = .ok (.ireturn, 1) := by decide +kernel
theorem dX12_likes_0 : decode cX12_likes 0 = .ok (.aload_n 0, 1) := by decide +kernel
theorem dX12_likes_1 : decode cX12_likes 1 = .ok (.iconst 0, 1) := by decide +kernel
theorem dX12_likes_2 : decode cX12_likes 2 = .ok (.putfield 82, 3) := by decide +kernel
theorem dX12_likes_5 : decode cX12_likes 5 = .ok (.aload_n 0, 1) := by decide +kernel
theorem dX12_likes_6 : decode cX12_likes 6 = .ok (.iload_n 1, 1) := by decide +kernel
theorem dX12_likes_7 : decode cX12_likes 7 = .ok (.i2l, 1) := by decide +kernel
theorem dX12_likes_8 : decode cX12_likes 8 = .ok (.invokevirtual 328, 3) := by decide +kernel
theorem dX12_likes_11 : decode cX12_likes 11 = .ok (.ifCond .eq 21, 3) := by decide +kernel
theorem dX12_likes_14 : decode cX12_likes 14 = .ok (.aload_n 0, 1) := by decide +kernel
theorem dX12_likes_15 : decode cX12_likes 15 = .ok (.iload_n 2, 1) := by decide +kernel
theorem dX12_likes_16 : decode cX12_likes 16 = .ok (.i2l, 1) := by decide +kernel
theorem dX12_likes_17 : decode cX12_likes 17 = .ok (.invokevirtual 328, 3) := by decide +kernel
theorem dX12_likes_20 : decode cX12_likes 20 = .ok (.ifCond .eq 12, 3) := by decide +kernel
theorem dX12_likes_23 : decode cX12_likes 23 = .ok (.aload_n 0, 1) := by decide +kernel
theorem dX12_likes_24 : decode cX12_likes 24 = .ok (.iload_n 1, 1) := by decide +kernel
theorem dX12_likes_25 : decode cX12_likes 25 = .ok (.iload_n 2, 1) := by decide +kernel
theorem dX12_likes_26 : decode cX12_likes 26 = .ok (.invokevirtual 301, 3) := by decide +kernel
theorem dX12_likes_29 : decode cX12_likes 29 = .ok (.goto 8, 3) := by decide +kernel
theorem dX12_likes_32 : decode cX12_likes 32 = .ok (.aload_n 0, 1) := by decide +kernel
theorem dX12_likes_33 : decode cX12_likes 33 = .ok (.iconst 1, 1) := by decide +kernel
theorem dX12_likes_34 : decode cX12_likes 34 = .ok (.invokevirtual 256, 3) := by decide +kernel
theorem dX12_likes_37 : decode cX12_likes 37 = .ok (.ireturn, 1) := by decide +kernel
theorem dX12_comesTo_0 : decode cX12_comesTo 0 = .ok (.aload_n 0, 1) := by decide +kernel
theorem dX12_comesTo_1 : decode cX12_comesTo 1 = .ok (.aload_n 0, 1) := by decide +kernel
theorem dX12_comesTo_2 : decode cX12_comesTo 2 = .ok (.iload_n 1, 1) := by decide +kernel
theorem dX12_comesTo_3 : decode cX12_comesTo 3 = .ok (.i2l, 1) := by decide +kernel
theorem dX12_comesTo_4 : decode cX12_comesTo 4 = .ok (.invokevirtual 334, 3) := by decide +kernel
theorem dX12_comesTo_7 : decode cX12_comesTo 7 = .ok (.ifCond .ne 7, 3) := by decide +kernel
theorem dX12_comesTo_10 : decode cX12_comesTo 10 = .ok (.iconst 1, 1) := by decide +kernel
theorem dX12_comesTo_11 : decode cX12_comesTo 11 = .ok (.goto 20, 3) := by decide +kernel
theorem dX12_comesTo_14 : decode cX12_comesTo 14 = .ok (.iload_n 2, 1) := by decide +kernel
theorem dX12_comesTo_15 : decode cX12_comesTo 15 = .ok (.i2l, 1) := by decide +kernel
theorem dX12_comesTo_16 : decode cX12_comesTo 16 = .ok (.lconst 0, 1) := by decide +kernel
theorem dX12_comesTo_17 : decode cX12_comesTo 17 = .ok (.ldc2_w 339, 3) := by decide +kernel
theorem dX12_comesTo_20 : decode cX12_comesTo 20 = .ok (.invokestatic 143, 3) := by decide +kernel
theorem dX12_comesTo_23 : decode cX12_comesTo 23 = .ok (.ifCond .eq 7, 3) := by decide +kernel
theorem dX12_comesTo_26 : decode cX12_comesTo 26 = .ok (.iconst 0, 1) := by decide +kernel
theorem dX12_comesTo_27 : decode cX12_comesTo 27 = .ok (.goto 4, 3) := by decide +kernel
theorem dX12_comesTo_30 : decode cX12_comesTo 30 = .ok (.iconst 2, 1) := by decide +kernel
theorem dX12_comesTo_31 : decode cX12_comesTo 31 = .ok (.putfield 82, 3) := by decide +kernel
theorem dX12_comesTo_34 : decode cX12_comesTo 34 = .ok (.aload_n 0, 1) := by decide +kernel
theorem dX12_comesTo_35 : decode cX12_comesTo 35 = .ok (.getfield 82, 3) := by decide +kernel
theorem dX12_comesTo_38 : decode cX12_comesTo 38 = .ok (.ifCond .le 7, 3) := by decide +kernel
theorem dX12_comesTo_41 : decode cX12_comesTo 41 = .ok (.iconst 0, 1) := by decide +kernel
theorem dX12_comesTo_42 : decode cX12_comesTo 42 = .ok (.goto 17, 3) := by decide +kernel
theorem dX12_comesTo_45 : decode cX12_comesTo 45 = .ok (.aload_n 0, 1) := by decide +kernel
theorem dX12_comesTo_46 : decode cX12_comesTo 46 = .ok (.iload_n 1, 1) := by decide +kernel
theorem dX12_comesTo_47 : decode cX12_comesTo 47 = .ok (.aload_n 0, 1) := by decide +kernel
theorem dX12_comesTo_48 : decode cX12_comesTo 48 = .ok (.getfield 9, 3) := by decide +kernel
theorem dX12_comesTo_51 : decode cX12_comesTo 51 = .ok (.bipush 47, 2) := by decide +kernel
theorem dX12_comesTo_53 : decode cX12_comesTo 53 = .ok (.iaload, 1) := by decide +kernel
theorem dX12_comesTo_54 : decode cX12_comesTo 54 = .ok (.iload_n 2, 1) := by decide +kernel
theorem dX12_comesTo_55 : decode cX12_comesTo 55 = .ok (.iadd, 1) := by decide +kernel
theorem dX12_comesTo_56 : decode cX12_comesTo 56 = .ok (.invokevirtual 307, 3) := by decide +kernel
theorem dX12_comesTo_59 : decode cX12_comesTo 59 = .ok (.ireturn, 1) := by decide +kernel
theorem dX12_keeps_0 : decode cX12_keeps 0 = .ok (.aload_n 0, 1) := by decide +kernel
theorem dX12_keeps_1 : decode cX12_keeps 1 = .ok (.getfield 9, 3) := by decide +kernel
theorem dX12_keeps_4 : decode cX12_keeps 4 = .ok (.bipush 6, 2) := by decide +kernel
theorem dX12_keeps_6 : decode cX12_keeps 6 = .ok (.iaload, 1) := by decide +kernel
theorem dX12_keeps_7 : decode cX12_keeps 7 = .ok (.bipush 10, 2) := by decide +kernel
theorem dX12_keeps_9 : decode cX12_keeps 9 = .ok (.if_icmp .ne 45, 3) := by decide +kernel
theorem dX12_keeps_12 : decode cX12_keeps 12 = .ok (.bipush 91, 2) := by decide +kernel
theorem dX12_keeps_14 : decode cX12_keeps 14 = .ok (.istore_n 1, 1) := by decide +kernel
theorem dX12_keeps_15 : decode cX12_keeps 15 = .ok (.iload_n 1, 1) := by decide +kernel
theorem dX12_keeps_16 : decode cX12_keeps 16 = .ok (.sipush 460, 3) := by decide +kernel
theorem dX12_keeps_19 : decode cX12_keeps 19 = .ok (.if_icmp .ge 24, 3) := by decide +kernel
theorem dX12_keeps_22 : decode cX12_keeps 22 = .ok (.aload_n 0, 1) := by decide +kernel
theorem dX12_keeps_23 : decode cX12_keeps 23 = .ok (.getfield 9, 3) := by decide +kernel
theorem dX12_keeps_26 : decode cX12_keeps 26 = .ok (.iload_n 1, 1) := by decide +kernel
theorem dX12_keeps_27 : decode cX12_keeps 27 = .ok (.aload_n 0, 1) := by decide +kernel
theorem dX12_keeps_28 : decode cX12_keeps 28 = .ok (.getfield 9, 3) := by decide +kernel
theorem dX12_keeps_31 : decode cX12_keeps 31 = .ok (.iload_n 1, 1) := by decide +kernel
theorem dX12_keeps_32 : decode cX12_keeps 32 = .ok (.bipush 41, 2) := by decide +kernel
theorem dX12_keeps_34 : decode cX12_keeps 34 = .ok (.iadd, 1) := by decide +kernel
theorem dX12_keeps_35 : decode cX12_keeps 35 = .ok (.iaload, 1) := by decide +kernel
theorem dX12_keeps_36 : decode cX12_keeps 36 = .ok (.iastore, 1) := by decide +kernel
theorem dX12_keeps_37 : decode cX12_keeps 37 = .ok (.iinc 1 1, 3) := by decide +kernel
theorem dX12_keeps_40 : decode cX12_keeps 40 = .ok (.goto (-25), 3) := by decide +kernel
theorem dX12_keeps_43 : decode cX12_keeps 43 = .ok (.aload_n 0, 1) := by decide +kernel
theorem dX12_keeps_44 : decode cX12_keeps 44 = .ok (.getfield 9, 3) := by decide +kernel
theorem dX12_keeps_47 : decode cX12_keeps 47 = .ok (.bipush 6, 2) := by decide +kernel
theorem dX12_keeps_49 : decode cX12_keeps 49 = .ok (.dup2, 1) := by decide +kernel
theorem dX12_keeps_50 : decode cX12_keeps 50 = .ok (.iaload, 1) := by decide +kernel
theorem dX12_keeps_51 : decode cX12_keeps 51 = .ok (.iconst 1, 1) := by decide +kernel
theorem dX12_keeps_52 : decode cX12_keeps 52 = .ok (.isub, 1) := by decide +kernel
theorem dX12_keeps_53 : decode cX12_keeps 53 = .ok (.iastore, 1) := by decide +kernel
theorem dX12_keeps_54 : decode cX12_keeps 54 = .ok (.iconst 0, 1) := by decide +kernel
theorem dX12_keeps_55 : decode cX12_keeps 55 = .ok (.istore_n 1, 1) := by decide +kernel
theorem dX12_keeps_56 : decode cX12_keeps 56 = .ok (.iload_n 1, 1) := by decide +kernel
theorem dX12_keeps_57 : decode cX12_keeps 57 = .ok (.bipush 41, 2) := by decide +kernel
theorem dX12_keeps_59 : decode cX12_keeps 59 = .ok (.if_icmp .ge 38, 3) := by decide +kernel
theorem dX12_keeps_62 : decode cX12_keeps 62 = .ok (.aload_n 0, 1) := by decide +kernel
theorem dX12_keeps_63 : decode cX12_keeps 63 = .ok (.getfield 9, 3) := by decide +kernel
theorem dX12_keeps_66 : decode cX12_keeps 66 = .ok (.bipush 91, 2) := by decide +kernel
theorem dX12_keeps_68 : decode cX12_keeps 68 = .ok (.bipush 41, 2) := by decide +kernel
theorem dX12_keeps_70 : decode cX12_keeps 70 = .ok (.aload_n 0, 1) := by decide +kernel
theorem dX12_keeps_71 : decode cX12_keeps 71 = .ok (.getfield 9, 3) := by decide +kernel
theorem dX12_keeps_74 : decode cX12_keeps 74 = .ok (.bipush 6, 2) := by decide +kernel
theorem dX12_keeps_76 : decode cX12_keeps 76 = .ok (.iaload, 1) := by decide +kernel
theorem dX12_keeps_77 : decode cX12_keeps 77 = .ok (.imul, 1) := by decide +kernel
theorem dX12_keeps_78 : decode cX12_keeps 78 = .ok (.iadd, 1) := by decide +kernel
theorem dX12_keeps_79 : decode cX12_keeps 79 = .ok (.iload_n 1, 1) := by decide +kernel
theorem dX12_keeps_80 : decode cX12_keeps 80 = .ok (.iadd, 1) := by decide +kernel
theorem dX12_keeps_81 : decode cX12_keeps 81 = .ok (.aload_n 0, 1) := by decide +kernel
theorem dX12_keeps_82 : decode cX12_keeps 82 = .ok (.getfield 9, 3) := by decide +kernel
theorem dX12_keeps_85 : decode cX12_keeps 85 = .ok (.bipush 7, 2) := by decide +kernel
theorem dX12_keeps_87 : decode cX12_keeps 87 = .ok (.iload_n 1, 1) := by decide +kernel
theorem dX12_keeps_88 : decode cX12_keeps 88 = .ok (.iadd, 1) := by decide +kernel
theorem dX12_keeps_89 : decode cX12_keeps 89 = .ok (.iaload, 1) := by decide +kernel
theorem dX12_keeps_90 : decode cX12_keeps 90 = .ok (.iastore, 1) := by decide +kernel
theorem dX12_keeps_91 : decode cX12_keeps 91 = .ok (.iinc 1 1, 3) := by decide +kernel
theorem dX12_keeps_94 : decode cX12_keeps 94 = .ok (.goto (-38), 3) := by decide +kernel
theorem dX12_keeps_97 : decode cX12_keeps 97 = .ok (.aload_n 0, 1) := by decide +kernel
theorem dX12_keeps_98 : decode cX12_keeps 98 = .ok (.getfield 9, 3) := by decide +kernel
theorem dX12_keeps_101 : decode cX12_keeps 101 = .ok (.bipush 6, 2) := by decide +kernel
theorem dX12_keeps_103 : decode cX12_keeps 103 = .ok (.dup2, 1) := by decide +kernel
theorem dX12_keeps_104 : decode cX12_keeps 104 = .ok (.iaload, 1) := by decide +kernel
theorem dX12_keeps_105 : decode cX12_keeps 105 = .ok (.iconst 1, 1) := by decide +kernel
theorem dX12_keeps_106 : decode cX12_keeps 106 = .ok (.iadd, 1) := by decide +kernel
theorem dX12_keeps_107 : decode cX12_keeps 107 = .ok (.iastore, 1) := by decide +kernel
theorem dX12_keeps_108 : decode cX12_keeps 108 = .ok (.return_, 1) := by decide +kernel
theorem dX12_putsAside_0 : decode cX12_putsAside 0 = .ok (.iconst 0, 1) := by decide +kernel
theorem dX12_putsAside_1 : decode cX12_putsAside 1 = .ok (.istore_n 1, 1) := by decide +kernel
theorem dX12_putsAside_2 : decode cX12_putsAside 2 = .ok (.iload_n 1, 1) := by decide +kernel
theorem dX12_putsAside_3 : decode cX12_putsAside 3 = .ok (.bipush 41, 2) := by decide +kernel
theorem dX12_putsAside_5 : decode cX12_putsAside 5 = .ok (.if_icmp .ge 24, 3) := by decide +kernel
theorem dX12_putsAside_8 : decode cX12_putsAside 8 = .ok (.aload_n 0, 1) := by decide +kernel
theorem dX12_putsAside_9 : decode cX12_putsAside 9 = .ok (.getfield 39, 3) := by decide +kernel
theorem dX12_putsAside_12 : decode cX12_putsAside 12 = .ok (.iload_n 1, 1) := by decide +kernel
theorem dX12_putsAside_13 : decode cX12_putsAside 13 = .ok (.aload_n 0, 1) := by decide +kernel
theorem dX12_putsAside_14 : decode cX12_putsAside 14 = .ok (.getfield 9, 3) := by decide +kernel
theorem dX12_putsAside_17 : decode cX12_putsAside 17 = .ok (.bipush 7, 2) := by decide +kernel
theorem dX12_putsAside_19 : decode cX12_putsAside 19 = .ok (.iload_n 1, 1) := by decide +kernel
theorem dX12_putsAside_20 : decode cX12_putsAside 20 = .ok (.iadd, 1) := by decide +kernel
theorem dX12_putsAside_21 : decode cX12_putsAside 21 = .ok (.iaload, 1) := by decide +kernel
theorem dX12_putsAside_22 : decode cX12_putsAside 22 = .ok (.iastore, 1) := by decide +kernel
theorem dX12_putsAside_23 : decode cX12_putsAside 23 = .ok (.iinc 1 1, 3) := by decide +kernel
theorem dX12_putsAside_26 : decode cX12_putsAside 26 = .ok (.goto (-24), 3) := by decide +kernel
theorem dX12_putsAside_29 : decode cX12_putsAside 29 = .ok (.return_, 1) := by decide +kernel
theorem dX12_putsBack_0 : decode cX12_putsBack 0 = .ok (.iconst 0, 1) := by decide +kernel
theorem dX12_putsBack_1 : decode cX12_putsBack 1 = .ok (.istore_n 1, 1) := by decide +kernel
theorem dX12_putsBack_2 : decode cX12_putsBack 2 = .ok (.iload_n 1, 1) := by decide +kernel
theorem dX12_putsBack_3 : decode cX12_putsBack 3 = .ok (.bipush 41, 2) := by decide +kernel
theorem dX12_putsBack_5 : decode cX12_putsBack 5 = .ok (.if_icmp .ge 24, 3) := by decide +kernel
theorem dX12_putsBack_8 : decode cX12_putsBack 8 = .ok (.aload_n 0, 1) := by decide +kernel
theorem dX12_putsBack_9 : decode cX12_putsBack 9 = .ok (.getfield 9, 3) := by decide +kernel
theorem dX12_putsBack_12 : decode cX12_putsBack 12 = .ok (.bipush 7, 2) := by decide +kernel
theorem dX12_putsBack_14 : decode cX12_putsBack 14 = .ok (.iload_n 1, 1) := by decide +kernel
theorem dX12_putsBack_15 : decode cX12_putsBack 15 = .ok (.iadd, 1) := by decide +kernel
theorem dX12_putsBack_16 : decode cX12_putsBack 16 = .ok (.aload_n 0, 1) := by decide +kernel
theorem dX12_putsBack_17 : decode cX12_putsBack 17 = .ok (.getfield 39, 3) := by decide +kernel
theorem dX12_putsBack_20 : decode cX12_putsBack 20 = .ok (.iload_n 1, 1) := by decide +kernel
theorem dX12_putsBack_21 : decode cX12_putsBack 21 = .ok (.iaload, 1) := by decide +kernel
theorem dX12_putsBack_22 : decode cX12_putsBack 22 = .ok (.iastore, 1) := by decide +kernel
theorem dX12_putsBack_23 : decode cX12_putsBack 23 = .ok (.iinc 1 1, 3) := by decide +kernel
theorem dX12_putsBack_26 : decode cX12_putsBack 26 = .ok (.goto (-24), 3) := by decide +kernel
theorem dX12_putsBack_29 : decode cX12_putsBack 29 = .ok (.return_, 1) := by decide +kernel
theorem dX12_whyDial_0 : decode cX12_whyDial 0 = .ok (.aload_n 0, 1) := by decide +kernel
theorem dX12_whyDial_1 : decode cX12_whyDial 1 = .ok (.lload_n 1, 1) := by decide +kernel
theorem dX12_whyDial_2 : decode cX12_whyDial 2 = .ok (.invokevirtual 328, 3) := by decide +kernel
theorem dX12_whyDial_5 : decode cX12_whyDial 5 = .ok (.ifCond .eq 29, 3) := by decide +kernel
theorem dX12_whyDial_8 : decode cX12_whyDial 8 = .ok (.aload_n 0, 1) := by decide +kernel
theorem dX12_whyDial_9 : decode cX12_whyDial 9 = .ok (.lload_n 3, 1) := by decide +kernel
theorem dX12_whyDial_10 : decode cX12_whyDial 10 = .ok (.invokevirtual 328, 3) := by decide +kernel
theorem dX12_whyDial_13 : decode cX12_whyDial 13 = .ok (.ifCond .eq 21, 3) := by decide +kernel
theorem dX12_whyDial_16 : decode cX12_whyDial 16 = .ok (.lload_n 1, 1) := by decide +kernel
theorem dX12_whyDial_17 : decode cX12_whyDial 17 = .ok (.lload_n 3, 1) := by decide +kernel
theorem dX12_whyDial_18 : decode cX12_whyDial 18 = .ok (.lcmp, 1) := by decide +kernel
theorem dX12_whyDial_19 : decode cX12_whyDial 19 = .ok (.ifCond .eq 15, 3) := by decide +kernel
theorem dX12_whyDial_22 : decode cX12_whyDial 22 = .ok (.lload 5, 2) := by decide +kernel
theorem dX12_whyDial_24 : decode cX12_whyDial 24 = .ok (.lconst 1, 1) := by decide +kernel
theorem dX12_whyDial_25 : decode cX12_whyDial 25 = .ok (.ldc2_w 341, 3) := by decide +kernel
theorem dX12_whyDial_28 : decode cX12_whyDial 28 = .ok (.invokestatic 143, 3) := by decide +kernel
theorem dX12_whyDial_31 : decode cX12_whyDial 31 = .ok (.ifCond .ne 7, 3) := by decide +kernel
theorem dX12_whyDial_34 : decode cX12_whyDial 34 = .ok (.iconst 1, 1) := by decide +kernel
theorem dX12_whyDial_35 : decode cX12_whyDial 35 = .ok (.goto 17, 3) := by decide +kernel
theorem dX12_whyDial_38 : decode cX12_whyDial 38 = .ok (.aload_n 0, 1) := by decide +kernel
theorem dX12_whyDial_39 : decode cX12_whyDial 39 = .ok (.invokevirtual 267, 3) := by decide +kernel
theorem dX12_whyDial_42 : decode cX12_whyDial 42 = .ok (.bipush 10, 2) := by decide +kernel
theorem dX12_whyDial_44 : decode cX12_whyDial 44 = .ok (.if_icmp .ne 7, 3) := by decide +kernel
theorem dX12_whyDial_47 : decode cX12_whyDial 47 = .ok (.iconst 2, 1) := by decide +kernel
theorem dX12_whyDial_48 : decode cX12_whyDial 48 = .ok (.goto 4, 3) := by decide +kernel
theorem dX12_whyDial_51 : decode cX12_whyDial 51 = .ok (.iconst 0, 1) := by decide +kernel
theorem dX12_whyDial_52 : decode cX12_whyDial 52 = .ok (.ireturn, 1) := by decide +kernel
theorem dX12_whyPull_0 : decode cX12_whyPull 0 = .ok (.aload_n 0, 1) := by decide +kernel
theorem dX12_whyPull_1 : decode cX12_whyPull 1 = .ok (.lload_n 1, 1) := by decide +kernel
theorem dX12_whyPull_2 : decode cX12_whyPull 2 = .ok (.invokevirtual 334, 3) := by decide +kernel
theorem dX12_whyPull_5 : decode cX12_whyPull 5 = .ok (.ifCond .ne 7, 3) := by decide +kernel
theorem dX12_whyPull_8 : decode cX12_whyPull 8 = .ok (.iconst 1, 1) := by decide +kernel
theorem dX12_whyPull_9 : decode cX12_whyPull 9 = .ok (.goto 22, 3) := by decide +kernel
theorem dX12_whyPull_12 : decode cX12_whyPull 12 = .ok (.aload_n 0, 1) := by decide +kernel
theorem dX12_whyPull_13 : decode cX12_whyPull 13 = .ok (.getfield 9, 3) := by decide +kernel
theorem dX12_whyPull_16 : decode cX12_whyPull 16 = .ok (.bipush 8, 2) := by decide +kernel
theorem dX12_whyPull_18 : decode cX12_whyPull 18 = .ok (.lload_n 1, 1) := by decide +kernel
theorem dX12_whyPull_19 : decode cX12_whyPull 19 = .ok (.l2i, 1) := by decide +kernel
theorem dX12_whyPull_20 : decode cX12_whyPull 20 = .ok (.iadd, 1) := by decide +kernel
theorem dX12_whyPull_21 : decode cX12_whyPull 21 = .ok (.iaload, 1) := by decide +kernel
theorem dX12_whyPull_22 : decode cX12_whyPull 22 = .ok (.iconst 1, 1) := by decide +kernel
theorem dX12_whyPull_23 : decode cX12_whyPull 23 = .ok (.if_icmp .ne 7, 3) := by decide +kernel
theorem dX12_whyPull_26 : decode cX12_whyPull 26 = .ok (.iconst 0, 1) := by decide +kernel
theorem dX12_whyPull_27 : decode cX12_whyPull 27 = .ok (.goto 4, 3) := by decide +kernel
theorem dX12_whyPull_30 : decode cX12_whyPull 30 = .ok (.iconst 2, 1) := by decide +kernel
theorem dX12_whyPull_31 : decode cX12_whyPull 31 = .ok (.ireturn, 1) := by decide +kernel
theorem dX12_dial_0 : decode cX12_dial 0 = .ok (.aload_n 0, 1) := by decide +kernel
theorem dX12_dial_1 : decode cX12_dial 1 = .ok (.iconst 0, 1) := by decide +kernel
theorem dX12_dial_2 : decode cX12_dial 2 = .ok (.putfield 82, 3) := by decide +kernel
theorem dX12_dial_5 : decode cX12_dial 5 = .ok (.aload_n 0, 1) := by decide +kernel
theorem dX12_dial_6 : decode cX12_dial 6 = .ok (.iload_n 1, 1) := by decide +kernel
theorem dX12_dial_7 : decode cX12_dial 7 = .ok (.i2l, 1) := by decide +kernel
theorem dX12_dial_8 : decode cX12_dial 8 = .ok (.iload_n 2, 1) := by decide +kernel
theorem dX12_dial_9 : decode cX12_dial 9 = .ok (.i2l, 1) := by decide +kernel
theorem dX12_dial_10 : decode cX12_dial 10 = .ok (.iload_n 3, 1) := by decide +kernel
theorem dX12_dial_11 : decode cX12_dial 11 = .ok (.i2l, 1) := by decide +kernel
theorem dX12_dial_12 : decode cX12_dial 12 = .ok (.invokevirtual 343, 3) := by decide +kernel
theorem dX12_dial_15 : decode cX12_dial 15 = .ok (.istore 4, 2) := by decide +kernel
theorem dX12_dial_17 : decode cX12_dial 17 = .ok (.iload 4, 2) := by decide +kernel
theorem dX12_dial_19 : decode cX12_dial 19 = .ok (.ifCond .eq 7, 3) := by decide +kernel
theorem dX12_dial_22 : decode cX12_dial 22 = .ok (.iload 4, 2) := by decide +kernel
theorem dX12_dial_24 : decode cX12_dial 24 = .ok (.ineg, 1) := by decide +kernel
theorem dX12_dial_25 : decode cX12_dial 25 = .ok (.ireturn, 1) := by decide +kernel
theorem dX12_dial_26 : decode cX12_dial 26 = .ok (.aload_n 0, 1) := by decide +kernel
theorem dX12_dial_27 : decode cX12_dial 27 = .ok (.invokevirtual 347, 3) := by decide +kernel
theorem dX12_dial_30 : decode cX12_dial 30 = .ok (.aload_n 0, 1) := by decide +kernel
theorem dX12_dial_31 : decode cX12_dial 31 = .ok (.getfield 9, 3) := by decide +kernel
theorem dX12_dial_34 : decode cX12_dial 34 = .ok (.iload_n 1, 1) := by decide +kernel
theorem dX12_dial_35 : decode cX12_dial 35 = .ok (.iload_n 2, 1) := by decide +kernel
theorem dX12_dial_36 : decode cX12_dial 36 = .ok (.aload_n 0, 1) := by decide +kernel
theorem dX12_dial_37 : decode cX12_dial 37 = .ok (.getfield 9, 3) := by decide +kernel
theorem dX12_dial_40 : decode cX12_dial 40 = .ok (.bipush 47, 2) := by decide +kernel
theorem dX12_dial_42 : decode cX12_dial 42 = .ok (.iaload, 1) := by decide +kernel
theorem dX12_dial_43 : decode cX12_dial 43 = .ok (.iload_n 3, 1) := by decide +kernel
theorem dX12_dial_44 : decode cX12_dial 44 = .ok (.invokestatic 233, 3) := by decide +kernel
theorem dX12_dial_47 : decode cX12_dial 47 = .ok (.aload_n 0, 1) := by decide +kernel
theorem dX12_dial_48 : decode cX12_dial 48 = .ok (.invokevirtual 267, 3) := by decide +kernel
theorem dX12_dial_51 : decode cX12_dial 51 = .ok (.iconst 1, 1) := by decide +kernel
theorem dX12_dial_52 : decode cX12_dial 52 = .ok (.isub, 1) := by decide +kernel
theorem dX12_dial_53 : decode cX12_dial 53 = .ok (.ireturn, 1) := by decide +kernel
theorem dX12_pull_0 : decode cX12_pull 0 = .ok (.aload_n 0, 1) := by decide +kernel
theorem dX12_pull_1 : decode cX12_pull 1 = .ok (.iconst 0, 1) := by decide +kernel
theorem dX12_pull_2 : decode cX12_pull 2 = .ok (.putfield 82, 3) := by decide +kernel
theorem dX12_pull_5 : decode cX12_pull 5 = .ok (.aload_n 0, 1) := by decide +kernel
theorem dX12_pull_6 : decode cX12_pull 6 = .ok (.iload_n 1, 1) := by decide +kernel
theorem dX12_pull_7 : decode cX12_pull 7 = .ok (.i2l, 1) := by decide +kernel
theorem dX12_pull_8 : decode cX12_pull 8 = .ok (.invokevirtual 350, 3) := by decide +kernel
theorem dX12_pull_11 : decode cX12_pull 11 = .ok (.istore_n 2, 1) := by decide +kernel
theorem dX12_pull_12 : decode cX12_pull 12 = .ok (.iload_n 2, 1) := by decide +kernel
theorem dX12_pull_13 : decode cX12_pull 13 = .ok (.ifCond .eq 8, 3) := by decide +kernel
theorem dX12_pull_16 : decode cX12_pull 16 = .ok (.bipush (-10), 2) := by decide +kernel
theorem dX12_pull_18 : decode cX12_pull 18 = .ok (.iload_n 2, 1) := by decide +kernel
theorem dX12_pull_19 : decode cX12_pull 19 = .ok (.isub, 1) := by decide +kernel
theorem dX12_pull_20 : decode cX12_pull 20 = .ok (.ireturn, 1) := by decide +kernel
theorem dX12_pull_21 : decode cX12_pull 21 = .ok (.aload_n 0, 1) := by decide +kernel
theorem dX12_pull_22 : decode cX12_pull 22 = .ok (.invokevirtual 347, 3) := by decide +kernel
theorem dX12_pull_25 : decode cX12_pull 25 = .ok (.aload_n 0, 1) := by decide +kernel
theorem dX12_pull_26 : decode cX12_pull 26 = .ok (.getfield 9, 3) := by decide +kernel
theorem dX12_pull_29 : decode cX12_pull 29 = .ok (.bipush 8, 2) := by decide +kernel
theorem dX12_pull_31 : decode cX12_pull 31 = .ok (.iload_n 1, 1) := by decide +kernel
theorem dX12_pull_32 : decode cX12_pull 32 = .ok (.iadd, 1) := by decide +kernel
theorem dX12_pull_33 : decode cX12_pull 33 = .ok (.iconst 2, 1) := by decide +kernel
theorem dX12_pull_34 : decode cX12_pull 34 = .ok (.iastore, 1) := by decide +kernel
theorem dX12_pull_35 : decode cX12_pull 35 = .ok (.aload_n 0, 1) := by decide +kernel
theorem dX12_pull_36 : decode cX12_pull 36 = .ok (.getfield 9, 3) := by decide +kernel
theorem dX12_pull_39 : decode cX12_pull 39 = .ok (.bipush 28, 2) := by decide +kernel
theorem dX12_pull_41 : decode cX12_pull 41 = .ok (.iload_n 1, 1) := by decide +kernel
theorem dX12_pull_42 : decode cX12_pull 42 = .ok (.iadd, 1) := by decide +kernel
theorem dX12_pull_43 : decode cX12_pull 43 = .ok (.iaload, 1) := by decide +kernel
theorem dX12_pull_44 : decode cX12_pull 44 = .ok (.ireturn, 1) := by decide +kernel
theorem dX12_door_0 : decode cX12_door 0 = .ok (.aload_n 0, 1) := by decide +kernel
theorem dX12_door_1 : decode cX12_door 1 = .ok (.iconst 0, 1) := by decide +kernel
theorem dX12_door_2 : decode cX12_door 2 = .ok (.putfield 82, 3) := by decide +kernel
theorem dX12_door_5 : decode cX12_door 5 = .ok (.aload_n 0, 1) := by decide +kernel
theorem dX12_door_6 : decode cX12_door 6 = .ok (.iload_n 1, 1) := by decide +kernel
theorem dX12_door_7 : decode cX12_door 7 = .ok (.i2l, 1) := by decide +kernel
theorem dX12_door_8 : decode cX12_door 8 = .ok (.invokevirtual 328, 3) := by decide +kernel
theorem dX12_door_11 : decode cX12_door 11 = .ok (.ifCond .ne 9, 3) := by decide +kernel
theorem dX12_door_14 : decode cX12_door 14 = .ok (.aload_n 0, 1) := by decide +kernel
theorem dX12_door_15 : decode cX12_door 15 = .ok (.iconst 1, 1) := by decide +kernel
theorem dX12_door_16 : decode cX12_door 16 = .ok (.invokevirtual 256, 3) := by decide +kernel
theorem dX12_door_19 : decode cX12_door 19 = .ok (.ireturn, 1) := by decide +kernel
theorem dX12_door_20 : decode cX12_door 20 = .ok (.aload_n 0, 1) := by decide +kernel
theorem dX12_door_21 : decode cX12_door 21 = .ok (.invokevirtual 347, 3) := by decide +kernel
theorem dX12_door_24 : decode cX12_door 24 = .ok (.aload_n 0, 1) := by decide +kernel
theorem dX12_door_25 : decode cX12_door 25 = .ok (.getfield 9, 3) := by decide +kernel
theorem dX12_door_28 : decode cX12_door 28 = .ok (.bipush 46, 2) := by decide +kernel
theorem dX12_door_30 : decode cX12_door 30 = .ok (.dup2, 1) := by decide +kernel
theorem dX12_door_31 : decode cX12_door 31 = .ok (.iaload, 1) := by decide +kernel
theorem dX12_door_32 : decode cX12_door 32 = .ok (.iconst 1, 1) := by decide +kernel
theorem dX12_door_33 : decode cX12_door 33 = .ok (.iload_n 1, 1) := by decide +kernel
theorem dX12_door_34 : decode cX12_door 34 = .ok (.ishl, 1) := by decide +kernel
theorem dX12_door_35 : decode cX12_door 35 = .ok (.ixor, 1) := by decide +kernel
theorem dX12_door_36 : decode cX12_door 36 = .ok (.iastore, 1) := by decide +kernel
theorem dX12_door_37 : decode cX12_door 37 = .ok (.aload_n 0, 1) := by decide +kernel
theorem dX12_door_38 : decode cX12_door 38 = .ok (.iload_n 1, 1) := by decide +kernel
theorem dX12_door_39 : decode cX12_door 39 = .ok (.invokevirtual 310, 3) := by decide +kernel
theorem dX12_door_42 : decode cX12_door 42 = .ok (.ifCond .eq 7, 3) := by decide +kernel
theorem dX12_door_45 : decode cX12_door 45 = .ok (.iconst 1, 1) := by decide +kernel
theorem dX12_door_46 : decode cX12_door 46 = .ok (.goto 4, 3) := by decide +kernel
theorem dX12_door_49 : decode cX12_door 49 = .ok (.iconst 0, 1) := by decide +kernel
theorem dX12_door_50 : decode cX12_door 50 = .ok (.ireturn, 1) := by decide +kernel
theorem dX12_minutes_0 : decode cX12_minutes 0 = .ok (.aload_n 0, 1) := by decide +kernel
theorem dX12_minutes_1 : decode cX12_minutes 1 = .ok (.iconst 0, 1) := by decide +kernel
theorem dX12_minutes_2 : decode cX12_minutes 2 = .ok (.putfield 82, 3) := by decide +kernel
theorem dX12_minutes_5 : decode cX12_minutes 5 = .ok (.iload_n 1, 1) := by decide +kernel
theorem dX12_minutes_6 : decode cX12_minutes 6 = .ok (.i2l, 1) := by decide +kernel
theorem dX12_minutes_7 : decode cX12_minutes 7 = .ok (.lconst 1, 1) := by decide +kernel
theorem dX12_minutes_8 : decode cX12_minutes 8 = .ok (.ldc2_w 341, 3) := by decide +kernel
theorem dX12_minutes_11 : decode cX12_minutes 11 = .ok (.invokestatic 143, 3) := by decide +kernel
theorem dX12_minutes_14 : decode cX12_minutes 14 = .ok (.ifCond .ne 9, 3) := by decide +kernel
theorem dX12_minutes_17 : decode cX12_minutes 17 = .ok (.aload_n 0, 1) := by decide +kernel
theorem dX12_minutes_18 : decode cX12_minutes 18 = .ok (.iconst 1, 1) := by decide +kernel
theorem dX12_minutes_19 : decode cX12_minutes 19 = .ok (.invokevirtual 256, 3) := by decide +kernel
theorem dX12_minutes_22 : decode cX12_minutes 22 = .ok (.ireturn, 1) := by decide +kernel
theorem dX12_minutes_23 : decode cX12_minutes 23 = .ok (.aload_n 0, 1) := by decide +kernel
theorem dX12_minutes_24 : decode cX12_minutes 24 = .ok (.invokevirtual 347, 3) := by decide +kernel
theorem dX12_minutes_27 : decode cX12_minutes 27 = .ok (.iconst 0, 1) := by decide +kernel
theorem dX12_minutes_28 : decode cX12_minutes 28 = .ok (.istore_n 2, 1) := by decide +kernel
theorem dX12_minutes_29 : decode cX12_minutes 29 = .ok (.iconst 0, 1) := by decide +kernel
theorem dX12_minutes_30 : decode cX12_minutes 30 = .ok (.istore_n 3, 1) := by decide +kernel
theorem dX12_minutes_31 : decode cX12_minutes 31 = .ok (.iload_n 3, 1) := by decide +kernel
theorem dX12_minutes_32 : decode cX12_minutes 32 = .ok (.iload_n 1, 1) := by decide +kernel
theorem dX12_minutes_33 : decode cX12_minutes 33 = .ok (.if_icmp .ge 23, 3) := by decide +kernel
theorem dX12_minutes_36 : decode cX12_minutes 36 = .ok (.aload_n 0, 1) := by decide +kernel
theorem dX12_minutes_37 : decode cX12_minutes 37 = .ok (.invokevirtual 353, 3) := by decide +kernel
theorem dX12_minutes_40 : decode cX12_minutes 40 = .ok (.iload_n 2, 1) := by decide +kernel
theorem dX12_minutes_41 : decode cX12_minutes 41 = .ok (.aload_n 0, 1) := by decide +kernel
theorem dX12_minutes_42 : decode cX12_minutes 42 = .ok (.getfield 319, 3) := by decide +kernel
theorem dX12_minutes_45 : decode cX12_minutes 45 = .ok (.invokestatic 355, 3) := by decide +kernel
theorem dX12_minutes_48 : decode cX12_minutes 48 = .ok (.iadd, 1) := by decide +kernel
theorem dX12_minutes_49 : decode cX12_minutes 49 = .ok (.istore_n 2, 1) := by decide +kernel
theorem dX12_minutes_50 : decode cX12_minutes 50 = .ok (.iinc 3 1, 3) := by decide +kernel
theorem dX12_minutes_53 : decode cX12_minutes 53 = .ok (.goto (-22), 3) := by decide +kernel
theorem dX12_minutes_56 : decode cX12_minutes 56 = .ok (.iload_n 2, 1) := by decide +kernel
theorem dX12_minutes_57 : decode cX12_minutes 57 = .ok (.ireturn, 1) := by decide +kernel
theorem dX12_undo_0 : decode cX12_undo 0 = .ok (.aload_n 0, 1) := by decide +kernel
theorem dX12_undo_1 : decode cX12_undo 1 = .ok (.iconst 0, 1) := by decide +kernel
theorem dX12_undo_2 : decode cX12_undo 2 = .ok (.putfield 82, 3) := by decide +kernel
theorem dX12_undo_5 : decode cX12_undo 5 = .ok (.iload_n 1, 1) := by decide +kernel
theorem dX12_undo_6 : decode cX12_undo 6 = .ok (.i2l, 1) := by decide +kernel
theorem dX12_undo_7 : decode cX12_undo 7 = .ok (.lconst 1, 1) := by decide +kernel
theorem dX12_undo_8 : decode cX12_undo 8 = .ok (.ldc2_w 358, 3) := by decide +kernel
theorem dX12_undo_11 : decode cX12_undo 11 = .ok (.invokestatic 143, 3) := by decide +kernel
theorem dX12_undo_14 : decode cX12_undo 14 = .ok (.ifCond .eq 14, 3) := by decide +kernel
theorem dX12_undo_17 : decode cX12_undo 17 = .ok (.iload_n 1, 1) := by decide +kernel
theorem dX12_undo_18 : decode cX12_undo 18 = .ok (.aload_n 0, 1) := by decide +kernel
theorem dX12_undo_19 : decode cX12_undo 19 = .ok (.getfield 9, 3) := by decide +kernel
theorem dX12_undo_22 : decode cX12_undo 22 = .ok (.bipush 6, 2) := by decide +kernel
theorem dX12_undo_24 : decode cX12_undo 24 = .ok (.iaload, 1) := by decide +kernel
theorem dX12_undo_25 : decode cX12_undo 25 = .ok (.if_icmp .le 9, 3) := by decide +kernel
theorem dX12_undo_28 : decode cX12_undo 28 = .ok (.aload_n 0, 1) := by decide +kernel
theorem dX12_undo_29 : decode cX12_undo 29 = .ok (.iconst 1, 1) := by decide +kernel
theorem dX12_undo_30 : decode cX12_undo 30 = .ok (.invokevirtual 256, 3) := by decide +kernel
theorem dX12_undo_33 : decode cX12_undo 33 = .ok (.ireturn, 1) := by decide +kernel
theorem dX12_undo_34 : decode cX12_undo 34 = .ok (.aload_n 0, 1) := by decide +kernel
theorem dX12_undo_35 : decode cX12_undo 35 = .ok (.getfield 9, 3) := by decide +kernel
theorem dX12_undo_38 : decode cX12_undo 38 = .ok (.bipush 6, 2) := by decide +kernel
theorem dX12_undo_40 : decode cX12_undo 40 = .ok (.dup2, 1) := by decide +kernel
theorem dX12_undo_41 : decode cX12_undo 41 = .ok (.iaload, 1) := by decide +kernel
theorem dX12_undo_42 : decode cX12_undo 42 = .ok (.iload_n 1, 1) := by decide +kernel
theorem dX12_undo_43 : decode cX12_undo 43 = .ok (.isub, 1) := by decide +kernel
theorem dX12_undo_44 : decode cX12_undo 44 = .ok (.iastore, 1) := by decide +kernel
theorem dX12_undo_45 : decode cX12_undo 45 = .ok (.iconst 0, 1) := by decide +kernel
theorem dX12_undo_46 : decode cX12_undo 46 = .ok (.istore_n 2, 1) := by decide +kernel
theorem dX12_undo_47 : decode cX12_undo 47 = .ok (.iload_n 2, 1) := by decide +kernel
theorem dX12_undo_48 : decode cX12_undo 48 = .ok (.bipush 41, 2) := by decide +kernel
theorem dX12_undo_50 : decode cX12_undo 50 = .ok (.if_icmp .ge 38, 3) := by decide +kernel
theorem dX12_undo_53 : decode cX12_undo 53 = .ok (.aload_n 0, 1) := by decide +kernel
theorem dX12_undo_54 : decode cX12_undo 54 = .ok (.getfield 9, 3) := by decide +kernel
theorem dX12_undo_57 : decode cX12_undo 57 = .ok (.bipush 7, 2) := by decide +kernel
theorem dX12_undo_59 : decode cX12_undo 59 = .ok (.iload_n 2, 1) := by decide +kernel
theorem dX12_undo_60 : decode cX12_undo 60 = .ok (.iadd, 1) := by decide +kernel
theorem dX12_undo_61 : decode cX12_undo 61 = .ok (.aload_n 0, 1) := by decide +kernel
theorem dX12_undo_62 : decode cX12_undo 62 = .ok (.getfield 9, 3) := by decide +kernel
theorem dX12_undo_65 : decode cX12_undo 65 = .ok (.bipush 91, 2) := by decide +kernel
theorem dX12_undo_67 : decode cX12_undo 67 = .ok (.bipush 41, 2) := by decide +kernel
theorem dX12_undo_69 : decode cX12_undo 69 = .ok (.aload_n 0, 1) := by decide +kernel
theorem dX12_undo_70 : decode cX12_undo 70 = .ok (.getfield 9, 3) := by decide +kernel
theorem dX12_undo_73 : decode cX12_undo 73 = .ok (.bipush 6, 2) := by decide +kernel
theorem dX12_undo_75 : decode cX12_undo 75 = .ok (.iaload, 1) := by decide +kernel
theorem dX12_undo_76 : decode cX12_undo 76 = .ok (.imul, 1) := by decide +kernel
theorem dX12_undo_77 : decode cX12_undo 77 = .ok (.iadd, 1) := by decide +kernel
theorem dX12_undo_78 : decode cX12_undo 78 = .ok (.iload_n 2, 1) := by decide +kernel
theorem dX12_undo_79 : decode cX12_undo 79 = .ok (.iadd, 1) := by decide +kernel
theorem dX12_undo_80 : decode cX12_undo 80 = .ok (.iaload, 1) := by decide +kernel
theorem dX12_undo_81 : decode cX12_undo 81 = .ok (.iastore, 1) := by decide +kernel
theorem dX12_undo_82 : decode cX12_undo 82 = .ok (.iinc 2 1, 3) := by decide +kernel
theorem dX12_undo_85 : decode cX12_undo 85 = .ok (.goto (-38), 3) := by decide +kernel
theorem dX12_undo_88 : decode cX12_undo 88 = .ok (.aload_n 0, 1) := by decide +kernel
theorem dX12_undo_89 : decode cX12_undo 89 = .ok (.getfield 9, 3) := by decide +kernel
theorem dX12_undo_92 : decode cX12_undo 92 = .ok (.bipush 6, 2) := by decide +kernel
theorem dX12_undo_94 : decode cX12_undo 94 = .ok (.iaload, 1) := by decide +kernel
theorem dX12_undo_95 : decode cX12_undo 95 = .ok (.ireturn, 1) := by decide +kernel
theorem dX12_trayFault_0 : decode cX12_trayFault 0 = .ok (.iload_n 1, 1) := by decide +kernel
theorem dX12_trayFault_1 : decode cX12_trayFault 1 = .ok (.invokestatic 360, 3) := by decide +kernel
theorem dX12_trayFault_4 : decode cX12_trayFault 4 = .ok (.ifCond .ne 7, 3) := by decide +kernel
theorem dX12_trayFault_7 : decode cX12_trayFault 7 = .ok (.iconst 1, 1) := by decide +kernel
theorem dX12_trayFault_8 : decode cX12_trayFault 8 = .ok (.goto 18, 3) := by decide +kernel
theorem dX12_trayFault_11 : decode cX12_trayFault 11 = .ok (.aload_n 0, 1) := by decide +kernel
theorem dX12_trayFault_12 : decode cX12_trayFault 12 = .ok (.getfield 72, 3) := by decide +kernel
theorem dX12_trayFault_15 : decode cX12_trayFault 15 = .ok (.iload_n 1, 1) := by decide +kernel
theorem dX12_trayFault_16 : decode cX12_trayFault 16 = .ok (.iaload, 1) := by decide +kernel
theorem dX12_trayFault_17 : decode cX12_trayFault 17 = .ok (.iconst (-1), 1) := by decide +kernel
theorem dX12_trayFault_18 : decode cX12_trayFault 18 = .ok (.if_icmp .ne 7, 3) := by decide +kernel
theorem dX12_trayFault_21 : decode cX12_trayFault 21 = .ok (.iconst 2, 1) := by decide +kernel
theorem dX12_trayFault_22 : decode cX12_trayFault 22 = .ok (.goto 4, 3) := by decide +kernel
theorem dX12_trayFault_25 : decode cX12_trayFault 25 = .ok (.iconst 0, 1) := by decide +kernel
theorem dX12_trayFault_26 : decode cX12_trayFault 26 = .ok (.ireturn, 1) := by decide +kernel
theorem dX12_whyTold_0 : decode cX12_whyTold 0 = .ok (.lload_n 1, 1) := by decide +kernel
theorem dX12_whyTold_1 : decode cX12_whyTold 1 = .ok (.ldc2_w 363, 3) := by decide +kernel
theorem dX12_whyTold_4 : decode cX12_whyTold 4 = .ok (.lcmp, 1) := by decide +kernel
theorem dX12_whyTold_5 : decode cX12_whyTold 5 = .ok (.ifCond .ne 5, 3) := by decide +kernel
theorem dX12_whyTold_8 : decode cX12_whyTold 8 = .ok (.iconst 0, 1) := by decide +kernel
theorem dX12_whyTold_9 : decode cX12_whyTold 9 = .ok (.ireturn, 1) := by decide +kernel
theorem dX12_whyTold_10 : decode cX12_whyTold 10 = .ok (.lload_n 1, 1) := by decide +kernel
theorem dX12_whyTold_11 : decode cX12_whyTold 11 = .ok (.lconst 0, 1) := by decide +kernel
theorem dX12_whyTold_12 : decode cX12_whyTold 12 = .ok (.ldc2_w 341, 3) := by decide +kernel
theorem dX12_whyTold_15 : decode cX12_whyTold 15 = .ok (.invokestatic 143, 3) := by decide +kernel
theorem dX12_whyTold_18 : decode cX12_whyTold 18 = .ok (.ifCond .eq 21, 3) := by decide +kernel
theorem dX12_whyTold_21 : decode cX12_whyTold 21 = .ok (.aload_n 0, 1) := by decide +kernel
theorem dX12_whyTold_22 : decode cX12_whyTold 22 = .ok (.lload_n 1, 1) := by decide +kernel
theorem dX12_whyTold_23 : decode cX12_whyTold 23 = .ok (.ldc2_w 358, 3) := by decide +kernel
theorem dX12_whyTold_26 : decode cX12_whyTold 26 = .ok (.ldiv, 1) := by decide +kernel
theorem dX12_whyTold_27 : decode cX12_whyTold 27 = .ok (.lload_n 1, 1) := by decide +kernel
theorem dX12_whyTold_28 : decode cX12_whyTold 28 = .ok (.ldc2_w 358, 3) := by decide +kernel
theorem dX12_whyTold_31 : decode cX12_whyTold 31 = .ok (.lrem, 1) := by decide +kernel
theorem dX12_whyTold_32 : decode cX12_whyTold 32 = .ok (.ldc2_w 365, 3) := by decide +kernel
theorem dX12_whyTold_35 : decode cX12_whyTold 35 = .ok (.invokevirtual 343, 3) := by decide +kernel
theorem dX12_whyTold_38 : decode cX12_whyTold 38 = .ok (.ireturn, 1) := by decide +kernel
theorem dX12_whyTold_39 : decode cX12_whyTold 39 = .ok (.lload_n 1, 1) := by decide +kernel
theorem dX12_whyTold_40 : decode cX12_whyTold 40 = .ok (.ldc2_w 367, 3) := by decide +kernel
theorem dX12_whyTold_43 : decode cX12_whyTold 43 = .ok (.ldc2_w 369, 3) := by decide +kernel
theorem dX12_whyTold_46 : decode cX12_whyTold 46 = .ok (.invokestatic 143, 3) := by decide +kernel
theorem dX12_whyTold_49 : decode cX12_whyTold 49 = .ok (.ifCond .eq 21, 3) := by decide +kernel
theorem dX12_whyTold_52 : decode cX12_whyTold 52 = .ok (.aload_n 0, 1) := by decide +kernel
theorem dX12_whyTold_53 : decode cX12_whyTold 53 = .ok (.lload_n 1, 1) := by decide +kernel
theorem dX12_whyTold_54 : decode cX12_whyTold 54 = .ok (.ldc2_w 367, 3) := by decide +kernel
theorem dX12_whyTold_57 : decode cX12_whyTold 57 = .ok (.lsub, 1) := by decide +kernel
theorem dX12_whyTold_58 : decode cX12_whyTold 58 = .ok (.invokevirtual 328, 3) := by decide +kernel
theorem dX12_whyTold_61 : decode cX12_whyTold 61 = .ok (.ifCond .eq 7, 3) := by decide +kernel
theorem dX12_whyTold_64 : decode cX12_whyTold 64 = .ok (.iconst 0, 1) := by decide +kernel
theorem dX12_whyTold_65 : decode cX12_whyTold 65 = .ok (.goto 4, 3) := by decide +kernel
theorem dX12_whyTold_68 : decode cX12_whyTold 68 = .ok (.iconst 1, 1) := by decide +kernel
theorem dX12_whyTold_69 : decode cX12_whyTold 69 = .ok (.ireturn, 1) := by decide +kernel
theorem dX12_whyTold_70 : decode cX12_whyTold 70 = .ok (.lload_n 1, 1) := by decide +kernel
theorem dX12_whyTold_71 : decode cX12_whyTold 71 = .ok (.ldc2_w 371, 3) := by decide +kernel
theorem dX12_whyTold_74 : decode cX12_whyTold 74 = .ok (.lcmp, 1) := by decide +kernel
theorem dX12_whyTold_75 : decode cX12_whyTold 75 = .ok (.ifCond .lt 15, 3) := by decide +kernel
theorem dX12_whyTold_78 : decode cX12_whyTold 78 = .ok (.aload_n 0, 1) := by decide +kernel
theorem dX12_whyTold_79 : decode cX12_whyTold 79 = .ok (.lload_n 1, 1) := by decide +kernel
theorem dX12_whyTold_80 : decode cX12_whyTold 80 = .ok (.ldc2_w 371, 3) := by decide +kernel
theorem dX12_whyTold_83 : decode cX12_whyTold 83 = .ok (.lsub, 1) := by decide +kernel
theorem dX12_whyTold_84 : decode cX12_whyTold 84 = .ok (.invokevirtual 350, 3) := by decide +kernel
theorem dX12_whyTold_87 : decode cX12_whyTold 87 = .ok (.goto 4, 3) := by decide +kernel
theorem dX12_whyTold_90 : decode cX12_whyTold 90 = .ok (.iconst 1, 1) := by decide +kernel
theorem dX12_whyTold_91 : decode cX12_whyTold 91 = .ok (.ireturn, 1) := by decide +kernel
theorem dX12_does_0 : decode cX12_does 0 = .ok (.iload_n 1, 1) := by decide +kernel
theorem dX12_does_1 : decode cX12_does 1 = .ok (.iconst (-1), 1) := by decide +kernel
theorem dX12_does_2 : decode cX12_does 2 = .ok (.if_icmp .ne 10, 3) := by decide +kernel
theorem dX12_does_5 : decode cX12_does 5 = .ok (.aload_n 0, 1) := by decide +kernel
theorem dX12_does_6 : decode cX12_does 6 = .ok (.invokevirtual 353, 3) := by decide +kernel
theorem dX12_does_9 : decode cX12_does 9 = .ok (.goto 75, 3) := by decide +kernel
theorem dX12_does_12 : decode cX12_does 12 = .ok (.iload_n 1, 1) := by decide +kernel
theorem dX12_does_13 : decode cX12_does 13 = .ok (.bipush 100, 2) := by decide +kernel
theorem dX12_does_15 : decode cX12_does 15 = .ok (.if_icmp .ge 29, 3) := by decide +kernel
theorem dX12_does_18 : decode cX12_does 18 = .ok (.aload_n 0, 1) := by decide +kernel
theorem dX12_does_19 : decode cX12_does 19 = .ok (.getfield 9, 3) := by decide +kernel
theorem dX12_does_22 : decode cX12_does 22 = .ok (.iload_n 1, 1) := by decide +kernel
theorem dX12_does_23 : decode cX12_does 23 = .ok (.bipush 10, 2) := by decide +kernel
theorem dX12_does_25 : decode cX12_does 25 = .ok (.idiv, 1) := by decide +kernel
theorem dX12_does_26 : decode cX12_does 26 = .ok (.iload_n 1, 1) := by decide +kernel
theorem dX12_does_27 : decode cX12_does 27 = .ok (.bipush 10, 2) := by decide +kernel
theorem dX12_does_29 : decode cX12_does 29 = .ok (.irem, 1) := by decide +kernel
theorem dX12_does_30 : decode cX12_does 30 = .ok (.aload_n 0, 1) := by decide +kernel
theorem dX12_does_31 : decode cX12_does 31 = .ok (.getfield 9, 3) := by decide +kernel
theorem dX12_does_34 : decode cX12_does 34 = .ok (.bipush 47, 2) := by decide +kernel
theorem dX12_does_36 : decode cX12_does 36 = .ok (.iaload, 1) := by decide +kernel
theorem dX12_does_37 : decode cX12_does 37 = .ok (.iconst 5, 1) := by decide +kernel
theorem dX12_does_38 : decode cX12_does 38 = .ok (.invokestatic 233, 3) := by decide +kernel
theorem dX12_does_41 : decode cX12_does 41 = .ok (.goto 43, 3) := by decide +kernel
theorem dX12_does_44 : decode cX12_does 44 = .ok (.iload_n 1, 1) := by decide +kernel
theorem dX12_does_45 : decode cX12_does 45 = .ok (.sipush 200, 3) := by decide +kernel
theorem dX12_does_48 : decode cX12_does 48 = .ok (.if_icmp .ge 22, 3) := by decide +kernel
theorem dX12_does_51 : decode cX12_does 51 = .ok (.aload_n 0, 1) := by decide +kernel
theorem dX12_does_52 : decode cX12_does 52 = .ok (.getfield 9, 3) := by decide +kernel
theorem dX12_does_55 : decode cX12_does 55 = .ok (.bipush 46, 2) := by decide +kernel
theorem dX12_does_57 : decode cX12_does 57 = .ok (.dup2, 1) := by decide +kernel
theorem dX12_does_58 : decode cX12_does 58 = .ok (.iaload, 1) := by decide +kernel
theorem dX12_does_59 : decode cX12_does 59 = .ok (.iconst 1, 1) := by decide +kernel
theorem dX12_does_60 : decode cX12_does 60 = .ok (.iload_n 1, 1) := by decide +kernel
theorem dX12_does_61 : decode cX12_does 61 = .ok (.bipush 100, 2) := by decide +kernel
theorem dX12_does_63 : decode cX12_does 63 = .ok (.isub, 1) := by decide +kernel
theorem dX12_does_64 : decode cX12_does 64 = .ok (.ishl, 1) := by decide +kernel
theorem dX12_does_65 : decode cX12_does 65 = .ok (.ixor, 1) := by decide +kernel
theorem dX12_does_66 : decode cX12_does 66 = .ok (.iastore, 1) := by decide +kernel
theorem dX12_does_67 : decode cX12_does 67 = .ok (.goto 17, 3) := by decide +kernel
theorem dX12_does_70 : decode cX12_does 70 = .ok (.aload_n 0, 1) := by decide +kernel
theorem dX12_does_71 : decode cX12_does 71 = .ok (.getfield 9, 3) := by decide +kernel
theorem dX12_does_74 : decode cX12_does 74 = .ok (.bipush 8, 2) := by decide +kernel
theorem dX12_does_76 : decode cX12_does 76 = .ok (.iload_n 1, 1) := by decide +kernel
theorem dX12_does_77 : decode cX12_does 77 = .ok (.iadd, 1) := by decide +kernel
theorem dX12_does_78 : decode cX12_does 78 = .ok (.sipush 200, 3) := by decide +kernel
theorem dX12_does_81 : decode cX12_does 81 = .ok (.isub, 1) := by decide +kernel
theorem dX12_does_82 : decode cX12_does 82 = .ok (.iconst 2, 1) := by decide +kernel
theorem dX12_does_83 : decode cX12_does 83 = .ok (.iastore, 1) := by decide +kernel
theorem dX12_does_84 : decode cX12_does 84 = .ok (.return_, 1) := by decide +kernel
theorem dX12_callsThat_0 : decode cX12_callsThat 0 = .ok (.iconst 0, 1) := by decide +kernel
theorem dX12_callsThat_1 : decode cX12_callsThat 1 = .ok (.istore_n 2, 1) := by decide +kernel
theorem dX12_callsThat_2 : decode cX12_callsThat 2 = .ok (.iconst 0, 1) := by decide +kernel
theorem dX12_callsThat_3 : decode cX12_callsThat 3 = .ok (.istore_n 3, 1) := by decide +kernel
theorem dX12_callsThat_4 : decode cX12_callsThat 4 = .ok (.iload_n 3, 1) := by decide +kernel
theorem dX12_callsThat_5 : decode cX12_callsThat 5 = .ok (.aload_n 0, 1) := by decide +kernel
theorem dX12_callsThat_6 : decode cX12_callsThat 6 = .ok (.invokevirtual 267, 3) := by decide +kernel
theorem dX12_callsThat_9 : decode cX12_callsThat 9 = .ok (.if_icmp .ge 30, 3) := by decide +kernel
theorem dX12_callsThat_12 : decode cX12_callsThat 12 = .ok (.iload_n 2, 1) := by decide +kernel
theorem dX12_callsThat_13 : decode cX12_callsThat 13 = .ok (.aload_n 0, 1) := by decide +kernel
theorem dX12_callsThat_14 : decode cX12_callsThat 14 = .ok (.getfield 9, 3) := by decide +kernel
theorem dX12_callsThat_17 : decode cX12_callsThat 17 = .ok (.bipush 8, 2) := by decide +kernel
theorem dX12_callsThat_19 : decode cX12_callsThat 19 = .ok (.iload_n 3, 1) := by decide +kernel
theorem dX12_callsThat_20 : decode cX12_callsThat 20 = .ok (.iadd, 1) := by decide +kernel
theorem dX12_callsThat_21 : decode cX12_callsThat 21 = .ok (.iaload, 1) := by decide +kernel
theorem dX12_callsThat_22 : decode cX12_callsThat 22 = .ok (.iload_n 1, 1) := by decide +kernel
theorem dX12_callsThat_23 : decode cX12_callsThat 23 = .ok (.if_icmp .ne 7, 3) := by decide +kernel
theorem dX12_callsThat_26 : decode cX12_callsThat 26 = .ok (.iconst 1, 1) := by decide +kernel
theorem dX12_callsThat_27 : decode cX12_callsThat 27 = .ok (.goto 4, 3) := by decide +kernel
theorem dX12_callsThat_30 : decode cX12_callsThat 30 = .ok (.iconst 0, 1) := by decide +kernel
theorem dX12_callsThat_31 : decode cX12_callsThat 31 = .ok (.iadd, 1) := by decide +kernel
theorem dX12_callsThat_32 : decode cX12_callsThat 32 = .ok (.istore_n 2, 1) := by decide +kernel
theorem dX12_callsThat_33 : decode cX12_callsThat 33 = .ok (.iinc 3 1, 3) := by decide +kernel
theorem dX12_callsThat_36 : decode cX12_callsThat 36 = .ok (.goto (-32), 3) := by decide +kernel
theorem dX12_callsThat_39 : decode cX12_callsThat 39 = .ok (.iload_n 2, 1) := by decide +kernel
theorem dX12_callsThat_40 : decode cX12_callsThat 40 = .ok (.ireturn, 1) := by decide +kernel
theorem dX12_twosWed_0 : decode cX12_twosWed 0 = .ok (.iconst 0, 1) := by decide +kernel
theorem dX12_twosWed_1 : decode cX12_twosWed 1 = .ok (.istore_n 1, 1) := by decide +kernel
theorem dX12_twosWed_2 : decode cX12_twosWed 2 = .ok (.iconst 0, 1) := by decide +kernel
theorem dX12_twosWed_3 : decode cX12_twosWed 3 = .ok (.istore_n 2, 1) := by decide +kernel
theorem dX12_twosWed_4 : decode cX12_twosWed 4 = .ok (.iload_n 2, 1) := by decide +kernel
theorem dX12_twosWed_5 : decode cX12_twosWed 5 = .ok (.aload_n 0, 1) := by decide +kernel
theorem dX12_twosWed_6 : decode cX12_twosWed 6 = .ok (.getfield 9, 3) := by decide +kernel
theorem dX12_twosWed_9 : decode cX12_twosWed 9 = .ok (.iconst 1, 1) := by decide +kernel
theorem dX12_twosWed_10 : decode cX12_twosWed 10 = .ok (.iaload, 1) := by decide +kernel
theorem dX12_twosWed_11 : decode cX12_twosWed 11 = .ok (.if_icmp .ge 30, 3) := by decide +kernel
theorem dX12_twosWed_14 : decode cX12_twosWed 14 = .ok (.iload_n 1, 1) := by decide +kernel
theorem dX12_twosWed_15 : decode cX12_twosWed 15 = .ok (.aload_n 0, 1) := by decide +kernel
theorem dX12_twosWed_16 : decode cX12_twosWed 16 = .ok (.getfield 9, 3) := by decide +kernel
theorem dX12_twosWed_19 : decode cX12_twosWed 19 = .ok (.bipush 38, 2) := by decide +kernel
theorem dX12_twosWed_21 : decode cX12_twosWed 21 = .ok (.iload_n 2, 1) := by decide +kernel
theorem dX12_twosWed_22 : decode cX12_twosWed 22 = .ok (.iadd, 1) := by decide +kernel
theorem dX12_twosWed_23 : decode cX12_twosWed 23 = .ok (.iaload, 1) := by decide +kernel
theorem dX12_twosWed_24 : decode cX12_twosWed 24 = .ok (.iload_n 2, 1) := by decide +kernel
theorem dX12_twosWed_25 : decode cX12_twosWed 25 = .ok (.if_icmp .le 7, 3) := by decide +kernel
theorem dX12_twosWed_28 : decode cX12_twosWed 28 = .ok (.iconst 1, 1) := by decide +kernel
theorem dX12_twosWed_29 : decode cX12_twosWed 29 = .ok (.goto 4, 3) := by decide +kernel
theorem dX12_twosWed_32 : decode cX12_twosWed 32 = .ok (.iconst 0, 1) := by decide +kernel
theorem dX12_twosWed_33 : decode cX12_twosWed 33 = .ok (.iadd, 1) := by decide +kernel
theorem dX12_twosWed_34 : decode cX12_twosWed 34 = .ok (.istore_n 1, 1) := by decide +kernel
theorem dX12_twosWed_35 : decode cX12_twosWed 35 = .ok (.iinc 2 1, 3) := by decide +kernel
theorem dX12_twosWed_38 : decode cX12_twosWed 38 = .ok (.goto (-34), 3) := by decide +kernel
theorem dX12_twosWed_41 : decode cX12_twosWed 41 = .ok (.iload_n 1, 1) := by decide +kernel
theorem dX12_twosWed_42 : decode cX12_twosWed 42 = .ok (.ireturn, 1) := by decide +kernel
theorem dX12_judge_0 : decode cX12_judge 0 = .ok (.aload_n 0, 1) := by decide +kernel
theorem dX12_judge_1 : decode cX12_judge 1 = .ok (.aload_n 0, 1) := by decide +kernel
theorem dX12_judge_2 : decode cX12_judge 2 = .ok (.iload_n 1, 1) := by decide +kernel
theorem dX12_judge_3 : decode cX12_judge 3 = .ok (.invokevirtual 373, 3) := by decide +kernel
theorem dX12_judge_6 : decode cX12_judge 6 = .ok (.putfield 82, 3) := by decide +kernel
theorem dX12_judge_9 : decode cX12_judge 9 = .ok (.aload_n 0, 1) := by decide +kernel
theorem dX12_judge_10 : decode cX12_judge 10 = .ok (.getfield 82, 3) := by decide +kernel
theorem dX12_judge_13 : decode cX12_judge 13 = .ok (.ifCond .ne 20, 3) := by decide +kernel
theorem dX12_judge_16 : decode cX12_judge 16 = .ok (.iload_n 2, 1) := by decide +kernel
theorem dX12_judge_17 : decode cX12_judge 17 = .ok (.i2l, 1) := by decide +kernel
theorem dX12_judge_18 : decode cX12_judge 18 = .ok (.lconst 0, 1) := by decide +kernel
theorem dX12_judge_19 : decode cX12_judge 19 = .ok (.ldc2_w 376, 3) := by decide +kernel
theorem dX12_judge_22 : decode cX12_judge 22 = .ok (.invokestatic 143, 3) := by decide +kernel
theorem dX12_judge_25 : decode cX12_judge 25 = .ok (.ifCond .ne 8, 3) := by decide +kernel
theorem dX12_judge_28 : decode cX12_judge 28 = .ok (.aload_n 0, 1) := by decide +kernel
theorem dX12_judge_29 : decode cX12_judge 29 = .ok (.iconst 3, 1) := by decide +kernel
theorem dX12_judge_30 : decode cX12_judge 30 = .ok (.putfield 82, 3) := by decide +kernel
theorem dX12_judge_33 : decode cX12_judge 33 = .ok (.aload_n 0, 1) := by decide +kernel
theorem dX12_judge_34 : decode cX12_judge 34 = .ok (.getfield 82, 3) := by decide +kernel
theorem dX12_judge_37 : decode cX12_judge 37 = .ok (.ifCond .le 5, 3) := by decide +kernel
theorem dX12_judge_40 : decode cX12_judge 40 = .ok (.iconst 0, 1) := by decide +kernel
theorem dX12_judge_41 : decode cX12_judge 41 = .ok (.ireturn, 1) := by decide +kernel
theorem dX12_judge_42 : decode cX12_judge 42 = .ok (.aload_n 0, 1) := by decide +kernel
theorem dX12_judge_43 : decode cX12_judge 43 = .ok (.invokevirtual 378, 3) := by decide +kernel
theorem dX12_judge_46 : decode cX12_judge 46 = .ok (.iconst 0, 1) := by decide +kernel
theorem dX12_judge_47 : decode cX12_judge 47 = .ok (.istore_n 3, 1) := by decide +kernel
theorem dX12_judge_48 : decode cX12_judge 48 = .ok (.iload_n 3, 1) := by decide +kernel
theorem dX12_judge_49 : decode cX12_judge 49 = .ok (.bipush 40, 2) := by decide +kernel
theorem dX12_judge_51 : decode cX12_judge 51 = .ok (.if_icmp .ge 24, 3) := by decide +kernel
theorem dX12_judge_54 : decode cX12_judge 54 = .ok (.aload_n 0, 1) := by decide +kernel
theorem dX12_judge_55 : decode cX12_judge 55 = .ok (.getfield 42, 3) := by decide +kernel
theorem dX12_judge_58 : decode cX12_judge 58 = .ok (.iload_n 3, 1) := by decide +kernel
theorem dX12_judge_59 : decode cX12_judge 59 = .ok (.aload_n 0, 1) := by decide +kernel
theorem dX12_judge_60 : decode cX12_judge 60 = .ok (.getfield 9, 3) := by decide +kernel
theorem dX12_judge_63 : decode cX12_judge 63 = .ok (.bipush 51, 2) := by decide +kernel
theorem dX12_judge_65 : decode cX12_judge 65 = .ok (.iload_n 3, 1) := by decide +kernel
theorem dX12_judge_66 : decode cX12_judge 66 = .ok (.iadd, 1) := by decide +kernel
theorem dX12_judge_67 : decode cX12_judge 67 = .ok (.iaload, 1) := by decide +kernel
theorem dX12_judge_68 : decode cX12_judge 68 = .ok (.iastore, 1) := by decide +kernel
theorem dX12_judge_69 : decode cX12_judge 69 = .ok (.iinc 3 1, 3) := by decide +kernel
theorem dX12_judge_72 : decode cX12_judge 72 = .ok (.goto (-24), 3) := by decide +kernel
theorem dX12_judge_75 : decode cX12_judge 75 = .ok (.iconst (-1), 1) := by decide +kernel
theorem dX12_judge_76 : decode cX12_judge 76 = .ok (.istore_n 3, 1) := by decide +kernel
theorem dX12_judge_77 : decode cX12_judge 77 = .ok (.iconst 0, 1) := by decide +kernel
theorem dX12_judge_78 : decode cX12_judge 78 = .ok (.istore 4, 2) := by decide +kernel
theorem dX12_judge_80 : decode cX12_judge 80 = .ok (.iconst 0, 1) := by decide +kernel
theorem dX12_judge_81 : decode cX12_judge 81 = .ok (.istore 5, 2) := by decide +kernel
theorem dX12_judge_83 : decode cX12_judge 83 = .ok (.iload 5, 2) := by decide +kernel
theorem dX12_judge_85 : decode cX12_judge 85 = .ok (.aload_n 0, 1) := by decide +kernel
theorem dX12_judge_86 : decode cX12_judge 86 = .ok (.getfield 75, 3) := by decide +kernel
theorem dX12_judge_89 : decode cX12_judge 89 = .ok (.iload_n 1, 1) := by decide +kernel
theorem dX12_judge_90 : decode cX12_judge 90 = .ok (.iaload, 1) := by decide +kernel
theorem dX12_judge_91 : decode cX12_judge 91 = .ok (.if_icmp .ge 60, 3) := by decide +kernel
theorem dX12_judge_94 : decode cX12_judge 94 = .ok (.iload_n 3, 1) := by decide +kernel
theorem dX12_judge_95 : decode cX12_judge 95 = .ok (.iconst (-1), 1) := by decide +kernel
theorem dX12_judge_96 : decode cX12_judge 96 = .ok (.if_icmp .ne 55, 3) := by decide +kernel
theorem dX12_judge_99 : decode cX12_judge 99 = .ok (.aload_n 0, 1) := by decide +kernel
theorem dX12_judge_100 : decode cX12_judge 100 = .ok (.aload_n 0, 1) := by decide +kernel
theorem dX12_judge_101 : decode cX12_judge 101 = .ok (.getfield 78, 3) := by decide +kernel
theorem dX12_judge_104 : decode cX12_judge 104 = .ok (.bipush 30, 2) := by decide +kernel
theorem dX12_judge_106 : decode cX12_judge 106 = .ok (.iload_n 1, 1) := by decide +kernel
theorem dX12_judge_107 : decode cX12_judge 107 = .ok (.imul, 1) := by decide +kernel
theorem dX12_judge_108 : decode cX12_judge 108 = .ok (.iload 5, 2) := by decide +kernel
theorem dX12_judge_110 : decode cX12_judge 110 = .ok (.iadd, 1) := by decide +kernel
theorem dX12_judge_111 : decode cX12_judge 111 = .ok (.laload, 1) := by decide +kernel
theorem dX12_judge_112 : decode cX12_judge 112 = .ok (.invokevirtual 381, 3) := by decide +kernel
theorem dX12_judge_115 : decode cX12_judge 115 = .ok (.istore 4, 2) := by decide +kernel
theorem dX12_judge_117 : decode cX12_judge 117 = .ok (.iload 4, 2) := by decide +kernel
theorem dX12_judge_119 : decode cX12_judge 119 = .ok (.ifCond .ne 23, 3) := by decide +kernel
theorem dX12_judge_122 : decode cX12_judge 122 = .ok (.aload_n 0, 1) := by decide +kernel
theorem dX12_judge_123 : decode cX12_judge 123 = .ok (.aload_n 0, 1) := by decide +kernel
theorem dX12_judge_124 : decode cX12_judge 124 = .ok (.getfield 78, 3) := by decide +kernel
theorem dX12_judge_127 : decode cX12_judge 127 = .ok (.bipush 30, 2) := by decide +kernel
theorem dX12_judge_129 : decode cX12_judge 129 = .ok (.iload_n 1, 1) := by decide +kernel
theorem dX12_judge_130 : decode cX12_judge 130 = .ok (.imul, 1) := by decide +kernel
theorem dX12_judge_131 : decode cX12_judge 131 = .ok (.iload 5, 2) := by decide +kernel
theorem dX12_judge_133 : decode cX12_judge 133 = .ok (.iadd, 1) := by decide +kernel
theorem dX12_judge_134 : decode cX12_judge 134 = .ok (.laload, 1) := by decide +kernel
theorem dX12_judge_135 : decode cX12_judge 135 = .ok (.l2i, 1) := by decide +kernel
theorem dX12_judge_136 : decode cX12_judge 136 = .ok (.invokevirtual 384, 3) := by decide +kernel
theorem dX12_judge_139 : decode cX12_judge 139 = .ok (.goto 6, 3) := by decide +kernel
theorem dX12_judge_142 : decode cX12_judge 142 = .ok (.iload 5, 2) := by decide +kernel
theorem dX12_judge_144 : decode cX12_judge 144 = .ok (.istore_n 3, 1) := by decide +kernel
theorem dX12_judge_145 : decode cX12_judge 145 = .ok (.iinc 5 1, 3) := by decide +kernel
theorem dX12_judge_148 : decode cX12_judge 148 = .ok (.goto (-65), 3) := by decide +kernel
theorem dX12_judge_151 : decode cX12_judge 151 = .ok (.aload_n 0, 1) := by decide +kernel
theorem dX12_judge_152 : decode cX12_judge 152 = .ok (.iconst 3, 1) := by decide +kernel
theorem dX12_judge_153 : decode cX12_judge 153 = .ok (.invokevirtual 387, 3) := by decide +kernel
theorem dX12_judge_156 : decode cX12_judge 156 = .ok (.istore 5, 2) := by decide +kernel
theorem dX12_judge_158 : decode cX12_judge 158 = .ok (.aload_n 0, 1) := by decide +kernel
theorem dX12_judge_159 : decode cX12_judge 159 = .ok (.invokevirtual 390, 3) := by decide +kernel
theorem dX12_judge_162 : decode cX12_judge 162 = .ok (.istore 6, 2) := by decide +kernel
theorem dX12_judge_164 : decode cX12_judge 164 = .ok (.aload_n 0, 1) := by decide +kernel
theorem dX12_judge_165 : decode cX12_judge 165 = .ok (.invokevirtual 393, 3) := by decide +kernel
theorem dX12_judge_168 : decode cX12_judge 168 = .ok (.iconst 0, 1) := by decide +kernel
theorem dX12_judge_169 : decode cX12_judge 169 = .ok (.istore 7, 2) := by decide +kernel
theorem dX12_judge_171 : decode cX12_judge 171 = .ok (.iload 7, 2) := by decide +kernel
theorem dX12_judge_173 : decode cX12_judge 173 = .ok (.bipush 40, 2) := by decide +kernel
theorem dX12_judge_175 : decode cX12_judge 175 = .ok (.if_icmp .ge 26, 3) := by decide +kernel
theorem dX12_judge_178 : decode cX12_judge 178 = .ok (.aload_n 0, 1) := by decide +kernel
theorem dX12_judge_179 : decode cX12_judge 179 = .ok (.getfield 9, 3) := by decide +kernel
theorem dX12_judge_182 : decode cX12_judge 182 = .ok (.bipush 51, 2) := by decide +kernel
theorem dX12_judge_184 : decode cX12_judge 184 = .ok (.iload 7, 2) := by decide +kernel
theorem dX12_judge_186 : decode cX12_judge 186 = .ok (.iadd, 1) := by decide +kernel
theorem dX12_judge_187 : decode cX12_judge 187 = .ok (.aload_n 0, 1) := by decide +kernel
theorem dX12_judge_188 : decode cX12_judge 188 = .ok (.getfield 42, 3) := by decide +kernel
theorem dX12_judge_191 : decode cX12_judge 191 = .ok (.iload 7, 2) := by decide +kernel
theorem dX12_judge_193 : decode cX12_judge 193 = .ok (.iaload, 1) := by decide +kernel
theorem dX12_judge_194 : decode cX12_judge 194 = .ok (.iastore, 1) := by decide +kernel
theorem dX12_judge_195 : decode cX12_judge 195 = .ok (.iinc 7 1, 3) := by decide +kernel
theorem dX12_judge_198 : decode cX12_judge 198 = .ok (.goto (-27), 3) := by decide +kernel
theorem dX12_judge_201 : decode cX12_judge 201 = .ok (.iload_n 2, 1) := by decide +kernel
theorem dX12_judge_202 : decode cX12_judge 202 = .ok (.ifCond .ne 7, 3) := by decide +kernel
theorem dX12_judge_205 : decode cX12_judge 205 = .ok (.iload_n 3, 1) := by decide +kernel
theorem dX12_judge_206 : decode cX12_judge 206 = .ok (.goto 25, 3) := by decide +kernel
theorem dX12_judge_209 : decode cX12_judge 209 = .ok (.iload_n 2, 1) := by decide +kernel
theorem dX12_judge_210 : decode cX12_judge 210 = .ok (.iconst 1, 1) := by decide +kernel
theorem dX12_judge_211 : decode cX12_judge 211 = .ok (.if_icmp .ne 8, 3) := by decide +kernel
theorem dX12_judge_214 : decode cX12_judge 214 = .ok (.iload 4, 2) := by decide +kernel
theorem dX12_judge_216 : decode cX12_judge 216 = .ok (.goto 15, 3) := by decide +kernel
theorem dX12_judge_219 : decode cX12_judge 219 = .ok (.iload_n 2, 1) := by decide +kernel
theorem dX12_judge_220 : decode cX12_judge 220 = .ok (.iconst 2, 1) := by decide +kernel
theorem dX12_judge_221 : decode cX12_judge 221 = .ok (.if_icmp .ne 8, 3) := by decide +kernel
theorem dX12_judge_224 : decode cX12_judge 224 = .ok (.iload 5, 2) := by decide +kernel
theorem dX12_judge_226 : decode cX12_judge 226 = .ok (.goto 5, 3) := by decide +kernel
theorem dX12_judge_229 : decode cX12_judge 229 = .ok (.iload 6, 2) := by decide +kernel
theorem dX12_judge_231 : decode cX12_judge 231 = .ok (.ireturn, 1) := by decide +kernel
theorem dX12_perform_0 : decode cX12_perform 0 = .ok (.aload_n 0, 1) := by decide +kernel
theorem dX12_perform_1 : decode cX12_perform 1 = .ok (.aload_n 0, 1) := by decide +kernel
theorem dX12_perform_2 : decode cX12_perform 2 = .ok (.iload_n 1, 1) := by decide +kernel
theorem dX12_perform_3 : decode cX12_perform 3 = .ok (.invokevirtual 373, 3) := by decide +kernel
theorem dX12_perform_6 : decode cX12_perform 6 = .ok (.putfield 82, 3) := by decide +kernel
theorem dX12_perform_9 : decode cX12_perform 9 = .ok (.aload_n 0, 1) := by decide +kernel
theorem dX12_perform_10 : decode cX12_perform 10 = .ok (.getfield 82, 3) := by decide +kernel
theorem dX12_perform_13 : decode cX12_perform 13 = .ok (.ifCond .le 5, 3) := by decide +kernel
theorem dX12_perform_16 : decode cX12_perform 16 = .ok (.iconst 0, 1) := by decide +kernel
theorem dX12_perform_17 : decode cX12_perform 17 = .ok (.ireturn, 1) := by decide +kernel
theorem dX12_perform_18 : decode cX12_perform 18 = .ok (.iconst 0, 1) := by decide +kernel
theorem dX12_perform_19 : decode cX12_perform 19 = .ok (.istore_n 2, 1) := by decide +kernel
theorem dX12_perform_20 : decode cX12_perform 20 = .ok (.iload_n 2, 1) := by decide +kernel
theorem dX12_perform_21 : decode cX12_perform 21 = .ok (.aload_n 0, 1) := by decide +kernel
theorem dX12_perform_22 : decode cX12_perform 22 = .ok (.getfield 75, 3) := by decide +kernel
theorem dX12_perform_25 : decode cX12_perform 25 = .ok (.iload_n 1, 1) := by decide +kernel
theorem dX12_perform_26 : decode cX12_perform 26 = .ok (.iaload, 1) := by decide +kernel
theorem dX12_perform_27 : decode cX12_perform 27 = .ok (.if_icmp .ge 47, 3) := by decide +kernel
theorem dX12_perform_30 : decode cX12_perform 30 = .ok (.aload_n 0, 1) := by decide +kernel
theorem dX12_perform_31 : decode cX12_perform 31 = .ok (.aload_n 0, 1) := by decide +kernel
theorem dX12_perform_32 : decode cX12_perform 32 = .ok (.getfield 78, 3) := by decide +kernel
theorem dX12_perform_35 : decode cX12_perform 35 = .ok (.bipush 30, 2) := by decide +kernel
theorem dX12_perform_37 : decode cX12_perform 37 = .ok (.iload_n 1, 1) := by decide +kernel
theorem dX12_perform_38 : decode cX12_perform 38 = .ok (.imul, 1) := by decide +kernel
theorem dX12_perform_39 : decode cX12_perform 39 = .ok (.iload_n 2, 1) := by decide +kernel
theorem dX12_perform_40 : decode cX12_perform 40 = .ok (.iadd, 1) := by decide +kernel
theorem dX12_perform_41 : decode cX12_perform 41 = .ok (.laload, 1) := by decide +kernel
theorem dX12_perform_42 : decode cX12_perform 42 = .ok (.invokevirtual 381, 3) := by decide +kernel
theorem dX12_perform_45 : decode cX12_perform 45 = .ok (.ifCond .ne 29, 3) := by decide +kernel
theorem dX12_perform_48 : decode cX12_perform 48 = .ok (.aload_n 0, 1) := by decide +kernel
theorem dX12_perform_49 : decode cX12_perform 49 = .ok (.invokevirtual 347, 3) := by decide +kernel
theorem dX12_perform_52 : decode cX12_perform 52 = .ok (.aload_n 0, 1) := by decide +kernel
theorem dX12_perform_53 : decode cX12_perform 53 = .ok (.aload_n 0, 1) := by decide +kernel
theorem dX12_perform_54 : decode cX12_perform 54 = .ok (.getfield 78, 3) := by decide +kernel
theorem dX12_perform_57 : decode cX12_perform 57 = .ok (.bipush 30, 2) := by decide +kernel
theorem dX12_perform_59 : decode cX12_perform 59 = .ok (.iload_n 1, 1) := by decide +kernel
theorem dX12_perform_60 : decode cX12_perform 60 = .ok (.imul, 1) := by decide +kernel
theorem dX12_perform_61 : decode cX12_perform 61 = .ok (.iload_n 2, 1) := by decide +kernel
theorem dX12_perform_62 : decode cX12_perform 62 = .ok (.iadd, 1) := by decide +kernel
theorem dX12_perform_63 : decode cX12_perform 63 = .ok (.laload, 1) := by decide +kernel
theorem dX12_perform_64 : decode cX12_perform 64 = .ok (.l2i, 1) := by decide +kernel
theorem dX12_perform_65 : decode cX12_perform 65 = .ok (.invokevirtual 384, 3) := by decide +kernel
theorem dX12_perform_68 : decode cX12_perform 68 = .ok (.iinc 2 1, 3) := by decide +kernel
theorem dX12_perform_71 : decode cX12_perform 71 = .ok (.goto (-51), 3) := by decide +kernel
theorem dX12_perform_74 : decode cX12_perform 74 = .ok (.iload_n 2, 1) := by decide +kernel
theorem dX12_perform_75 : decode cX12_perform 75 = .ok (.ireturn, 1) := by decide +kernel
theorem dX12_draw_0 : decode cX12_draw 0 = .ok (.aload_n 0, 1) := by decide +kernel
theorem dX12_draw_1 : decode cX12_draw 1 = .ok (.ldc_w 396, 3) := by decide +kernel
theorem dX12_draw_4 : decode cX12_draw 4 = .ok (.aload_n 0, 1) := by decide +kernel
theorem dX12_draw_5 : decode cX12_draw 5 = .ok (.getfield 397, 3) := by decide +kernel
theorem dX12_draw_8 : decode cX12_draw 8 = .ok (.imul, 1) := by decide +kernel
theorem dX12_draw_9 : decode cX12_draw 9 = .ok (.sipush 12345, 3) := by decide +kernel
theorem dX12_draw_12 : decode cX12_draw 12 = .ok (.iadd, 1) := by decide +kernel
theorem dX12_draw_13 : decode cX12_draw 13 = .ok (.putfield 397, 3) := by decide +kernel
theorem dX12_draw_16 : decode cX12_draw 16 = .ok (.aload_n 0, 1) := by decide +kernel
theorem dX12_draw_17 : decode cX12_draw 17 = .ok (.getfield 397, 3) := by decide +kernel
theorem dX12_draw_20 : decode cX12_draw 20 = .ok (.bipush 16, 2) := by decide +kernel
theorem dX12_draw_22 : decode cX12_draw 22 = .ok (.iushr, 1) := by decide +kernel
theorem dX12_draw_23 : decode cX12_draw 23 = .ok (.iload_n 1, 1) := by decide +kernel
theorem dX12_draw_24 : decode cX12_draw 24 = .ok (.irem, 1) := by decide +kernel
theorem dX12_draw_25 : decode cX12_draw 25 = .ok (.ireturn, 1) := by decide +kernel
theorem dX12_spring_0 : decode cX12_spring 0 = .ok (.aload_n 0, 1) := by decide +kernel
theorem dX12_spring_1 : decode cX12_spring 1 = .ok (.iconst 0, 1) := by decide +kernel
theorem dX12_spring_2 : decode cX12_spring 2 = .ok (.putfield 82, 3) := by decide +kernel
theorem dX12_spring_5 : decode cX12_spring 5 = .ok (.iload_n 2, 1) := by decide +kernel
theorem dX12_spring_6 : decode cX12_spring 6 = .ok (.i2l, 1) := by decide +kernel
theorem dX12_spring_7 : decode cX12_spring 7 = .ok (.lconst 1, 1) := by decide +kernel
theorem dX12_spring_8 : decode cX12_spring 8 = .ok (.ldc2_w 400, 3) := by decide +kernel
theorem dX12_spring_11 : decode cX12_spring 11 = .ok (.invokestatic 143, 3) := by decide +kernel
theorem dX12_spring_14 : decode cX12_spring 14 = .ok (.ifCond .ne 9, 3) := by decide +kernel
theorem dX12_spring_17 : decode cX12_spring 17 = .ok (.aload_n 0, 1) := by decide +kernel
theorem dX12_spring_18 : decode cX12_spring 18 = .ok (.iconst 1, 1) := by decide +kernel
theorem dX12_spring_19 : decode cX12_spring 19 = .ok (.invokevirtual 256, 3) := by decide +kernel
theorem dX12_spring_22 : decode cX12_spring 22 = .ok (.ireturn, 1) := by decide +kernel
theorem dX12_spring_23 : decode cX12_spring 23 = .ok (.aload_n 0, 1) := by decide +kernel
theorem dX12_spring_24 : decode cX12_spring 24 = .ok (.iload_n 1, 1) := by decide +kernel
theorem dX12_spring_25 : decode cX12_spring 25 = .ok (.putfield 397, 3) := by decide +kernel
theorem dX12_spring_28 : decode cX12_spring 28 = .ok (.iconst 0, 1) := by decide +kernel
theorem dX12_spring_29 : decode cX12_spring 29 = .ok (.istore_n 3, 1) := by decide +kernel
theorem dX12_spring_30 : decode cX12_spring 30 = .ok (.iconst 0, 1) := by decide +kernel
theorem dX12_spring_31 : decode cX12_spring 31 = .ok (.istore 4, 2) := by decide +kernel
theorem dX12_spring_33 : decode cX12_spring 33 = .ok (.iload 4, 2) := by decide +kernel
theorem dX12_spring_35 : decode cX12_spring 35 = .ok (.iload_n 2, 1) := by decide +kernel
theorem dX12_spring_36 : decode cX12_spring 36 = .ok (.if_icmp .ge 60, 3) := by decide +kernel
theorem dX12_spring_39 : decode cX12_spring 39 = .ok (.aload_n 0, 1) := by decide +kernel
theorem dX12_spring_40 : decode cX12_spring 40 = .ok (.iconst 5, 1) := by decide +kernel
theorem dX12_spring_41 : decode cX12_spring 41 = .ok (.invokevirtual 402, 3) := by decide +kernel
theorem dX12_spring_44 : decode cX12_spring 44 = .ok (.istore 5, 2) := by decide +kernel
theorem dX12_spring_46 : decode cX12_spring 46 = .ok (.iload 5, 2) := by decide +kernel
theorem dX12_spring_48 : decode cX12_spring 48 = .ok (.iconst 2, 1) := by decide +kernel
theorem dX12_spring_49 : decode cX12_spring 49 = .ok (.if_icmp .ge 7, 3) := by decide +kernel
theorem dX12_spring_52 : decode cX12_spring 52 = .ok (.iconst (-1), 1) := by decide +kernel
theorem dX12_spring_53 : decode cX12_spring 53 = .ok (.goto 9, 3) := by decide +kernel
theorem dX12_spring_56 : decode cX12_spring 56 = .ok (.aload_n 0, 1) := by decide +kernel
theorem dX12_spring_57 : decode cX12_spring 57 = .ok (.iload 5, 2) := by decide +kernel
theorem dX12_spring_59 : decode cX12_spring 59 = .ok (.invokevirtual 405, 3) := by decide +kernel
theorem dX12_spring_62 : decode cX12_spring 62 = .ok (.istore 6, 2) := by decide +kernel
theorem dX12_spring_64 : decode cX12_spring 64 = .ok (.aload_n 0, 1) := by decide +kernel
theorem dX12_spring_65 : decode cX12_spring 65 = .ok (.iload 6, 2) := by decide +kernel
theorem dX12_spring_67 : decode cX12_spring 67 = .ok (.i2l, 1) := by decide +kernel
theorem dX12_spring_68 : decode cX12_spring 68 = .ok (.invokevirtual 381, 3) := by decide +kernel
theorem dX12_spring_71 : decode cX12_spring 71 = .ok (.ifCond .eq 6, 3) := by decide +kernel
theorem dX12_spring_74 : decode cX12_spring 74 = .ok (.goto 16, 3) := by decide +kernel
theorem dX12_spring_77 : decode cX12_spring 77 = .ok (.aload_n 0, 1) := by decide +kernel
theorem dX12_spring_78 : decode cX12_spring 78 = .ok (.invokevirtual 347, 3) := by decide +kernel
theorem dX12_spring_81 : decode cX12_spring 81 = .ok (.aload_n 0, 1) := by decide +kernel
theorem dX12_spring_82 : decode cX12_spring 82 = .ok (.iload 6, 2) := by decide +kernel
theorem dX12_spring_84 : decode cX12_spring 84 = .ok (.invokevirtual 384, 3) := by decide +kernel
theorem dX12_spring_87 : decode cX12_spring 87 = .ok (.iinc 3 1, 3) := by decide +kernel
theorem dX12_spring_90 : decode cX12_spring 90 = .ok (.iinc 4 1, 3) := by decide +kernel
theorem dX12_spring_93 : decode cX12_spring 93 = .ok (.goto (-60), 3) := by decide +kernel
theorem dX12_spring_96 : decode cX12_spring 96 = .ok (.iload_n 3, 1) := by decide +kernel
theorem dX12_spring_97 : decode cX12_spring 97 = .ok (.ireturn, 1) := by decide +kernel
theorem dX12_drawn_0 : decode cX12_drawn 0 = .ok (.iload_n 1, 1) := by decide +kernel
theorem dX12_drawn_1 : decode cX12_drawn 1 = .ok (.iconst 4, 1) := by decide +kernel
theorem dX12_drawn_2 : decode cX12_drawn 2 = .ok (.if_icmp .ne 14, 3) := by decide +kernel
theorem dX12_drawn_5 : decode cX12_drawn 5 = .ok (.sipush 200, 3) := by decide +kernel
theorem dX12_drawn_8 : decode cX12_drawn 8 = .ok (.aload_n 0, 1) := by decide +kernel
theorem dX12_drawn_9 : decode cX12_drawn 9 = .ok (.bipush 10, 2) := by decide +kernel
theorem dX12_drawn_11 : decode cX12_drawn 11 = .ok (.invokevirtual 402, 3) := by decide +kernel
theorem dX12_drawn_14 : decode cX12_drawn 14 = .ok (.iadd, 1) := by decide +kernel
theorem dX12_drawn_15 : decode cX12_drawn 15 = .ok (.ireturn, 1) := by decide +kernel
theorem dX12_drawn_16 : decode cX12_drawn 16 = .ok (.aload_n 0, 1) := by decide +kernel
theorem dX12_drawn_17 : decode cX12_drawn 17 = .ok (.aload_n 0, 1) := by decide +kernel
theorem dX12_drawn_18 : decode cX12_drawn 18 = .ok (.getfield 9, 3) := by decide +kernel
theorem dX12_drawn_21 : decode cX12_drawn 21 = .ok (.iconst 1, 1) := by decide +kernel
theorem dX12_drawn_22 : decode cX12_drawn 22 = .ok (.iaload, 1) := by decide +kernel
theorem dX12_drawn_23 : decode cX12_drawn 23 = .ok (.invokevirtual 402, 3) := by decide +kernel
theorem dX12_drawn_26 : decode cX12_drawn 26 = .ok (.istore_n 2, 1) := by decide +kernel
theorem dX12_drawn_27 : decode cX12_drawn 27 = .ok (.iload_n 1, 1) := by decide +kernel
theorem dX12_drawn_28 : decode cX12_drawn 28 = .ok (.iconst 3, 1) := by decide +kernel
theorem dX12_drawn_29 : decode cX12_drawn 29 = .ok (.if_icmp .ne 10, 3) := by decide +kernel
theorem dX12_drawn_32 : decode cX12_drawn 32 = .ok (.bipush 100, 2) := by decide +kernel
theorem dX12_drawn_34 : decode cX12_drawn 34 = .ok (.iload_n 2, 1) := by decide +kernel
theorem dX12_drawn_35 : decode cX12_drawn 35 = .ok (.iadd, 1) := by decide +kernel
theorem dX12_drawn_36 : decode cX12_drawn 36 = .ok (.goto 18, 3) := by decide +kernel
theorem dX12_drawn_39 : decode cX12_drawn 39 = .ok (.bipush 10, 2) := by decide +kernel
theorem dX12_drawn_41 : decode cX12_drawn 41 = .ok (.iload_n 2, 1) := by decide +kernel
theorem dX12_drawn_42 : decode cX12_drawn 42 = .ok (.imul, 1) := by decide +kernel
theorem dX12_drawn_43 : decode cX12_drawn 43 = .ok (.aload_n 0, 1) := by decide +kernel
theorem dX12_drawn_44 : decode cX12_drawn 44 = .ok (.aload_n 0, 1) := by decide +kernel
theorem dX12_drawn_45 : decode cX12_drawn 45 = .ok (.getfield 9, 3) := by decide +kernel
theorem dX12_drawn_48 : decode cX12_drawn 48 = .ok (.iconst 1, 1) := by decide +kernel
theorem dX12_drawn_49 : decode cX12_drawn 49 = .ok (.iaload, 1) := by decide +kernel
theorem dX12_drawn_50 : decode cX12_drawn 50 = .ok (.invokevirtual 402, 3) := by decide +kernel
theorem dX12_drawn_53 : decode cX12_drawn 53 = .ok (.iadd, 1) := by decide +kernel
theorem dX12_drawn_54 : decode cX12_drawn 54 = .ok (.ireturn, 1) := by decide +kernel
theorem dX12_isSoon_0 : decode cX12_isSoon 0 = .ok (.iload_n 0, 1) := by decide +kernel
theorem dX12_isSoon_1 : decode cX12_isSoon 1 = .ok (.i2l, 1) := by decide +kernel
theorem dX12_isSoon_2 : decode cX12_isSoon 2 = .ok (.lconst 1, 1) := by decide +kernel
theorem dX12_isSoon_3 : decode cX12_isSoon 3 = .ok (.ldc2_w 339, 3) := by decide +kernel
theorem dX12_isSoon_6 : decode cX12_isSoon 6 = .ok (.invokestatic 143, 3) := by decide +kernel
theorem dX12_isSoon_9 : decode cX12_isSoon 9 = .ok (.ireturn, 1) := by decide +kernel
theorem dX12_lostFromHere_0 : decode cX12_lostFromHere 0 = .ok (.iconst 0, 1) := by decide +kernel
theorem dX12_lostFromHere_1 : decode cX12_lostFromHere 1 = .ok (.istore_n 2, 1) := by decide +kernel
theorem dX12_lostFromHere_2 : decode cX12_lostFromHere 2 = .ok (.iconst 0, 1) := by decide +kernel
theorem dX12_lostFromHere_3 : decode cX12_lostFromHere 3 = .ok (.istore_n 3, 1) := by decide +kernel
theorem dX12_lostFromHere_4 : decode cX12_lostFromHere 4 = .ok (.iload_n 3, 1) := by decide +kernel
theorem dX12_lostFromHere_5 : decode cX12_lostFromHere 5 = .ok (.iload_n 1, 1) := by decide +kernel
theorem dX12_lostFromHere_6 : decode cX12_lostFromHere 6 = .ok (.if_icmp .ge 20, 3) := by decide +kernel
theorem dX12_lostFromHere_9 : decode cX12_lostFromHere 9 = .ok (.aload_n 0, 1) := by decide +kernel
theorem dX12_lostFromHere_10 : decode cX12_lostFromHere 10 = .ok (.invokevirtual 353, 3) := by decide +kernel
theorem dX12_lostFromHere_13 : decode cX12_lostFromHere 13 = .ok (.iload_n 2, 1) := by decide +kernel
theorem dX12_lostFromHere_14 : decode cX12_lostFromHere 14 = .ok (.aload_n 0, 1) := by decide +kernel
theorem dX12_lostFromHere_15 : decode cX12_lostFromHere 15 = .ok (.getfield 319, 3) := by decide +kernel
theorem dX12_lostFromHere_18 : decode cX12_lostFromHere 18 = .ok (.ior, 1) := by decide +kernel
theorem dX12_lostFromHere_19 : decode cX12_lostFromHere 19 = .ok (.istore_n 2, 1) := by decide +kernel
theorem dX12_lostFromHere_20 : decode cX12_lostFromHere 20 = .ok (.iinc 3 1, 3) := by decide +kernel
theorem dX12_lostFromHere_23 : decode cX12_lostFromHere 23 = .ok (.goto (-19), 3) := by decide +kernel
theorem dX12_lostFromHere_26 : decode cX12_lostFromHere 26 = .ok (.aload_n 0, 1) := by decide +kernel
theorem dX12_lostFromHere_27 : decode cX12_lostFromHere 27 = .ok (.invokevirtual 393, 3) := by decide +kernel
theorem dX12_lostFromHere_30 : decode cX12_lostFromHere 30 = .ok (.iload_n 2, 1) := by decide +kernel
theorem dX12_lostFromHere_31 : decode cX12_lostFromHere 31 = .ok (.ireturn, 1) := by decide +kernel
theorem dX12_lostNow_0 : decode cX12_lostNow 0 = .ok (.aload_n 0, 1) := by decide +kernel
theorem dX12_lostNow_1 : decode cX12_lostNow 1 = .ok (.invokevirtual 378, 3) := by decide +kernel
theorem dX12_lostNow_4 : decode cX12_lostNow 4 = .ok (.aload_n 0, 1) := by decide +kernel
theorem dX12_lostNow_5 : decode cX12_lostNow 5 = .ok (.iload_n 1, 1) := by decide +kernel
theorem dX12_lostNow_6 : decode cX12_lostNow 6 = .ok (.invokevirtual 408, 3) := by decide +kernel
theorem dX12_lostNow_9 : decode cX12_lostNow 9 = .ok (.ireturn, 1) := by decide +kernel
theorem dX12_lost_0 : decode cX12_lost 0 = .ok (.aload_n 0, 1) := by decide +kernel
theorem dX12_lost_1 : decode cX12_lost 1 = .ok (.iconst 0, 1) := by decide +kernel
theorem dX12_lost_2 : decode cX12_lost 2 = .ok (.putfield 82, 3) := by decide +kernel
theorem dX12_lost_5 : decode cX12_lost 5 = .ok (.iload_n 1, 1) := by decide +kernel
theorem dX12_lost_6 : decode cX12_lost 6 = .ok (.invokestatic 411, 3) := by decide +kernel
theorem dX12_lost_9 : decode cX12_lost 9 = .ok (.ifCond .eq 14, 3) := by decide +kernel
theorem dX12_lost_12 : decode cX12_lost 12 = .ok (.aload_n 0, 1) := by decide +kernel
theorem dX12_lost_13 : decode cX12_lost 13 = .ok (.iload_n 1, 1) := by decide +kernel
theorem dX12_lost_14 : decode cX12_lost 14 = .ok (.invokevirtual 414, 3) := by decide +kernel
theorem dX12_lost_17 : decode cX12_lost 17 = .ok (.invokestatic 355, 3) := by decide +kernel
theorem dX12_lost_20 : decode cX12_lost 20 = .ok (.goto 8, 3) := by decide +kernel
theorem dX12_lost_23 : decode cX12_lost 23 = .ok (.aload_n 0, 1) := by decide +kernel
theorem dX12_lost_24 : decode cX12_lost 24 = .ok (.iconst 1, 1) := by decide +kernel
theorem dX12_lost_25 : decode cX12_lost 25 = .ok (.invokevirtual 256, 3) := by decide +kernel
theorem dX12_lost_28 : decode cX12_lost 28 = .ok (.ireturn, 1) := by decide +kernel
theorem dX12_firstLost_0 : decode cX12_firstLost 0 = .ok (.aload_n 0, 1) := by decide +kernel
theorem dX12_firstLost_1 : decode cX12_firstLost 1 = .ok (.iconst 0, 1) := by decide +kernel
theorem dX12_firstLost_2 : decode cX12_firstLost 2 = .ok (.putfield 82, 3) := by decide +kernel
theorem dX12_firstLost_5 : decode cX12_firstLost 5 = .ok (.aload_n 0, 1) := by decide +kernel
theorem dX12_firstLost_6 : decode cX12_firstLost 6 = .ok (.invokevirtual 378, 3) := by decide +kernel
theorem dX12_firstLost_9 : decode cX12_firstLost 9 = .ok (.aload_n 0, 1) := by decide +kernel
theorem dX12_firstLost_10 : decode cX12_firstLost 10 = .ok (.iconst 0, 1) := by decide +kernel
theorem dX12_firstLost_11 : decode cX12_firstLost 11 = .ok (.putfield 319, 3) := by decide +kernel
theorem dX12_firstLost_14 : decode cX12_firstLost 14 = .ok (.iconst 0, 1) := by decide +kernel
theorem dX12_firstLost_15 : decode cX12_firstLost 15 = .ok (.istore_n 1, 1) := by decide +kernel
theorem dX12_firstLost_16 : decode cX12_firstLost 16 = .ok (.iload_n 1, 1) := by decide +kernel
theorem dX12_firstLost_17 : decode cX12_firstLost 17 = .ok (.sipush 1200, 3) := by decide +kernel
theorem dX12_firstLost_20 : decode cX12_firstLost 20 = .ok (.if_icmp .ge 20, 3) := by decide +kernel
theorem dX12_firstLost_23 : decode cX12_firstLost 23 = .ok (.aload_n 0, 1) := by decide +kernel
theorem dX12_firstLost_24 : decode cX12_firstLost 24 = .ok (.getfield 319, 3) := by decide +kernel
theorem dX12_firstLost_27 : decode cX12_firstLost 27 = .ok (.ifCond .ne 13, 3) := by decide +kernel
theorem dX12_firstLost_30 : decode cX12_firstLost 30 = .ok (.aload_n 0, 1) := by decide +kernel
theorem dX12_firstLost_31 : decode cX12_firstLost 31 = .ok (.invokevirtual 353, 3) := by decide +kernel
theorem dX12_firstLost_34 : decode cX12_firstLost 34 = .ok (.iinc 1 1, 3) := by decide +kernel
theorem dX12_firstLost_37 : decode cX12_firstLost 37 = .ok (.goto (-21), 3) := by decide +kernel
theorem dX12_firstLost_40 : decode cX12_firstLost 40 = .ok (.aload_n 0, 1) := by decide +kernel
theorem dX12_firstLost_41 : decode cX12_firstLost 41 = .ok (.getfield 319, 3) := by decide +kernel
theorem dX12_firstLost_44 : decode cX12_firstLost 44 = .ok (.istore_n 1, 1) := by decide +kernel
theorem dX12_firstLost_45 : decode cX12_firstLost 45 = .ok (.aload_n 0, 1) := by decide +kernel
theorem dX12_firstLost_46 : decode cX12_firstLost 46 = .ok (.invokevirtual 393, 3) := by decide +kernel
theorem dX12_firstLost_49 : decode cX12_firstLost 49 = .ok (.iload_n 1, 1) := by decide +kernel
theorem dX12_firstLost_50 : decode cX12_firstLost 50 = .ok (.ifCond .ne 7, 3) := by decide +kernel
theorem dX12_firstLost_53 : decode cX12_firstLost 53 = .ok (.iconst (-1), 1) := by decide +kernel
theorem dX12_firstLost_54 : decode cX12_firstLost 54 = .ok (.goto 7, 3) := by decide +kernel
theorem dX12_firstLost_57 : decode cX12_firstLost 57 = .ok (.iload_n 1, 1) := by decide +kernel
theorem dX12_firstLost_58 : decode cX12_firstLost 58 = .ok (.invokestatic 417, 3) := by decide +kernel
theorem dX12_firstLost_61 : decode cX12_firstLost 61 = .ok (.ireturn, 1) := by decide +kernel
theorem dX12_firstOf_0 : decode cX12_firstOf 0 = .ok (.iconst 0, 1) := by decide +kernel
theorem dX12_firstOf_1 : decode cX12_firstOf 1 = .ok (.istore_n 1, 1) := by decide +kernel
theorem dX12_firstOf_2 : decode cX12_firstOf 2 = .ok (.iload_n 0, 1) := by decide +kernel
theorem dX12_firstOf_3 : decode cX12_firstOf 3 = .ok (.iload_n 1, 1) := by decide +kernel
theorem dX12_firstOf_4 : decode cX12_firstOf 4 = .ok (.invokestatic 270, 3) := by decide +kernel
theorem dX12_firstOf_7 : decode cX12_firstOf 7 = .ok (.ifCond .ne 9, 3) := by decide +kernel
theorem dX12_firstOf_10 : decode cX12_firstOf 10 = .ok (.iinc 1 1, 3) := by decide +kernel
theorem dX12_firstOf_13 : decode cX12_firstOf 13 = .ok (.goto (-11), 3) := by decide +kernel
theorem dX12_firstOf_16 : decode cX12_firstOf 16 = .ok (.iload_n 1, 1) := by decide +kernel
theorem dX12_firstOf_17 : decode cX12_firstOf 17 = .ok (.ireturn, 1) := by decide +kernel
theorem dX12_areTogether_0 : decode cX12_areTogether 0 = .ok (.aload_n 0, 1) := by decide +kernel
theorem dX12_areTogether_1 : decode cX12_areTogether 1 = .ok (.iload_n 1, 1) := by decide +kernel
theorem dX12_areTogether_2 : decode cX12_areTogether 2 = .ok (.invokevirtual 313, 3) := by decide +kernel
theorem dX12_areTogether_5 : decode cX12_areTogether 5 = .ok (.istore_n 3, 1) := by decide +kernel
theorem dX12_areTogether_6 : decode cX12_areTogether 6 = .ok (.iload_n 3, 1) := by decide +kernel
theorem dX12_areTogether_7 : decode cX12_areTogether 7 = .ok (.iconst (-1), 1) := by decide +kernel
theorem dX12_areTogether_8 : decode cX12_areTogether 8 = .ok (.if_icmp .eq 16, 3) := by decide +kernel
theorem dX12_areTogether_11 : decode cX12_areTogether 11 = .ok (.iload_n 3, 1) := by decide +kernel
theorem dX12_areTogether_12 : decode cX12_areTogether 12 = .ok (.aload_n 0, 1) := by decide +kernel
theorem dX12_areTogether_13 : decode cX12_areTogether 13 = .ok (.iload_n 2, 1) := by decide +kernel
theorem dX12_areTogether_14 : decode cX12_areTogether 14 = .ok (.invokevirtual 313, 3) := by decide +kernel
theorem dX12_areTogether_17 : decode cX12_areTogether 17 = .ok (.if_icmp .ne 7, 3) := by decide +kernel
theorem dX12_areTogether_20 : decode cX12_areTogether 20 = .ok (.iconst 1, 1) := by decide +kernel
theorem dX12_areTogether_21 : decode cX12_areTogether 21 = .ok (.goto 4, 3) := by decide +kernel
theorem dX12_areTogether_24 : decode cX12_areTogether 24 = .ok (.iconst 0, 1) := by decide +kernel
theorem dX12_areTogether_25 : decode cX12_areTogether 25 = .ok (.ireturn, 1) := by decide +kernel
theorem dX12_together_0 : decode cX12_together 0 = .ok (.aload_n 0, 1) := by decide +kernel
theorem dX12_together_1 : decode cX12_together 1 = .ok (.aload_n 0, 1) := by decide +kernel
theorem dX12_together_2 : decode cX12_together 2 = .ok (.iload_n 1, 1) := by decide +kernel
theorem dX12_together_3 : decode cX12_together 3 = .ok (.i2l, 1) := by decide +kernel
theorem dX12_together_4 : decode cX12_together 4 = .ok (.invokevirtual 328, 3) := by decide +kernel
theorem dX12_together_7 : decode cX12_together 7 = .ok (.ifCond .eq 12, 3) := by decide +kernel
theorem dX12_together_10 : decode cX12_together 10 = .ok (.aload_n 0, 1) := by decide +kernel
theorem dX12_together_11 : decode cX12_together 11 = .ok (.iload_n 2, 1) := by decide +kernel
theorem dX12_together_12 : decode cX12_together 12 = .ok (.i2l, 1) := by decide +kernel
theorem dX12_together_13 : decode cX12_together 13 = .ok (.invokevirtual 328, 3) := by decide +kernel
theorem dX12_together_16 : decode cX12_together 16 = .ok (.ifCond .ne 7, 3) := by decide +kernel
theorem dX12_together_19 : decode cX12_together 19 = .ok (.iconst 1, 1) := by decide +kernel
theorem dX12_together_20 : decode cX12_together 20 = .ok (.goto 13, 3) := by decide +kernel
theorem dX12_together_23 : decode cX12_together 23 = .ok (.iload_n 1, 1) := by decide +kernel
theorem dX12_together_24 : decode cX12_together 24 = .ok (.iload_n 2, 1) := by decide +kernel
theorem dX12_together_25 : decode cX12_together 25 = .ok (.if_icmp .ne 7, 3) := by decide +kernel
theorem dX12_together_28 : decode cX12_together 28 = .ok (.iconst 2, 1) := by decide +kernel
theorem dX12_together_29 : decode cX12_together 29 = .ok (.goto 4, 3) := by decide +kernel
theorem dX12_together_32 : decode cX12_together 32 = .ok (.iconst 0, 1) := by decide +kernel
theorem dX12_together_33 : decode cX12_together 33 = .ok (.putfield 82, 3) := by decide +kernel
theorem dX12_together_36 : decode cX12_together 36 = .ok (.aload_n 0, 1) := by decide +kernel
theorem dX12_together_37 : decode cX12_together 37 = .ok (.getfield 82, 3) := by decide +kernel
theorem dX12_together_40 : decode cX12_together 40 = .ok (.ifCond .le 5, 3) := by decide +kernel
theorem dX12_together_43 : decode cX12_together 43 = .ok (.iconst 0, 1) := by decide +kernel
theorem dX12_together_44 : decode cX12_together 44 = .ok (.ireturn, 1) := by decide +kernel
theorem dX12_together_45 : decode cX12_together 45 = .ok (.aload_n 0, 1) := by decide +kernel
theorem dX12_together_46 : decode cX12_together 46 = .ok (.iload_n 1, 1) := by decide +kernel
theorem dX12_together_47 : decode cX12_together 47 = .ok (.iload_n 2, 1) := by decide +kernel
theorem dX12_together_48 : decode cX12_together 48 = .ok (.invokevirtual 420, 3) := by decide +kernel
theorem dX12_together_51 : decode cX12_together 51 = .ok (.ifCond .eq 5, 3) := by decide +kernel
theorem dX12_together_54 : decode cX12_together 54 = .ok (.iconst 0, 1) := by decide +kernel
theorem dX12_together_55 : decode cX12_together 55 = .ok (.ireturn, 1) := by decide +kernel
theorem dX12_together_56 : decode cX12_together 56 = .ok (.aload_n 0, 1) := by decide +kernel
theorem dX12_together_57 : decode cX12_together 57 = .ok (.invokevirtual 378, 3) := by decide +kernel
theorem dX12_together_60 : decode cX12_together 60 = .ok (.iconst (-1), 1) := by decide +kernel
theorem dX12_together_61 : decode cX12_together 61 = .ok (.istore_n 3, 1) := by decide +kernel
theorem dX12_together_62 : decode cX12_together 62 = .ok (.iconst 0, 1) := by decide +kernel
theorem dX12_together_63 : decode cX12_together 63 = .ok (.istore 4, 2) := by decide +kernel
theorem dX12_together_65 : decode cX12_together 65 = .ok (.iload_n 3, 1) := by decide +kernel
theorem dX12_together_66 : decode cX12_together 66 = .ok (.sipush 1200, 3) := by decide +kernel
theorem dX12_together_69 : decode cX12_together 69 = .ok (.if_icmp .ge 26, 3) := by decide +kernel
theorem dX12_together_72 : decode cX12_together 72 = .ok (.iload 4, 2) := by decide +kernel
theorem dX12_together_74 : decode cX12_together 74 = .ok (.ifCond .ne 21, 3) := by decide +kernel
theorem dX12_together_77 : decode cX12_together 77 = .ok (.aload_n 0, 1) := by decide +kernel
theorem dX12_together_78 : decode cX12_together 78 = .ok (.invokevirtual 353, 3) := by decide +kernel
theorem dX12_together_81 : decode cX12_together 81 = .ok (.iinc 3 1, 3) := by decide +kernel
theorem dX12_together_84 : decode cX12_together 84 = .ok (.aload_n 0, 1) := by decide +kernel
theorem dX12_together_85 : decode cX12_together 85 = .ok (.iload_n 1, 1) := by decide +kernel
theorem dX12_together_86 : decode cX12_together 86 = .ok (.iload_n 2, 1) := by decide +kernel
theorem dX12_together_87 : decode cX12_together 87 = .ok (.invokevirtual 420, 3) := by decide +kernel
theorem dX12_together_90 : decode cX12_together 90 = .ok (.istore 4, 2) := by decide +kernel
theorem dX12_together_92 : decode cX12_together 92 = .ok (.goto (-27), 3) := by decide +kernel
theorem dX12_together_95 : decode cX12_together 95 = .ok (.aload_n 0, 1) := by decide +kernel
theorem dX12_together_96 : decode cX12_together 96 = .ok (.invokevirtual 393, 3) := by decide +kernel
theorem dX12_together_99 : decode cX12_together 99 = .ok (.iload 4, 2) := by decide +kernel
theorem dX12_together_101 : decode cX12_together 101 = .ok (.ifCond .eq 7, 3) := by decide +kernel
theorem dX12_together_104 : decode cX12_together 104 = .ok (.iload_n 3, 1) := by decide +kernel
theorem dX12_together_105 : decode cX12_together 105 = .ok (.goto 4, 3) := by decide +kernel
theorem dX12_together_108 : decode cX12_together 108 = .ok (.iconst (-1), 1) := by decide +kernel
theorem dX12_together_109 : decode cX12_together 109 = .ok (.ireturn, 1) := by decide +kernel
theorem dX12_weddings_0 : decode cX12_weddings 0 = .ok (.aload_n 0, 1) := by decide +kernel
theorem dX12_weddings_1 : decode cX12_weddings 1 = .ok (.iconst 0, 1) := by decide +kernel
theorem dX12_weddings_2 : decode cX12_weddings 2 = .ok (.putfield 82, 3) := by decide +kernel
theorem dX12_weddings_5 : decode cX12_weddings 5 = .ok (.iload_n 1, 1) := by decide +kernel
theorem dX12_weddings_6 : decode cX12_weddings 6 = .ok (.invokestatic 411, 3) := by decide +kernel
theorem dX12_weddings_9 : decode cX12_weddings 9 = .ok (.ifCond .ne 9, 3) := by decide +kernel
theorem dX12_weddings_12 : decode cX12_weddings 12 = .ok (.aload_n 0, 1) := by decide +kernel
theorem dX12_weddings_13 : decode cX12_weddings 13 = .ok (.iconst 1, 1) := by decide +kernel
theorem dX12_weddings_14 : decode cX12_weddings 14 = .ok (.invokevirtual 256, 3) := by decide +kernel
theorem dX12_weddings_17 : decode cX12_weddings 17 = .ok (.ireturn, 1) := by decide +kernel
theorem dX12_weddings_18 : decode cX12_weddings 18 = .ok (.aload_n 0, 1) := by decide +kernel
theorem dX12_weddings_19 : decode cX12_weddings 19 = .ok (.invokevirtual 378, 3) := by decide +kernel
theorem dX12_weddings_22 : decode cX12_weddings 22 = .ok (.iconst 0, 1) := by decide +kernel
theorem dX12_weddings_23 : decode cX12_weddings 23 = .ok (.istore_n 2, 1) := by decide +kernel
theorem dX12_weddings_24 : decode cX12_weddings 24 = .ok (.iload_n 2, 1) := by decide +kernel
theorem dX12_weddings_25 : decode cX12_weddings 25 = .ok (.iload_n 1, 1) := by decide +kernel
theorem dX12_weddings_26 : decode cX12_weddings 26 = .ok (.if_icmp .ge 13, 3) := by decide +kernel
theorem dX12_weddings_29 : decode cX12_weddings 29 = .ok (.aload_n 0, 1) := by decide +kernel
theorem dX12_weddings_30 : decode cX12_weddings 30 = .ok (.invokevirtual 353, 3) := by decide +kernel
theorem dX12_weddings_33 : decode cX12_weddings 33 = .ok (.iinc 2 1, 3) := by decide +kernel
theorem dX12_weddings_36 : decode cX12_weddings 36 = .ok (.goto (-12), 3) := by decide +kernel
theorem dX12_weddings_39 : decode cX12_weddings 39 = .ok (.aload_n 0, 1) := by decide +kernel
theorem dX12_weddings_40 : decode cX12_weddings 40 = .ok (.invokevirtual 390, 3) := by decide +kernel
theorem dX12_weddings_43 : decode cX12_weddings 43 = .ok (.istore_n 2, 1) := by decide +kernel
theorem dX12_weddings_44 : decode cX12_weddings 44 = .ok (.aload_n 0, 1) := by decide +kernel
theorem dX12_weddings_45 : decode cX12_weddings 45 = .ok (.invokevirtual 393, 3) := by decide +kernel
theorem dX12_weddings_48 : decode cX12_weddings 48 = .ok (.iload_n 2, 1) := by decide +kernel
theorem dX12_weddings_49 : decode cX12_weddings 49 = .ok (.ireturn, 1) := by decide +kernel
theorem dX12_busiest_0 : decode cX12_busiest 0 = .ok (.aload_n 0, 1) := by decide +kernel
theorem dX12_busiest_1 : decode cX12_busiest 1 = .ok (.iconst 0, 1) := by decide +kernel
theorem dX12_busiest_2 : decode cX12_busiest 2 = .ok (.putfield 82, 3) := by decide +kernel
theorem dX12_busiest_5 : decode cX12_busiest 5 = .ok (.iload_n 1, 1) := by decide +kernel
theorem dX12_busiest_6 : decode cX12_busiest 6 = .ok (.invokestatic 411, 3) := by decide +kernel
theorem dX12_busiest_9 : decode cX12_busiest 9 = .ok (.ifCond .ne 9, 3) := by decide +kernel
theorem dX12_busiest_12 : decode cX12_busiest 12 = .ok (.aload_n 0, 1) := by decide +kernel
theorem dX12_busiest_13 : decode cX12_busiest 13 = .ok (.iconst 1, 1) := by decide +kernel
theorem dX12_busiest_14 : decode cX12_busiest 14 = .ok (.invokevirtual 256, 3) := by decide +kernel
theorem dX12_busiest_17 : decode cX12_busiest 17 = .ok (.ireturn, 1) := by decide +kernel
theorem dX12_busiest_18 : decode cX12_busiest 18 = .ok (.aload_n 0, 1) := by decide +kernel
theorem dX12_busiest_19 : decode cX12_busiest 19 = .ok (.invokevirtual 378, 3) := by decide +kernel
theorem dX12_busiest_22 : decode cX12_busiest 22 = .ok (.iconst 0, 1) := by decide +kernel
theorem dX12_busiest_23 : decode cX12_busiest 23 = .ok (.istore_n 2, 1) := by decide +kernel
theorem dX12_busiest_24 : decode cX12_busiest 24 = .ok (.iconst (-1), 1) := by decide +kernel
theorem dX12_busiest_25 : decode cX12_busiest 25 = .ok (.istore_n 3, 1) := by decide +kernel
theorem dX12_busiest_26 : decode cX12_busiest 26 = .ok (.iconst 0, 1) := by decide +kernel
theorem dX12_busiest_27 : decode cX12_busiest 27 = .ok (.istore 4, 2) := by decide +kernel
theorem dX12_busiest_29 : decode cX12_busiest 29 = .ok (.iload 4, 2) := by decide +kernel
theorem dX12_busiest_31 : decode cX12_busiest 31 = .ok (.iload_n 1, 1) := by decide +kernel
theorem dX12_busiest_32 : decode cX12_busiest 32 = .ok (.if_icmp .ge 35, 3) := by decide +kernel
theorem dX12_busiest_35 : decode cX12_busiest 35 = .ok (.aload_n 0, 1) := by decide +kernel
theorem dX12_busiest_36 : decode cX12_busiest 36 = .ok (.invokevirtual 353, 3) := by decide +kernel
theorem dX12_busiest_39 : decode cX12_busiest 39 = .ok (.aload_n 0, 1) := by decide +kernel
theorem dX12_busiest_40 : decode cX12_busiest 40 = .ok (.iconst 1, 1) := by decide +kernel
theorem dX12_busiest_41 : decode cX12_busiest 41 = .ok (.invokevirtual 387, 3) := by decide +kernel
theorem dX12_busiest_44 : decode cX12_busiest 44 = .ok (.istore 5, 2) := by decide +kernel
theorem dX12_busiest_46 : decode cX12_busiest 46 = .ok (.iload 5, 2) := by decide +kernel
theorem dX12_busiest_48 : decode cX12_busiest 48 = .ok (.iload_n 3, 1) := by decide +kernel
theorem dX12_busiest_49 : decode cX12_busiest 49 = .ok (.if_icmp .gt 6, 3) := by decide +kernel
theorem dX12_busiest_52 : decode cX12_busiest 52 = .ok (.goto 9, 3) := by decide +kernel
theorem dX12_busiest_55 : decode cX12_busiest 55 = .ok (.iload 4, 2) := by decide +kernel
theorem dX12_busiest_57 : decode cX12_busiest 57 = .ok (.istore_n 2, 1) := by decide +kernel
theorem dX12_busiest_58 : decode cX12_busiest 58 = .ok (.iload 5, 2) := by decide +kernel
theorem dX12_busiest_60 : decode cX12_busiest 60 = .ok (.istore_n 3, 1) := by decide +kernel
theorem dX12_busiest_61 : decode cX12_busiest 61 = .ok (.iinc 4 1, 3) := by decide +kernel
theorem dX12_busiest_64 : decode cX12_busiest 64 = .ok (.goto (-35), 3) := by decide +kernel
theorem dX12_busiest_67 : decode cX12_busiest 67 = .ok (.aload_n 0, 1) := by decide +kernel
theorem dX12_busiest_68 : decode cX12_busiest 68 = .ok (.invokevirtual 393, 3) := by decide +kernel
theorem dX12_busiest_71 : decode cX12_busiest 71 = .ok (.iload_n 2, 1) := by decide +kernel
theorem dX12_busiest_72 : decode cX12_busiest 72 = .ok (.ireturn, 1) := by decide +kernel
theorem dX12_hog_0 : decode cX12_hog 0 = .ok (.aload_n 0, 1) := by decide +kernel
theorem dX12_hog_1 : decode cX12_hog 1 = .ok (.iconst 0, 1) := by decide +kernel
theorem dX12_hog_2 : decode cX12_hog 2 = .ok (.putfield 82, 3) := by decide +kernel
theorem dX12_hog_5 : decode cX12_hog 5 = .ok (.iload_n 1, 1) := by decide +kernel
theorem dX12_hog_6 : decode cX12_hog 6 = .ok (.invokestatic 411, 3) := by decide +kernel
theorem dX12_hog_9 : decode cX12_hog 9 = .ok (.ifCond .ne 9, 3) := by decide +kernel
theorem dX12_hog_12 : decode cX12_hog 12 = .ok (.aload_n 0, 1) := by decide +kernel
theorem dX12_hog_13 : decode cX12_hog 13 = .ok (.iconst 1, 1) := by decide +kernel
theorem dX12_hog_14 : decode cX12_hog 14 = .ok (.invokevirtual 256, 3) := by decide +kernel
theorem dX12_hog_17 : decode cX12_hog 17 = .ok (.ireturn, 1) := by decide +kernel
theorem dX12_hog_18 : decode cX12_hog 18 = .ok (.aload_n 0, 1) := by decide +kernel
theorem dX12_hog_19 : decode cX12_hog 19 = .ok (.iload_n 1, 1) := by decide +kernel
theorem dX12_hog_20 : decode cX12_hog 20 = .ok (.invokevirtual 414, 3) := by decide +kernel
theorem dX12_hog_23 : decode cX12_hog 23 = .ok (.istore_n 2, 1) := by decide +kernel
theorem dX12_hog_24 : decode cX12_hog 24 = .ok (.iconst (-1), 1) := by decide +kernel
theorem dX12_hog_25 : decode cX12_hog 25 = .ok (.istore_n 3, 1) := by decide +kernel
theorem dX12_hog_26 : decode cX12_hog 26 = .ok (.ldc_w 423, 3) := by decide +kernel
theorem dX12_hog_29 : decode cX12_hog 29 = .ok (.istore 4, 2) := by decide +kernel
theorem dX12_hog_31 : decode cX12_hog 31 = .ok (.iconst 0, 1) := by decide +kernel
theorem dX12_hog_32 : decode cX12_hog 32 = .ok (.istore 5, 2) := by decide +kernel
theorem dX12_hog_34 : decode cX12_hog 34 = .ok (.iload 5, 2) := by decide +kernel
theorem dX12_hog_36 : decode cX12_hog 36 = .ok (.aload_n 0, 1) := by decide +kernel
theorem dX12_hog_37 : decode cX12_hog 37 = .ok (.invokevirtual 267, 3) := by decide +kernel
theorem dX12_hog_40 : decode cX12_hog 40 = .ok (.if_icmp .ge 83, 3) := by decide +kernel
theorem dX12_hog_43 : decode cX12_hog 43 = .ok (.aload_n 0, 1) := by decide +kernel
theorem dX12_hog_44 : decode cX12_hog 44 = .ok (.getfield 9, 3) := by decide +kernel
theorem dX12_hog_47 : decode cX12_hog 47 = .ok (.bipush 8, 2) := by decide +kernel
theorem dX12_hog_49 : decode cX12_hog 49 = .ok (.iload 5, 2) := by decide +kernel
theorem dX12_hog_51 : decode cX12_hog 51 = .ok (.iadd, 1) := by decide +kernel
theorem dX12_hog_52 : decode cX12_hog 52 = .ok (.iaload, 1) := by decide +kernel
theorem dX12_hog_53 : decode cX12_hog 53 = .ok (.ifCond .eq 6, 3) := by decide +kernel
theorem dX12_hog_56 : decode cX12_hog 56 = .ok (.goto 61, 3) := by decide +kernel
theorem dX12_hog_59 : decode cX12_hog 59 = .ok (.aload_n 0, 1) := by decide +kernel
theorem dX12_hog_60 : decode cX12_hog 60 = .ok (.invokevirtual 378, 3) := by decide +kernel
theorem dX12_hog_63 : decode cX12_hog 63 = .ok (.aload_n 0, 1) := by decide +kernel
theorem dX12_hog_64 : decode cX12_hog 64 = .ok (.getfield 9, 3) := by decide +kernel
theorem dX12_hog_67 : decode cX12_hog 67 = .ok (.bipush 8, 2) := by decide +kernel
theorem dX12_hog_69 : decode cX12_hog 69 = .ok (.iload 5, 2) := by decide +kernel
theorem dX12_hog_71 : decode cX12_hog 71 = .ok (.iadd, 1) := by decide +kernel
theorem dX12_hog_72 : decode cX12_hog 72 = .ok (.iconst 2, 1) := by decide +kernel
theorem dX12_hog_73 : decode cX12_hog 73 = .ok (.iastore, 1) := by decide +kernel
theorem dX12_hog_74 : decode cX12_hog 74 = .ok (.aload_n 0, 1) := by decide +kernel
theorem dX12_hog_75 : decode cX12_hog 75 = .ok (.iload_n 1, 1) := by decide +kernel
theorem dX12_hog_76 : decode cX12_hog 76 = .ok (.invokevirtual 408, 3) := by decide +kernel
theorem dX12_hog_79 : decode cX12_hog 79 = .ok (.invokestatic 355, 3) := by decide +kernel
theorem dX12_hog_82 : decode cX12_hog 82 = .ok (.istore 6, 2) := by decide +kernel
theorem dX12_hog_84 : decode cX12_hog 84 = .ok (.iload 6, 2) := by decide +kernel
theorem dX12_hog_86 : decode cX12_hog 86 = .ok (.iload_n 2, 1) := by decide +kernel
theorem dX12_hog_87 : decode cX12_hog 87 = .ok (.iconst 1, 1) := by decide +kernel
theorem dX12_hog_88 : decode cX12_hog 88 = .ok (.iload 5, 2) := by decide +kernel
theorem dX12_hog_90 : decode cX12_hog 90 = .ok (.ishl, 1) := by decide +kernel
theorem dX12_hog_91 : decode cX12_hog 91 = .ok (.iconst (-1), 1) := by decide +kernel
theorem dX12_hog_92 : decode cX12_hog 92 = .ok (.ixor, 1) := by decide +kernel
theorem dX12_hog_93 : decode cX12_hog 93 = .ok (.iand, 1) := by decide +kernel
theorem dX12_hog_94 : decode cX12_hog 94 = .ok (.invokestatic 355, 3) := by decide +kernel
theorem dX12_hog_97 : decode cX12_hog 97 = .ok (.if_icmp .ge 20, 3) := by decide +kernel
theorem dX12_hog_100 : decode cX12_hog 100 = .ok (.iload 6, 2) := by decide +kernel
theorem dX12_hog_102 : decode cX12_hog 102 = .ok (.iload 4, 2) := by decide +kernel
theorem dX12_hog_104 : decode cX12_hog 104 = .ok (.if_icmp .lt 6, 3) := by decide +kernel
theorem dX12_hog_107 : decode cX12_hog 107 = .ok (.goto 10, 3) := by decide +kernel
theorem dX12_hog_110 : decode cX12_hog 110 = .ok (.iload 5, 2) := by decide +kernel
theorem dX12_hog_112 : decode cX12_hog 112 = .ok (.istore_n 3, 1) := by decide +kernel
theorem dX12_hog_113 : decode cX12_hog 113 = .ok (.iload 6, 2) := by decide +kernel
theorem dX12_hog_115 : decode cX12_hog 115 = .ok (.istore 4, 2) := by decide +kernel
theorem dX12_hog_117 : decode cX12_hog 117 = .ok (.iinc 5 1, 3) := by decide +kernel
theorem dX12_hog_120 : decode cX12_hog 120 = .ok (.goto (-86), 3) := by decide +kernel
theorem dX12_hog_123 : decode cX12_hog 123 = .ok (.iload_n 3, 1) := by decide +kernel
theorem dX12_hog_124 : decode cX12_hog 124 = .ok (.ireturn, 1) := by decide +kernel
theorem dX12_overlap_0 : decode cX12_overlap 0 = .ok (.aload_n 0, 1) := by decide +kernel
theorem dX12_overlap_1 : decode cX12_overlap 1 = .ok (.getfield 9, 3) := by decide +kernel
theorem dX12_overlap_4 : decode cX12_overlap 4 = .ok (.bipush 71, 2) := by decide +kernel
theorem dX12_overlap_6 : decode cX12_overlap 6 = .ok (.iload_n 1, 1) := by decide +kernel
theorem dX12_overlap_7 : decode cX12_overlap 7 = .ok (.iadd, 1) := by decide +kernel
theorem dX12_overlap_8 : decode cX12_overlap 8 = .ok (.iaload, 1) := by decide +kernel
theorem dX12_overlap_9 : decode cX12_overlap 9 = .ok (.aload_n 0, 1) := by decide +kernel
theorem dX12_overlap_10 : decode cX12_overlap 10 = .ok (.getfield 9, 3) := by decide +kernel
theorem dX12_overlap_13 : decode cX12_overlap 13 = .ok (.bipush 71, 2) := by decide +kernel
theorem dX12_overlap_15 : decode cX12_overlap 15 = .ok (.iload_n 2, 1) := by decide +kernel
theorem dX12_overlap_16 : decode cX12_overlap 16 = .ok (.iadd, 1) := by decide +kernel
theorem dX12_overlap_17 : decode cX12_overlap 17 = .ok (.iaload, 1) := by decide +kernel
theorem dX12_overlap_18 : decode cX12_overlap 18 = .ok (.aload_n 0, 1) := by decide +kernel
theorem dX12_overlap_19 : decode cX12_overlap 19 = .ok (.getfield 9, 3) := by decide +kernel
theorem dX12_overlap_22 : decode cX12_overlap 22 = .ok (.bipush 81, 2) := by decide +kernel
theorem dX12_overlap_24 : decode cX12_overlap 24 = .ok (.iload_n 2, 1) := by decide +kernel
theorem dX12_overlap_25 : decode cX12_overlap 25 = .ok (.iadd, 1) := by decide +kernel
theorem dX12_overlap_26 : decode cX12_overlap 26 = .ok (.iaload, 1) := by decide +kernel
theorem dX12_overlap_27 : decode cX12_overlap 27 = .ok (.iadd, 1) := by decide +kernel
theorem dX12_overlap_28 : decode cX12_overlap 28 = .ok (.if_icmp .ge 38, 3) := by decide +kernel
theorem dX12_overlap_31 : decode cX12_overlap 31 = .ok (.aload_n 0, 1) := by decide +kernel
theorem dX12_overlap_32 : decode cX12_overlap 32 = .ok (.getfield 9, 3) := by decide +kernel
theorem dX12_overlap_35 : decode cX12_overlap 35 = .ok (.bipush 71, 2) := by decide +kernel
theorem dX12_overlap_37 : decode cX12_overlap 37 = .ok (.iload_n 2, 1) := by decide +kernel
theorem dX12_overlap_38 : decode cX12_overlap 38 = .ok (.iadd, 1) := by decide +kernel
theorem dX12_overlap_39 : decode cX12_overlap 39 = .ok (.iaload, 1) := by decide +kernel
theorem dX12_overlap_40 : decode cX12_overlap 40 = .ok (.aload_n 0, 1) := by decide +kernel
theorem dX12_overlap_41 : decode cX12_overlap 41 = .ok (.getfield 9, 3) := by decide +kernel
theorem dX12_overlap_44 : decode cX12_overlap 44 = .ok (.bipush 71, 2) := by decide +kernel
theorem dX12_overlap_46 : decode cX12_overlap 46 = .ok (.iload_n 1, 1) := by decide +kernel
theorem dX12_overlap_47 : decode cX12_overlap 47 = .ok (.iadd, 1) := by decide +kernel
theorem dX12_overlap_48 : decode cX12_overlap 48 = .ok (.iaload, 1) := by decide +kernel
theorem dX12_overlap_49 : decode cX12_overlap 49 = .ok (.aload_n 0, 1) := by decide +kernel
theorem dX12_overlap_50 : decode cX12_overlap 50 = .ok (.getfield 9, 3) := by decide +kernel
theorem dX12_overlap_53 : decode cX12_overlap 53 = .ok (.bipush 81, 2) := by decide +kernel
theorem dX12_overlap_55 : decode cX12_overlap 55 = .ok (.iload_n 1, 1) := by decide +kernel
theorem dX12_overlap_56 : decode cX12_overlap 56 = .ok (.iadd, 1) := by decide +kernel
theorem dX12_overlap_57 : decode cX12_overlap 57 = .ok (.iaload, 1) := by decide +kernel
theorem dX12_overlap_58 : decode cX12_overlap 58 = .ok (.iadd, 1) := by decide +kernel
theorem dX12_overlap_59 : decode cX12_overlap 59 = .ok (.if_icmp .ge 7, 3) := by decide +kernel
theorem dX12_overlap_62 : decode cX12_overlap 62 = .ok (.iconst 1, 1) := by decide +kernel
theorem dX12_overlap_63 : decode cX12_overlap 63 = .ok (.goto 4, 3) := by decide +kernel
theorem dX12_overlap_66 : decode cX12_overlap 66 = .ok (.iconst 0, 1) := by decide +kernel
theorem dX12_overlap_67 : decode cX12_overlap 67 = .ok (.ireturn, 1) := by decide +kernel
theorem dX12_sharesLine_0 : decode cX12_sharesLine 0 = .ok (.aload_n 0, 1) := by decide +kernel
theorem dX12_sharesLine_1 : decode cX12_sharesLine 1 = .ok (.getfield 9, 3) := by decide +kernel
theorem dX12_sharesLine_4 : decode cX12_sharesLine 4 = .ok (.bipush 51, 2) := by decide +kernel
theorem dX12_sharesLine_6 : decode cX12_sharesLine 6 = .ok (.iload_n 1, 1) := by decide +kernel
theorem dX12_sharesLine_7 : decode cX12_sharesLine 7 = .ok (.iadd, 1) := by decide +kernel
theorem dX12_sharesLine_8 : decode cX12_sharesLine 8 = .ok (.iaload, 1) := by decide +kernel
theorem dX12_sharesLine_9 : decode cX12_sharesLine 9 = .ok (.iload_n 2, 1) := by decide +kernel
theorem dX12_sharesLine_10 : decode cX12_sharesLine 10 = .ok (.if_icmp .eq 42, 3) := by decide +kernel
theorem dX12_sharesLine_13 : decode cX12_sharesLine 13 = .ok (.aload_n 0, 1) := by decide +kernel
theorem dX12_sharesLine_14 : decode cX12_sharesLine 14 = .ok (.getfield 9, 3) := by decide +kernel
theorem dX12_sharesLine_17 : decode cX12_sharesLine 17 = .ok (.bipush 51, 2) := by decide +kernel
theorem dX12_sharesLine_19 : decode cX12_sharesLine 19 = .ok (.iload_n 1, 1) := by decide +kernel
theorem dX12_sharesLine_20 : decode cX12_sharesLine 20 = .ok (.iadd, 1) := by decide +kernel
theorem dX12_sharesLine_21 : decode cX12_sharesLine 21 = .ok (.iaload, 1) := by decide +kernel
theorem dX12_sharesLine_22 : decode cX12_sharesLine 22 = .ok (.iload_n 3, 1) := by decide +kernel
theorem dX12_sharesLine_23 : decode cX12_sharesLine 23 = .ok (.if_icmp .eq 29, 3) := by decide +kernel
theorem dX12_sharesLine_26 : decode cX12_sharesLine 26 = .ok (.aload_n 0, 1) := by decide +kernel
theorem dX12_sharesLine_27 : decode cX12_sharesLine 27 = .ok (.getfield 9, 3) := by decide +kernel
theorem dX12_sharesLine_30 : decode cX12_sharesLine 30 = .ok (.bipush 61, 2) := by decide +kernel
theorem dX12_sharesLine_32 : decode cX12_sharesLine 32 = .ok (.iload_n 1, 1) := by decide +kernel
theorem dX12_sharesLine_33 : decode cX12_sharesLine 33 = .ok (.iadd, 1) := by decide +kernel
theorem dX12_sharesLine_34 : decode cX12_sharesLine 34 = .ok (.iaload, 1) := by decide +kernel
theorem dX12_sharesLine_35 : decode cX12_sharesLine 35 = .ok (.iload_n 2, 1) := by decide +kernel
theorem dX12_sharesLine_36 : decode cX12_sharesLine 36 = .ok (.if_icmp .eq 16, 3) := by decide +kernel
theorem dX12_sharesLine_39 : decode cX12_sharesLine 39 = .ok (.aload_n 0, 1) := by decide +kernel
theorem dX12_sharesLine_40 : decode cX12_sharesLine 40 = .ok (.getfield 9, 3) := by decide +kernel
theorem dX12_sharesLine_43 : decode cX12_sharesLine 43 = .ok (.bipush 61, 2) := by decide +kernel
theorem dX12_sharesLine_45 : decode cX12_sharesLine 45 = .ok (.iload_n 1, 1) := by decide +kernel
theorem dX12_sharesLine_46 : decode cX12_sharesLine 46 = .ok (.iadd, 1) := by decide +kernel
theorem dX12_sharesLine_47 : decode cX12_sharesLine 47 = .ok (.iaload, 1) := by decide +kernel
theorem dX12_sharesLine_48 : decode cX12_sharesLine 48 = .ok (.iload_n 3, 1) := by decide +kernel
theorem dX12_sharesLine_49 : decode cX12_sharesLine 49 = .ok (.if_icmp .ne 7, 3) := by decide +kernel
theorem dX12_sharesLine_52 : decode cX12_sharesLine 52 = .ok (.iconst 1, 1) := by decide +kernel
theorem dX12_sharesLine_53 : decode cX12_sharesLine 53 = .ok (.goto 4, 3) := by decide +kernel
theorem dX12_sharesLine_56 : decode cX12_sharesLine 56 = .ok (.iconst 0, 1) := by decide +kernel
theorem dX12_sharesLine_57 : decode cX12_sharesLine 57 = .ok (.ireturn, 1) := by decide +kernel
theorem dX12_couldBe_0 : decode cX12_couldBe 0 = .ok (.aload_n 0, 1) := by decide +kernel
theorem dX12_couldBe_1 : decode cX12_couldBe 1 = .ok (.getfield 9, 3) := by decide +kernel
theorem dX12_couldBe_4 : decode cX12_couldBe 4 = .ok (.bipush 51, 2) := by decide +kernel
theorem dX12_couldBe_6 : decode cX12_couldBe 6 = .ok (.iload_n 1, 1) := by decide +kernel
theorem dX12_couldBe_7 : decode cX12_couldBe 7 = .ok (.iadd, 1) := by decide +kernel
theorem dX12_couldBe_8 : decode cX12_couldBe 8 = .ok (.iaload, 1) := by decide +kernel
theorem dX12_couldBe_9 : decode cX12_couldBe 9 = .ok (.istore_n 3, 1) := by decide +kernel
theorem dX12_couldBe_10 : decode cX12_couldBe 10 = .ok (.aload_n 0, 1) := by decide +kernel
theorem dX12_couldBe_11 : decode cX12_couldBe 11 = .ok (.getfield 9, 3) := by decide +kernel
theorem dX12_couldBe_14 : decode cX12_couldBe 14 = .ok (.bipush 61, 2) := by decide +kernel
theorem dX12_couldBe_16 : decode cX12_couldBe 16 = .ok (.iload_n 1, 1) := by decide +kernel
theorem dX12_couldBe_17 : decode cX12_couldBe 17 = .ok (.iadd, 1) := by decide +kernel
theorem dX12_couldBe_18 : decode cX12_couldBe 18 = .ok (.iaload, 1) := by decide +kernel
theorem dX12_couldBe_19 : decode cX12_couldBe 19 = .ok (.istore 4, 2) := by decide +kernel
theorem dX12_couldBe_21 : decode cX12_couldBe 21 = .ok (.aload_n 0, 1) := by decide +kernel
theorem dX12_couldBe_22 : decode cX12_couldBe 22 = .ok (.iload_n 3, 1) := by decide +kernel
theorem dX12_couldBe_23 : decode cX12_couldBe 23 = .ok (.invokevirtual 310, 3) := by decide +kernel
theorem dX12_couldBe_26 : decode cX12_couldBe 26 = .ok (.ifCond .ne 52, 3) := by decide +kernel
theorem dX12_couldBe_29 : decode cX12_couldBe 29 = .ok (.aload_n 0, 1) := by decide +kernel
theorem dX12_couldBe_30 : decode cX12_couldBe 30 = .ok (.iload 4, 2) := by decide +kernel
theorem dX12_couldBe_32 : decode cX12_couldBe 32 = .ok (.invokevirtual 310, 3) := by decide +kernel
theorem dX12_couldBe_35 : decode cX12_couldBe 35 = .ok (.ifCond .ne 43, 3) := by decide +kernel
theorem dX12_couldBe_38 : decode cX12_couldBe 38 = .ok (.aload_n 0, 1) := by decide +kernel
theorem dX12_couldBe_39 : decode cX12_couldBe 39 = .ok (.getfield 424, 3) := by decide +kernel
theorem dX12_couldBe_42 : decode cX12_couldBe 42 = .ok (.ifCond .eq 38, 3) := by decide +kernel
theorem dX12_couldBe_45 : decode cX12_couldBe 45 = .ok (.aload_n 0, 1) := by decide +kernel
theorem dX12_couldBe_46 : decode cX12_couldBe 46 = .ok (.getfield 9, 3) := by decide +kernel
theorem dX12_couldBe_49 : decode cX12_couldBe 49 = .ok (.bipush 48, 2) := by decide +kernel
theorem dX12_couldBe_51 : decode cX12_couldBe 51 = .ok (.iload_n 2, 1) := by decide +kernel
theorem dX12_couldBe_52 : decode cX12_couldBe 52 = .ok (.iadd, 1) := by decide +kernel
theorem dX12_couldBe_53 : decode cX12_couldBe 53 = .ok (.iaload, 1) := by decide +kernel
theorem dX12_couldBe_54 : decode cX12_couldBe 54 = .ok (.iload_n 3, 1) := by decide +kernel
theorem dX12_couldBe_55 : decode cX12_couldBe 55 = .ok (.invokestatic 270, 3) := by decide +kernel
theorem dX12_couldBe_58 : decode cX12_couldBe 58 = .ok (.ifCond .eq 20, 3) := by decide +kernel
theorem dX12_couldBe_61 : decode cX12_couldBe 61 = .ok (.aload_n 0, 1) := by decide +kernel
theorem dX12_couldBe_62 : decode cX12_couldBe 62 = .ok (.getfield 9, 3) := by decide +kernel
theorem dX12_couldBe_65 : decode cX12_couldBe 65 = .ok (.bipush 48, 2) := by decide +kernel
theorem dX12_couldBe_67 : decode cX12_couldBe 67 = .ok (.iload_n 2, 1) := by decide +kernel
theorem dX12_couldBe_68 : decode cX12_couldBe 68 = .ok (.iadd, 1) := by decide +kernel
theorem dX12_couldBe_69 : decode cX12_couldBe 69 = .ok (.iaload, 1) := by decide +kernel
theorem dX12_couldBe_70 : decode cX12_couldBe 70 = .ok (.iload 4, 2) := by decide +kernel
theorem dX12_couldBe_72 : decode cX12_couldBe 72 = .ok (.invokestatic 270, 3) := by decide +kernel
theorem dX12_couldBe_75 : decode cX12_couldBe 75 = .ok (.ifCond .ne 5, 3) := by decide +kernel
theorem dX12_couldBe_78 : decode cX12_couldBe 78 = .ok (.iconst 0, 1) := by decide +kernel
theorem dX12_couldBe_79 : decode cX12_couldBe 79 = .ok (.ireturn, 1) := by decide +kernel
theorem dX12_couldBe_80 : decode cX12_couldBe 80 = .ok (.iconst 0, 1) := by decide +kernel
theorem dX12_couldBe_81 : decode cX12_couldBe 81 = .ok (.istore 5, 2) := by decide +kernel
theorem dX12_couldBe_83 : decode cX12_couldBe 83 = .ok (.iload 5, 2) := by decide +kernel
theorem dX12_couldBe_85 : decode cX12_couldBe 85 = .ok (.aload_n 0, 1) := by decide +kernel
theorem dX12_couldBe_86 : decode cX12_couldBe 86 = .ok (.invokevirtual 267, 3) := by decide +kernel
theorem dX12_couldBe_89 : decode cX12_couldBe 89 = .ok (.if_icmp .ge 192, 3) := by decide +kernel
theorem dX12_couldBe_92 : decode cX12_couldBe 92 = .ok (.aload_n 0, 1) := by decide +kernel
theorem dX12_couldBe_93 : decode cX12_couldBe 93 = .ok (.getfield 9, 3) := by decide +kernel
theorem dX12_couldBe_96 : decode cX12_couldBe 96 = .ok (.bipush 8, 2) := by decide +kernel
theorem dX12_couldBe_98 : decode cX12_couldBe 98 = .ok (.iload 5, 2) := by decide +kernel
theorem dX12_couldBe_100 : decode cX12_couldBe 100 = .ok (.iadd, 1) := by decide +kernel
theorem dX12_couldBe_101 : decode cX12_couldBe 101 = .ok (.iaload, 1) := by decide +kernel
theorem dX12_couldBe_102 : decode cX12_couldBe 102 = .ok (.iconst 1, 1) := by decide +kernel
theorem dX12_couldBe_103 : decode cX12_couldBe 103 = .ok (.if_icmp .ne 7, 3) := by decide +kernel
theorem dX12_couldBe_106 : decode cX12_couldBe 106 = .ok (.iconst 1, 1) := by decide +kernel
theorem dX12_couldBe_107 : decode cX12_couldBe 107 = .ok (.goto 4, 3) := by decide +kernel
theorem dX12_couldBe_110 : decode cX12_couldBe 110 = .ok (.iconst 0, 1) := by decide +kernel
theorem dX12_couldBe_111 : decode cX12_couldBe 111 = .ok (.istore 6, 2) := by decide +kernel
theorem dX12_couldBe_113 : decode cX12_couldBe 113 = .ok (.iload 6, 2) := by decide +kernel
theorem dX12_couldBe_115 : decode cX12_couldBe 115 = .ok (.ifCond .eq 87, 3) := by decide +kernel
theorem dX12_couldBe_118 : decode cX12_couldBe 118 = .ok (.aload_n 0, 1) := by decide +kernel
theorem dX12_couldBe_119 : decode cX12_couldBe 119 = .ok (.getfield 9, 3) := by decide +kernel
theorem dX12_couldBe_122 : decode cX12_couldBe 122 = .ok (.bipush 71, 2) := by decide +kernel
theorem dX12_couldBe_124 : decode cX12_couldBe 124 = .ok (.iload_n 1, 1) := by decide +kernel
theorem dX12_couldBe_125 : decode cX12_couldBe 125 = .ok (.iadd, 1) := by decide +kernel
theorem dX12_couldBe_126 : decode cX12_couldBe 126 = .ok (.iaload, 1) := by decide +kernel
theorem dX12_couldBe_127 : decode cX12_couldBe 127 = .ok (.aload_n 0, 1) := by decide +kernel
theorem dX12_couldBe_128 : decode cX12_couldBe 128 = .ok (.getfield 9, 3) := by decide +kernel
theorem dX12_couldBe_131 : decode cX12_couldBe 131 = .ok (.bipush 71, 2) := by decide +kernel
theorem dX12_couldBe_133 : decode cX12_couldBe 133 = .ok (.iload 5, 2) := by decide +kernel
theorem dX12_couldBe_135 : decode cX12_couldBe 135 = .ok (.iadd, 1) := by decide +kernel
theorem dX12_couldBe_136 : decode cX12_couldBe 136 = .ok (.iaload, 1) := by decide +kernel
theorem dX12_couldBe_137 : decode cX12_couldBe 137 = .ok (.aload_n 0, 1) := by decide +kernel
theorem dX12_couldBe_138 : decode cX12_couldBe 138 = .ok (.getfield 9, 3) := by decide +kernel
theorem dX12_couldBe_141 : decode cX12_couldBe 141 = .ok (.bipush 81, 2) := by decide +kernel
theorem dX12_couldBe_143 : decode cX12_couldBe 143 = .ok (.iload 5, 2) := by decide +kernel
theorem dX12_couldBe_145 : decode cX12_couldBe 145 = .ok (.iadd, 1) := by decide +kernel
theorem dX12_couldBe_146 : decode cX12_couldBe 146 = .ok (.iaload, 1) := by decide +kernel
theorem dX12_couldBe_147 : decode cX12_couldBe 147 = .ok (.iadd, 1) := by decide +kernel
theorem dX12_couldBe_148 : decode cX12_couldBe 148 = .ok (.if_icmp .ge 54, 3) := by decide +kernel
theorem dX12_couldBe_151 : decode cX12_couldBe 151 = .ok (.aload_n 0, 1) := by decide +kernel
theorem dX12_couldBe_152 : decode cX12_couldBe 152 = .ok (.iload_n 1, 1) := by decide +kernel
theorem dX12_couldBe_153 : decode cX12_couldBe 153 = .ok (.aload_n 0, 1) := by decide +kernel
theorem dX12_couldBe_154 : decode cX12_couldBe 154 = .ok (.getfield 9, 3) := by decide +kernel
theorem dX12_couldBe_157 : decode cX12_couldBe 157 = .ok (.bipush 51, 2) := by decide +kernel
theorem dX12_couldBe_159 : decode cX12_couldBe 159 = .ok (.iload 5, 2) := by decide +kernel
theorem dX12_couldBe_161 : decode cX12_couldBe 161 = .ok (.iadd, 1) := by decide +kernel
theorem dX12_couldBe_162 : decode cX12_couldBe 162 = .ok (.iaload, 1) := by decide +kernel
theorem dX12_couldBe_163 : decode cX12_couldBe 163 = .ok (.aload_n 0, 1) := by decide +kernel
theorem dX12_couldBe_164 : decode cX12_couldBe 164 = .ok (.getfield 9, 3) := by decide +kernel
theorem dX12_couldBe_167 : decode cX12_couldBe 167 = .ok (.bipush 18, 2) := by decide +kernel
theorem dX12_couldBe_169 : decode cX12_couldBe 169 = .ok (.iload 5, 2) := by decide +kernel
theorem dX12_couldBe_171 : decode cX12_couldBe 171 = .ok (.iadd, 1) := by decide +kernel
theorem dX12_couldBe_172 : decode cX12_couldBe 172 = .ok (.iaload, 1) := by decide +kernel
theorem dX12_couldBe_173 : decode cX12_couldBe 173 = .ok (.invokevirtual 428, 3) := by decide +kernel
theorem dX12_couldBe_176 : decode cX12_couldBe 176 = .ok (.ifCond .ne 24, 3) := by decide +kernel
theorem dX12_couldBe_179 : decode cX12_couldBe 179 = .ok (.aload_n 0, 1) := by decide +kernel
theorem dX12_couldBe_180 : decode cX12_couldBe 180 = .ok (.getfield 424, 3) := by decide +kernel
theorem dX12_couldBe_183 : decode cX12_couldBe 183 = .ok (.ifCond .eq 19, 3) := by decide +kernel
theorem dX12_couldBe_186 : decode cX12_couldBe 186 = .ok (.aload_n 0, 1) := by decide +kernel
theorem dX12_couldBe_187 : decode cX12_couldBe 187 = .ok (.getfield 9, 3) := by decide +kernel
theorem dX12_couldBe_190 : decode cX12_couldBe 190 = .ok (.bipush 28, 2) := by decide +kernel
theorem dX12_couldBe_192 : decode cX12_couldBe 192 = .ok (.iload 5, 2) := by decide +kernel
theorem dX12_couldBe_194 : decode cX12_couldBe 194 = .ok (.iadd, 1) := by decide +kernel
theorem dX12_couldBe_195 : decode cX12_couldBe 195 = .ok (.iaload, 1) := by decide +kernel
theorem dX12_couldBe_196 : decode cX12_couldBe 196 = .ok (.iload_n 2, 1) := by decide +kernel
theorem dX12_couldBe_197 : decode cX12_couldBe 197 = .ok (.if_icmp .ne 5, 3) := by decide +kernel
theorem dX12_couldBe_200 : decode cX12_couldBe 200 = .ok (.iconst 0, 1) := by decide +kernel
theorem dX12_couldBe_201 : decode cX12_couldBe 201 = .ok (.ireturn, 1) := by decide +kernel
theorem dX12_couldBe_202 : decode cX12_couldBe 202 = .ok (.iload 6, 2) := by decide +kernel
theorem dX12_couldBe_204 : decode cX12_couldBe 204 = .ok (.ifCond .ne 71, 3) := by decide +kernel
theorem dX12_couldBe_207 : decode cX12_couldBe 207 = .ok (.iload 5, 2) := by decide +kernel
theorem dX12_couldBe_209 : decode cX12_couldBe 209 = .ok (.iload_n 1, 1) := by decide +kernel
theorem dX12_couldBe_210 : decode cX12_couldBe 210 = .ok (.if_icmp .ge 65, 3) := by decide +kernel
theorem dX12_couldBe_213 : decode cX12_couldBe 213 = .ok (.aload_n 0, 1) := by decide +kernel
theorem dX12_couldBe_214 : decode cX12_couldBe 214 = .ok (.getfield 45, 3) := by decide +kernel
theorem dX12_couldBe_217 : decode cX12_couldBe 217 = .ok (.iload 5, 2) := by decide +kernel
theorem dX12_couldBe_219 : decode cX12_couldBe 219 = .ok (.iaload, 1) := by decide +kernel
theorem dX12_couldBe_220 : decode cX12_couldBe 220 = .ok (.iconst (-1), 1) := by decide +kernel
theorem dX12_couldBe_221 : decode cX12_couldBe 221 = .ok (.if_icmp .eq 54, 3) := by decide +kernel
theorem dX12_couldBe_224 : decode cX12_couldBe 224 = .ok (.aload_n 0, 1) := by decide +kernel
theorem dX12_couldBe_225 : decode cX12_couldBe 225 = .ok (.iload_n 1, 1) := by decide +kernel
theorem dX12_couldBe_226 : decode cX12_couldBe 226 = .ok (.iload 5, 2) := by decide +kernel
theorem dX12_couldBe_228 : decode cX12_couldBe 228 = .ok (.invokevirtual 432, 3) := by decide +kernel
theorem dX12_couldBe_231 : decode cX12_couldBe 231 = .ok (.ifCond .eq 44, 3) := by decide +kernel
theorem dX12_couldBe_234 : decode cX12_couldBe 234 = .ok (.aload_n 0, 1) := by decide +kernel
theorem dX12_couldBe_235 : decode cX12_couldBe 235 = .ok (.iload_n 1, 1) := by decide +kernel
theorem dX12_couldBe_236 : decode cX12_couldBe 236 = .ok (.aload_n 0, 1) := by decide +kernel
theorem dX12_couldBe_237 : decode cX12_couldBe 237 = .ok (.getfield 9, 3) := by decide +kernel
theorem dX12_couldBe_240 : decode cX12_couldBe 240 = .ok (.bipush 51, 2) := by decide +kernel
theorem dX12_couldBe_242 : decode cX12_couldBe 242 = .ok (.iload 5, 2) := by decide +kernel
theorem dX12_couldBe_244 : decode cX12_couldBe 244 = .ok (.iadd, 1) := by decide +kernel
theorem dX12_couldBe_245 : decode cX12_couldBe 245 = .ok (.iaload, 1) := by decide +kernel
theorem dX12_couldBe_246 : decode cX12_couldBe 246 = .ok (.aload_n 0, 1) := by decide +kernel
theorem dX12_couldBe_247 : decode cX12_couldBe 247 = .ok (.getfield 9, 3) := by decide +kernel
theorem dX12_couldBe_250 : decode cX12_couldBe 250 = .ok (.bipush 61, 2) := by decide +kernel
theorem dX12_couldBe_252 : decode cX12_couldBe 252 = .ok (.iload 5, 2) := by decide +kernel
theorem dX12_couldBe_254 : decode cX12_couldBe 254 = .ok (.iadd, 1) := by decide +kernel
theorem dX12_couldBe_255 : decode cX12_couldBe 255 = .ok (.iaload, 1) := by decide +kernel
theorem dX12_couldBe_256 : decode cX12_couldBe 256 = .ok (.invokevirtual 428, 3) := by decide +kernel
theorem dX12_couldBe_259 : decode cX12_couldBe 259 = .ok (.ifCond .ne 14, 3) := by decide +kernel
theorem dX12_couldBe_262 : decode cX12_couldBe 262 = .ok (.aload_n 0, 1) := by decide +kernel
theorem dX12_couldBe_263 : decode cX12_couldBe 263 = .ok (.getfield 45, 3) := by decide +kernel
theorem dX12_couldBe_266 : decode cX12_couldBe 266 = .ok (.iload 5, 2) := by decide +kernel
theorem dX12_couldBe_268 : decode cX12_couldBe 268 = .ok (.iaload, 1) := by decide +kernel
theorem dX12_couldBe_269 : decode cX12_couldBe 269 = .ok (.iload_n 2, 1) := by decide +kernel
theorem dX12_couldBe_270 : decode cX12_couldBe 270 = .ok (.if_icmp .ne 5, 3) := by decide +kernel
theorem dX12_couldBe_273 : decode cX12_couldBe 273 = .ok (.iconst 0, 1) := by decide +kernel
theorem dX12_couldBe_274 : decode cX12_couldBe 274 = .ok (.ireturn, 1) := by decide +kernel
theorem dX12_couldBe_275 : decode cX12_couldBe 275 = .ok (.iinc 5 1, 3) := by decide +kernel
theorem dX12_couldBe_278 : decode cX12_couldBe 278 = .ok (.goto (-195), 3) := by decide +kernel
theorem dX12_couldBe_281 : decode cX12_couldBe 281 = .ok (.iconst 1, 1) := by decide +kernel
theorem dX12_couldBe_282 : decode cX12_couldBe 282 = .ok (.ireturn, 1) := by decide +kernel
theorem dX12_goesCalls_0 : decode cX12_goesCalls 0 = .ok (.iload_n 1, 1) := by decide +kernel
theorem dX12_goesCalls_1 : decode cX12_goesCalls 1 = .ok (.aload_n 0, 1) := by decide +kernel
theorem dX12_goesCalls_2 : decode cX12_goesCalls 2 = .ok (.invokevirtual 267, 3) := by decide +kernel
theorem dX12_goesCalls_5 : decode cX12_goesCalls 5 = .ok (.if_icmp .ne 48, 3) := by decide +kernel
theorem dX12_goesCalls_8 : decode cX12_goesCalls 8 = .ok (.iload_n 2, 1) := by decide +kernel
theorem dX12_goesCalls_9 : decode cX12_goesCalls 9 = .ok (.invokestatic 355, 3) := by decide +kernel
theorem dX12_goesCalls_12 : decode cX12_goesCalls 12 = .ok (.aload_n 0, 1) := by decide +kernel
theorem dX12_goesCalls_13 : decode cX12_goesCalls 13 = .ok (.getfield 435, 3) := by decide +kernel
theorem dX12_goesCalls_16 : decode cX12_goesCalls 16 = .ok (.if_icmp .lt 22, 3) := by decide +kernel
theorem dX12_goesCalls_19 : decode cX12_goesCalls 19 = .ok (.iload_n 2, 1) := by decide +kernel
theorem dX12_goesCalls_20 : decode cX12_goesCalls 20 = .ok (.invokestatic 355, 3) := by decide +kernel
theorem dX12_goesCalls_23 : decode cX12_goesCalls 23 = .ok (.aload_n 0, 1) := by decide +kernel
theorem dX12_goesCalls_24 : decode cX12_goesCalls 24 = .ok (.getfield 435, 3) := by decide +kernel
theorem dX12_goesCalls_27 : decode cX12_goesCalls 27 = .ok (.if_icmp .ne 12, 3) := by decide +kernel
theorem dX12_goesCalls_30 : decode cX12_goesCalls 30 = .ok (.iload_n 2, 1) := by decide +kernel
theorem dX12_goesCalls_31 : decode cX12_goesCalls 31 = .ok (.aload_n 0, 1) := by decide +kernel
theorem dX12_goesCalls_32 : decode cX12_goesCalls 32 = .ok (.getfield 438, 3) := by decide +kernel
theorem dX12_goesCalls_35 : decode cX12_goesCalls 35 = .ok (.if_icmp .lt 4, 3) := by decide +kernel
theorem dX12_goesCalls_38 : decode cX12_goesCalls 38 = .ok (.return_, 1) := by decide +kernel
theorem dX12_goesCalls_39 : decode cX12_goesCalls 39 = .ok (.aload_n 0, 1) := by decide +kernel
theorem dX12_goesCalls_40 : decode cX12_goesCalls 40 = .ok (.iload_n 2, 1) := by decide +kernel
theorem dX12_goesCalls_41 : decode cX12_goesCalls 41 = .ok (.invokestatic 355, 3) := by decide +kernel
theorem dX12_goesCalls_44 : decode cX12_goesCalls 44 = .ok (.putfield 435, 3) := by decide +kernel
theorem dX12_goesCalls_47 : decode cX12_goesCalls 47 = .ok (.aload_n 0, 1) := by decide +kernel
theorem dX12_goesCalls_48 : decode cX12_goesCalls 48 = .ok (.iload_n 2, 1) := by decide +kernel
theorem dX12_goesCalls_49 : decode cX12_goesCalls 49 = .ok (.putfield 438, 3) := by decide +kernel
theorem dX12_goesCalls_52 : decode cX12_goesCalls 52 = .ok (.return_, 1) := by decide +kernel
theorem dX12_goesCalls_53 : decode cX12_goesCalls 53 = .ok (.iload_n 2, 1) := by decide +kernel
theorem dX12_goesCalls_54 : decode cX12_goesCalls 54 = .ok (.invokestatic 355, 3) := by decide +kernel
theorem dX12_goesCalls_57 : decode cX12_goesCalls 57 = .ok (.aload_n 0, 1) := by decide +kernel
theorem dX12_goesCalls_58 : decode cX12_goesCalls 58 = .ok (.invokevirtual 267, 3) := by decide +kernel
theorem dX12_goesCalls_61 : decode cX12_goesCalls 61 = .ok (.iadd, 1) := by decide +kernel
theorem dX12_goesCalls_62 : decode cX12_goesCalls 62 = .ok (.iload_n 1, 1) := by decide +kernel
theorem dX12_goesCalls_63 : decode cX12_goesCalls 63 = .ok (.isub, 1) := by decide +kernel
theorem dX12_goesCalls_64 : decode cX12_goesCalls 64 = .ok (.aload_n 0, 1) := by decide +kernel
theorem dX12_goesCalls_65 : decode cX12_goesCalls 65 = .ok (.getfield 435, 3) := by decide +kernel
theorem dX12_goesCalls_68 : decode cX12_goesCalls 68 = .ok (.if_icmp .ge 4, 3) := by decide +kernel
theorem dX12_goesCalls_71 : decode cX12_goesCalls 71 = .ok (.return_, 1) := by decide +kernel
theorem dX12_goesCalls_72 : decode cX12_goesCalls 72 = .ok (.aload_n 0, 1) := by decide +kernel
theorem dX12_goesCalls_73 : decode cX12_goesCalls 73 = .ok (.getfield 45, 3) := by decide +kernel
theorem dX12_goesCalls_76 : decode cX12_goesCalls 76 = .ok (.iload_n 1, 1) := by decide +kernel
theorem dX12_goesCalls_77 : decode cX12_goesCalls 77 = .ok (.iconst (-1), 1) := by decide +kernel
theorem dX12_goesCalls_78 : decode cX12_goesCalls 78 = .ok (.iastore, 1) := by decide +kernel
theorem dX12_goesCalls_79 : decode cX12_goesCalls 79 = .ok (.aload_n 0, 1) := by decide +kernel
theorem dX12_goesCalls_80 : decode cX12_goesCalls 80 = .ok (.iload_n 1, 1) := by decide +kernel
theorem dX12_goesCalls_81 : decode cX12_goesCalls 81 = .ok (.iconst 1, 1) := by decide +kernel
theorem dX12_goesCalls_82 : decode cX12_goesCalls 82 = .ok (.iadd, 1) := by decide +kernel
theorem dX12_goesCalls_83 : decode cX12_goesCalls 83 = .ok (.iload_n 2, 1) := by decide +kernel
theorem dX12_goesCalls_84 : decode cX12_goesCalls 84 = .ok (.invokevirtual 441, 3) := by decide +kernel
theorem dX12_goesCalls_87 : decode cX12_goesCalls 87 = .ok (.iconst 0, 1) := by decide +kernel
theorem dX12_goesCalls_88 : decode cX12_goesCalls 88 = .ok (.istore_n 3, 1) := by decide +kernel
theorem dX12_goesCalls_89 : decode cX12_goesCalls 89 = .ok (.iload_n 3, 1) := by decide +kernel
theorem dX12_goesCalls_90 : decode cX12_goesCalls 90 = .ok (.aload_n 0, 1) := by decide +kernel
theorem dX12_goesCalls_91 : decode cX12_goesCalls 91 = .ok (.getfield 444, 3) := by decide +kernel
theorem dX12_goesCalls_94 : decode cX12_goesCalls 94 = .ok (.if_icmp .ge 78, 3) := by decide +kernel
theorem dX12_goesCalls_97 : decode cX12_goesCalls 97 = .ok (.aload_n 0, 1) := by decide +kernel
theorem dX12_goesCalls_98 : decode cX12_goesCalls 98 = .ok (.getfield 9, 3) := by decide +kernel
theorem dX12_goesCalls_101 : decode cX12_goesCalls 101 = .ok (.bipush 8, 2) := by decide +kernel
theorem dX12_goesCalls_103 : decode cX12_goesCalls 103 = .ok (.iload_n 1, 1) := by decide +kernel
theorem dX12_goesCalls_104 : decode cX12_goesCalls 104 = .ok (.iadd, 1) := by decide +kernel
theorem dX12_goesCalls_105 : decode cX12_goesCalls 105 = .ok (.iaload, 1) := by decide +kernel
theorem dX12_goesCalls_106 : decode cX12_goesCalls 106 = .ok (.ifCond .ne 66, 3) := by decide +kernel
theorem dX12_goesCalls_109 : decode cX12_goesCalls 109 = .ok (.aload_n 0, 1) := by decide +kernel
theorem dX12_goesCalls_110 : decode cX12_goesCalls 110 = .ok (.getfield 9, 3) := by decide +kernel
theorem dX12_goesCalls_113 : decode cX12_goesCalls 113 = .ok (.bipush 71, 2) := by decide +kernel
theorem dX12_goesCalls_115 : decode cX12_goesCalls 115 = .ok (.iload_n 1, 1) := by decide +kernel
theorem dX12_goesCalls_116 : decode cX12_goesCalls 116 = .ok (.iadd, 1) := by decide +kernel
theorem dX12_goesCalls_117 : decode cX12_goesCalls 117 = .ok (.iaload, 1) := by decide +kernel
theorem dX12_goesCalls_118 : decode cX12_goesCalls 118 = .ok (.aload_n 0, 1) := by decide +kernel
theorem dX12_goesCalls_119 : decode cX12_goesCalls 119 = .ok (.getfield 9, 3) := by decide +kernel
theorem dX12_goesCalls_122 : decode cX12_goesCalls 122 = .ok (.bipush 47, 2) := by decide +kernel
theorem dX12_goesCalls_124 : decode cX12_goesCalls 124 = .ok (.iaload, 1) := by decide +kernel
theorem dX12_goesCalls_125 : decode cX12_goesCalls 125 = .ok (.if_icmp .lt 47, 3) := by decide +kernel
theorem dX12_goesCalls_128 : decode cX12_goesCalls 128 = .ok (.aload_n 0, 1) := by decide +kernel
theorem dX12_goesCalls_129 : decode cX12_goesCalls 129 = .ok (.iload_n 1, 1) := by decide +kernel
theorem dX12_goesCalls_130 : decode cX12_goesCalls 130 = .ok (.iload_n 3, 1) := by decide +kernel
theorem dX12_goesCalls_131 : decode cX12_goesCalls 131 = .ok (.invokevirtual 447, 3) := by decide +kernel
theorem dX12_goesCalls_134 : decode cX12_goesCalls 134 = .ok (.ifCond .ne 6, 3) := by decide +kernel
theorem dX12_goesCalls_137 : decode cX12_goesCalls 137 = .ok (.goto 29, 3) := by decide +kernel
theorem dX12_goesCalls_140 : decode cX12_goesCalls 140 = .ok (.aload_n 0, 1) := by decide +kernel
theorem dX12_goesCalls_141 : decode cX12_goesCalls 141 = .ok (.getfield 45, 3) := by decide +kernel
theorem dX12_goesCalls_144 : decode cX12_goesCalls 144 = .ok (.iload_n 1, 1) := by decide +kernel
theorem dX12_goesCalls_145 : decode cX12_goesCalls 145 = .ok (.iload_n 3, 1) := by decide +kernel
theorem dX12_goesCalls_146 : decode cX12_goesCalls 146 = .ok (.iastore, 1) := by decide +kernel
theorem dX12_goesCalls_147 : decode cX12_goesCalls 147 = .ok (.aload_n 0, 1) := by decide +kernel
theorem dX12_goesCalls_148 : decode cX12_goesCalls 148 = .ok (.iload_n 1, 1) := by decide +kernel
theorem dX12_goesCalls_149 : decode cX12_goesCalls 149 = .ok (.iconst 1, 1) := by decide +kernel
theorem dX12_goesCalls_150 : decode cX12_goesCalls 150 = .ok (.iadd, 1) := by decide +kernel
theorem dX12_goesCalls_151 : decode cX12_goesCalls 151 = .ok (.iload_n 2, 1) := by decide +kernel
theorem dX12_goesCalls_152 : decode cX12_goesCalls 152 = .ok (.iconst 1, 1) := by decide +kernel
theorem dX12_goesCalls_153 : decode cX12_goesCalls 153 = .ok (.iload_n 1, 1) := by decide +kernel
theorem dX12_goesCalls_154 : decode cX12_goesCalls 154 = .ok (.ishl, 1) := by decide +kernel
theorem dX12_goesCalls_155 : decode cX12_goesCalls 155 = .ok (.ior, 1) := by decide +kernel
theorem dX12_goesCalls_156 : decode cX12_goesCalls 156 = .ok (.invokevirtual 441, 3) := by decide +kernel
theorem dX12_goesCalls_159 : decode cX12_goesCalls 159 = .ok (.aload_n 0, 1) := by decide +kernel
theorem dX12_goesCalls_160 : decode cX12_goesCalls 160 = .ok (.getfield 45, 3) := by decide +kernel
theorem dX12_goesCalls_163 : decode cX12_goesCalls 163 = .ok (.iload_n 1, 1) := by decide +kernel
theorem dX12_goesCalls_164 : decode cX12_goesCalls 164 = .ok (.iconst (-1), 1) := by decide +kernel
theorem dX12_goesCalls_165 : decode cX12_goesCalls 165 = .ok (.iastore, 1) := by decide +kernel
theorem dX12_goesCalls_166 : decode cX12_goesCalls 166 = .ok (.iinc 3 1, 3) := by decide +kernel
theorem dX12_goesCalls_169 : decode cX12_goesCalls 169 = .ok (.goto (-80), 3) := by decide +kernel
theorem dX12_goesCalls_172 : decode cX12_goesCalls 172 = .ok (.return_, 1) := by decide +kernel
theorem dX12_laysBest_0 : decode cX12_laysBest 0 = .ok (.aload_n 0, 1) := by decide +kernel
theorem dX12_laysBest_1 : decode cX12_laysBest 1 = .ok (.iload_n 1, 1) := by decide +kernel
theorem dX12_laysBest_2 : decode cX12_laysBest 2 = .ok (.putfield 444, 3) := by decide +kernel
theorem dX12_laysBest_5 : decode cX12_laysBest 5 = .ok (.aload_n 0, 1) := by decide +kernel
theorem dX12_laysBest_6 : decode cX12_laysBest 6 = .ok (.iload_n 2, 1) := by decide +kernel
theorem dX12_laysBest_7 : decode cX12_laysBest 7 = .ok (.putfield 424, 3) := by decide +kernel
theorem dX12_laysBest_10 : decode cX12_laysBest 10 = .ok (.aload_n 0, 1) := by decide +kernel
theorem dX12_laysBest_11 : decode cX12_laysBest 11 = .ok (.iconst (-1), 1) := by decide +kernel
theorem dX12_laysBest_12 : decode cX12_laysBest 12 = .ok (.putfield 435, 3) := by decide +kernel
theorem dX12_laysBest_15 : decode cX12_laysBest 15 = .ok (.aload_n 0, 1) := by decide +kernel
theorem dX12_laysBest_16 : decode cX12_laysBest 16 = .ok (.ldc_w 423, 3) := by decide +kernel
theorem dX12_laysBest_19 : decode cX12_laysBest 19 = .ok (.putfield 438, 3) := by decide +kernel
theorem dX12_laysBest_22 : decode cX12_laysBest 22 = .ok (.aload_n 0, 1) := by decide +kernel
theorem dX12_laysBest_23 : decode cX12_laysBest 23 = .ok (.iconst 0, 1) := by decide +kernel
theorem dX12_laysBest_24 : decode cX12_laysBest 24 = .ok (.iconst 0, 1) := by decide +kernel
theorem dX12_laysBest_25 : decode cX12_laysBest 25 = .ok (.invokevirtual 441, 3) := by decide +kernel
theorem dX12_laysBest_28 : decode cX12_laysBest 28 = .ok (.return_, 1) := by decide +kernel
theorem dX12_best_0 : decode cX12_best 0 = .ok (.aload_n 0, 1) := by decide +kernel
theorem dX12_best_1 : decode cX12_best 1 = .ok (.iconst 0, 1) := by decide +kernel
theorem dX12_best_2 : decode cX12_best 2 = .ok (.putfield 82, 3) := by decide +kernel
theorem dX12_best_5 : decode cX12_best 5 = .ok (.iload_n 1, 1) := by decide +kernel
theorem dX12_best_6 : decode cX12_best 6 = .ok (.i2l, 1) := by decide +kernel
theorem dX12_best_7 : decode cX12_best 7 = .ok (.lconst 0, 1) := by decide +kernel
theorem dX12_best_8 : decode cX12_best 8 = .ok (.lconst 1, 1) := by decide +kernel
theorem dX12_best_9 : decode cX12_best 9 = .ok (.invokestatic 143, 3) := by decide +kernel
theorem dX12_best_12 : decode cX12_best 12 = .ok (.ifCond .ne 9, 3) := by decide +kernel
theorem dX12_best_15 : decode cX12_best 15 = .ok (.aload_n 0, 1) := by decide +kernel
theorem dX12_best_16 : decode cX12_best 16 = .ok (.iconst 1, 1) := by decide +kernel
theorem dX12_best_17 : decode cX12_best 17 = .ok (.invokevirtual 256, 3) := by decide +kernel
theorem dX12_best_20 : decode cX12_best 20 = .ok (.ireturn, 1) := by decide +kernel
theorem dX12_best_21 : decode cX12_best 21 = .ok (.aload_n 0, 1) := by decide +kernel
theorem dX12_best_22 : decode cX12_best 22 = .ok (.aload_n 0, 1) := by decide +kernel
theorem dX12_best_23 : decode cX12_best 23 = .ok (.getfield 9, 3) := by decide +kernel
theorem dX12_best_26 : decode cX12_best 26 = .ok (.iconst 2, 1) := by decide +kernel
theorem dX12_best_27 : decode cX12_best 27 = .ok (.iaload, 1) := by decide +kernel
theorem dX12_best_28 : decode cX12_best 28 = .ok (.iconst 1, 1) := by decide +kernel
theorem dX12_best_29 : decode cX12_best 29 = .ok (.invokevirtual 450, 3) := by decide +kernel
theorem dX12_best_32 : decode cX12_best 32 = .ok (.iload_n 1, 1) := by decide +kernel
theorem dX12_best_33 : decode cX12_best 33 = .ok (.ifCond .ne 10, 3) := by decide +kernel
theorem dX12_best_36 : decode cX12_best 36 = .ok (.aload_n 0, 1) := by decide +kernel
theorem dX12_best_37 : decode cX12_best 37 = .ok (.getfield 435, 3) := by decide +kernel
theorem dX12_best_40 : decode cX12_best 40 = .ok (.goto 7, 3) := by decide +kernel
theorem dX12_best_43 : decode cX12_best 43 = .ok (.aload_n 0, 1) := by decide +kernel
theorem dX12_best_44 : decode cX12_best 44 = .ok (.getfield 438, 3) := by decide +kernel
theorem dX12_best_47 : decode cX12_best 47 = .ok (.ireturn, 1) := by decide +kernel
theorem dX12_bestBy_0 : decode cX12_bestBy 0 = .ok (.aload_n 0, 1) := by decide +kernel
theorem dX12_bestBy_1 : decode cX12_bestBy 1 = .ok (.iconst 0, 1) := by decide +kernel
theorem dX12_bestBy_2 : decode cX12_bestBy 2 = .ok (.putfield 82, 3) := by decide +kernel
theorem dX12_bestBy_5 : decode cX12_bestBy 5 = .ok (.iload_n 1, 1) := by decide +kernel
theorem dX12_bestBy_6 : decode cX12_bestBy 6 = .ok (.i2l, 1) := by decide +kernel
theorem dX12_bestBy_7 : decode cX12_bestBy 7 = .ok (.lconst 0, 1) := by decide +kernel
theorem dX12_bestBy_8 : decode cX12_bestBy 8 = .ok (.ldc2_w 376, 3) := by decide +kernel
theorem dX12_bestBy_11 : decode cX12_bestBy 11 = .ok (.invokestatic 143, 3) := by decide +kernel
theorem dX12_bestBy_14 : decode cX12_bestBy 14 = .ok (.ifCond .ne 9, 3) := by decide +kernel
theorem dX12_bestBy_17 : decode cX12_bestBy 17 = .ok (.aload_n 0, 1) := by decide +kernel
theorem dX12_bestBy_18 : decode cX12_bestBy 18 = .ok (.iconst 1, 1) := by decide +kernel
theorem dX12_bestBy_19 : decode cX12_bestBy 19 = .ok (.invokevirtual 256, 3) := by decide +kernel
theorem dX12_bestBy_22 : decode cX12_bestBy 22 = .ok (.ireturn, 1) := by decide +kernel
theorem dX12_bestBy_23 : decode cX12_bestBy 23 = .ok (.aload_n 0, 1) := by decide +kernel
theorem dX12_bestBy_24 : decode cX12_bestBy 24 = .ok (.iload_n 1, 1) := by decide +kernel
theorem dX12_bestBy_25 : decode cX12_bestBy 25 = .ok (.iconst 0, 1) := by decide +kernel
theorem dX12_bestBy_26 : decode cX12_bestBy 26 = .ok (.invokevirtual 450, 3) := by decide +kernel
theorem dX12_bestBy_29 : decode cX12_bestBy 29 = .ok (.aload_n 0, 1) := by decide +kernel
theorem dX12_bestBy_30 : decode cX12_bestBy 30 = .ok (.getfield 435, 3) := by decide +kernel
theorem dX12_bestBy_33 : decode cX12_bestBy 33 = .ok (.ireturn, 1) := by decide +kernel
theorem dX12_reachesBoth_0 : decode cX12_reachesBoth 0 = .ok (.aload_n 0, 1) := by decide +kernel
theorem dX12_reachesBoth_1 : decode cX12_reachesBoth 1 = .ok (.getfield 9, 3) := by decide +kernel
theorem dX12_reachesBoth_4 : decode cX12_reachesBoth 4 = .ok (.bipush 48, 2) := by decide +kernel
theorem dX12_reachesBoth_6 : decode cX12_reachesBoth 6 = .ok (.iload_n 1, 1) := by decide +kernel
theorem dX12_reachesBoth_7 : decode cX12_reachesBoth 7 = .ok (.iadd, 1) := by decide +kernel
theorem dX12_reachesBoth_8 : decode cX12_reachesBoth 8 = .ok (.iaload, 1) := by decide +kernel
theorem dX12_reachesBoth_9 : decode cX12_reachesBoth 9 = .ok (.iload_n 2, 1) := by decide +kernel
theorem dX12_reachesBoth_10 : decode cX12_reachesBoth 10 = .ok (.invokestatic 270, 3) := by decide +kernel
theorem dX12_reachesBoth_13 : decode cX12_reachesBoth 13 = .ok (.ifCond .eq 23, 3) := by decide +kernel
theorem dX12_reachesBoth_16 : decode cX12_reachesBoth 16 = .ok (.aload_n 0, 1) := by decide +kernel
theorem dX12_reachesBoth_17 : decode cX12_reachesBoth 17 = .ok (.getfield 9, 3) := by decide +kernel
theorem dX12_reachesBoth_20 : decode cX12_reachesBoth 20 = .ok (.bipush 48, 2) := by decide +kernel
theorem dX12_reachesBoth_22 : decode cX12_reachesBoth 22 = .ok (.iload_n 1, 1) := by decide +kernel
theorem dX12_reachesBoth_23 : decode cX12_reachesBoth 23 = .ok (.iadd, 1) := by decide +kernel
theorem dX12_reachesBoth_24 : decode cX12_reachesBoth 24 = .ok (.iaload, 1) := by decide +kernel
theorem dX12_reachesBoth_25 : decode cX12_reachesBoth 25 = .ok (.iload_n 3, 1) := by decide +kernel
theorem dX12_reachesBoth_26 : decode cX12_reachesBoth 26 = .ok (.invokestatic 270, 3) := by decide +kernel
theorem dX12_reachesBoth_29 : decode cX12_reachesBoth 29 = .ok (.ifCond .eq 7, 3) := by decide +kernel
theorem dX12_reachesBoth_32 : decode cX12_reachesBoth 32 = .ok (.iconst 1, 1) := by decide +kernel
theorem dX12_reachesBoth_33 : decode cX12_reachesBoth 33 = .ok (.goto 4, 3) := by decide +kernel
theorem dX12_reachesBoth_36 : decode cX12_reachesBoth 36 = .ok (.iconst 0, 1) := by decide +kernel
theorem dX12_reachesBoth_37 : decode cX12_reachesBoth 37 = .ok (.ireturn, 1) := by decide +kernel
theorem dX12_isEnough_0 : decode cX12_isEnough 0 = .ok (.iconst 0, 1) := by decide +kernel
theorem dX12_isEnough_1 : decode cX12_isEnough 1 = .ok (.istore_n 2, 1) := by decide +kernel
theorem dX12_isEnough_2 : decode cX12_isEnough 2 = .ok (.iload_n 2, 1) := by decide +kernel
theorem dX12_isEnough_3 : decode cX12_isEnough 3 = .ok (.aload_n 0, 1) := by decide +kernel
theorem dX12_isEnough_4 : decode cX12_isEnough 4 = .ok (.getfield 9, 3) := by decide +kernel
theorem dX12_isEnough_7 : decode cX12_isEnough 7 = .ok (.iconst 1, 1) := by decide +kernel
theorem dX12_isEnough_8 : decode cX12_isEnough 8 = .ok (.iaload, 1) := by decide +kernel
theorem dX12_isEnough_9 : decode cX12_isEnough 9 = .ok (.if_icmp .ge 84, 3) := by decide +kernel
theorem dX12_isEnough_12 : decode cX12_isEnough 12 = .ok (.iconst 0, 1) := by decide +kernel
theorem dX12_isEnough_13 : decode cX12_isEnough 13 = .ok (.istore_n 3, 1) := by decide +kernel
theorem dX12_isEnough_14 : decode cX12_isEnough 14 = .ok (.iload_n 3, 1) := by decide +kernel
theorem dX12_isEnough_15 : decode cX12_isEnough 15 = .ok (.iload_n 2, 1) := by decide +kernel
theorem dX12_isEnough_16 : decode cX12_isEnough 16 = .ok (.if_icmp .ge 71, 3) := by decide +kernel
theorem dX12_isEnough_19 : decode cX12_isEnough 19 = .ok (.iconst 0, 1) := by decide +kernel
theorem dX12_isEnough_20 : decode cX12_isEnough 20 = .ok (.istore 4, 2) := by decide +kernel
theorem dX12_isEnough_22 : decode cX12_isEnough 22 = .ok (.iconst 0, 1) := by decide +kernel
theorem dX12_isEnough_23 : decode cX12_isEnough 23 = .ok (.istore 5, 2) := by decide +kernel
theorem dX12_isEnough_25 : decode cX12_isEnough 25 = .ok (.iload 5, 2) := by decide +kernel
theorem dX12_isEnough_27 : decode cX12_isEnough 27 = .ok (.aload_n 0, 1) := by decide +kernel
theorem dX12_isEnough_28 : decode cX12_isEnough 28 = .ok (.getfield 9, 3) := by decide +kernel
theorem dX12_isEnough_31 : decode cX12_isEnough 31 = .ok (.iconst 2, 1) := by decide +kernel
theorem dX12_isEnough_32 : decode cX12_isEnough 32 = .ok (.iaload, 1) := by decide +kernel
theorem dX12_isEnough_33 : decode cX12_isEnough 33 = .ok (.if_icmp .ge 41, 3) := by decide +kernel
theorem dX12_isEnough_36 : decode cX12_isEnough 36 = .ok (.iload 4, 2) := by decide +kernel
theorem dX12_isEnough_38 : decode cX12_isEnough 38 = .ok (.ifCond .ne 23, 3) := by decide +kernel
theorem dX12_isEnough_41 : decode cX12_isEnough 41 = .ok (.iload_n 1, 1) := by decide +kernel
theorem dX12_isEnough_42 : decode cX12_isEnough 42 = .ok (.iload 5, 2) := by decide +kernel
theorem dX12_isEnough_44 : decode cX12_isEnough 44 = .ok (.invokestatic 270, 3) := by decide +kernel
theorem dX12_isEnough_47 : decode cX12_isEnough 47 = .ok (.ifCond .eq 18, 3) := by decide +kernel
theorem dX12_isEnough_50 : decode cX12_isEnough 50 = .ok (.aload_n 0, 1) := by decide +kernel
theorem dX12_isEnough_51 : decode cX12_isEnough 51 = .ok (.iload 5, 2) := by decide +kernel
theorem dX12_isEnough_53 : decode cX12_isEnough 53 = .ok (.iload_n 2, 1) := by decide +kernel
theorem dX12_isEnough_54 : decode cX12_isEnough 54 = .ok (.iload_n 3, 1) := by decide +kernel
theorem dX12_isEnough_55 : decode cX12_isEnough 55 = .ok (.invokevirtual 454, 3) := by decide +kernel
theorem dX12_isEnough_58 : decode cX12_isEnough 58 = .ok (.ifCond .eq 7, 3) := by decide +kernel
theorem dX12_isEnough_61 : decode cX12_isEnough 61 = .ok (.iconst 1, 1) := by decide +kernel
theorem dX12_isEnough_62 : decode cX12_isEnough 62 = .ok (.goto 4, 3) := by decide +kernel
theorem dX12_isEnough_65 : decode cX12_isEnough 65 = .ok (.iconst 0, 1) := by decide +kernel
theorem dX12_isEnough_66 : decode cX12_isEnough 66 = .ok (.istore 4, 2) := by decide +kernel
theorem dX12_isEnough_68 : decode cX12_isEnough 68 = .ok (.iinc 5 1, 3) := by decide +kernel
theorem dX12_isEnough_71 : decode cX12_isEnough 71 = .ok (.goto (-46), 3) := by decide +kernel
theorem dX12_isEnough_74 : decode cX12_isEnough 74 = .ok (.iload 4, 2) := by decide +kernel
theorem dX12_isEnough_76 : decode cX12_isEnough 76 = .ok (.ifCond .ne 5, 3) := by decide +kernel
theorem dX12_isEnough_79 : decode cX12_isEnough 79 = .ok (.iconst 0, 1) := by decide +kernel
theorem dX12_isEnough_80 : decode cX12_isEnough 80 = .ok (.ireturn, 1) := by decide +kernel
theorem dX12_isEnough_81 : decode cX12_isEnough 81 = .ok (.iinc 3 1, 3) := by decide +kernel
theorem dX12_isEnough_84 : decode cX12_isEnough 84 = .ok (.goto (-70), 3) := by decide +kernel
theorem dX12_isEnough_87 : decode cX12_isEnough 87 = .ok (.iinc 2 1, 3) := by decide +kernel
theorem dX12_isEnough_90 : decode cX12_isEnough 90 = .ok (.goto (-88), 3) := by decide +kernel
theorem dX12_isEnough_93 : decode cX12_isEnough 93 = .ok (.iconst 1, 1) := by decide +kernel
theorem dX12_isEnough_94 : decode cX12_isEnough 94 = .ok (.ireturn, 1) := by decide +kernel
theorem dX12_enough_0 : decode cX12_enough 0 = .ok (.aload_n 0, 1) := by decide +kernel
theorem dX12_enough_1 : decode cX12_enough 1 = .ok (.iconst 0, 1) := by decide +kernel
theorem dX12_enough_2 : decode cX12_enough 2 = .ok (.putfield 82, 3) := by decide +kernel
theorem dX12_enough_5 : decode cX12_enough 5 = .ok (.iconst (-1), 1) := by decide +kernel
theorem dX12_enough_6 : decode cX12_enough 6 = .ok (.istore_n 1, 1) := by decide +kernel
theorem dX12_enough_7 : decode cX12_enough 7 = .ok (.iconst 0, 1) := by decide +kernel
theorem dX12_enough_8 : decode cX12_enough 8 = .ok (.istore_n 2, 1) := by decide +kernel
theorem dX12_enough_9 : decode cX12_enough 9 = .ok (.iload_n 2, 1) := by decide +kernel
theorem dX12_enough_10 : decode cX12_enough 10 = .ok (.iconst 1, 1) := by decide +kernel
theorem dX12_enough_11 : decode cX12_enough 11 = .ok (.aload_n 0, 1) := by decide +kernel
theorem dX12_enough_12 : decode cX12_enough 12 = .ok (.getfield 9, 3) := by decide +kernel
theorem dX12_enough_15 : decode cX12_enough 15 = .ok (.iconst 2, 1) := by decide +kernel
theorem dX12_enough_16 : decode cX12_enough 16 = .ok (.iaload, 1) := by decide +kernel
theorem dX12_enough_17 : decode cX12_enough 17 = .ok (.ishl, 1) := by decide +kernel
theorem dX12_enough_18 : decode cX12_enough 18 = .ok (.if_icmp .ge 35, 3) := by decide +kernel
theorem dX12_enough_21 : decode cX12_enough 21 = .ok (.aload_n 0, 1) := by decide +kernel
theorem dX12_enough_22 : decode cX12_enough 22 = .ok (.iload_n 2, 1) := by decide +kernel
theorem dX12_enough_23 : decode cX12_enough 23 = .ok (.invokevirtual 457, 3) := by decide +kernel
theorem dX12_enough_26 : decode cX12_enough 26 = .ok (.ifCond .eq 21, 3) := by decide +kernel
theorem dX12_enough_29 : decode cX12_enough 29 = .ok (.iload_n 1, 1) := by decide +kernel
theorem dX12_enough_30 : decode cX12_enough 30 = .ok (.iconst (-1), 1) := by decide +kernel
theorem dX12_enough_31 : decode cX12_enough 31 = .ok (.if_icmp .eq 11, 3) := by decide +kernel
theorem dX12_enough_34 : decode cX12_enough 34 = .ok (.iload_n 2, 1) := by decide +kernel
theorem dX12_enough_35 : decode cX12_enough 35 = .ok (.invokestatic 355, 3) := by decide +kernel
theorem dX12_enough_38 : decode cX12_enough 38 = .ok (.iload_n 1, 1) := by decide +kernel
theorem dX12_enough_39 : decode cX12_enough 39 = .ok (.if_icmp .ge 8, 3) := by decide +kernel
theorem dX12_enough_42 : decode cX12_enough 42 = .ok (.iload_n 2, 1) := by decide +kernel
theorem dX12_enough_43 : decode cX12_enough 43 = .ok (.invokestatic 355, 3) := by decide +kernel
theorem dX12_enough_46 : decode cX12_enough 46 = .ok (.istore_n 1, 1) := by decide +kernel
theorem dX12_enough_47 : decode cX12_enough 47 = .ok (.iinc 2 1, 3) := by decide +kernel
theorem dX12_enough_50 : decode cX12_enough 50 = .ok (.goto (-41), 3) := by decide +kernel
theorem dX12_enough_53 : decode cX12_enough 53 = .ok (.iload_n 1, 1) := by decide +kernel
theorem dX12_enough_54 : decode cX12_enough 54 = .ok (.ireturn, 1) := by decide +kernel
theorem dX12_twosFault_0 : decode cX12_twosFault 0 = .ok (.aload_n 0, 1) := by decide +kernel
theorem dX12_twosFault_1 : decode cX12_twosFault 1 = .ok (.iload_n 1, 1) := by decide +kernel
theorem dX12_twosFault_2 : decode cX12_twosFault 2 = .ok (.invokevirtual 373, 3) := by decide +kernel
theorem dX12_twosFault_5 : decode cX12_twosFault 5 = .ok (.istore_n 2, 1) := by decide +kernel
theorem dX12_twosFault_6 : decode cX12_twosFault 6 = .ok (.iload_n 2, 1) := by decide +kernel
theorem dX12_twosFault_7 : decode cX12_twosFault 7 = .ok (.ifCond .eq 5, 3) := by decide +kernel
theorem dX12_twosFault_10 : decode cX12_twosFault 10 = .ok (.iload_n 2, 1) := by decide +kernel
theorem dX12_twosFault_11 : decode cX12_twosFault 11 = .ok (.ireturn, 1) := by decide +kernel
theorem dX12_twosFault_12 : decode cX12_twosFault 12 = .ok (.aload_n 0, 1) := by decide +kernel
theorem dX12_twosFault_13 : decode cX12_twosFault 13 = .ok (.getfield 75, 3) := by decide +kernel
theorem dX12_twosFault_16 : decode cX12_twosFault 16 = .ok (.iload_n 1, 1) := by decide +kernel
theorem dX12_twosFault_17 : decode cX12_twosFault 17 = .ok (.iaload, 1) := by decide +kernel
theorem dX12_twosFault_18 : decode cX12_twosFault 18 = .ok (.iconst 2, 1) := by decide +kernel
theorem dX12_twosFault_19 : decode cX12_twosFault 19 = .ok (.irem, 1) := by decide +kernel
theorem dX12_twosFault_20 : decode cX12_twosFault 20 = .ok (.ifCond .ne 26, 3) := by decide +kernel
theorem dX12_twosFault_23 : decode cX12_twosFault 23 = .ok (.aload_n 0, 1) := by decide +kernel
theorem dX12_twosFault_24 : decode cX12_twosFault 24 = .ok (.getfield 75, 3) := by decide +kernel
theorem dX12_twosFault_27 : decode cX12_twosFault 27 = .ok (.iload_n 1, 1) := by decide +kernel
theorem dX12_twosFault_28 : decode cX12_twosFault 28 = .ok (.iaload, 1) := by decide +kernel
theorem dX12_twosFault_29 : decode cX12_twosFault 29 = .ok (.i2l, 1) := by decide +kernel
theorem dX12_twosFault_30 : decode cX12_twosFault 30 = .ok (.ldc2_w 332, 3) := by decide +kernel
theorem dX12_twosFault_33 : decode cX12_twosFault 33 = .ok (.ldc2_w 337, 3) := by decide +kernel
theorem dX12_twosFault_36 : decode cX12_twosFault 36 = .ok (.invokestatic 143, 3) := by decide +kernel
theorem dX12_twosFault_39 : decode cX12_twosFault 39 = .ok (.ifCond .eq 7, 3) := by decide +kernel
theorem dX12_twosFault_42 : decode cX12_twosFault 42 = .ok (.iconst 1, 1) := by decide +kernel
theorem dX12_twosFault_43 : decode cX12_twosFault 43 = .ok (.goto 4, 3) := by decide +kernel
theorem dX12_twosFault_46 : decode cX12_twosFault 46 = .ok (.iconst 0, 1) := by decide +kernel
theorem dX12_twosFault_47 : decode cX12_twosFault 47 = .ok (.istore_n 3, 1) := by decide +kernel
theorem dX12_twosFault_48 : decode cX12_twosFault 48 = .ok (.iconst 0, 1) := by decide +kernel
theorem dX12_twosFault_49 : decode cX12_twosFault 49 = .ok (.istore 4, 2) := by decide +kernel
theorem dX12_twosFault_51 : decode cX12_twosFault 51 = .ok (.iload 4, 2) := by decide +kernel
theorem dX12_twosFault_53 : decode cX12_twosFault 53 = .ok (.aload_n 0, 1) := by decide +kernel
theorem dX12_twosFault_54 : decode cX12_twosFault 54 = .ok (.getfield 75, 3) := by decide +kernel
theorem dX12_twosFault_57 : decode cX12_twosFault 57 = .ok (.iload_n 1, 1) := by decide +kernel
theorem dX12_twosFault_58 : decode cX12_twosFault 58 = .ok (.iaload, 1) := by decide +kernel
theorem dX12_twosFault_59 : decode cX12_twosFault 59 = .ok (.if_icmp .ge 75, 3) := by decide +kernel
theorem dX12_twosFault_62 : decode cX12_twosFault 62 = .ok (.iload_n 3, 1) := by decide +kernel
theorem dX12_twosFault_63 : decode cX12_twosFault 63 = .ok (.ifCond .eq 71, 3) := by decide +kernel
theorem dX12_twosFault_66 : decode cX12_twosFault 66 = .ok (.aload_n 0, 1) := by decide +kernel
theorem dX12_twosFault_67 : decode cX12_twosFault 67 = .ok (.aload_n 0, 1) := by decide +kernel
theorem dX12_twosFault_68 : decode cX12_twosFault 68 = .ok (.getfield 78, 3) := by decide +kernel
theorem dX12_twosFault_71 : decode cX12_twosFault 71 = .ok (.bipush 30, 2) := by decide +kernel
theorem dX12_twosFault_73 : decode cX12_twosFault 73 = .ok (.iload_n 1, 1) := by decide +kernel
theorem dX12_twosFault_74 : decode cX12_twosFault 74 = .ok (.imul, 1) := by decide +kernel
theorem dX12_twosFault_75 : decode cX12_twosFault 75 = .ok (.iload 4, 2) := by decide +kernel
theorem dX12_twosFault_77 : decode cX12_twosFault 77 = .ok (.iadd, 1) := by decide +kernel
theorem dX12_twosFault_78 : decode cX12_twosFault 78 = .ok (.laload, 1) := by decide +kernel
theorem dX12_twosFault_79 : decode cX12_twosFault 79 = .ok (.invokevirtual 328, 3) := by decide +kernel
theorem dX12_twosFault_82 : decode cX12_twosFault 82 = .ok (.ifCond .eq 44, 3) := by decide +kernel
theorem dX12_twosFault_85 : decode cX12_twosFault 85 = .ok (.iload 4, 2) := by decide +kernel
theorem dX12_twosFault_87 : decode cX12_twosFault 87 = .ok (.iconst 2, 1) := by decide +kernel
theorem dX12_twosFault_88 : decode cX12_twosFault 88 = .ok (.irem, 1) := by decide +kernel
theorem dX12_twosFault_89 : decode cX12_twosFault 89 = .ok (.ifCond .eq 33, 3) := by decide +kernel
theorem dX12_twosFault_92 : decode cX12_twosFault 92 = .ok (.aload_n 0, 1) := by decide +kernel
theorem dX12_twosFault_93 : decode cX12_twosFault 93 = .ok (.getfield 78, 3) := by decide +kernel
theorem dX12_twosFault_96 : decode cX12_twosFault 96 = .ok (.bipush 30, 2) := by decide +kernel
theorem dX12_twosFault_98 : decode cX12_twosFault 98 = .ok (.iload_n 1, 1) := by decide +kernel
theorem dX12_twosFault_99 : decode cX12_twosFault 99 = .ok (.imul, 1) := by decide +kernel
theorem dX12_twosFault_100 : decode cX12_twosFault 100 = .ok (.iload 4, 2) := by decide +kernel
theorem dX12_twosFault_102 : decode cX12_twosFault 102 = .ok (.iadd, 1) := by decide +kernel
theorem dX12_twosFault_103 : decode cX12_twosFault 103 = .ok (.laload, 1) := by decide +kernel
theorem dX12_twosFault_104 : decode cX12_twosFault 104 = .ok (.aload_n 0, 1) := by decide +kernel
theorem dX12_twosFault_105 : decode cX12_twosFault 105 = .ok (.getfield 78, 3) := by decide +kernel
theorem dX12_twosFault_108 : decode cX12_twosFault 108 = .ok (.bipush 30, 2) := by decide +kernel
theorem dX12_twosFault_110 : decode cX12_twosFault 110 = .ok (.iload_n 1, 1) := by decide +kernel
theorem dX12_twosFault_111 : decode cX12_twosFault 111 = .ok (.imul, 1) := by decide +kernel
theorem dX12_twosFault_112 : decode cX12_twosFault 112 = .ok (.iload 4, 2) := by decide +kernel
theorem dX12_twosFault_114 : decode cX12_twosFault 114 = .ok (.iadd, 1) := by decide +kernel
theorem dX12_twosFault_115 : decode cX12_twosFault 115 = .ok (.iconst 1, 1) := by decide +kernel
theorem dX12_twosFault_116 : decode cX12_twosFault 116 = .ok (.isub, 1) := by decide +kernel
theorem dX12_twosFault_117 : decode cX12_twosFault 117 = .ok (.laload, 1) := by decide +kernel
theorem dX12_twosFault_118 : decode cX12_twosFault 118 = .ok (.lcmp, 1) := by decide +kernel
theorem dX12_twosFault_119 : decode cX12_twosFault 119 = .ok (.ifCond .eq 7, 3) := by decide +kernel
theorem dX12_twosFault_122 : decode cX12_twosFault 122 = .ok (.iconst 1, 1) := by decide +kernel
theorem dX12_twosFault_123 : decode cX12_twosFault 123 = .ok (.goto 4, 3) := by decide +kernel
theorem dX12_twosFault_126 : decode cX12_twosFault 126 = .ok (.iconst 0, 1) := by decide +kernel
theorem dX12_twosFault_127 : decode cX12_twosFault 127 = .ok (.istore_n 3, 1) := by decide +kernel
theorem dX12_twosFault_128 : decode cX12_twosFault 128 = .ok (.iinc 4 1, 3) := by decide +kernel
theorem dX12_twosFault_131 : decode cX12_twosFault 131 = .ok (.goto (-80), 3) := by decide +kernel
theorem dX12_twosFault_134 : decode cX12_twosFault 134 = .ok (.iload_n 3, 1) := by decide +kernel
theorem dX12_twosFault_135 : decode cX12_twosFault 135 = .ok (.ifCond .eq 7, 3) := by decide +kernel
theorem dX12_twosFault_138 : decode cX12_twosFault 138 = .ok (.iconst 0, 1) := by decide +kernel
theorem dX12_twosFault_139 : decode cX12_twosFault 139 = .ok (.goto 4, 3) := by decide +kernel
theorem dX12_twosFault_142 : decode cX12_twosFault 142 = .ok (.iconst 3, 1) := by decide +kernel
theorem dX12_twosFault_143 : decode cX12_twosFault 143 = .ok (.ireturn, 1) := by decide +kernel
theorem dX12_told_0 : decode cX12_told 0 = .ok (.aload_n 0, 1) := by decide +kernel
theorem dX12_told_1 : decode cX12_told 1 = .ok (.getfield 78, 3) := by decide +kernel
theorem dX12_told_4 : decode cX12_told 4 = .ok (.bipush 30, 2) := by decide +kernel
theorem dX12_told_6 : decode cX12_told 6 = .ok (.iload_n 1, 1) := by decide +kernel
theorem dX12_told_7 : decode cX12_told 7 = .ok (.imul, 1) := by decide +kernel
theorem dX12_told_8 : decode cX12_told 8 = .ok (.iload_n 2, 1) := by decide +kernel
theorem dX12_told_9 : decode cX12_told 9 = .ok (.iadd, 1) := by decide +kernel
theorem dX12_told_10 : decode cX12_told 10 = .ok (.laload, 1) := by decide +kernel
theorem dX12_told_11 : decode cX12_told 11 = .ok (.l2i, 1) := by decide +kernel
theorem dX12_told_12 : decode cX12_told 12 = .ok (.ireturn, 1) := by decide +kernel
theorem dX12_joins_0 : decode cX12_joins 0 = .ok (.iconst 2, 1) := by decide +kernel
theorem dX12_joins_1 : decode cX12_joins 1 = .ok (.iload_n 2, 1) := by decide +kernel
theorem dX12_joins_2 : decode cX12_joins 2 = .ok (.imul, 1) := by decide +kernel
theorem dX12_joins_3 : decode cX12_joins 3 = .ok (.aload_n 0, 1) := by decide +kernel
theorem dX12_joins_4 : decode cX12_joins 4 = .ok (.getfield 75, 3) := by decide +kernel
theorem dX12_joins_7 : decode cX12_joins 7 = .ok (.iload_n 1, 1) := by decide +kernel
theorem dX12_joins_8 : decode cX12_joins 8 = .ok (.iaload, 1) := by decide +kernel
theorem dX12_joins_9 : decode cX12_joins 9 = .ok (.if_icmp .ne 5, 3) := by decide +kernel
theorem dX12_joins_12 : decode cX12_joins 12 = .ok (.iconst 1, 1) := by decide +kernel
theorem dX12_joins_13 : decode cX12_joins 13 = .ok (.ireturn, 1) := by decide +kernel
theorem dX12_joins_14 : decode cX12_joins 14 = .ok (.iconst 0, 1) := by decide +kernel
theorem dX12_joins_15 : decode cX12_joins 15 = .ok (.istore 4, 2) := by decide +kernel
theorem dX12_joins_17 : decode cX12_joins 17 = .ok (.iload 4, 2) := by decide +kernel
theorem dX12_joins_19 : decode cX12_joins 19 = .ok (.aload_n 0, 1) := by decide +kernel
theorem dX12_joins_20 : decode cX12_joins 20 = .ok (.getfield 9, 3) := by decide +kernel
theorem dX12_joins_23 : decode cX12_joins 23 = .ok (.iconst 2, 1) := by decide +kernel
theorem dX12_joins_24 : decode cX12_joins 24 = .ok (.iaload, 1) := by decide +kernel
theorem dX12_joins_25 : decode cX12_joins 25 = .ok (.if_icmp .ge 64, 3) := by decide +kernel
theorem dX12_joins_28 : decode cX12_joins 28 = .ok (.iload_n 3, 1) := by decide +kernel
theorem dX12_joins_29 : decode cX12_joins 29 = .ok (.iload 4, 2) := by decide +kernel
theorem dX12_joins_31 : decode cX12_joins 31 = .ok (.invokestatic 270, 3) := by decide +kernel
theorem dX12_joins_34 : decode cX12_joins 34 = .ok (.ifCond .ne 49, 3) := by decide +kernel
theorem dX12_joins_37 : decode cX12_joins 37 = .ok (.aload_n 0, 1) := by decide +kernel
theorem dX12_joins_38 : decode cX12_joins 38 = .ok (.iload 4, 2) := by decide +kernel
theorem dX12_joins_40 : decode cX12_joins 40 = .ok (.aload_n 0, 1) := by decide +kernel
theorem dX12_joins_41 : decode cX12_joins 41 = .ok (.iload_n 1, 1) := by decide +kernel
theorem dX12_joins_42 : decode cX12_joins 42 = .ok (.iconst 2, 1) := by decide +kernel
theorem dX12_joins_43 : decode cX12_joins 43 = .ok (.iload_n 2, 1) := by decide +kernel
theorem dX12_joins_44 : decode cX12_joins 44 = .ok (.imul, 1) := by decide +kernel
theorem dX12_joins_45 : decode cX12_joins 45 = .ok (.invokevirtual 460, 3) := by decide +kernel
theorem dX12_joins_48 : decode cX12_joins 48 = .ok (.aload_n 0, 1) := by decide +kernel
theorem dX12_joins_49 : decode cX12_joins 49 = .ok (.iload_n 1, 1) := by decide +kernel
theorem dX12_joins_50 : decode cX12_joins 50 = .ok (.iconst 2, 1) := by decide +kernel
theorem dX12_joins_51 : decode cX12_joins 51 = .ok (.iload_n 2, 1) := by decide +kernel
theorem dX12_joins_52 : decode cX12_joins 52 = .ok (.imul, 1) := by decide +kernel
theorem dX12_joins_53 : decode cX12_joins 53 = .ok (.iconst 1, 1) := by decide +kernel
theorem dX12_joins_54 : decode cX12_joins 54 = .ok (.iadd, 1) := by decide +kernel
theorem dX12_joins_55 : decode cX12_joins 55 = .ok (.invokevirtual 460, 3) := by decide +kernel
theorem dX12_joins_58 : decode cX12_joins 58 = .ok (.invokevirtual 454, 3) := by decide +kernel
theorem dX12_joins_61 : decode cX12_joins 61 = .ok (.ifCond .eq 22, 3) := by decide +kernel
theorem dX12_joins_64 : decode cX12_joins 64 = .ok (.aload_n 0, 1) := by decide +kernel
theorem dX12_joins_65 : decode cX12_joins 65 = .ok (.iload_n 1, 1) := by decide +kernel
theorem dX12_joins_66 : decode cX12_joins 66 = .ok (.iload_n 2, 1) := by decide +kernel
theorem dX12_joins_67 : decode cX12_joins 67 = .ok (.iconst 1, 1) := by decide +kernel
theorem dX12_joins_68 : decode cX12_joins 68 = .ok (.iadd, 1) := by decide +kernel
theorem dX12_joins_69 : decode cX12_joins 69 = .ok (.iload_n 3, 1) := by decide +kernel
theorem dX12_joins_70 : decode cX12_joins 70 = .ok (.iconst 1, 1) := by decide +kernel
theorem dX12_joins_71 : decode cX12_joins 71 = .ok (.iload 4, 2) := by decide +kernel
theorem dX12_joins_73 : decode cX12_joins 73 = .ok (.ishl, 1) := by decide +kernel
theorem dX12_joins_74 : decode cX12_joins 74 = .ok (.ior, 1) := by decide +kernel
theorem dX12_joins_75 : decode cX12_joins 75 = .ok (.invokevirtual 463, 3) := by decide +kernel
theorem dX12_joins_78 : decode cX12_joins 78 = .ok (.ifCond .eq 5, 3) := by decide +kernel
theorem dX12_joins_81 : decode cX12_joins 81 = .ok (.iconst 1, 1) := by decide +kernel
theorem dX12_joins_82 : decode cX12_joins 82 = .ok (.ireturn, 1) := by decide +kernel
theorem dX12_joins_83 : decode cX12_joins 83 = .ok (.iinc 4 1, 3) := by decide +kernel
theorem dX12_joins_86 : decode cX12_joins 86 = .ok (.goto (-69), 3) := by decide +kernel
theorem dX12_joins_89 : decode cX12_joins 89 = .ok (.iconst 0, 1) := by decide +kernel
theorem dX12_joins_90 : decode cX12_joins 90 = .ok (.ireturn, 1) := by decide +kernel
theorem dX12_atOnce_0 : decode cX12_atOnce 0 = .ok (.aload_n 0, 1) := by decide +kernel
theorem dX12_atOnce_1 : decode cX12_atOnce 1 = .ok (.aload_n 0, 1) := by decide +kernel
theorem dX12_atOnce_2 : decode cX12_atOnce 2 = .ok (.iload_n 1, 1) := by decide +kernel
theorem dX12_atOnce_3 : decode cX12_atOnce 3 = .ok (.invokevirtual 466, 3) := by decide +kernel
theorem dX12_atOnce_6 : decode cX12_atOnce 6 = .ok (.putfield 82, 3) := by decide +kernel
theorem dX12_atOnce_9 : decode cX12_atOnce 9 = .ok (.iconst 0, 1) := by decide +kernel
theorem dX12_atOnce_10 : decode cX12_atOnce 10 = .ok (.istore_n 2, 1) := by decide +kernel
theorem dX12_atOnce_11 : decode cX12_atOnce 11 = .ok (.iconst 0, 1) := by decide +kernel
theorem dX12_atOnce_12 : decode cX12_atOnce 12 = .ok (.istore_n 3, 1) := by decide +kernel
theorem dX12_atOnce_13 : decode cX12_atOnce 13 = .ok (.aload_n 0, 1) := by decide +kernel
theorem dX12_atOnce_14 : decode cX12_atOnce 14 = .ok (.getfield 82, 3) := by decide +kernel
theorem dX12_atOnce_17 : decode cX12_atOnce 17 = .ok (.ifCond .ne 48, 3) := by decide +kernel
theorem dX12_atOnce_20 : decode cX12_atOnce 20 = .ok (.iload_n 3, 1) := by decide +kernel
theorem dX12_atOnce_21 : decode cX12_atOnce 21 = .ok (.aload_n 0, 1) := by decide +kernel
theorem dX12_atOnce_22 : decode cX12_atOnce 22 = .ok (.getfield 75, 3) := by decide +kernel
theorem dX12_atOnce_25 : decode cX12_atOnce 25 = .ok (.iload_n 1, 1) := by decide +kernel
theorem dX12_atOnce_26 : decode cX12_atOnce 26 = .ok (.iaload, 1) := by decide +kernel
theorem dX12_atOnce_27 : decode cX12_atOnce 27 = .ok (.if_icmp .ge 38, 3) := by decide +kernel
theorem dX12_atOnce_30 : decode cX12_atOnce 30 = .ok (.iload_n 2, 1) := by decide +kernel
theorem dX12_atOnce_31 : decode cX12_atOnce 31 = .ok (.aload_n 0, 1) := by decide +kernel
theorem dX12_atOnce_32 : decode cX12_atOnce 32 = .ok (.iload_n 1, 1) := by decide +kernel
theorem dX12_atOnce_33 : decode cX12_atOnce 33 = .ok (.iload_n 3, 1) := by decide +kernel
theorem dX12_atOnce_34 : decode cX12_atOnce 34 = .ok (.invokevirtual 460, 3) := by decide +kernel
theorem dX12_atOnce_37 : decode cX12_atOnce 37 = .ok (.invokestatic 270, 3) := by decide +kernel
theorem dX12_atOnce_40 : decode cX12_atOnce 40 = .ok (.ifCond .eq 8, 3) := by decide +kernel
theorem dX12_atOnce_43 : decode cX12_atOnce 43 = .ok (.aload_n 0, 1) := by decide +kernel
theorem dX12_atOnce_44 : decode cX12_atOnce 44 = .ok (.iconst 3, 1) := by decide +kernel
theorem dX12_atOnce_45 : decode cX12_atOnce 45 = .ok (.putfield 82, 3) := by decide +kernel
theorem dX12_atOnce_48 : decode cX12_atOnce 48 = .ok (.iload_n 2, 1) := by decide +kernel
theorem dX12_atOnce_49 : decode cX12_atOnce 49 = .ok (.iconst 1, 1) := by decide +kernel
theorem dX12_atOnce_50 : decode cX12_atOnce 50 = .ok (.aload_n 0, 1) := by decide +kernel
theorem dX12_atOnce_51 : decode cX12_atOnce 51 = .ok (.iload_n 1, 1) := by decide +kernel
theorem dX12_atOnce_52 : decode cX12_atOnce 52 = .ok (.iload_n 3, 1) := by decide +kernel
theorem dX12_atOnce_53 : decode cX12_atOnce 53 = .ok (.invokevirtual 460, 3) := by decide +kernel
theorem dX12_atOnce_56 : decode cX12_atOnce 56 = .ok (.ishl, 1) := by decide +kernel
theorem dX12_atOnce_57 : decode cX12_atOnce 57 = .ok (.ior, 1) := by decide +kernel
theorem dX12_atOnce_58 : decode cX12_atOnce 58 = .ok (.istore_n 2, 1) := by decide +kernel
theorem dX12_atOnce_59 : decode cX12_atOnce 59 = .ok (.iinc 3 1, 3) := by decide +kernel
theorem dX12_atOnce_62 : decode cX12_atOnce 62 = .ok (.goto (-49), 3) := by decide +kernel
theorem dX12_atOnce_65 : decode cX12_atOnce 65 = .ok (.aload_n 0, 1) := by decide +kernel
theorem dX12_atOnce_66 : decode cX12_atOnce 66 = .ok (.getfield 82, 3) := by decide +kernel
theorem dX12_atOnce_69 : decode cX12_atOnce 69 = .ok (.ifCond .ne 17, 3) := by decide +kernel
theorem dX12_atOnce_72 : decode cX12_atOnce 72 = .ok (.aload_n 0, 1) := by decide +kernel
theorem dX12_atOnce_73 : decode cX12_atOnce 73 = .ok (.iload_n 1, 1) := by decide +kernel
theorem dX12_atOnce_74 : decode cX12_atOnce 74 = .ok (.iconst 0, 1) := by decide +kernel
theorem dX12_atOnce_75 : decode cX12_atOnce 75 = .ok (.iconst 0, 1) := by decide +kernel
theorem dX12_atOnce_76 : decode cX12_atOnce 76 = .ok (.invokevirtual 463, 3) := by decide +kernel
theorem dX12_atOnce_79 : decode cX12_atOnce 79 = .ok (.ifCond .eq 7, 3) := by decide +kernel
theorem dX12_atOnce_82 : decode cX12_atOnce 82 = .ok (.iconst 1, 1) := by decide +kernel
theorem dX12_atOnce_83 : decode cX12_atOnce 83 = .ok (.goto 4, 3) := by decide +kernel
theorem dX12_atOnce_86 : decode cX12_atOnce 86 = .ok (.iconst 0, 1) := by decide +kernel
theorem dX12_atOnce_87 : decode cX12_atOnce 87 = .ok (.ireturn, 1) := by decide +kernel
theorem dX12_allAreOn_0 : decode cX12_allAreOn 0 = .ok (.aload_n 0, 1) := by decide +kernel
theorem dX12_allAreOn_1 : decode cX12_allAreOn 1 = .ok (.invokevirtual 378, 3) := by decide +kernel
theorem dX12_allAreOn_4 : decode cX12_allAreOn 4 = .ok (.iconst 0, 1) := by decide +kernel
theorem dX12_allAreOn_5 : decode cX12_allAreOn 5 = .ok (.istore_n 2, 1) := by decide +kernel
theorem dX12_allAreOn_6 : decode cX12_allAreOn 6 = .ok (.iconst 0, 1) := by decide +kernel
theorem dX12_allAreOn_7 : decode cX12_allAreOn 7 = .ok (.istore_n 3, 1) := by decide +kernel
theorem dX12_allAreOn_8 : decode cX12_allAreOn 8 = .ok (.iload_n 3, 1) := by decide +kernel
theorem dX12_allAreOn_9 : decode cX12_allAreOn 9 = .ok (.sipush 1200, 3) := by decide +kernel
theorem dX12_allAreOn_12 : decode cX12_allAreOn 12 = .ok (.if_icmp .ge 66, 3) := by decide +kernel
theorem dX12_allAreOn_15 : decode cX12_allAreOn 15 = .ok (.iload_n 2, 1) := by decide +kernel
theorem dX12_allAreOn_16 : decode cX12_allAreOn 16 = .ok (.invokestatic 355, 3) := by decide +kernel
theorem dX12_allAreOn_19 : decode cX12_allAreOn 19 = .ok (.iload_n 1, 1) := by decide +kernel
theorem dX12_allAreOn_20 : decode cX12_allAreOn 20 = .ok (.if_icmp .ge 58, 3) := by decide +kernel
theorem dX12_allAreOn_23 : decode cX12_allAreOn 23 = .ok (.aload_n 0, 1) := by decide +kernel
theorem dX12_allAreOn_24 : decode cX12_allAreOn 24 = .ok (.invokevirtual 353, 3) := by decide +kernel
theorem dX12_allAreOn_27 : decode cX12_allAreOn 27 = .ok (.iconst 0, 1) := by decide +kernel
theorem dX12_allAreOn_28 : decode cX12_allAreOn 28 = .ok (.istore 4, 2) := by decide +kernel
theorem dX12_allAreOn_30 : decode cX12_allAreOn 30 = .ok (.iload 4, 2) := by decide +kernel
theorem dX12_allAreOn_32 : decode cX12_allAreOn 32 = .ok (.iload_n 1, 1) := by decide +kernel
theorem dX12_allAreOn_33 : decode cX12_allAreOn 33 = .ok (.if_icmp .ge 39, 3) := by decide +kernel
theorem dX12_allAreOn_36 : decode cX12_allAreOn 36 = .ok (.iload_n 2, 1) := by decide +kernel
theorem dX12_allAreOn_37 : decode cX12_allAreOn 37 = .ok (.aload_n 0, 1) := by decide +kernel
theorem dX12_allAreOn_38 : decode cX12_allAreOn 38 = .ok (.getfield 9, 3) := by decide +kernel
theorem dX12_allAreOn_41 : decode cX12_allAreOn 41 = .ok (.bipush 18, 2) := by decide +kernel
theorem dX12_allAreOn_43 : decode cX12_allAreOn 43 = .ok (.aload_n 0, 1) := by decide +kernel
theorem dX12_allAreOn_44 : decode cX12_allAreOn 44 = .ok (.getfield 48, 3) := by decide +kernel
theorem dX12_allAreOn_47 : decode cX12_allAreOn 47 = .ok (.iload 4, 2) := by decide +kernel
theorem dX12_allAreOn_49 : decode cX12_allAreOn 49 = .ok (.iaload, 1) := by decide +kernel
theorem dX12_allAreOn_50 : decode cX12_allAreOn 50 = .ok (.iadd, 1) := by decide +kernel
theorem dX12_allAreOn_51 : decode cX12_allAreOn 51 = .ok (.iaload, 1) := by decide +kernel
theorem dX12_allAreOn_52 : decode cX12_allAreOn 52 = .ok (.iconst (-1), 1) := by decide +kernel
theorem dX12_allAreOn_53 : decode cX12_allAreOn 53 = .ok (.if_icmp .eq 10, 3) := by decide +kernel
theorem dX12_allAreOn_56 : decode cX12_allAreOn 56 = .ok (.iconst 1, 1) := by decide +kernel
theorem dX12_allAreOn_57 : decode cX12_allAreOn 57 = .ok (.iload 4, 2) := by decide +kernel
theorem dX12_allAreOn_59 : decode cX12_allAreOn 59 = .ok (.ishl, 1) := by decide +kernel
theorem dX12_allAreOn_60 : decode cX12_allAreOn 60 = .ok (.goto 4, 3) := by decide +kernel
theorem dX12_allAreOn_63 : decode cX12_allAreOn 63 = .ok (.iconst 0, 1) := by decide +kernel
theorem dX12_allAreOn_64 : decode cX12_allAreOn 64 = .ok (.ior, 1) := by decide +kernel
theorem dX12_allAreOn_65 : decode cX12_allAreOn 65 = .ok (.istore_n 2, 1) := by decide +kernel
theorem dX12_allAreOn_66 : decode cX12_allAreOn 66 = .ok (.iinc 4 1, 3) := by decide +kernel
theorem dX12_allAreOn_69 : decode cX12_allAreOn 69 = .ok (.goto (-39), 3) := by decide +kernel
theorem dX12_allAreOn_72 : decode cX12_allAreOn 72 = .ok (.iinc 3 1, 3) := by decide +kernel
theorem dX12_allAreOn_75 : decode cX12_allAreOn 75 = .ok (.goto (-67), 3) := by decide +kernel
theorem dX12_allAreOn_78 : decode cX12_allAreOn 78 = .ok (.aload_n 0, 1) := by decide +kernel
theorem dX12_allAreOn_79 : decode cX12_allAreOn 79 = .ok (.invokevirtual 393, 3) := by decide +kernel
theorem dX12_allAreOn_82 : decode cX12_allAreOn 82 = .ok (.iload_n 2, 1) := by decide +kernel
theorem dX12_allAreOn_83 : decode cX12_allAreOn 83 = .ok (.invokestatic 355, 3) := by decide +kernel
theorem dX12_allAreOn_86 : decode cX12_allAreOn 86 = .ok (.iload_n 1, 1) := by decide +kernel
theorem dX12_allAreOn_87 : decode cX12_allAreOn 87 = .ok (.if_icmp .ne 7, 3) := by decide +kernel
theorem dX12_allAreOn_90 : decode cX12_allAreOn 90 = .ok (.iconst 1, 1) := by decide +kernel
theorem dX12_allAreOn_91 : decode cX12_allAreOn 91 = .ok (.goto 4, 3) := by decide +kernel
theorem dX12_allAreOn_94 : decode cX12_allAreOn 94 = .ok (.iconst 0, 1) := by decide +kernel
theorem dX12_allAreOn_95 : decode cX12_allAreOn 95 = .ok (.ireturn, 1) := by decide +kernel
theorem dX12_goesCrossed_0 : decode cX12_goesCrossed 0 = .ok (.iconst 2, 1) := by decide +kernel
theorem dX12_goesCrossed_1 : decode cX12_goesCrossed 1 = .ok (.iload_n 2, 1) := by decide +kernel
theorem dX12_goesCrossed_2 : decode cX12_goesCrossed 2 = .ok (.imul, 1) := by decide +kernel
theorem dX12_goesCrossed_3 : decode cX12_goesCrossed 3 = .ok (.aload_n 0, 1) := by decide +kernel
theorem dX12_goesCrossed_4 : decode cX12_goesCrossed 4 = .ok (.getfield 75, 3) := by decide +kernel
theorem dX12_goesCrossed_7 : decode cX12_goesCrossed 7 = .ok (.iload_n 1, 1) := by decide +kernel
theorem dX12_goesCrossed_8 : decode cX12_goesCrossed 8 = .ok (.iaload, 1) := by decide +kernel
theorem dX12_goesCrossed_9 : decode cX12_goesCrossed 9 = .ok (.if_icmp .ne 56, 3) := by decide +kernel
theorem dX12_goesCrossed_12 : decode cX12_goesCrossed 12 = .ok (.aload_n 0, 1) := by decide +kernel
theorem dX12_goesCrossed_13 : decode cX12_goesCrossed 13 = .ok (.iload_n 2, 1) := by decide +kernel
theorem dX12_goesCrossed_14 : decode cX12_goesCrossed 14 = .ok (.invokevirtual 469, 3) := by decide +kernel
theorem dX12_goesCrossed_17 : decode cX12_goesCrossed 17 = .ok (.ifCond .ne 4, 3) := by decide +kernel
theorem dX12_goesCrossed_20 : decode cX12_goesCrossed 20 = .ok (.return_, 1) := by decide +kernel
theorem dX12_goesCrossed_21 : decode cX12_goesCrossed 21 = .ok (.aload_n 0, 1) := by decide +kernel
theorem dX12_goesCrossed_22 : decode cX12_goesCrossed 22 = .ok (.dup, 1) := by decide +kernel
theorem dX12_goesCrossed_23 : decode cX12_goesCrossed 23 = .ok (.getfield 472, 3) := by decide +kernel
theorem dX12_goesCrossed_26 : decode cX12_goesCrossed 26 = .ok (.iconst 1, 1) := by decide +kernel
theorem dX12_goesCrossed_27 : decode cX12_goesCrossed 27 = .ok (.iadd, 1) := by decide +kernel
theorem dX12_goesCrossed_28 : decode cX12_goesCrossed 28 = .ok (.putfield 472, 3) := by decide +kernel
theorem dX12_goesCrossed_31 : decode cX12_goesCrossed 31 = .ok (.iconst 0, 1) := by decide +kernel
theorem dX12_goesCrossed_32 : decode cX12_goesCrossed 32 = .ok (.istore_n 3, 1) := by decide +kernel
theorem dX12_goesCrossed_33 : decode cX12_goesCrossed 33 = .ok (.iload_n 3, 1) := by decide +kernel
theorem dX12_goesCrossed_34 : decode cX12_goesCrossed 34 = .ok (.iload_n 2, 1) := by decide +kernel
theorem dX12_goesCrossed_35 : decode cX12_goesCrossed 35 = .ok (.if_icmp .ge 29, 3) := by decide +kernel
theorem dX12_goesCrossed_38 : decode cX12_goesCrossed 38 = .ok (.aload_n 0, 1) := by decide +kernel
theorem dX12_goesCrossed_39 : decode cX12_goesCrossed 39 = .ok (.getfield 472, 3) := by decide +kernel
theorem dX12_goesCrossed_42 : decode cX12_goesCrossed 42 = .ok (.iconst 1, 1) := by decide +kernel
theorem dX12_goesCrossed_43 : decode cX12_goesCrossed 43 = .ok (.if_icmp .ne 21, 3) := by decide +kernel
theorem dX12_goesCrossed_46 : decode cX12_goesCrossed 46 = .ok (.aload_n 0, 1) := by decide +kernel
theorem dX12_goesCrossed_47 : decode cX12_goesCrossed 47 = .ok (.getfield 51, 3) := by decide +kernel
theorem dX12_goesCrossed_50 : decode cX12_goesCrossed 50 = .ok (.iload_n 3, 1) := by decide +kernel
theorem dX12_goesCrossed_51 : decode cX12_goesCrossed 51 = .ok (.aload_n 0, 1) := by decide +kernel
theorem dX12_goesCrossed_52 : decode cX12_goesCrossed 52 = .ok (.getfield 48, 3) := by decide +kernel
theorem dX12_goesCrossed_55 : decode cX12_goesCrossed 55 = .ok (.iload_n 3, 1) := by decide +kernel
theorem dX12_goesCrossed_56 : decode cX12_goesCrossed 56 = .ok (.iaload, 1) := by decide +kernel
theorem dX12_goesCrossed_57 : decode cX12_goesCrossed 57 = .ok (.iastore, 1) := by decide +kernel
theorem dX12_goesCrossed_58 : decode cX12_goesCrossed 58 = .ok (.iinc 3 1, 3) := by decide +kernel
theorem dX12_goesCrossed_61 : decode cX12_goesCrossed 61 = .ok (.goto (-28), 3) := by decide +kernel
theorem dX12_goesCrossed_64 : decode cX12_goesCrossed 64 = .ok (.return_, 1) := by decide +kernel
theorem dX12_goesCrossed_65 : decode cX12_goesCrossed 65 = .ok (.iconst 0, 1) := by decide +kernel
theorem dX12_goesCrossed_66 : decode cX12_goesCrossed 66 = .ok (.istore_n 3, 1) := by decide +kernel
theorem dX12_goesCrossed_67 : decode cX12_goesCrossed 67 = .ok (.iload_n 3, 1) := by decide +kernel
theorem dX12_goesCrossed_68 : decode cX12_goesCrossed 68 = .ok (.aload_n 0, 1) := by decide +kernel
theorem dX12_goesCrossed_69 : decode cX12_goesCrossed 69 = .ok (.invokevirtual 267, 3) := by decide +kernel
theorem dX12_goesCrossed_72 : decode cX12_goesCrossed 72 = .ok (.if_icmp .ge 137, 3) := by decide +kernel
theorem dX12_goesCrossed_75 : decode cX12_goesCrossed 75 = .ok (.aload_n 0, 1) := by decide +kernel
theorem dX12_goesCrossed_76 : decode cX12_goesCrossed 76 = .ok (.getfield 9, 3) := by decide +kernel
theorem dX12_goesCrossed_79 : decode cX12_goesCrossed 79 = .ok (.bipush 51, 2) := by decide +kernel
theorem dX12_goesCrossed_81 : decode cX12_goesCrossed 81 = .ok (.iload_n 3, 1) := by decide +kernel
theorem dX12_goesCrossed_82 : decode cX12_goesCrossed 82 = .ok (.iadd, 1) := by decide +kernel
theorem dX12_goesCrossed_83 : decode cX12_goesCrossed 83 = .ok (.iaload, 1) := by decide +kernel
theorem dX12_goesCrossed_84 : decode cX12_goesCrossed 84 = .ok (.aload_n 0, 1) := by decide +kernel
theorem dX12_goesCrossed_85 : decode cX12_goesCrossed 85 = .ok (.iload_n 1, 1) := by decide +kernel
theorem dX12_goesCrossed_86 : decode cX12_goesCrossed 86 = .ok (.iconst 2, 1) := by decide +kernel
theorem dX12_goesCrossed_87 : decode cX12_goesCrossed 87 = .ok (.iload_n 2, 1) := by decide +kernel
theorem dX12_goesCrossed_88 : decode cX12_goesCrossed 88 = .ok (.imul, 1) := by decide +kernel
theorem dX12_goesCrossed_89 : decode cX12_goesCrossed 89 = .ok (.invokevirtual 460, 3) := by decide +kernel
theorem dX12_goesCrossed_92 : decode cX12_goesCrossed 92 = .ok (.if_icmp .ne 7, 3) := by decide +kernel
theorem dX12_goesCrossed_95 : decode cX12_goesCrossed 95 = .ok (.iconst 1, 1) := by decide +kernel
theorem dX12_goesCrossed_96 : decode cX12_goesCrossed 96 = .ok (.goto 4, 3) := by decide +kernel
theorem dX12_goesCrossed_99 : decode cX12_goesCrossed 99 = .ok (.iconst 0, 1) := by decide +kernel
theorem dX12_goesCrossed_100 : decode cX12_goesCrossed 100 = .ok (.istore 4, 2) := by decide +kernel
theorem dX12_goesCrossed_102 : decode cX12_goesCrossed 102 = .ok (.aload_n 0, 1) := by decide +kernel
theorem dX12_goesCrossed_103 : decode cX12_goesCrossed 103 = .ok (.getfield 9, 3) := by decide +kernel
theorem dX12_goesCrossed_106 : decode cX12_goesCrossed 106 = .ok (.bipush 8, 2) := by decide +kernel
theorem dX12_goesCrossed_108 : decode cX12_goesCrossed 108 = .ok (.iload_n 3, 1) := by decide +kernel
theorem dX12_goesCrossed_109 : decode cX12_goesCrossed 109 = .ok (.iadd, 1) := by decide +kernel
theorem dX12_goesCrossed_110 : decode cX12_goesCrossed 110 = .ok (.iaload, 1) := by decide +kernel
theorem dX12_goesCrossed_111 : decode cX12_goesCrossed 111 = .ok (.ifCond .ne 92, 3) := by decide +kernel
theorem dX12_goesCrossed_114 : decode cX12_goesCrossed 114 = .ok (.aload_n 0, 1) := by decide +kernel
theorem dX12_goesCrossed_115 : decode cX12_goesCrossed 115 = .ok (.getfield 36, 3) := by decide +kernel
theorem dX12_goesCrossed_118 : decode cX12_goesCrossed 118 = .ok (.iload_n 3, 1) := by decide +kernel
theorem dX12_goesCrossed_119 : decode cX12_goesCrossed 119 = .ok (.iaload, 1) := by decide +kernel
theorem dX12_goesCrossed_120 : decode cX12_goesCrossed 120 = .ok (.iconst (-1), 1) := by decide +kernel
theorem dX12_goesCrossed_121 : decode cX12_goesCrossed 121 = .ok (.if_icmp .ne 82, 3) := by decide +kernel
theorem dX12_goesCrossed_124 : decode cX12_goesCrossed 124 = .ok (.iload 4, 2) := by decide +kernel
theorem dX12_goesCrossed_126 : decode cX12_goesCrossed 126 = .ok (.ifCond .ne 28, 3) := by decide +kernel
theorem dX12_goesCrossed_129 : decode cX12_goesCrossed 129 = .ok (.aload_n 0, 1) := by decide +kernel
theorem dX12_goesCrossed_130 : decode cX12_goesCrossed 130 = .ok (.getfield 9, 3) := by decide +kernel
theorem dX12_goesCrossed_133 : decode cX12_goesCrossed 133 = .ok (.bipush 51, 2) := by decide +kernel
theorem dX12_goesCrossed_135 : decode cX12_goesCrossed 135 = .ok (.iload_n 3, 1) := by decide +kernel
theorem dX12_goesCrossed_136 : decode cX12_goesCrossed 136 = .ok (.iadd, 1) := by decide +kernel
theorem dX12_goesCrossed_137 : decode cX12_goesCrossed 137 = .ok (.iaload, 1) := by decide +kernel
theorem dX12_goesCrossed_138 : decode cX12_goesCrossed 138 = .ok (.aload_n 0, 1) := by decide +kernel
theorem dX12_goesCrossed_139 : decode cX12_goesCrossed 139 = .ok (.iload_n 1, 1) := by decide +kernel
theorem dX12_goesCrossed_140 : decode cX12_goesCrossed 140 = .ok (.iconst 2, 1) := by decide +kernel
theorem dX12_goesCrossed_141 : decode cX12_goesCrossed 141 = .ok (.iload_n 2, 1) := by decide +kernel
theorem dX12_goesCrossed_142 : decode cX12_goesCrossed 142 = .ok (.imul, 1) := by decide +kernel
theorem dX12_goesCrossed_143 : decode cX12_goesCrossed 143 = .ok (.iconst 1, 1) := by decide +kernel
theorem dX12_goesCrossed_144 : decode cX12_goesCrossed 144 = .ok (.iadd, 1) := by decide +kernel
theorem dX12_goesCrossed_145 : decode cX12_goesCrossed 145 = .ok (.invokevirtual 460, 3) := by decide +kernel
theorem dX12_goesCrossed_148 : decode cX12_goesCrossed 148 = .ok (.if_icmp .eq 6, 3) := by decide +kernel
theorem dX12_goesCrossed_151 : decode cX12_goesCrossed 151 = .ok (.goto 52, 3) := by decide +kernel
theorem dX12_goesCrossed_154 : decode cX12_goesCrossed 154 = .ok (.aload_n 0, 1) := by decide +kernel
theorem dX12_goesCrossed_155 : decode cX12_goesCrossed 155 = .ok (.getfield 48, 3) := by decide +kernel
theorem dX12_goesCrossed_158 : decode cX12_goesCrossed 158 = .ok (.iload_n 2, 1) := by decide +kernel
theorem dX12_goesCrossed_159 : decode cX12_goesCrossed 159 = .ok (.iload_n 3, 1) := by decide +kernel
theorem dX12_goesCrossed_160 : decode cX12_goesCrossed 160 = .ok (.iastore, 1) := by decide +kernel
theorem dX12_goesCrossed_161 : decode cX12_goesCrossed 161 = .ok (.aload_n 0, 1) := by decide +kernel
theorem dX12_goesCrossed_162 : decode cX12_goesCrossed 162 = .ok (.getfield 36, 3) := by decide +kernel
theorem dX12_goesCrossed_165 : decode cX12_goesCrossed 165 = .ok (.iload_n 3, 1) := by decide +kernel
theorem dX12_goesCrossed_166 : decode cX12_goesCrossed 166 = .ok (.aload_n 0, 1) := by decide +kernel
theorem dX12_goesCrossed_167 : decode cX12_goesCrossed 167 = .ok (.iload_n 1, 1) := by decide +kernel
theorem dX12_goesCrossed_168 : decode cX12_goesCrossed 168 = .ok (.iload 4, 2) := by decide +kernel
theorem dX12_goesCrossed_170 : decode cX12_goesCrossed 170 = .ok (.ifCond .eq 11, 3) := by decide +kernel
theorem dX12_goesCrossed_173 : decode cX12_goesCrossed 173 = .ok (.iconst 2, 1) := by decide +kernel
theorem dX12_goesCrossed_174 : decode cX12_goesCrossed 174 = .ok (.iload_n 2, 1) := by decide +kernel
theorem dX12_goesCrossed_175 : decode cX12_goesCrossed 175 = .ok (.imul, 1) := by decide +kernel
theorem dX12_goesCrossed_176 : decode cX12_goesCrossed 176 = .ok (.iconst 1, 1) := by decide +kernel
theorem dX12_goesCrossed_177 : decode cX12_goesCrossed 177 = .ok (.iadd, 1) := by decide +kernel
theorem dX12_goesCrossed_178 : decode cX12_goesCrossed 178 = .ok (.goto 6, 3) := by decide +kernel
theorem dX12_goesCrossed_181 : decode cX12_goesCrossed 181 = .ok (.iconst 2, 1) := by decide +kernel
theorem dX12_goesCrossed_182 : decode cX12_goesCrossed 182 = .ok (.iload_n 2, 1) := by decide +kernel
theorem dX12_goesCrossed_183 : decode cX12_goesCrossed 183 = .ok (.imul, 1) := by decide +kernel
theorem dX12_goesCrossed_184 : decode cX12_goesCrossed 184 = .ok (.invokevirtual 460, 3) := by decide +kernel
theorem dX12_goesCrossed_187 : decode cX12_goesCrossed 187 = .ok (.iastore, 1) := by decide +kernel
theorem dX12_goesCrossed_188 : decode cX12_goesCrossed 188 = .ok (.aload_n 0, 1) := by decide +kernel
theorem dX12_goesCrossed_189 : decode cX12_goesCrossed 189 = .ok (.iload_n 1, 1) := by decide +kernel
theorem dX12_goesCrossed_190 : decode cX12_goesCrossed 190 = .ok (.iload_n 2, 1) := by decide +kernel
theorem dX12_goesCrossed_191 : decode cX12_goesCrossed 191 = .ok (.iconst 1, 1) := by decide +kernel
theorem dX12_goesCrossed_192 : decode cX12_goesCrossed 192 = .ok (.iadd, 1) := by decide +kernel
theorem dX12_goesCrossed_193 : decode cX12_goesCrossed 193 = .ok (.invokevirtual 475, 3) := by decide +kernel
theorem dX12_goesCrossed_196 : decode cX12_goesCrossed 196 = .ok (.aload_n 0, 1) := by decide +kernel
theorem dX12_goesCrossed_197 : decode cX12_goesCrossed 197 = .ok (.getfield 36, 3) := by decide +kernel
theorem dX12_goesCrossed_200 : decode cX12_goesCrossed 200 = .ok (.iload_n 3, 1) := by decide +kernel
theorem dX12_goesCrossed_201 : decode cX12_goesCrossed 201 = .ok (.iconst (-1), 1) := by decide +kernel
theorem dX12_goesCrossed_202 : decode cX12_goesCrossed 202 = .ok (.iastore, 1) := by decide +kernel
theorem dX12_goesCrossed_203 : decode cX12_goesCrossed 203 = .ok (.iinc 3 1, 3) := by decide +kernel
theorem dX12_goesCrossed_206 : decode cX12_goesCrossed 206 = .ok (.goto (-139), 3) := by decide +kernel
theorem dX12_goesCrossed_209 : decode cX12_goesCrossed 209 = .ok (.return_, 1) := by decide +kernel
theorem dX12_crossed_0 : decode cX12_crossed 0 = .ok (.aload_n 0, 1) := by decide +kernel
theorem dX12_crossed_1 : decode cX12_crossed 1 = .ok (.aload_n 0, 1) := by decide +kernel
theorem dX12_crossed_2 : decode cX12_crossed 2 = .ok (.iload_n 1, 1) := by decide +kernel
theorem dX12_crossed_3 : decode cX12_crossed 3 = .ok (.invokevirtual 466, 3) := by decide +kernel
theorem dX12_crossed_6 : decode cX12_crossed 6 = .ok (.putfield 82, 3) := by decide +kernel
theorem dX12_crossed_9 : decode cX12_crossed 9 = .ok (.aload_n 0, 1) := by decide +kernel
theorem dX12_crossed_10 : decode cX12_crossed 10 = .ok (.getfield 82, 3) := by decide +kernel
theorem dX12_crossed_13 : decode cX12_crossed 13 = .ok (.ifCond .ne 28, 3) := by decide +kernel
theorem dX12_crossed_16 : decode cX12_crossed 16 = .ok (.iload_n 2, 1) := by decide +kernel
theorem dX12_crossed_17 : decode cX12_crossed 17 = .ok (.i2l, 1) := by decide +kernel
theorem dX12_crossed_18 : decode cX12_crossed 18 = .ok (.lconst 0, 1) := by decide +kernel
theorem dX12_crossed_19 : decode cX12_crossed 19 = .ok (.aload_n 0, 1) := by decide +kernel
theorem dX12_crossed_20 : decode cX12_crossed 20 = .ok (.getfield 75, 3) := by decide +kernel
theorem dX12_crossed_23 : decode cX12_crossed 23 = .ok (.iload_n 1, 1) := by decide +kernel
theorem dX12_crossed_24 : decode cX12_crossed 24 = .ok (.iaload, 1) := by decide +kernel
theorem dX12_crossed_25 : decode cX12_crossed 25 = .ok (.iconst 2, 1) := by decide +kernel
theorem dX12_crossed_26 : decode cX12_crossed 26 = .ok (.idiv, 1) := by decide +kernel
theorem dX12_crossed_27 : decode cX12_crossed 27 = .ok (.iconst 1, 1) := by decide +kernel
theorem dX12_crossed_28 : decode cX12_crossed 28 = .ok (.isub, 1) := by decide +kernel
theorem dX12_crossed_29 : decode cX12_crossed 29 = .ok (.i2l, 1) := by decide +kernel
theorem dX12_crossed_30 : decode cX12_crossed 30 = .ok (.invokestatic 143, 3) := by decide +kernel
theorem dX12_crossed_33 : decode cX12_crossed 33 = .ok (.ifCond .ne 8, 3) := by decide +kernel
theorem dX12_crossed_36 : decode cX12_crossed 36 = .ok (.aload_n 0, 1) := by decide +kernel
theorem dX12_crossed_37 : decode cX12_crossed 37 = .ok (.iconst 3, 1) := by decide +kernel
theorem dX12_crossed_38 : decode cX12_crossed 38 = .ok (.putfield 82, 3) := by decide +kernel
theorem dX12_crossed_41 : decode cX12_crossed 41 = .ok (.aload_n 0, 1) := by decide +kernel
theorem dX12_crossed_42 : decode cX12_crossed 42 = .ok (.getfield 82, 3) := by decide +kernel
theorem dX12_crossed_45 : decode cX12_crossed 45 = .ok (.ifCond .le 5, 3) := by decide +kernel
theorem dX12_crossed_48 : decode cX12_crossed 48 = .ok (.iconst 0, 1) := by decide +kernel
theorem dX12_crossed_49 : decode cX12_crossed 49 = .ok (.ireturn, 1) := by decide +kernel
theorem dX12_crossed_50 : decode cX12_crossed 50 = .ok (.aload_n 0, 1) := by decide +kernel
theorem dX12_crossed_51 : decode cX12_crossed 51 = .ok (.iconst 0, 1) := by decide +kernel
theorem dX12_crossed_52 : decode cX12_crossed 52 = .ok (.putfield 472, 3) := by decide +kernel
theorem dX12_crossed_55 : decode cX12_crossed 55 = .ok (.aload_n 0, 1) := by decide +kernel
theorem dX12_crossed_56 : decode cX12_crossed 56 = .ok (.iload_n 1, 1) := by decide +kernel
theorem dX12_crossed_57 : decode cX12_crossed 57 = .ok (.iconst 0, 1) := by decide +kernel
theorem dX12_crossed_58 : decode cX12_crossed 58 = .ok (.invokevirtual 475, 3) := by decide +kernel
theorem dX12_crossed_61 : decode cX12_crossed 61 = .ok (.aload_n 0, 1) := by decide +kernel
theorem dX12_crossed_62 : decode cX12_crossed 62 = .ok (.getfield 472, 3) := by decide +kernel
theorem dX12_crossed_65 : decode cX12_crossed 65 = .ok (.ifCond .ne 7, 3) := by decide +kernel
theorem dX12_crossed_68 : decode cX12_crossed 68 = .ok (.iconst (-1), 1) := by decide +kernel
theorem dX12_crossed_69 : decode cX12_crossed 69 = .ok (.goto 9, 3) := by decide +kernel
theorem dX12_crossed_72 : decode cX12_crossed 72 = .ok (.aload_n 0, 1) := by decide +kernel
theorem dX12_crossed_73 : decode cX12_crossed 73 = .ok (.getfield 51, 3) := by decide +kernel
theorem dX12_crossed_76 : decode cX12_crossed 76 = .ok (.iload_n 2, 1) := by decide +kernel
theorem dX12_crossed_77 : decode cX12_crossed 77 = .ok (.iaload, 1) := by decide +kernel
theorem dX12_crossed_78 : decode cX12_crossed 78 = .ok (.ireturn, 1) := by decide +kernel
theorem dX12_crossings_0 : decode cX12_crossings 0 = .ok (.aload_n 0, 1) := by decide +kernel
theorem dX12_crossings_1 : decode cX12_crossings 1 = .ok (.aload_n 0, 1) := by decide +kernel
theorem dX12_crossings_2 : decode cX12_crossings 2 = .ok (.iload_n 1, 1) := by decide +kernel
theorem dX12_crossings_3 : decode cX12_crossings 3 = .ok (.invokevirtual 466, 3) := by decide +kernel
theorem dX12_crossings_6 : decode cX12_crossings 6 = .ok (.putfield 82, 3) := by decide +kernel
theorem dX12_crossings_9 : decode cX12_crossings 9 = .ok (.aload_n 0, 1) := by decide +kernel
theorem dX12_crossings_10 : decode cX12_crossings 10 = .ok (.getfield 82, 3) := by decide +kernel
theorem dX12_crossings_13 : decode cX12_crossings 13 = .ok (.ifCond .le 5, 3) := by decide +kernel
theorem dX12_crossings_16 : decode cX12_crossings 16 = .ok (.iconst 0, 1) := by decide +kernel
theorem dX12_crossings_17 : decode cX12_crossings 17 = .ok (.ireturn, 1) := by decide +kernel
theorem dX12_crossings_18 : decode cX12_crossings 18 = .ok (.aload_n 0, 1) := by decide +kernel
theorem dX12_crossings_19 : decode cX12_crossings 19 = .ok (.iconst 0, 1) := by decide +kernel
theorem dX12_crossings_20 : decode cX12_crossings 20 = .ok (.putfield 472, 3) := by decide +kernel
theorem dX12_crossings_23 : decode cX12_crossings 23 = .ok (.aload_n 0, 1) := by decide +kernel
theorem dX12_crossings_24 : decode cX12_crossings 24 = .ok (.iload_n 1, 1) := by decide +kernel
theorem dX12_crossings_25 : decode cX12_crossings 25 = .ok (.iconst 0, 1) := by decide +kernel
theorem dX12_crossings_26 : decode cX12_crossings 26 = .ok (.invokevirtual 475, 3) := by decide +kernel
theorem dX12_crossings_29 : decode cX12_crossings 29 = .ok (.aload_n 0, 1) := by decide +kernel
theorem dX12_crossings_30 : decode cX12_crossings 30 = .ok (.getfield 472, 3) := by decide +kernel
theorem dX12_crossings_33 : decode cX12_crossings 33 = .ok (.ireturn, 1) := by decide +kernel
theorem dX12_laysLikings_0 : decode cX12_laysLikings 0 = .ok (.iconst 0, 1) := by decide +kernel
theorem dX12_laysLikings_1 : decode cX12_laysLikings 1 = .ok (.istore_n 1, 1) := by decide +kernel
theorem dX12_laysLikings_2 : decode cX12_laysLikings 2 = .ok (.iload_n 1, 1) := by decide +kernel
theorem dX12_laysLikings_3 : decode cX12_laysLikings 3 = .ok (.aload_n 0, 1) := by decide +kernel
theorem dX12_laysLikings_4 : decode cX12_laysLikings 4 = .ok (.getfield 9, 3) := by decide +kernel
theorem dX12_laysLikings_7 : decode cX12_laysLikings 7 = .ok (.iconst 1, 1) := by decide +kernel
theorem dX12_laysLikings_8 : decode cX12_laysLikings 8 = .ok (.iaload, 1) := by decide +kernel
theorem dX12_laysLikings_9 : decode cX12_laysLikings 9 = .ok (.if_icmp .ge 44, 3) := by decide +kernel
theorem dX12_laysLikings_12 : decode cX12_laysLikings 12 = .ok (.iconst 0, 1) := by decide +kernel
theorem dX12_laysLikings_13 : decode cX12_laysLikings 13 = .ok (.istore_n 2, 1) := by decide +kernel
theorem dX12_laysLikings_14 : decode cX12_laysLikings 14 = .ok (.iload_n 2, 1) := by decide +kernel
theorem dX12_laysLikings_15 : decode cX12_laysLikings 15 = .ok (.aload_n 0, 1) := by decide +kernel
theorem dX12_laysLikings_16 : decode cX12_laysLikings 16 = .ok (.getfield 9, 3) := by decide +kernel
theorem dX12_laysLikings_19 : decode cX12_laysLikings 19 = .ok (.iconst 1, 1) := by decide +kernel
theorem dX12_laysLikings_20 : decode cX12_laysLikings 20 = .ok (.iaload, 1) := by decide +kernel
theorem dX12_laysLikings_21 : decode cX12_laysLikings 21 = .ok (.if_icmp .ge 26, 3) := by decide +kernel
theorem dX12_laysLikings_24 : decode cX12_laysLikings 24 = .ok (.aload_n 0, 1) := by decide +kernel
theorem dX12_laysLikings_25 : decode cX12_laysLikings 25 = .ok (.getfield 54, 3) := by decide +kernel
theorem dX12_laysLikings_28 : decode cX12_laysLikings 28 = .ok (.bipush 8, 2) := by decide +kernel
theorem dX12_laysLikings_30 : decode cX12_laysLikings 30 = .ok (.iload_n 1, 1) := by decide +kernel
theorem dX12_laysLikings_31 : decode cX12_laysLikings 31 = .ok (.imul, 1) := by decide +kernel
theorem dX12_laysLikings_32 : decode cX12_laysLikings 32 = .ok (.iload_n 2, 1) := by decide +kernel
theorem dX12_laysLikings_33 : decode cX12_laysLikings 33 = .ok (.iadd, 1) := by decide +kernel
theorem dX12_laysLikings_34 : decode cX12_laysLikings 34 = .ok (.aload_n 0, 1) := by decide +kernel
theorem dX12_laysLikings_35 : decode cX12_laysLikings 35 = .ok (.iload_n 1, 1) := by decide +kernel
theorem dX12_laysLikings_36 : decode cX12_laysLikings 36 = .ok (.iload_n 2, 1) := by decide +kernel
theorem dX12_laysLikings_37 : decode cX12_laysLikings 37 = .ok (.invokevirtual 301, 3) := by decide +kernel
theorem dX12_laysLikings_40 : decode cX12_laysLikings 40 = .ok (.iastore, 1) := by decide +kernel
theorem dX12_laysLikings_41 : decode cX12_laysLikings 41 = .ok (.iinc 2 1, 3) := by decide +kernel
theorem dX12_laysLikings_44 : decode cX12_laysLikings 44 = .ok (.goto (-30), 3) := by decide +kernel
theorem dX12_laysLikings_47 : decode cX12_laysLikings 47 = .ok (.iinc 1 1, 3) := by decide +kernel
theorem dX12_laysLikings_50 : decode cX12_laysLikings 50 = .ok (.goto (-48), 3) := by decide +kernel
theorem dX12_laysLikings_53 : decode cX12_laysLikings 53 = .ok (.return_, 1) := by decide +kernel
theorem dX12_likesMate_0 : decode cX12_likesMate 0 = .ok (.aload_n 0, 1) := by decide +kernel
theorem dX12_likesMate_1 : decode cX12_likesMate 1 = .ok (.getfield 57, 3) := by decide +kernel
theorem dX12_likesMate_4 : decode cX12_likesMate 4 = .ok (.iload_n 1, 1) := by decide +kernel
theorem dX12_likesMate_5 : decode cX12_likesMate 5 = .ok (.iaload, 1) := by decide +kernel
theorem dX12_likesMate_6 : decode cX12_likesMate 6 = .ok (.iconst (-1), 1) := by decide +kernel
theorem dX12_likesMate_7 : decode cX12_likesMate 7 = .ok (.if_icmp .ne 7, 3) := by decide +kernel
theorem dX12_likesMate_10 : decode cX12_likesMate 10 = .ok (.iconst 0, 1) := by decide +kernel
theorem dX12_likesMate_11 : decode cX12_likesMate 11 = .ok (.goto 19, 3) := by decide +kernel
theorem dX12_likesMate_14 : decode cX12_likesMate 14 = .ok (.aload_n 0, 1) := by decide +kernel
theorem dX12_likesMate_15 : decode cX12_likesMate 15 = .ok (.getfield 54, 3) := by decide +kernel
theorem dX12_likesMate_18 : decode cX12_likesMate 18 = .ok (.bipush 8, 2) := by decide +kernel
theorem dX12_likesMate_20 : decode cX12_likesMate 20 = .ok (.iload_n 1, 1) := by decide +kernel
theorem dX12_likesMate_21 : decode cX12_likesMate 21 = .ok (.imul, 1) := by decide +kernel
theorem dX12_likesMate_22 : decode cX12_likesMate 22 = .ok (.aload_n 0, 1) := by decide +kernel
theorem dX12_likesMate_23 : decode cX12_likesMate 23 = .ok (.getfield 57, 3) := by decide +kernel
theorem dX12_likesMate_26 : decode cX12_likesMate 26 = .ok (.iload_n 1, 1) := by decide +kernel
theorem dX12_likesMate_27 : decode cX12_likesMate 27 = .ok (.iaload, 1) := by decide +kernel
theorem dX12_likesMate_28 : decode cX12_likesMate 28 = .ok (.iadd, 1) := by decide +kernel
theorem dX12_likesMate_29 : decode cX12_likesMate 29 = .ok (.iaload, 1) := by decide +kernel
theorem dX12_likesMate_30 : decode cX12_likesMate 30 = .ok (.ireturn, 1) := by decide +kernel
theorem dX12_wouldLeave_0 : decode cX12_wouldLeave 0 = .ok (.iload_n 1, 1) := by decide +kernel
theorem dX12_wouldLeave_1 : decode cX12_wouldLeave 1 = .ok (.iload_n 2, 1) := by decide +kernel
theorem dX12_wouldLeave_2 : decode cX12_wouldLeave 2 = .ok (.if_icmp .eq 55, 3) := by decide +kernel
theorem dX12_wouldLeave_5 : decode cX12_wouldLeave 5 = .ok (.aload_n 0, 1) := by decide +kernel
theorem dX12_wouldLeave_6 : decode cX12_wouldLeave 6 = .ok (.getfield 57, 3) := by decide +kernel
theorem dX12_wouldLeave_9 : decode cX12_wouldLeave 9 = .ok (.iload_n 1, 1) := by decide +kernel
theorem dX12_wouldLeave_10 : decode cX12_wouldLeave 10 = .ok (.iaload, 1) := by decide +kernel
theorem dX12_wouldLeave_11 : decode cX12_wouldLeave 11 = .ok (.iload_n 2, 1) := by decide +kernel
theorem dX12_wouldLeave_12 : decode cX12_wouldLeave 12 = .ok (.if_icmp .eq 45, 3) := by decide +kernel
theorem dX12_wouldLeave_15 : decode cX12_wouldLeave 15 = .ok (.aload_n 0, 1) := by decide +kernel
theorem dX12_wouldLeave_16 : decode cX12_wouldLeave 16 = .ok (.getfield 54, 3) := by decide +kernel
theorem dX12_wouldLeave_19 : decode cX12_wouldLeave 19 = .ok (.bipush 8, 2) := by decide +kernel
theorem dX12_wouldLeave_21 : decode cX12_wouldLeave 21 = .ok (.iload_n 1, 1) := by decide +kernel
theorem dX12_wouldLeave_22 : decode cX12_wouldLeave 22 = .ok (.imul, 1) := by decide +kernel
theorem dX12_wouldLeave_23 : decode cX12_wouldLeave 23 = .ok (.iload_n 2, 1) := by decide +kernel
theorem dX12_wouldLeave_24 : decode cX12_wouldLeave 24 = .ok (.iadd, 1) := by decide +kernel
theorem dX12_wouldLeave_25 : decode cX12_wouldLeave 25 = .ok (.iaload, 1) := by decide +kernel
theorem dX12_wouldLeave_26 : decode cX12_wouldLeave 26 = .ok (.aload_n 0, 1) := by decide +kernel
theorem dX12_wouldLeave_27 : decode cX12_wouldLeave 27 = .ok (.iload_n 1, 1) := by decide +kernel
theorem dX12_wouldLeave_28 : decode cX12_wouldLeave 28 = .ok (.invokevirtual 478, 3) := by decide +kernel
theorem dX12_wouldLeave_31 : decode cX12_wouldLeave 31 = .ok (.if_icmp .le 26, 3) := by decide +kernel
theorem dX12_wouldLeave_34 : decode cX12_wouldLeave 34 = .ok (.aload_n 0, 1) := by decide +kernel
theorem dX12_wouldLeave_35 : decode cX12_wouldLeave 35 = .ok (.getfield 54, 3) := by decide +kernel
theorem dX12_wouldLeave_38 : decode cX12_wouldLeave 38 = .ok (.bipush 8, 2) := by decide +kernel
theorem dX12_wouldLeave_40 : decode cX12_wouldLeave 40 = .ok (.iload_n 2, 1) := by decide +kernel
theorem dX12_wouldLeave_41 : decode cX12_wouldLeave 41 = .ok (.imul, 1) := by decide +kernel
theorem dX12_wouldLeave_42 : decode cX12_wouldLeave 42 = .ok (.iload_n 1, 1) := by decide +kernel
theorem dX12_wouldLeave_43 : decode cX12_wouldLeave 43 = .ok (.iadd, 1) := by decide +kernel
theorem dX12_wouldLeave_44 : decode cX12_wouldLeave 44 = .ok (.iaload, 1) := by decide +kernel
theorem dX12_wouldLeave_45 : decode cX12_wouldLeave 45 = .ok (.aload_n 0, 1) := by decide +kernel
theorem dX12_wouldLeave_46 : decode cX12_wouldLeave 46 = .ok (.iload_n 2, 1) := by decide +kernel
theorem dX12_wouldLeave_47 : decode cX12_wouldLeave 47 = .ok (.invokevirtual 478, 3) := by decide +kernel
theorem dX12_wouldLeave_50 : decode cX12_wouldLeave 50 = .ok (.if_icmp .le 7, 3) := by decide +kernel
theorem dX12_wouldLeave_53 : decode cX12_wouldLeave 53 = .ok (.iconst 1, 1) := by decide +kernel
theorem dX12_wouldLeave_54 : decode cX12_wouldLeave 54 = .ok (.goto 4, 3) := by decide +kernel
theorem dX12_wouldLeave_57 : decode cX12_wouldLeave 57 = .ok (.iconst 0, 1) := by decide +kernel
theorem dX12_wouldLeave_58 : decode cX12_wouldLeave 58 = .ok (.ireturn, 1) := by decide +kernel
theorem dX12_firstLeaving_0 : decode cX12_firstLeaving 0 = .ok (.iconst 0, 1) := by decide +kernel
theorem dX12_firstLeaving_1 : decode cX12_firstLeaving 1 = .ok (.istore_n 1, 1) := by decide +kernel
theorem dX12_firstLeaving_2 : decode cX12_firstLeaving 2 = .ok (.iload_n 1, 1) := by decide +kernel
theorem dX12_firstLeaving_3 : decode cX12_firstLeaving 3 = .ok (.aload_n 0, 1) := by decide +kernel
theorem dX12_firstLeaving_4 : decode cX12_firstLeaving 4 = .ok (.getfield 9, 3) := by decide +kernel
theorem dX12_firstLeaving_7 : decode cX12_firstLeaving 7 = .ok (.iconst 1, 1) := by decide +kernel
theorem dX12_firstLeaving_8 : decode cX12_firstLeaving 8 = .ok (.iaload, 1) := by decide +kernel
theorem dX12_firstLeaving_9 : decode cX12_firstLeaving 9 = .ok (.if_icmp .ge 45, 3) := by decide +kernel
theorem dX12_firstLeaving_12 : decode cX12_firstLeaving 12 = .ok (.iload_n 1, 1) := by decide +kernel
theorem dX12_firstLeaving_13 : decode cX12_firstLeaving 13 = .ok (.iconst 1, 1) := by decide +kernel
theorem dX12_firstLeaving_14 : decode cX12_firstLeaving 14 = .ok (.iadd, 1) := by decide +kernel
theorem dX12_firstLeaving_15 : decode cX12_firstLeaving 15 = .ok (.istore_n 2, 1) := by decide +kernel
theorem dX12_firstLeaving_16 : decode cX12_firstLeaving 16 = .ok (.iload_n 2, 1) := by decide +kernel
theorem dX12_firstLeaving_17 : decode cX12_firstLeaving 17 = .ok (.aload_n 0, 1) := by decide +kernel
theorem dX12_firstLeaving_18 : decode cX12_firstLeaving 18 = .ok (.getfield 9, 3) := by decide +kernel
theorem dX12_firstLeaving_21 : decode cX12_firstLeaving 21 = .ok (.iconst 1, 1) := by decide +kernel
theorem dX12_firstLeaving_22 : decode cX12_firstLeaving 22 = .ok (.iaload, 1) := by decide +kernel
theorem dX12_firstLeaving_23 : decode cX12_firstLeaving 23 = .ok (.if_icmp .ge 25, 3) := by decide +kernel
theorem dX12_firstLeaving_26 : decode cX12_firstLeaving 26 = .ok (.aload_n 0, 1) := by decide +kernel
theorem dX12_firstLeaving_27 : decode cX12_firstLeaving 27 = .ok (.iload_n 1, 1) := by decide +kernel
theorem dX12_firstLeaving_28 : decode cX12_firstLeaving 28 = .ok (.iload_n 2, 1) := by decide +kernel
theorem dX12_firstLeaving_29 : decode cX12_firstLeaving 29 = .ok (.invokevirtual 481, 3) := by decide +kernel
theorem dX12_firstLeaving_32 : decode cX12_firstLeaving 32 = .ok (.ifCond .eq 10, 3) := by decide +kernel
theorem dX12_firstLeaving_35 : decode cX12_firstLeaving 35 = .ok (.bipush 10, 2) := by decide +kernel
theorem dX12_firstLeaving_37 : decode cX12_firstLeaving 37 = .ok (.iload_n 1, 1) := by decide +kernel
theorem dX12_firstLeaving_38 : decode cX12_firstLeaving 38 = .ok (.imul, 1) := by decide +kernel
theorem dX12_firstLeaving_39 : decode cX12_firstLeaving 39 = .ok (.iload_n 2, 1) := by decide +kernel
theorem dX12_firstLeaving_40 : decode cX12_firstLeaving 40 = .ok (.iadd, 1) := by decide +kernel
theorem dX12_firstLeaving_41 : decode cX12_firstLeaving 41 = .ok (.ireturn, 1) := by decide +kernel
theorem dX12_firstLeaving_42 : decode cX12_firstLeaving 42 = .ok (.iinc 2 1, 3) := by decide +kernel
theorem dX12_firstLeaving_45 : decode cX12_firstLeaving 45 = .ok (.goto (-29), 3) := by decide +kernel
theorem dX12_firstLeaving_48 : decode cX12_firstLeaving 48 = .ok (.iinc 1 1, 3) := by decide +kernel
theorem dX12_firstLeaving_51 : decode cX12_firstLeaving 51 = .ok (.goto (-49), 3) := by decide +kernel
theorem dX12_firstLeaving_54 : decode cX12_firstLeaving 54 = .ok (.iconst (-1), 1) := by decide +kernel
theorem dX12_firstLeaving_55 : decode cX12_firstLeaving 55 = .ok (.ireturn, 1) := by decide +kernel
theorem dX12_sees_0 : decode cX12_sees 0 = .ok (.lconst 0, 1) := by decide +kernel
theorem dX12_sees_1 : decode cX12_sees 1 = .ok (.lstore_n 1, 1) := by decide +kernel
theorem dX12_sees_2 : decode cX12_sees 2 = .ok (.iconst 0, 1) := by decide +kernel
theorem dX12_sees_3 : decode cX12_sees 3 = .ok (.istore_n 3, 1) := by decide +kernel
theorem dX12_sees_4 : decode cX12_sees 4 = .ok (.iload_n 3, 1) := by decide +kernel
theorem dX12_sees_5 : decode cX12_sees 5 = .ok (.aload_n 0, 1) := by decide +kernel
theorem dX12_sees_6 : decode cX12_sees 6 = .ok (.getfield 9, 3) := by decide +kernel
theorem dX12_sees_9 : decode cX12_sees 9 = .ok (.iconst 1, 1) := by decide +kernel
theorem dX12_sees_10 : decode cX12_sees 10 = .ok (.iaload, 1) := by decide +kernel
theorem dX12_sees_11 : decode cX12_sees 11 = .ok (.if_icmp .ge 18, 3) := by decide +kernel
theorem dX12_sees_14 : decode cX12_sees 14 = .ok (.lload_n 1, 1) := by decide +kernel
theorem dX12_sees_15 : decode cX12_sees 15 = .ok (.aload_n 0, 1) := by decide +kernel
theorem dX12_sees_16 : decode cX12_sees 16 = .ok (.iload_n 3, 1) := by decide +kernel
theorem dX12_sees_17 : decode cX12_sees 17 = .ok (.invokevirtual 478, 3) := by decide +kernel
theorem dX12_sees_20 : decode cX12_sees 20 = .ok (.i2l, 1) := by decide +kernel
theorem dX12_sees_21 : decode cX12_sees 21 = .ok (.ladd, 1) := by decide +kernel
theorem dX12_sees_22 : decode cX12_sees 22 = .ok (.lstore_n 1, 1) := by decide +kernel
theorem dX12_sees_23 : decode cX12_sees 23 = .ok (.iinc 3 1, 3) := by decide +kernel
theorem dX12_sees_26 : decode cX12_sees 26 = .ok (.goto (-22), 3) := by decide +kernel
theorem dX12_sees_29 : decode cX12_sees 29 = .ok (.lload_n 1, 1) := by decide +kernel
theorem dX12_sees_30 : decode cX12_sees 30 = .ok (.aload_n 0, 1) := by decide +kernel
theorem dX12_sees_31 : decode cX12_sees 31 = .ok (.getfield 484, 3) := by decide +kernel
theorem dX12_sees_34 : decode cX12_sees 34 = .ok (.lcmp, 1) := by decide +kernel
theorem dX12_sees_35 : decode cX12_sees 35 = .ok (.ifCond .le 34, 3) := by decide +kernel
theorem dX12_sees_38 : decode cX12_sees 38 = .ok (.aload_n 0, 1) := by decide +kernel
theorem dX12_sees_39 : decode cX12_sees 39 = .ok (.lload_n 1, 1) := by decide +kernel
theorem dX12_sees_40 : decode cX12_sees 40 = .ok (.putfield 484, 3) := by decide +kernel
theorem dX12_sees_43 : decode cX12_sees 43 = .ok (.iconst 0, 1) := by decide +kernel
theorem dX12_sees_44 : decode cX12_sees 44 = .ok (.istore_n 3, 1) := by decide +kernel
theorem dX12_sees_45 : decode cX12_sees 45 = .ok (.iload_n 3, 1) := by decide +kernel
theorem dX12_sees_46 : decode cX12_sees 46 = .ok (.bipush 8, 2) := by decide +kernel
theorem dX12_sees_48 : decode cX12_sees 48 = .ok (.if_icmp .ge 21, 3) := by decide +kernel
theorem dX12_sees_51 : decode cX12_sees 51 = .ok (.aload_n 0, 1) := by decide +kernel
theorem dX12_sees_52 : decode cX12_sees 52 = .ok (.getfield 63, 3) := by decide +kernel
theorem dX12_sees_55 : decode cX12_sees 55 = .ok (.iload_n 3, 1) := by decide +kernel
theorem dX12_sees_56 : decode cX12_sees 56 = .ok (.aload_n 0, 1) := by decide +kernel
theorem dX12_sees_57 : decode cX12_sees 57 = .ok (.getfield 57, 3) := by decide +kernel
theorem dX12_sees_60 : decode cX12_sees 60 = .ok (.iload_n 3, 1) := by decide +kernel
theorem dX12_sees_61 : decode cX12_sees 61 = .ok (.iaload, 1) := by decide +kernel
theorem dX12_sees_62 : decode cX12_sees 62 = .ok (.iastore, 1) := by decide +kernel
theorem dX12_sees_63 : decode cX12_sees 63 = .ok (.iinc 3 1, 3) := by decide +kernel
theorem dX12_sees_66 : decode cX12_sees 66 = .ok (.goto (-21), 3) := by decide +kernel
theorem dX12_sees_69 : decode cX12_sees 69 = .ok (.aload_n 0, 1) := by decide +kernel
theorem dX12_sees_70 : decode cX12_sees 70 = .ok (.invokevirtual 488, 3) := by decide +kernel
theorem dX12_sees_73 : decode cX12_sees 73 = .ok (.iconst (-1), 1) := by decide +kernel
theorem dX12_sees_74 : decode cX12_sees 74 = .ok (.if_icmp .eq 4, 3) := by decide +kernel
theorem dX12_sees_77 : decode cX12_sees 77 = .ok (.return_, 1) := by decide +kernel
theorem dX12_sees_78 : decode cX12_sees 78 = .ok (.aload_n 0, 1) := by decide +kernel
theorem dX12_sees_79 : decode cX12_sees 79 = .ok (.dup, 1) := by decide +kernel
theorem dX12_sees_80 : decode cX12_sees 80 = .ok (.getfield 491, 3) := by decide +kernel
theorem dX12_sees_83 : decode cX12_sees 83 = .ok (.iconst 1, 1) := by decide +kernel
theorem dX12_sees_84 : decode cX12_sees 84 = .ok (.iadd, 1) := by decide +kernel
theorem dX12_sees_85 : decode cX12_sees 85 = .ok (.putfield 491, 3) := by decide +kernel
theorem dX12_sees_88 : decode cX12_sees 88 = .ok (.iconst 0, 1) := by decide +kernel
theorem dX12_sees_89 : decode cX12_sees 89 = .ok (.istore_n 3, 1) := by decide +kernel
theorem dX12_sees_90 : decode cX12_sees 90 = .ok (.iload_n 3, 1) := by decide +kernel
theorem dX12_sees_91 : decode cX12_sees 91 = .ok (.bipush 8, 2) := by decide +kernel
theorem dX12_sees_93 : decode cX12_sees 93 = .ok (.if_icmp .ge 29, 3) := by decide +kernel
theorem dX12_sees_96 : decode cX12_sees 96 = .ok (.aload_n 0, 1) := by decide +kernel
theorem dX12_sees_97 : decode cX12_sees 97 = .ok (.getfield 491, 3) := by decide +kernel
theorem dX12_sees_100 : decode cX12_sees 100 = .ok (.iconst 1, 1) := by decide +kernel
theorem dX12_sees_101 : decode cX12_sees 101 = .ok (.if_icmp .ne 21, 3) := by decide +kernel
theorem dX12_sees_104 : decode cX12_sees 104 = .ok (.aload_n 0, 1) := by decide +kernel
theorem dX12_sees_105 : decode cX12_sees 105 = .ok (.getfield 60, 3) := by decide +kernel
theorem dX12_sees_108 : decode cX12_sees 108 = .ok (.iload_n 3, 1) := by decide +kernel
theorem dX12_sees_109 : decode cX12_sees 109 = .ok (.aload_n 0, 1) := by decide +kernel
theorem dX12_sees_110 : decode cX12_sees 110 = .ok (.getfield 57, 3) := by decide +kernel
theorem dX12_sees_113 : decode cX12_sees 113 = .ok (.iload_n 3, 1) := by decide +kernel
theorem dX12_sees_114 : decode cX12_sees 114 = .ok (.iaload, 1) := by decide +kernel
theorem dX12_sees_115 : decode cX12_sees 115 = .ok (.iastore, 1) := by decide +kernel
theorem dX12_sees_116 : decode cX12_sees 116 = .ok (.iinc 3 1, 3) := by decide +kernel
theorem dX12_sees_119 : decode cX12_sees 119 = .ok (.goto (-29), 3) := by decide +kernel
theorem dX12_sees_122 : decode cX12_sees 122 = .ok (.return_, 1) := by decide +kernel
theorem dX12_goesPairs_0 : decode cX12_goesPairs 0 = .ok (.iconst 0, 1) := by decide +kernel
theorem dX12_goesPairs_1 : decode cX12_goesPairs 1 = .ok (.istore_n 3, 1) := by decide +kernel
theorem dX12_goesPairs_2 : decode cX12_goesPairs 2 = .ok (.iload_n 1, 1) := by decide +kernel
theorem dX12_goesPairs_3 : decode cX12_goesPairs 3 = .ok (.iload_n 3, 1) := by decide +kernel
theorem dX12_goesPairs_4 : decode cX12_goesPairs 4 = .ok (.invokestatic 270, 3) := by decide +kernel
theorem dX12_goesPairs_7 : decode cX12_goesPairs 7 = .ok (.ifCond .eq 9, 3) := by decide +kernel
theorem dX12_goesPairs_10 : decode cX12_goesPairs 10 = .ok (.iinc 3 1, 3) := by decide +kernel
theorem dX12_goesPairs_13 : decode cX12_goesPairs 13 = .ok (.goto (-11), 3) := by decide +kernel
theorem dX12_goesPairs_16 : decode cX12_goesPairs 16 = .ok (.iload_n 3, 1) := by decide +kernel
theorem dX12_goesPairs_17 : decode cX12_goesPairs 17 = .ok (.aload_n 0, 1) := by decide +kernel
theorem dX12_goesPairs_18 : decode cX12_goesPairs 18 = .ok (.getfield 9, 3) := by decide +kernel
theorem dX12_goesPairs_21 : decode cX12_goesPairs 21 = .ok (.iconst 1, 1) := by decide +kernel
theorem dX12_goesPairs_22 : decode cX12_goesPairs 22 = .ok (.iaload, 1) := by decide +kernel
theorem dX12_goesPairs_23 : decode cX12_goesPairs 23 = .ok (.if_icmp .lt 8, 3) := by decide +kernel
theorem dX12_goesPairs_26 : decode cX12_goesPairs 26 = .ok (.aload_n 0, 1) := by decide +kernel
theorem dX12_goesPairs_27 : decode cX12_goesPairs 27 = .ok (.invokevirtual 494, 3) := by decide +kernel
theorem dX12_goesPairs_30 : decode cX12_goesPairs 30 = .ok (.return_, 1) := by decide +kernel
theorem dX12_goesPairs_31 : decode cX12_goesPairs 31 = .ok (.iload_n 3, 1) := by decide +kernel
theorem dX12_goesPairs_32 : decode cX12_goesPairs 32 = .ok (.iconst 1, 1) := by decide +kernel
theorem dX12_goesPairs_33 : decode cX12_goesPairs 33 = .ok (.iadd, 1) := by decide +kernel
theorem dX12_goesPairs_34 : decode cX12_goesPairs 34 = .ok (.istore 4, 2) := by decide +kernel
theorem dX12_goesPairs_36 : decode cX12_goesPairs 36 = .ok (.iload 4, 2) := by decide +kernel
theorem dX12_goesPairs_38 : decode cX12_goesPairs 38 = .ok (.aload_n 0, 1) := by decide +kernel
theorem dX12_goesPairs_39 : decode cX12_goesPairs 39 = .ok (.getfield 9, 3) := by decide +kernel
theorem dX12_goesPairs_42 : decode cX12_goesPairs 42 = .ok (.iconst 1, 1) := by decide +kernel
theorem dX12_goesPairs_43 : decode cX12_goesPairs 43 = .ok (.iaload, 1) := by decide +kernel
theorem dX12_goesPairs_44 : decode cX12_goesPairs 44 = .ok (.if_icmp .ge 52, 3) := by decide +kernel
theorem dX12_goesPairs_47 : decode cX12_goesPairs 47 = .ok (.iload_n 1, 1) := by decide +kernel
theorem dX12_goesPairs_48 : decode cX12_goesPairs 48 = .ok (.iload 4, 2) := by decide +kernel
theorem dX12_goesPairs_50 : decode cX12_goesPairs 50 = .ok (.invokestatic 270, 3) := by decide +kernel
theorem dX12_goesPairs_53 : decode cX12_goesPairs 53 = .ok (.ifCond .eq 6, 3) := by decide +kernel
theorem dX12_goesPairs_56 : decode cX12_goesPairs 56 = .ok (.goto 34, 3) := by decide +kernel
theorem dX12_goesPairs_59 : decode cX12_goesPairs 59 = .ok (.aload_n 0, 1) := by decide +kernel
theorem dX12_goesPairs_60 : decode cX12_goesPairs 60 = .ok (.getfield 57, 3) := by decide +kernel
theorem dX12_goesPairs_63 : decode cX12_goesPairs 63 = .ok (.iload_n 3, 1) := by decide +kernel
theorem dX12_goesPairs_64 : decode cX12_goesPairs 64 = .ok (.iload 4, 2) := by decide +kernel
theorem dX12_goesPairs_66 : decode cX12_goesPairs 66 = .ok (.iastore, 1) := by decide +kernel
theorem dX12_goesPairs_67 : decode cX12_goesPairs 67 = .ok (.aload_n 0, 1) := by decide +kernel
theorem dX12_goesPairs_68 : decode cX12_goesPairs 68 = .ok (.getfield 57, 3) := by decide +kernel
theorem dX12_goesPairs_71 : decode cX12_goesPairs 71 = .ok (.iload 4, 2) := by decide +kernel
theorem dX12_goesPairs_73 : decode cX12_goesPairs 73 = .ok (.iload_n 3, 1) := by decide +kernel
theorem dX12_goesPairs_74 : decode cX12_goesPairs 74 = .ok (.iastore, 1) := by decide +kernel
theorem dX12_goesPairs_75 : decode cX12_goesPairs 75 = .ok (.aload_n 0, 1) := by decide +kernel
theorem dX12_goesPairs_76 : decode cX12_goesPairs 76 = .ok (.iload_n 1, 1) := by decide +kernel
theorem dX12_goesPairs_77 : decode cX12_goesPairs 77 = .ok (.iconst 1, 1) := by decide +kernel
theorem dX12_goesPairs_78 : decode cX12_goesPairs 78 = .ok (.iload_n 3, 1) := by decide +kernel
theorem dX12_goesPairs_79 : decode cX12_goesPairs 79 = .ok (.ishl, 1) := by decide +kernel
theorem dX12_goesPairs_80 : decode cX12_goesPairs 80 = .ok (.ior, 1) := by decide +kernel
theorem dX12_goesPairs_81 : decode cX12_goesPairs 81 = .ok (.iconst 1, 1) := by decide +kernel
theorem dX12_goesPairs_82 : decode cX12_goesPairs 82 = .ok (.iload 4, 2) := by decide +kernel
theorem dX12_goesPairs_84 : decode cX12_goesPairs 84 = .ok (.ishl, 1) := by decide +kernel
theorem dX12_goesPairs_85 : decode cX12_goesPairs 85 = .ok (.ior, 1) := by decide +kernel
theorem dX12_goesPairs_86 : decode cX12_goesPairs 86 = .ok (.iload_n 2, 1) := by decide +kernel
theorem dX12_goesPairs_87 : decode cX12_goesPairs 87 = .ok (.invokevirtual 497, 3) := by decide +kernel
theorem dX12_goesPairs_90 : decode cX12_goesPairs 90 = .ok (.iinc 4 1, 3) := by decide +kernel
theorem dX12_goesPairs_93 : decode cX12_goesPairs 93 = .ok (.goto (-57), 3) := by decide +kernel
theorem dX12_goesPairs_96 : decode cX12_goesPairs 96 = .ok (.iload_n 2, 1) := by decide +kernel
theorem dX12_goesPairs_97 : decode cX12_goesPairs 97 = .ok (.ifCond .ne 4, 3) := by decide +kernel
theorem dX12_goesPairs_100 : decode cX12_goesPairs 100 = .ok (.return_, 1) := by decide +kernel
theorem dX12_goesPairs_101 : decode cX12_goesPairs 101 = .ok (.aload_n 0, 1) := by decide +kernel
theorem dX12_goesPairs_102 : decode cX12_goesPairs 102 = .ok (.getfield 57, 3) := by decide +kernel
theorem dX12_goesPairs_105 : decode cX12_goesPairs 105 = .ok (.iload_n 3, 1) := by decide +kernel
theorem dX12_goesPairs_106 : decode cX12_goesPairs 106 = .ok (.iconst (-1), 1) := by decide +kernel
theorem dX12_goesPairs_107 : decode cX12_goesPairs 107 = .ok (.iastore, 1) := by decide +kernel
theorem dX12_goesPairs_108 : decode cX12_goesPairs 108 = .ok (.aload_n 0, 1) := by decide +kernel
theorem dX12_goesPairs_109 : decode cX12_goesPairs 109 = .ok (.iload_n 1, 1) := by decide +kernel
theorem dX12_goesPairs_110 : decode cX12_goesPairs 110 = .ok (.iconst 1, 1) := by decide +kernel
theorem dX12_goesPairs_111 : decode cX12_goesPairs 111 = .ok (.iload_n 3, 1) := by decide +kernel
theorem dX12_goesPairs_112 : decode cX12_goesPairs 112 = .ok (.ishl, 1) := by decide +kernel
theorem dX12_goesPairs_113 : decode cX12_goesPairs 113 = .ok (.ior, 1) := by decide +kernel
theorem dX12_goesPairs_114 : decode cX12_goesPairs 114 = .ok (.iconst 0, 1) := by decide +kernel
theorem dX12_goesPairs_115 : decode cX12_goesPairs 115 = .ok (.invokevirtual 497, 3) := by decide +kernel
theorem dX12_goesPairs_118 : decode cX12_goesPairs 118 = .ok (.return_, 1) := by decide +kernel
theorem dX12_laysPairs_0 : decode cX12_laysPairs 0 = .ok (.aload_n 0, 1) := by decide +kernel
theorem dX12_laysPairs_1 : decode cX12_laysPairs 1 = .ok (.invokevirtual 500, 3) := by decide +kernel
theorem dX12_laysPairs_4 : decode cX12_laysPairs 4 = .ok (.aload_n 0, 1) := by decide +kernel
theorem dX12_laysPairs_5 : decode cX12_laysPairs 5 = .ok (.iconst 0, 1) := by decide +kernel
theorem dX12_laysPairs_6 : decode cX12_laysPairs 6 = .ok (.putfield 491, 3) := by decide +kernel
theorem dX12_laysPairs_9 : decode cX12_laysPairs 9 = .ok (.aload_n 0, 1) := by decide +kernel
theorem dX12_laysPairs_10 : decode cX12_laysPairs 10 = .ok (.ldc2_w 505, 3) := by decide +kernel
theorem dX12_laysPairs_13 : decode cX12_laysPairs 13 = .ok (.putfield 484, 3) := by decide +kernel
theorem dX12_laysPairs_16 : decode cX12_laysPairs 16 = .ok (.iconst 0, 1) := by decide +kernel
theorem dX12_laysPairs_17 : decode cX12_laysPairs 17 = .ok (.istore_n 1, 1) := by decide +kernel
theorem dX12_laysPairs_18 : decode cX12_laysPairs 18 = .ok (.iload_n 1, 1) := by decide +kernel
theorem dX12_laysPairs_19 : decode cX12_laysPairs 19 = .ok (.bipush 8, 2) := by decide +kernel
theorem dX12_laysPairs_21 : decode cX12_laysPairs 21 = .ok (.if_icmp .ge 16, 3) := by decide +kernel
theorem dX12_laysPairs_24 : decode cX12_laysPairs 24 = .ok (.aload_n 0, 1) := by decide +kernel
theorem dX12_laysPairs_25 : decode cX12_laysPairs 25 = .ok (.getfield 57, 3) := by decide +kernel
theorem dX12_laysPairs_28 : decode cX12_laysPairs 28 = .ok (.iload_n 1, 1) := by decide +kernel
theorem dX12_laysPairs_29 : decode cX12_laysPairs 29 = .ok (.iconst (-1), 1) := by decide +kernel
theorem dX12_laysPairs_30 : decode cX12_laysPairs 30 = .ok (.iastore, 1) := by decide +kernel
theorem dX12_laysPairs_31 : decode cX12_laysPairs 31 = .ok (.iinc 1 1, 3) := by decide +kernel
theorem dX12_laysPairs_34 : decode cX12_laysPairs 34 = .ok (.goto (-16), 3) := by decide +kernel
theorem dX12_laysPairs_37 : decode cX12_laysPairs 37 = .ok (.aload_n 0, 1) := by decide +kernel
theorem dX12_laysPairs_38 : decode cX12_laysPairs 38 = .ok (.iconst 0, 1) := by decide +kernel
theorem dX12_laysPairs_39 : decode cX12_laysPairs 39 = .ok (.aload_n 0, 1) := by decide +kernel
theorem dX12_laysPairs_40 : decode cX12_laysPairs 40 = .ok (.getfield 9, 3) := by decide +kernel
theorem dX12_laysPairs_43 : decode cX12_laysPairs 43 = .ok (.iconst 1, 1) := by decide +kernel
theorem dX12_laysPairs_44 : decode cX12_laysPairs 44 = .ok (.iaload, 1) := by decide +kernel
theorem dX12_laysPairs_45 : decode cX12_laysPairs 45 = .ok (.iconst 2, 1) := by decide +kernel
theorem dX12_laysPairs_46 : decode cX12_laysPairs 46 = .ok (.irem, 1) := by decide +kernel
theorem dX12_laysPairs_47 : decode cX12_laysPairs 47 = .ok (.iconst 1, 1) := by decide +kernel
theorem dX12_laysPairs_48 : decode cX12_laysPairs 48 = .ok (.if_icmp .ne 7, 3) := by decide +kernel
theorem dX12_laysPairs_51 : decode cX12_laysPairs 51 = .ok (.iconst 1, 1) := by decide +kernel
theorem dX12_laysPairs_52 : decode cX12_laysPairs 52 = .ok (.goto 4, 3) := by decide +kernel
theorem dX12_laysPairs_55 : decode cX12_laysPairs 55 = .ok (.iconst 0, 1) := by decide +kernel
theorem dX12_laysPairs_56 : decode cX12_laysPairs 56 = .ok (.invokevirtual 497, 3) := by decide +kernel
theorem dX12_laysPairs_59 : decode cX12_laysPairs 59 = .ok (.return_, 1) := by decide +kernel
theorem dX12_stable_0 : decode cX12_stable 0 = .ok (.aload_n 0, 1) := by decide +kernel
theorem dX12_stable_1 : decode cX12_stable 1 = .ok (.iconst 0, 1) := by decide +kernel
theorem dX12_stable_2 : decode cX12_stable 2 = .ok (.putfield 82, 3) := by decide +kernel
theorem dX12_stable_5 : decode cX12_stable 5 = .ok (.aload_n 0, 1) := by decide +kernel
theorem dX12_stable_6 : decode cX12_stable 6 = .ok (.invokevirtual 507, 3) := by decide +kernel
theorem dX12_stable_9 : decode cX12_stable 9 = .ok (.aload_n 0, 1) := by decide +kernel
theorem dX12_stable_10 : decode cX12_stable 10 = .ok (.getfield 491, 3) := by decide +kernel
theorem dX12_stable_13 : decode cX12_stable 13 = .ok (.ireturn, 1) := by decide +kernel
theorem dX12_partner_0 : decode cX12_partner 0 = .ok (.aload_n 0, 1) := by decide +kernel
theorem dX12_partner_1 : decode cX12_partner 1 = .ok (.iconst 0, 1) := by decide +kernel
theorem dX12_partner_2 : decode cX12_partner 2 = .ok (.putfield 82, 3) := by decide +kernel
theorem dX12_partner_5 : decode cX12_partner 5 = .ok (.aload_n 0, 1) := by decide +kernel
theorem dX12_partner_6 : decode cX12_partner 6 = .ok (.iload_n 1, 1) := by decide +kernel
theorem dX12_partner_7 : decode cX12_partner 7 = .ok (.i2l, 1) := by decide +kernel
theorem dX12_partner_8 : decode cX12_partner 8 = .ok (.invokevirtual 328, 3) := by decide +kernel
theorem dX12_partner_11 : decode cX12_partner 11 = .ok (.ifCond .ne 9, 3) := by decide +kernel
theorem dX12_partner_14 : decode cX12_partner 14 = .ok (.aload_n 0, 1) := by decide +kernel
theorem dX12_partner_15 : decode cX12_partner 15 = .ok (.iconst 1, 1) := by decide +kernel
theorem dX12_partner_16 : decode cX12_partner 16 = .ok (.invokevirtual 256, 3) := by decide +kernel
theorem dX12_partner_19 : decode cX12_partner 19 = .ok (.ireturn, 1) := by decide +kernel
theorem dX12_partner_20 : decode cX12_partner 20 = .ok (.aload_n 0, 1) := by decide +kernel
theorem dX12_partner_21 : decode cX12_partner 21 = .ok (.invokevirtual 507, 3) := by decide +kernel
theorem dX12_partner_24 : decode cX12_partner 24 = .ok (.aload_n 0, 1) := by decide +kernel
theorem dX12_partner_25 : decode cX12_partner 25 = .ok (.getfield 491, 3) := by decide +kernel
theorem dX12_partner_28 : decode cX12_partner 28 = .ok (.ifCond .ne 7, 3) := by decide +kernel
theorem dX12_partner_31 : decode cX12_partner 31 = .ok (.iconst (-1), 1) := by decide +kernel
theorem dX12_partner_32 : decode cX12_partner 32 = .ok (.goto 9, 3) := by decide +kernel
theorem dX12_partner_35 : decode cX12_partner 35 = .ok (.aload_n 0, 1) := by decide +kernel
theorem dX12_partner_36 : decode cX12_partner 36 = .ok (.getfield 60, 3) := by decide +kernel
theorem dX12_partner_39 : decode cX12_partner 39 = .ok (.iload_n 1, 1) := by decide +kernel
theorem dX12_partner_40 : decode cX12_partner 40 = .ok (.iaload, 1) := by decide +kernel
theorem dX12_partner_41 : decode cX12_partner 41 = .ok (.ireturn, 1) := by decide +kernel
theorem dX12_leave_0 : decode cX12_leave 0 = .ok (.aload_n 0, 1) := by decide +kernel
theorem dX12_leave_1 : decode cX12_leave 1 = .ok (.iconst 0, 1) := by decide +kernel
theorem dX12_leave_2 : decode cX12_leave 2 = .ok (.putfield 82, 3) := by decide +kernel
theorem dX12_leave_5 : decode cX12_leave 5 = .ok (.aload_n 0, 1) := by decide +kernel
theorem dX12_leave_6 : decode cX12_leave 6 = .ok (.invokevirtual 500, 3) := by decide +kernel
theorem dX12_leave_9 : decode cX12_leave 9 = .ok (.iconst 0, 1) := by decide +kernel
theorem dX12_leave_10 : decode cX12_leave 10 = .ok (.istore_n 1, 1) := by decide +kernel
theorem dX12_leave_11 : decode cX12_leave 11 = .ok (.iload_n 1, 1) := by decide +kernel
theorem dX12_leave_12 : decode cX12_leave 12 = .ok (.bipush 8, 2) := by decide +kernel
theorem dX12_leave_14 : decode cX12_leave 14 = .ok (.if_icmp .ge 24, 3) := by decide +kernel
theorem dX12_leave_17 : decode cX12_leave 17 = .ok (.aload_n 0, 1) := by decide +kernel
theorem dX12_leave_18 : decode cX12_leave 18 = .ok (.getfield 57, 3) := by decide +kernel
theorem dX12_leave_21 : decode cX12_leave 21 = .ok (.iload_n 1, 1) := by decide +kernel
theorem dX12_leave_22 : decode cX12_leave 22 = .ok (.aload_n 0, 1) := by decide +kernel
theorem dX12_leave_23 : decode cX12_leave 23 = .ok (.getfield 9, 3) := by decide +kernel
theorem dX12_leave_26 : decode cX12_leave 26 = .ok (.bipush 38, 2) := by decide +kernel
theorem dX12_leave_28 : decode cX12_leave 28 = .ok (.iload_n 1, 1) := by decide +kernel
theorem dX12_leave_29 : decode cX12_leave 29 = .ok (.iadd, 1) := by decide +kernel
theorem dX12_leave_30 : decode cX12_leave 30 = .ok (.iaload, 1) := by decide +kernel
theorem dX12_leave_31 : decode cX12_leave 31 = .ok (.iastore, 1) := by decide +kernel
theorem dX12_leave_32 : decode cX12_leave 32 = .ok (.iinc 1 1, 3) := by decide +kernel
theorem dX12_leave_35 : decode cX12_leave 35 = .ok (.goto (-24), 3) := by decide +kernel
theorem dX12_leave_38 : decode cX12_leave 38 = .ok (.aload_n 0, 1) := by decide +kernel
theorem dX12_leave_39 : decode cX12_leave 39 = .ok (.invokevirtual 488, 3) := by decide +kernel
theorem dX12_leave_42 : decode cX12_leave 42 = .ok (.ireturn, 1) := by decide +kernel
theorem dX12_darlings_0 : decode cX12_darlings 0 = .ok (.aload_n 0, 1) := by decide +kernel
theorem dX12_darlings_1 : decode cX12_darlings 1 = .ok (.iconst 0, 1) := by decide +kernel
theorem dX12_darlings_2 : decode cX12_darlings 2 = .ok (.putfield 82, 3) := by decide +kernel
theorem dX12_darlings_5 : decode cX12_darlings 5 = .ok (.aload_n 0, 1) := by decide +kernel
theorem dX12_darlings_6 : decode cX12_darlings 6 = .ok (.invokevirtual 500, 3) := by decide +kernel
theorem dX12_darlings_9 : decode cX12_darlings 9 = .ok (.iconst 1, 1) := by decide +kernel
theorem dX12_darlings_10 : decode cX12_darlings 10 = .ok (.istore_n 1, 1) := by decide +kernel
theorem dX12_darlings_11 : decode cX12_darlings 11 = .ok (.iconst 0, 1) := by decide +kernel
theorem dX12_darlings_12 : decode cX12_darlings 12 = .ok (.istore_n 2, 1) := by decide +kernel
theorem dX12_darlings_13 : decode cX12_darlings 13 = .ok (.iload_n 2, 1) := by decide +kernel
theorem dX12_darlings_14 : decode cX12_darlings 14 = .ok (.aload_n 0, 1) := by decide +kernel
theorem dX12_darlings_15 : decode cX12_darlings 15 = .ok (.getfield 9, 3) := by decide +kernel
theorem dX12_darlings_18 : decode cX12_darlings 18 = .ok (.iconst 1, 1) := by decide +kernel
theorem dX12_darlings_19 : decode cX12_darlings 19 = .ok (.iaload, 1) := by decide +kernel
theorem dX12_darlings_20 : decode cX12_darlings 20 = .ok (.if_icmp .ge 97, 3) := by decide +kernel
theorem dX12_darlings_23 : decode cX12_darlings 23 = .ok (.iload_n 2, 1) := by decide +kernel
theorem dX12_darlings_24 : decode cX12_darlings 24 = .ok (.iconst 1, 1) := by decide +kernel
theorem dX12_darlings_25 : decode cX12_darlings 25 = .ok (.iadd, 1) := by decide +kernel
theorem dX12_darlings_26 : decode cX12_darlings 26 = .ok (.istore_n 3, 1) := by decide +kernel
theorem dX12_darlings_27 : decode cX12_darlings 27 = .ok (.iload_n 3, 1) := by decide +kernel
theorem dX12_darlings_28 : decode cX12_darlings 28 = .ok (.aload_n 0, 1) := by decide +kernel
theorem dX12_darlings_29 : decode cX12_darlings 29 = .ok (.getfield 9, 3) := by decide +kernel
theorem dX12_darlings_32 : decode cX12_darlings 32 = .ok (.iconst 1, 1) := by decide +kernel
theorem dX12_darlings_33 : decode cX12_darlings 33 = .ok (.iaload, 1) := by decide +kernel
theorem dX12_darlings_34 : decode cX12_darlings 34 = .ok (.if_icmp .ge 77, 3) := by decide +kernel
theorem dX12_darlings_37 : decode cX12_darlings 37 = .ok (.aload_n 0, 1) := by decide +kernel
theorem dX12_darlings_38 : decode cX12_darlings 38 = .ok (.getfield 54, 3) := by decide +kernel
theorem dX12_darlings_41 : decode cX12_darlings 41 = .ok (.bipush 8, 2) := by decide +kernel
theorem dX12_darlings_43 : decode cX12_darlings 43 = .ok (.iload_n 2, 1) := by decide +kernel
theorem dX12_darlings_44 : decode cX12_darlings 44 = .ok (.imul, 1) := by decide +kernel
theorem dX12_darlings_45 : decode cX12_darlings 45 = .ok (.iload_n 3, 1) := by decide +kernel
theorem dX12_darlings_46 : decode cX12_darlings 46 = .ok (.iadd, 1) := by decide +kernel
theorem dX12_darlings_47 : decode cX12_darlings 47 = .ok (.iaload, 1) := by decide +kernel
theorem dX12_darlings_48 : decode cX12_darlings 48 = .ok (.aload_n 0, 1) := by decide +kernel
theorem dX12_darlings_49 : decode cX12_darlings 49 = .ok (.getfield 54, 3) := by decide +kernel
theorem dX12_darlings_52 : decode cX12_darlings 52 = .ok (.bipush 8, 2) := by decide +kernel
theorem dX12_darlings_54 : decode cX12_darlings 54 = .ok (.iload_n 3, 1) := by decide +kernel
theorem dX12_darlings_55 : decode cX12_darlings 55 = .ok (.imul, 1) := by decide +kernel
theorem dX12_darlings_56 : decode cX12_darlings 56 = .ok (.iload_n 2, 1) := by decide +kernel
theorem dX12_darlings_57 : decode cX12_darlings 57 = .ok (.iadd, 1) := by decide +kernel
theorem dX12_darlings_58 : decode cX12_darlings 58 = .ok (.iaload, 1) := by decide +kernel
theorem dX12_darlings_59 : decode cX12_darlings 59 = .ok (.iadd, 1) := by decide +kernel
theorem dX12_darlings_60 : decode cX12_darlings 60 = .ok (.aload_n 0, 1) := by decide +kernel
theorem dX12_darlings_61 : decode cX12_darlings 61 = .ok (.getfield 54, 3) := by decide +kernel
theorem dX12_darlings_64 : decode cX12_darlings 64 = .ok (.bipush 8, 2) := by decide +kernel
theorem dX12_darlings_66 : decode cX12_darlings 66 = .ok (.iload_n 1, 1) := by decide +kernel
theorem dX12_darlings_67 : decode cX12_darlings 67 = .ok (.bipush 10, 2) := by decide +kernel
theorem dX12_darlings_69 : decode cX12_darlings 69 = .ok (.idiv, 1) := by decide +kernel
theorem dX12_darlings_70 : decode cX12_darlings 70 = .ok (.imul, 1) := by decide +kernel
theorem dX12_darlings_71 : decode cX12_darlings 71 = .ok (.iload_n 1, 1) := by decide +kernel
theorem dX12_darlings_72 : decode cX12_darlings 72 = .ok (.bipush 10, 2) := by decide +kernel
theorem dX12_darlings_74 : decode cX12_darlings 74 = .ok (.irem, 1) := by decide +kernel
theorem dX12_darlings_75 : decode cX12_darlings 75 = .ok (.iadd, 1) := by decide +kernel
theorem dX12_darlings_76 : decode cX12_darlings 76 = .ok (.iaload, 1) := by decide +kernel
theorem dX12_darlings_77 : decode cX12_darlings 77 = .ok (.aload_n 0, 1) := by decide +kernel
theorem dX12_darlings_78 : decode cX12_darlings 78 = .ok (.getfield 54, 3) := by decide +kernel
theorem dX12_darlings_81 : decode cX12_darlings 81 = .ok (.bipush 8, 2) := by decide +kernel
theorem dX12_darlings_83 : decode cX12_darlings 83 = .ok (.iload_n 1, 1) := by decide +kernel
theorem dX12_darlings_84 : decode cX12_darlings 84 = .ok (.bipush 10, 2) := by decide +kernel
theorem dX12_darlings_86 : decode cX12_darlings 86 = .ok (.irem, 1) := by decide +kernel
theorem dX12_darlings_87 : decode cX12_darlings 87 = .ok (.imul, 1) := by decide +kernel
theorem dX12_darlings_88 : decode cX12_darlings 88 = .ok (.iload_n 1, 1) := by decide +kernel
theorem dX12_darlings_89 : decode cX12_darlings 89 = .ok (.bipush 10, 2) := by decide +kernel
theorem dX12_darlings_91 : decode cX12_darlings 91 = .ok (.idiv, 1) := by decide +kernel
theorem dX12_darlings_92 : decode cX12_darlings 92 = .ok (.iadd, 1) := by decide +kernel
theorem dX12_darlings_93 : decode cX12_darlings 93 = .ok (.iaload, 1) := by decide +kernel
theorem dX12_darlings_94 : decode cX12_darlings 94 = .ok (.iadd, 1) := by decide +kernel
theorem dX12_darlings_95 : decode cX12_darlings 95 = .ok (.if_icmp .le 10, 3) := by decide +kernel
theorem dX12_darlings_98 : decode cX12_darlings 98 = .ok (.bipush 10, 2) := by decide +kernel
theorem dX12_darlings_100 : decode cX12_darlings 100 = .ok (.iload_n 2, 1) := by decide +kernel
theorem dX12_darlings_101 : decode cX12_darlings 101 = .ok (.imul, 1) := by decide +kernel
theorem dX12_darlings_102 : decode cX12_darlings 102 = .ok (.iload_n 3, 1) := by decide +kernel
theorem dX12_darlings_103 : decode cX12_darlings 103 = .ok (.iadd, 1) := by decide +kernel
theorem dX12_darlings_104 : decode cX12_darlings 104 = .ok (.istore_n 1, 1) := by decide +kernel
theorem dX12_darlings_105 : decode cX12_darlings 105 = .ok (.iinc 3 1, 3) := by decide +kernel
theorem dX12_darlings_108 : decode cX12_darlings 108 = .ok (.goto (-81), 3) := by decide +kernel
theorem dX12_darlings_111 : decode cX12_darlings 111 = .ok (.iinc 2 1, 3) := by decide +kernel
theorem dX12_darlings_114 : decode cX12_darlings 114 = .ok (.goto (-101), 3) := by decide +kernel
theorem dX12_darlings_117 : decode cX12_darlings 117 = .ok (.iload_n 1, 1) := by decide +kernel
theorem dX12_darlings_118 : decode cX12_darlings 118 = .ok (.ireturn, 1) := by decide +kernel
theorem dX12_happiest_0 : decode cX12_happiest 0 = .ok (.aload_n 0, 1) := by decide +kernel
theorem dX12_happiest_1 : decode cX12_happiest 1 = .ok (.iconst 0, 1) := by decide +kernel
theorem dX12_happiest_2 : decode cX12_happiest 2 = .ok (.putfield 82, 3) := by decide +kernel
theorem dX12_happiest_5 : decode cX12_happiest 5 = .ok (.iload_n 1, 1) := by decide +kernel
theorem dX12_happiest_6 : decode cX12_happiest 6 = .ok (.ifCond .eq 23, 3) := by decide +kernel
theorem dX12_happiest_9 : decode cX12_happiest 9 = .ok (.iload_n 1, 1) := by decide +kernel
theorem dX12_happiest_10 : decode cX12_happiest 10 = .ok (.i2l, 1) := by decide +kernel
theorem dX12_happiest_11 : decode cX12_happiest 11 = .ok (.ldc2_w 358, 3) := by decide +kernel
theorem dX12_happiest_14 : decode cX12_happiest 14 = .ok (.ldc2_w 510, 3) := by decide +kernel
theorem dX12_happiest_17 : decode cX12_happiest 17 = .ok (.invokestatic 143, 3) := by decide +kernel
theorem dX12_happiest_20 : decode cX12_happiest 20 = .ok (.ifCond .ne 9, 3) := by decide +kernel
theorem dX12_happiest_23 : decode cX12_happiest 23 = .ok (.aload_n 0, 1) := by decide +kernel
theorem dX12_happiest_24 : decode cX12_happiest 24 = .ok (.iconst 1, 1) := by decide +kernel
theorem dX12_happiest_25 : decode cX12_happiest 25 = .ok (.invokevirtual 256, 3) := by decide +kernel
theorem dX12_happiest_28 : decode cX12_happiest 28 = .ok (.ireturn, 1) := by decide +kernel
theorem dX12_happiest_29 : decode cX12_happiest 29 = .ok (.aload_n 0, 1) := by decide +kernel
theorem dX12_happiest_30 : decode cX12_happiest 30 = .ok (.invokevirtual 507, 3) := by decide +kernel
theorem dX12_happiest_33 : decode cX12_happiest 33 = .ok (.iload_n 1, 1) := by decide +kernel
theorem dX12_happiest_34 : decode cX12_happiest 34 = .ok (.ifCond .ne 11, 3) := by decide +kernel
theorem dX12_happiest_37 : decode cX12_happiest 37 = .ok (.aload_n 0, 1) := by decide +kernel
theorem dX12_happiest_38 : decode cX12_happiest 38 = .ok (.getfield 484, 3) := by decide +kernel
theorem dX12_happiest_41 : decode cX12_happiest 41 = .ok (.l2i, 1) := by decide +kernel
theorem dX12_happiest_42 : decode cX12_happiest 42 = .ok (.goto 28, 3) := by decide +kernel
theorem dX12_happiest_45 : decode cX12_happiest 45 = .ok (.aload_n 0, 1) := by decide +kernel
theorem dX12_happiest_46 : decode cX12_happiest 46 = .ok (.iload_n 1, 1) := by decide +kernel
theorem dX12_happiest_47 : decode cX12_happiest 47 = .ok (.bipush 10, 2) := by decide +kernel
theorem dX12_happiest_49 : decode cX12_happiest 49 = .ok (.isub, 1) := by decide +kernel
theorem dX12_happiest_50 : decode cX12_happiest 50 = .ok (.i2l, 1) := by decide +kernel
theorem dX12_happiest_51 : decode cX12_happiest 51 = .ok (.invokevirtual 328, 3) := by decide +kernel
theorem dX12_happiest_54 : decode cX12_happiest 54 = .ok (.ifCond .eq 15, 3) := by decide +kernel
theorem dX12_happiest_57 : decode cX12_happiest 57 = .ok (.aload_n 0, 1) := by decide +kernel
theorem dX12_happiest_58 : decode cX12_happiest 58 = .ok (.getfield 63, 3) := by decide +kernel
theorem dX12_happiest_61 : decode cX12_happiest 61 = .ok (.iload_n 1, 1) := by decide +kernel
theorem dX12_happiest_62 : decode cX12_happiest 62 = .ok (.bipush 10, 2) := by decide +kernel
theorem dX12_happiest_64 : decode cX12_happiest 64 = .ok (.isub, 1) := by decide +kernel
theorem dX12_happiest_65 : decode cX12_happiest 65 = .ok (.iaload, 1) := by decide +kernel
theorem dX12_happiest_66 : decode cX12_happiest 66 = .ok (.goto 4, 3) := by decide +kernel
theorem dX12_happiest_69 : decode cX12_happiest 69 = .ok (.iconst (-1), 1) := by decide +kernel
theorem dX12_happiest_70 : decode cX12_happiest 70 = .ok (.ireturn, 1) := by decide +kernel
theorem dX12_common_0 : decode cX12_common 0 = .ok (.lload_n 0, 1) := by decide +kernel
theorem dX12_common_1 : decode cX12_common 1 = .ok (.lstore 4, 2) := by decide +kernel
theorem dX12_common_3 : decode cX12_common 3 = .ok (.lload_n 2, 1) := by decide +kernel
theorem dX12_common_4 : decode cX12_common 4 = .ok (.lstore 6, 2) := by decide +kernel
theorem dX12_common_6 : decode cX12_common 6 = .ok (.lload 6, 2) := by decide +kernel
theorem dX12_common_8 : decode cX12_common 8 = .ok (.lconst 0, 1) := by decide +kernel
theorem dX12_common_9 : decode cX12_common 9 = .ok (.lcmp, 1) := by decide +kernel
theorem dX12_common_10 : decode cX12_common 10 = .ok (.ifCond .eq 21, 3) := by decide +kernel
theorem dX12_common_13 : decode cX12_common 13 = .ok (.lload 4, 2) := by decide +kernel
theorem dX12_common_15 : decode cX12_common 15 = .ok (.lload 6, 2) := by decide +kernel
theorem dX12_common_17 : decode cX12_common 17 = .ok (.lrem, 1) := by decide +kernel
theorem dX12_common_18 : decode cX12_common 18 = .ok (.lstore 8, 2) := by decide +kernel
theorem dX12_common_20 : decode cX12_common 20 = .ok (.lload 6, 2) := by decide +kernel
theorem dX12_common_22 : decode cX12_common 22 = .ok (.lstore 4, 2) := by decide +kernel
theorem dX12_common_24 : decode cX12_common 24 = .ok (.lload 8, 2) := by decide +kernel
theorem dX12_common_26 : decode cX12_common 26 = .ok (.lstore 6, 2) := by decide +kernel
theorem dX12_common_28 : decode cX12_common 28 = .ok (.goto (-22), 3) := by decide +kernel
theorem dX12_common_31 : decode cX12_common 31 = .ok (.lload 4, 2) := by decide +kernel
theorem dX12_common_33 : decode cX12_common 33 = .ok (.lreturn, 1) := by decide +kernel
theorem dX12_laysLoss_0 : decode cX12_laysLoss 0 = .ok (.aload_n 0, 1) := by decide +kernel
theorem dX12_laysLoss_1 : decode cX12_laysLoss 1 = .ok (.lconst 1, 1) := by decide +kernel
theorem dX12_laysLoss_2 : decode cX12_laysLoss 2 = .ok (.putfield 512, 3) := by decide +kernel
theorem dX12_laysLoss_5 : decode cX12_laysLoss 5 = .ok (.aload_n 0, 1) := by decide +kernel
theorem dX12_laysLoss_6 : decode cX12_laysLoss 6 = .ok (.lconst 1, 1) := by decide +kernel
theorem dX12_laysLoss_7 : decode cX12_laysLoss 7 = .ok (.putfield 515, 3) := by decide +kernel
theorem dX12_laysLoss_10 : decode cX12_laysLoss 10 = .ok (.iconst 1, 1) := by decide +kernel
theorem dX12_laysLoss_11 : decode cX12_laysLoss 11 = .ok (.istore 4, 2) := by decide +kernel
theorem dX12_laysLoss_13 : decode cX12_laysLoss 13 = .ok (.iload 4, 2) := by decide +kernel
theorem dX12_laysLoss_15 : decode cX12_laysLoss 15 = .ok (.iload_n 1, 1) := by decide +kernel
theorem dX12_laysLoss_16 : decode cX12_laysLoss 16 = .ok (.if_icmp .gt 61, 3) := by decide +kernel
theorem dX12_laysLoss_19 : decode cX12_laysLoss 19 = .ok (.iload_n 2, 1) := by decide +kernel
theorem dX12_laysLoss_20 : decode cX12_laysLoss 20 = .ok (.i2l, 1) := by decide +kernel
theorem dX12_laysLoss_21 : decode cX12_laysLoss 21 = .ok (.aload_n 0, 1) := by decide +kernel
theorem dX12_laysLoss_22 : decode cX12_laysLoss 22 = .ok (.getfield 512, 3) := by decide +kernel
theorem dX12_laysLoss_25 : decode cX12_laysLoss 25 = .ok (.lmul, 1) := by decide +kernel
theorem dX12_laysLoss_26 : decode cX12_laysLoss 26 = .ok (.lstore 5, 2) := by decide +kernel
theorem dX12_laysLoss_28 : decode cX12_laysLoss 28 = .ok (.iload_n 3, 1) := by decide +kernel
theorem dX12_laysLoss_29 : decode cX12_laysLoss 29 = .ok (.i2l, 1) := by decide +kernel
theorem dX12_laysLoss_30 : decode cX12_laysLoss 30 = .ok (.iload 4, 2) := by decide +kernel
theorem dX12_laysLoss_32 : decode cX12_laysLoss 32 = .ok (.i2l, 1) := by decide +kernel
theorem dX12_laysLoss_33 : decode cX12_laysLoss 33 = .ok (.lmul, 1) := by decide +kernel
theorem dX12_laysLoss_34 : decode cX12_laysLoss 34 = .ok (.aload_n 0, 1) := by decide +kernel
theorem dX12_laysLoss_35 : decode cX12_laysLoss 35 = .ok (.getfield 515, 3) := by decide +kernel
theorem dX12_laysLoss_38 : decode cX12_laysLoss 38 = .ok (.lmul, 1) := by decide +kernel
theorem dX12_laysLoss_39 : decode cX12_laysLoss 39 = .ok (.lload 5, 2) := by decide +kernel
theorem dX12_laysLoss_41 : decode cX12_laysLoss 41 = .ok (.ladd, 1) := by decide +kernel
theorem dX12_laysLoss_42 : decode cX12_laysLoss 42 = .ok (.lstore 7, 2) := by decide +kernel
theorem dX12_laysLoss_44 : decode cX12_laysLoss 44 = .ok (.lload 5, 2) := by decide +kernel
theorem dX12_laysLoss_46 : decode cX12_laysLoss 46 = .ok (.lload 7, 2) := by decide +kernel
theorem dX12_laysLoss_48 : decode cX12_laysLoss 48 = .ok (.invokestatic 518, 3) := by decide +kernel
theorem dX12_laysLoss_51 : decode cX12_laysLoss 51 = .ok (.lstore 9, 2) := by decide +kernel
theorem dX12_laysLoss_53 : decode cX12_laysLoss 53 = .ok (.aload_n 0, 1) := by decide +kernel
theorem dX12_laysLoss_54 : decode cX12_laysLoss 54 = .ok (.lload 5, 2) := by decide +kernel
theorem dX12_laysLoss_56 : decode cX12_laysLoss 56 = .ok (.lload 9, 2) := by decide +kernel
theorem dX12_laysLoss_58 : decode cX12_laysLoss 58 = .ok (.ldiv, 1) := by decide +kernel
theorem dX12_laysLoss_59 : decode cX12_laysLoss 59 = .ok (.putfield 512, 3) := by decide +kernel
theorem dX12_laysLoss_62 : decode cX12_laysLoss 62 = .ok (.aload_n 0, 1) := by decide +kernel
theorem dX12_laysLoss_63 : decode cX12_laysLoss 63 = .ok (.lload 7, 2) := by decide +kernel
theorem dX12_laysLoss_65 : decode cX12_laysLoss 65 = .ok (.lload 9, 2) := by decide +kernel
theorem dX12_laysLoss_67 : decode cX12_laysLoss 67 = .ok (.ldiv, 1) := by decide +kernel
theorem dX12_laysLoss_68 : decode cX12_laysLoss 68 = .ok (.putfield 515, 3) := by decide +kernel
theorem dX12_laysLoss_71 : decode cX12_laysLoss 71 = .ok (.iinc 4 1, 3) := by decide +kernel
theorem dX12_laysLoss_74 : decode cX12_laysLoss 74 = .ok (.goto (-61), 3) := by decide +kernel
theorem dX12_laysLoss_77 : decode cX12_laysLoss 77 = .ok (.return_, 1) := by decide +kernel
theorem dX12_isAsked_0 : decode cX12_isAsked 0 = .ok (.iload_n 0, 1) := by decide +kernel
theorem dX12_isAsked_1 : decode cX12_isAsked 1 = .ok (.i2l, 1) := by decide +kernel
theorem dX12_isAsked_2 : decode cX12_isAsked 2 = .ok (.lconst 1, 1) := by decide +kernel
theorem dX12_isAsked_3 : decode cX12_isAsked 3 = .ok (.ldc2_w 521, 3) := by decide +kernel
theorem dX12_isAsked_6 : decode cX12_isAsked 6 = .ok (.invokestatic 143, 3) := by decide +kernel
theorem dX12_isAsked_9 : decode cX12_isAsked 9 = .ok (.ifCond .eq 19, 3) := by decide +kernel
theorem dX12_isAsked_12 : decode cX12_isAsked 12 = .ok (.iload_n 1, 1) := by decide +kernel
theorem dX12_isAsked_13 : decode cX12_isAsked 13 = .ok (.i2l, 1) := by decide +kernel
theorem dX12_isAsked_14 : decode cX12_isAsked 14 = .ok (.lconst 1, 1) := by decide +kernel
theorem dX12_isAsked_15 : decode cX12_isAsked 15 = .ok (.ldc2_w 521, 3) := by decide +kernel
theorem dX12_isAsked_18 : decode cX12_isAsked 18 = .ok (.invokestatic 143, 3) := by decide +kernel
theorem dX12_isAsked_21 : decode cX12_isAsked 21 = .ok (.ifCond .eq 7, 3) := by decide +kernel
theorem dX12_isAsked_24 : decode cX12_isAsked 24 = .ok (.iconst 1, 1) := by decide +kernel
theorem dX12_isAsked_25 : decode cX12_isAsked 25 = .ok (.goto 4, 3) := by decide +kernel
theorem dX12_isAsked_28 : decode cX12_isAsked 28 = .ok (.iconst 0, 1) := by decide +kernel
theorem dX12_isAsked_29 : decode cX12_isAsked 29 = .ok (.ireturn, 1) := by decide +kernel
theorem dX12_loss_0 : decode cX12_loss 0 = .ok (.aload_n 0, 1) := by decide +kernel
theorem dX12_loss_1 : decode cX12_loss 1 = .ok (.iconst 0, 1) := by decide +kernel
theorem dX12_loss_2 : decode cX12_loss 2 = .ok (.putfield 82, 3) := by decide +kernel
theorem dX12_loss_5 : decode cX12_loss 5 = .ok (.iload_n 1, 1) := by decide +kernel
theorem dX12_loss_6 : decode cX12_loss 6 = .ok (.i2l, 1) := by decide +kernel
theorem dX12_loss_7 : decode cX12_loss 7 = .ok (.lconst 0, 1) := by decide +kernel
theorem dX12_loss_8 : decode cX12_loss 8 = .ok (.ldc2_w 523, 3) := by decide +kernel
theorem dX12_loss_11 : decode cX12_loss 11 = .ok (.invokestatic 143, 3) := by decide +kernel
theorem dX12_loss_14 : decode cX12_loss 14 = .ok (.ifCond .eq 22, 3) := by decide +kernel
theorem dX12_loss_17 : decode cX12_loss 17 = .ok (.iload_n 2, 1) := by decide +kernel
theorem dX12_loss_18 : decode cX12_loss 18 = .ok (.iload_n 3, 1) := by decide +kernel
theorem dX12_loss_19 : decode cX12_loss 19 = .ok (.invokestatic 525, 3) := by decide +kernel
theorem dX12_loss_22 : decode cX12_loss 22 = .ok (.ifCond .eq 14, 3) := by decide +kernel
theorem dX12_loss_25 : decode cX12_loss 25 = .ok (.iload 4, 2) := by decide +kernel
theorem dX12_loss_27 : decode cX12_loss 27 = .ok (.i2l, 1) := by decide +kernel
theorem dX12_loss_28 : decode cX12_loss 28 = .ok (.lconst 0, 1) := by decide +kernel
theorem dX12_loss_29 : decode cX12_loss 29 = .ok (.lconst 1, 1) := by decide +kernel
theorem dX12_loss_30 : decode cX12_loss 30 = .ok (.invokestatic 143, 3) := by decide +kernel
theorem dX12_loss_33 : decode cX12_loss 33 = .ok (.ifCond .ne 10, 3) := by decide +kernel
theorem dX12_loss_36 : decode cX12_loss 36 = .ok (.aload_n 0, 1) := by decide +kernel
theorem dX12_loss_37 : decode cX12_loss 37 = .ok (.iconst 1, 1) := by decide +kernel
theorem dX12_loss_38 : decode cX12_loss 38 = .ok (.invokevirtual 256, 3) := by decide +kernel
theorem dX12_loss_41 : decode cX12_loss 41 = .ok (.i2l, 1) := by decide +kernel
theorem dX12_loss_42 : decode cX12_loss 42 = .ok (.lreturn, 1) := by decide +kernel
theorem dX12_loss_43 : decode cX12_loss 43 = .ok (.aload_n 0, 1) := by decide +kernel
theorem dX12_loss_44 : decode cX12_loss 44 = .ok (.iload_n 1, 1) := by decide +kernel
theorem dX12_loss_45 : decode cX12_loss 45 = .ok (.iload_n 2, 1) := by decide +kernel
theorem dX12_loss_46 : decode cX12_loss 46 = .ok (.iload_n 3, 1) := by decide +kernel
theorem dX12_loss_47 : decode cX12_loss 47 = .ok (.invokevirtual 528, 3) := by decide +kernel
theorem dX12_loss_50 : decode cX12_loss 50 = .ok (.iload 4, 2) := by decide +kernel
theorem dX12_loss_52 : decode cX12_loss 52 = .ok (.ifCond .ne 10, 3) := by decide +kernel
theorem dX12_loss_55 : decode cX12_loss 55 = .ok (.aload_n 0, 1) := by decide +kernel
theorem dX12_loss_56 : decode cX12_loss 56 = .ok (.getfield 512, 3) := by decide +kernel
theorem dX12_loss_59 : decode cX12_loss 59 = .ok (.goto 7, 3) := by decide +kernel
theorem dX12_loss_62 : decode cX12_loss 62 = .ok (.aload_n 0, 1) := by decide +kernel
theorem dX12_loss_63 : decode cX12_loss 63 = .ok (.getfield 515, 3) := by decide +kernel
theorem dX12_loss_66 : decode cX12_loss 66 = .ok (.lreturn, 1) := by decide +kernel
theorem dX12_fewest_0 : decode cX12_fewest 0 = .ok (.aload_n 0, 1) := by decide +kernel
theorem dX12_fewest_1 : decode cX12_fewest 1 = .ok (.iconst 0, 1) := by decide +kernel
theorem dX12_fewest_2 : decode cX12_fewest 2 = .ok (.putfield 82, 3) := by decide +kernel
theorem dX12_fewest_5 : decode cX12_fewest 5 = .ok (.iload_n 1, 1) := by decide +kernel
theorem dX12_fewest_6 : decode cX12_fewest 6 = .ok (.iload_n 2, 1) := by decide +kernel
theorem dX12_fewest_7 : decode cX12_fewest 7 = .ok (.invokestatic 525, 3) := by decide +kernel
theorem dX12_fewest_10 : decode cX12_fewest 10 = .ok (.ifCond .eq 15, 3) := by decide +kernel
theorem dX12_fewest_13 : decode cX12_fewest 13 = .ok (.iload_n 3, 1) := by decide +kernel
theorem dX12_fewest_14 : decode cX12_fewest 14 = .ok (.i2l, 1) := by decide +kernel
theorem dX12_fewest_15 : decode cX12_fewest 15 = .ok (.lconst 1, 1) := by decide +kernel
theorem dX12_fewest_16 : decode cX12_fewest 16 = .ok (.ldc2_w 339, 3) := by decide +kernel
theorem dX12_fewest_19 : decode cX12_fewest 19 = .ok (.invokestatic 143, 3) := by decide +kernel
theorem dX12_fewest_22 : decode cX12_fewest 22 = .ok (.ifCond .ne 9, 3) := by decide +kernel
theorem dX12_fewest_25 : decode cX12_fewest 25 = .ok (.aload_n 0, 1) := by decide +kernel
theorem dX12_fewest_26 : decode cX12_fewest 26 = .ok (.iconst 1, 1) := by decide +kernel
theorem dX12_fewest_27 : decode cX12_fewest 27 = .ok (.invokevirtual 256, 3) := by decide +kernel
theorem dX12_fewest_30 : decode cX12_fewest 30 = .ok (.ireturn, 1) := by decide +kernel
theorem dX12_fewest_31 : decode cX12_fewest 31 = .ok (.iconst 0, 1) := by decide +kernel
theorem dX12_fewest_32 : decode cX12_fewest 32 = .ok (.istore 4, 2) := by decide +kernel
theorem dX12_fewest_34 : decode cX12_fewest 34 = .ok (.iload 4, 2) := by decide +kernel
theorem dX12_fewest_36 : decode cX12_fewest 36 = .ok (.bipush 8, 2) := by decide +kernel
theorem dX12_fewest_38 : decode cX12_fewest 38 = .ok (.if_icmp .gt 35, 3) := by decide +kernel
theorem dX12_fewest_41 : decode cX12_fewest 41 = .ok (.aload_n 0, 1) := by decide +kernel
theorem dX12_fewest_42 : decode cX12_fewest 42 = .ok (.iload 4, 2) := by decide +kernel
theorem dX12_fewest_44 : decode cX12_fewest 44 = .ok (.iload_n 1, 1) := by decide +kernel
theorem dX12_fewest_45 : decode cX12_fewest 45 = .ok (.iload_n 2, 1) := by decide +kernel
theorem dX12_fewest_46 : decode cX12_fewest 46 = .ok (.invokevirtual 528, 3) := by decide +kernel
theorem dX12_fewest_49 : decode cX12_fewest 49 = .ok (.aload_n 0, 1) := by decide +kernel
theorem dX12_fewest_50 : decode cX12_fewest 50 = .ok (.getfield 512, 3) := by decide +kernel
theorem dX12_fewest_53 : decode cX12_fewest 53 = .ok (.iload_n 3, 1) := by decide +kernel
theorem dX12_fewest_54 : decode cX12_fewest 54 = .ok (.i2l, 1) := by decide +kernel
theorem dX12_fewest_55 : decode cX12_fewest 55 = .ok (.lmul, 1) := by decide +kernel
theorem dX12_fewest_56 : decode cX12_fewest 56 = .ok (.aload_n 0, 1) := by decide +kernel
theorem dX12_fewest_57 : decode cX12_fewest 57 = .ok (.getfield 515, 3) := by decide +kernel
theorem dX12_fewest_60 : decode cX12_fewest 60 = .ok (.lcmp, 1) := by decide +kernel
theorem dX12_fewest_61 : decode cX12_fewest 61 = .ok (.ifCond .gt 6, 3) := by decide +kernel
theorem dX12_fewest_64 : decode cX12_fewest 64 = .ok (.iload 4, 2) := by decide +kernel
theorem dX12_fewest_66 : decode cX12_fewest 66 = .ok (.ireturn, 1) := by decide +kernel
theorem dX12_fewest_67 : decode cX12_fewest 67 = .ok (.iinc 4 1, 3) := by decide +kernel
theorem dX12_fewest_70 : decode cX12_fewest 70 = .ok (.goto (-36), 3) := by decide +kernel
theorem dX12_fewest_73 : decode cX12_fewest 73 = .ok (.iconst (-1), 1) := by decide +kernel
theorem dX12_fewest_74 : decode cX12_fewest 74 = .ok (.ireturn, 1) := by decide +kernel
theorem dX12_rulesFault_0 : decode cX12_rulesFault 0 = .ok (.aload_n 0, 1) := by decide +kernel
theorem dX12_rulesFault_1 : decode cX12_rulesFault 1 = .ok (.iload_n 1, 1) := by decide +kernel
theorem dX12_rulesFault_2 : decode cX12_rulesFault 2 = .ok (.invokevirtual 373, 3) := by decide +kernel
theorem dX12_rulesFault_5 : decode cX12_rulesFault 5 = .ok (.istore_n 2, 1) := by decide +kernel
theorem dX12_rulesFault_6 : decode cX12_rulesFault 6 = .ok (.iload_n 2, 1) := by decide +kernel
theorem dX12_rulesFault_7 : decode cX12_rulesFault 7 = .ok (.ifCond .eq 5, 3) := by decide +kernel
theorem dX12_rulesFault_10 : decode cX12_rulesFault 10 = .ok (.iload_n 2, 1) := by decide +kernel
theorem dX12_rulesFault_11 : decode cX12_rulesFault 11 = .ok (.ireturn, 1) := by decide +kernel
theorem dX12_rulesFault_12 : decode cX12_rulesFault 12 = .ok (.aload_n 0, 1) := by decide +kernel
theorem dX12_rulesFault_13 : decode cX12_rulesFault 13 = .ok (.getfield 75, 3) := by decide +kernel
theorem dX12_rulesFault_16 : decode cX12_rulesFault 16 = .ok (.iload_n 1, 1) := by decide +kernel
theorem dX12_rulesFault_17 : decode cX12_rulesFault 17 = .ok (.iaload, 1) := by decide +kernel
theorem dX12_rulesFault_18 : decode cX12_rulesFault 18 = .ok (.iconst 3, 1) := by decide +kernel
theorem dX12_rulesFault_19 : decode cX12_rulesFault 19 = .ok (.irem, 1) := by decide +kernel
theorem dX12_rulesFault_20 : decode cX12_rulesFault 20 = .ok (.ifCond .ne 26, 3) := by decide +kernel
theorem dX12_rulesFault_23 : decode cX12_rulesFault 23 = .ok (.aload_n 0, 1) := by decide +kernel
theorem dX12_rulesFault_24 : decode cX12_rulesFault 24 = .ok (.getfield 75, 3) := by decide +kernel
theorem dX12_rulesFault_27 : decode cX12_rulesFault 27 = .ok (.iload_n 1, 1) := by decide +kernel
theorem dX12_rulesFault_28 : decode cX12_rulesFault 28 = .ok (.iaload, 1) := by decide +kernel
theorem dX12_rulesFault_29 : decode cX12_rulesFault 29 = .ok (.i2l, 1) := by decide +kernel
theorem dX12_rulesFault_30 : decode cX12_rulesFault 30 = .ok (.ldc2_w 376, 3) := by decide +kernel
theorem dX12_rulesFault_33 : decode cX12_rulesFault 33 = .ok (.ldc2_w 532, 3) := by decide +kernel
theorem dX12_rulesFault_36 : decode cX12_rulesFault 36 = .ok (.invokestatic 143, 3) := by decide +kernel
theorem dX12_rulesFault_39 : decode cX12_rulesFault 39 = .ok (.ifCond .eq 7, 3) := by decide +kernel
theorem dX12_rulesFault_42 : decode cX12_rulesFault 42 = .ok (.iconst 1, 1) := by decide +kernel
theorem dX12_rulesFault_43 : decode cX12_rulesFault 43 = .ok (.goto 4, 3) := by decide +kernel
theorem dX12_rulesFault_46 : decode cX12_rulesFault 46 = .ok (.iconst 0, 1) := by decide +kernel
theorem dX12_rulesFault_47 : decode cX12_rulesFault 47 = .ok (.istore_n 3, 1) := by decide +kernel
theorem dX12_rulesFault_48 : decode cX12_rulesFault 48 = .ok (.iconst 0, 1) := by decide +kernel
theorem dX12_rulesFault_49 : decode cX12_rulesFault 49 = .ok (.istore 4, 2) := by decide +kernel
theorem dX12_rulesFault_51 : decode cX12_rulesFault 51 = .ok (.iload 4, 2) := by decide +kernel
theorem dX12_rulesFault_53 : decode cX12_rulesFault 53 = .ok (.aload_n 0, 1) := by decide +kernel
theorem dX12_rulesFault_54 : decode cX12_rulesFault 54 = .ok (.getfield 75, 3) := by decide +kernel
theorem dX12_rulesFault_57 : decode cX12_rulesFault 57 = .ok (.iload_n 1, 1) := by decide +kernel
theorem dX12_rulesFault_58 : decode cX12_rulesFault 58 = .ok (.iaload, 1) := by decide +kernel
theorem dX12_rulesFault_59 : decode cX12_rulesFault 59 = .ok (.if_icmp .ge 30, 3) := by decide +kernel
theorem dX12_rulesFault_62 : decode cX12_rulesFault 62 = .ok (.iload_n 3, 1) := by decide +kernel
theorem dX12_rulesFault_63 : decode cX12_rulesFault 63 = .ok (.ifCond .eq 26, 3) := by decide +kernel
theorem dX12_rulesFault_66 : decode cX12_rulesFault 66 = .ok (.aload_n 0, 1) := by decide +kernel
theorem dX12_rulesFault_67 : decode cX12_rulesFault 67 = .ok (.aload_n 0, 1) := by decide +kernel
theorem dX12_rulesFault_68 : decode cX12_rulesFault 68 = .ok (.getfield 78, 3) := by decide +kernel
theorem dX12_rulesFault_71 : decode cX12_rulesFault 71 = .ok (.bipush 30, 2) := by decide +kernel
theorem dX12_rulesFault_73 : decode cX12_rulesFault 73 = .ok (.iload_n 1, 1) := by decide +kernel
theorem dX12_rulesFault_74 : decode cX12_rulesFault 74 = .ok (.imul, 1) := by decide +kernel
theorem dX12_rulesFault_75 : decode cX12_rulesFault 75 = .ok (.iload 4, 2) := by decide +kernel
theorem dX12_rulesFault_77 : decode cX12_rulesFault 77 = .ok (.iadd, 1) := by decide +kernel
theorem dX12_rulesFault_78 : decode cX12_rulesFault 78 = .ok (.laload, 1) := by decide +kernel
theorem dX12_rulesFault_79 : decode cX12_rulesFault 79 = .ok (.invokevirtual 328, 3) := by decide +kernel
theorem dX12_rulesFault_82 : decode cX12_rulesFault 82 = .ok (.istore_n 3, 1) := by decide +kernel
theorem dX12_rulesFault_83 : decode cX12_rulesFault 83 = .ok (.iinc 4 1, 3) := by decide +kernel
theorem dX12_rulesFault_86 : decode cX12_rulesFault 86 = .ok (.goto (-35), 3) := by decide +kernel
theorem dX12_rulesFault_89 : decode cX12_rulesFault 89 = .ok (.iload_n 3, 1) := by decide +kernel
theorem dX12_rulesFault_90 : decode cX12_rulesFault 90 = .ok (.ifCond .eq 7, 3) := by decide +kernel
theorem dX12_rulesFault_93 : decode cX12_rulesFault 93 = .ok (.iconst 0, 1) := by decide +kernel
theorem dX12_rulesFault_94 : decode cX12_rulesFault 94 = .ok (.goto 4, 3) := by decide +kernel
theorem dX12_rulesFault_97 : decode cX12_rulesFault 97 = .ok (.iconst 3, 1) := by decide +kernel
theorem dX12_rulesFault_98 : decode cX12_rulesFault 98 = .ok (.ireturn, 1) := by decide +kernel
theorem dX12_ruled_0 : decode cX12_ruled 0 = .ok (.iload_n 1, 1) := by decide +kernel
theorem dX12_ruled_1 : decode cX12_ruled 1 = .ok (.iload_n 3, 1) := by decide +kernel
theorem dX12_ruled_2 : decode cX12_ruled 2 = .ok (.imul, 1) := by decide +kernel
theorem dX12_ruled_3 : decode cX12_ruled 3 = .ok (.iload 4, 2) := by decide +kernel
theorem dX12_ruled_5 : decode cX12_ruled 5 = .ok (.iadd, 1) := by decide +kernel
theorem dX12_ruled_6 : decode cX12_ruled 6 = .ok (.iload_n 2, 1) := by decide +kernel
theorem dX12_ruled_7 : decode cX12_ruled 7 = .ok (.iadd, 1) := by decide +kernel
theorem dX12_ruled_8 : decode cX12_ruled 8 = .ok (.aload_n 0, 1) := by decide +kernel
theorem dX12_ruled_9 : decode cX12_ruled 9 = .ok (.getfield 9, 3) := by decide +kernel
theorem dX12_ruled_12 : decode cX12_ruled 12 = .ok (.iconst 1, 1) := by decide +kernel
theorem dX12_ruled_13 : decode cX12_ruled 13 = .ok (.iaload, 1) := by decide +kernel
theorem dX12_ruled_14 : decode cX12_ruled 14 = .ok (.irem, 1) := by decide +kernel
theorem dX12_ruled_15 : decode cX12_ruled 15 = .ok (.ireturn, 1) := by decide +kernel
theorem dX12_laysRules_0 : decode cX12_laysRules 0 = .ok (.aload_n 0, 1) := by decide +kernel
theorem dX12_laysRules_1 : decode cX12_laysRules 1 = .ok (.iconst 0, 1) := by decide +kernel
theorem dX12_laysRules_2 : decode cX12_laysRules 2 = .ok (.putfield 534, 3) := by decide +kernel
theorem dX12_laysRules_5 : decode cX12_laysRules 5 = .ok (.iconst 0, 1) := by decide +kernel
theorem dX12_laysRules_6 : decode cX12_laysRules 6 = .ok (.istore_n 2, 1) := by decide +kernel
theorem dX12_laysRules_7 : decode cX12_laysRules 7 = .ok (.iload_n 2, 1) := by decide +kernel
theorem dX12_laysRules_8 : decode cX12_laysRules 8 = .ok (.aload_n 0, 1) := by decide +kernel
theorem dX12_laysRules_9 : decode cX12_laysRules 9 = .ok (.getfield 9, 3) := by decide +kernel
theorem dX12_laysRules_12 : decode cX12_laysRules 12 = .ok (.iconst 1, 1) := by decide +kernel
theorem dX12_laysRules_13 : decode cX12_laysRules 13 = .ok (.iaload, 1) := by decide +kernel
theorem dX12_laysRules_14 : decode cX12_laysRules 14 = .ok (.if_icmp .ge 129, 3) := by decide +kernel
theorem dX12_laysRules_17 : decode cX12_laysRules 17 = .ok (.iconst 0, 1) := by decide +kernel
theorem dX12_laysRules_18 : decode cX12_laysRules 18 = .ok (.istore_n 3, 1) := by decide +kernel
theorem dX12_laysRules_19 : decode cX12_laysRules 19 = .ok (.iload_n 3, 1) := by decide +kernel
theorem dX12_laysRules_20 : decode cX12_laysRules 20 = .ok (.aload_n 0, 1) := by decide +kernel
theorem dX12_laysRules_21 : decode cX12_laysRules 21 = .ok (.getfield 9, 3) := by decide +kernel
theorem dX12_laysRules_24 : decode cX12_laysRules 24 = .ok (.iconst 1, 1) := by decide +kernel
theorem dX12_laysRules_25 : decode cX12_laysRules 25 = .ok (.iaload, 1) := by decide +kernel
theorem dX12_laysRules_26 : decode cX12_laysRules 26 = .ok (.if_icmp .ge 111, 3) := by decide +kernel
theorem dX12_laysRules_29 : decode cX12_laysRules 29 = .ok (.iconst 1, 1) := by decide +kernel
theorem dX12_laysRules_30 : decode cX12_laysRules 30 = .ok (.istore 4, 2) := by decide +kernel
theorem dX12_laysRules_32 : decode cX12_laysRules 32 = .ok (.iconst 0, 1) := by decide +kernel
theorem dX12_laysRules_33 : decode cX12_laysRules 33 = .ok (.istore 5, 2) := by decide +kernel
theorem dX12_laysRules_35 : decode cX12_laysRules 35 = .ok (.iload 5, 2) := by decide +kernel
theorem dX12_laysRules_37 : decode cX12_laysRules 37 = .ok (.aload_n 0, 1) := by decide +kernel
theorem dX12_laysRules_38 : decode cX12_laysRules 38 = .ok (.getfield 75, 3) := by decide +kernel
theorem dX12_laysRules_41 : decode cX12_laysRules 41 = .ok (.iload_n 1, 1) := by decide +kernel
theorem dX12_laysRules_42 : decode cX12_laysRules 42 = .ok (.iaload, 1) := by decide +kernel
theorem dX12_laysRules_43 : decode cX12_laysRules 43 = .ok (.if_icmp .ge 55, 3) := by decide +kernel
theorem dX12_laysRules_46 : decode cX12_laysRules 46 = .ok (.iload 4, 2) := by decide +kernel
theorem dX12_laysRules_48 : decode cX12_laysRules 48 = .ok (.ifCond .eq 41, 3) := by decide +kernel
theorem dX12_laysRules_51 : decode cX12_laysRules 51 = .ok (.aload_n 0, 1) := by decide +kernel
theorem dX12_laysRules_52 : decode cX12_laysRules 52 = .ok (.iload_n 2, 1) := by decide +kernel
theorem dX12_laysRules_53 : decode cX12_laysRules 53 = .ok (.iload_n 3, 1) := by decide +kernel
theorem dX12_laysRules_54 : decode cX12_laysRules 54 = .ok (.aload_n 0, 1) := by decide +kernel
theorem dX12_laysRules_55 : decode cX12_laysRules 55 = .ok (.iload_n 1, 1) := by decide +kernel
theorem dX12_laysRules_56 : decode cX12_laysRules 56 = .ok (.iload 5, 2) := by decide +kernel
theorem dX12_laysRules_58 : decode cX12_laysRules 58 = .ok (.invokevirtual 460, 3) := by decide +kernel
theorem dX12_laysRules_61 : decode cX12_laysRules 61 = .ok (.aload_n 0, 1) := by decide +kernel
theorem dX12_laysRules_62 : decode cX12_laysRules 62 = .ok (.iload_n 1, 1) := by decide +kernel
theorem dX12_laysRules_63 : decode cX12_laysRules 63 = .ok (.iload 5, 2) := by decide +kernel
theorem dX12_laysRules_65 : decode cX12_laysRules 65 = .ok (.iconst 1, 1) := by decide +kernel
theorem dX12_laysRules_66 : decode cX12_laysRules 66 = .ok (.iadd, 1) := by decide +kernel
theorem dX12_laysRules_67 : decode cX12_laysRules 67 = .ok (.invokevirtual 460, 3) := by decide +kernel
theorem dX12_laysRules_70 : decode cX12_laysRules 70 = .ok (.invokevirtual 537, 3) := by decide +kernel
theorem dX12_laysRules_73 : decode cX12_laysRules 73 = .ok (.aload_n 0, 1) := by decide +kernel
theorem dX12_laysRules_74 : decode cX12_laysRules 74 = .ok (.iload_n 1, 1) := by decide +kernel
theorem dX12_laysRules_75 : decode cX12_laysRules 75 = .ok (.iload 5, 2) := by decide +kernel
theorem dX12_laysRules_77 : decode cX12_laysRules 77 = .ok (.iconst 2, 1) := by decide +kernel
theorem dX12_laysRules_78 : decode cX12_laysRules 78 = .ok (.iadd, 1) := by decide +kernel
theorem dX12_laysRules_79 : decode cX12_laysRules 79 = .ok (.invokevirtual 460, 3) := by decide +kernel
theorem dX12_laysRules_82 : decode cX12_laysRules 82 = .ok (.if_icmp .ne 7, 3) := by decide +kernel
theorem dX12_laysRules_85 : decode cX12_laysRules 85 = .ok (.iconst 1, 1) := by decide +kernel
theorem dX12_laysRules_86 : decode cX12_laysRules 86 = .ok (.goto 4, 3) := by decide +kernel
theorem dX12_laysRules_89 : decode cX12_laysRules 89 = .ok (.iconst 0, 1) := by decide +kernel
theorem dX12_laysRules_90 : decode cX12_laysRules 90 = .ok (.istore 4, 2) := by decide +kernel
theorem dX12_laysRules_92 : decode cX12_laysRules 92 = .ok (.iinc 5 3, 3) := by decide +kernel
theorem dX12_laysRules_95 : decode cX12_laysRules 95 = .ok (.goto (-60), 3) := by decide +kernel
theorem dX12_laysRules_98 : decode cX12_laysRules 98 = .ok (.iload 4, 2) := by decide +kernel
theorem dX12_laysRules_100 : decode cX12_laysRules 100 = .ok (.ifCond .ne 6, 3) := by decide +kernel
theorem dX12_laysRules_103 : decode cX12_laysRules 103 = .ok (.goto 28, 3) := by decide +kernel
theorem dX12_laysRules_106 : decode cX12_laysRules 106 = .ok (.aload_n 0, 1) := by decide +kernel
theorem dX12_laysRules_107 : decode cX12_laysRules 107 = .ok (.getfield 66, 3) := by decide +kernel
theorem dX12_laysRules_110 : decode cX12_laysRules 110 = .ok (.aload_n 0, 1) := by decide +kernel
theorem dX12_laysRules_111 : decode cX12_laysRules 111 = .ok (.getfield 534, 3) := by decide +kernel
theorem dX12_laysRules_114 : decode cX12_laysRules 114 = .ok (.bipush 10, 2) := by decide +kernel
theorem dX12_laysRules_116 : decode cX12_laysRules 116 = .ok (.iload_n 2, 1) := by decide +kernel
theorem dX12_laysRules_117 : decode cX12_laysRules 117 = .ok (.imul, 1) := by decide +kernel
theorem dX12_laysRules_118 : decode cX12_laysRules 118 = .ok (.iload_n 3, 1) := by decide +kernel
theorem dX12_laysRules_119 : decode cX12_laysRules 119 = .ok (.iadd, 1) := by decide +kernel
theorem dX12_laysRules_120 : decode cX12_laysRules 120 = .ok (.iastore, 1) := by decide +kernel
theorem dX12_laysRules_121 : decode cX12_laysRules 121 = .ok (.aload_n 0, 1) := by decide +kernel
theorem dX12_laysRules_122 : decode cX12_laysRules 122 = .ok (.dup, 1) := by decide +kernel
theorem dX12_laysRules_123 : decode cX12_laysRules 123 = .ok (.getfield 534, 3) := by decide +kernel
theorem dX12_laysRules_126 : decode cX12_laysRules 126 = .ok (.iconst 1, 1) := by decide +kernel
theorem dX12_laysRules_127 : decode cX12_laysRules 127 = .ok (.iadd, 1) := by decide +kernel
theorem dX12_laysRules_128 : decode cX12_laysRules 128 = .ok (.putfield 534, 3) := by decide +kernel
theorem dX12_laysRules_131 : decode cX12_laysRules 131 = .ok (.iinc 3 1, 3) := by decide +kernel
theorem dX12_laysRules_134 : decode cX12_laysRules 134 = .ok (.goto (-115), 3) := by decide +kernel
theorem dX12_laysRules_137 : decode cX12_laysRules 137 = .ok (.iinc 2 1, 3) := by decide +kernel
theorem dX12_laysRules_140 : decode cX12_laysRules 140 = .ok (.goto (-133), 3) := by decide +kernel
theorem dX12_laysRules_143 : decode cX12_laysRules 143 = .ok (.return_, 1) := by decide +kernel
theorem dX12_rules_0 : decode cX12_rules 0 = .ok (.aload_n 0, 1) := by decide +kernel
theorem dX12_rules_1 : decode cX12_rules 1 = .ok (.aload_n 0, 1) := by decide +kernel
theorem dX12_rules_2 : decode cX12_rules 2 = .ok (.iload_n 1, 1) := by decide +kernel
theorem dX12_rules_3 : decode cX12_rules 3 = .ok (.invokevirtual 541, 3) := by decide +kernel
theorem dX12_rules_6 : decode cX12_rules 6 = .ok (.putfield 82, 3) := by decide +kernel
theorem dX12_rules_9 : decode cX12_rules 9 = .ok (.aload_n 0, 1) := by decide +kernel
theorem dX12_rules_10 : decode cX12_rules 10 = .ok (.getfield 82, 3) := by decide +kernel
theorem dX12_rules_13 : decode cX12_rules 13 = .ok (.ifCond .le 5, 3) := by decide +kernel
theorem dX12_rules_16 : decode cX12_rules 16 = .ok (.iconst 0, 1) := by decide +kernel
theorem dX12_rules_17 : decode cX12_rules 17 = .ok (.ireturn, 1) := by decide +kernel
theorem dX12_rules_18 : decode cX12_rules 18 = .ok (.aload_n 0, 1) := by decide +kernel
theorem dX12_rules_19 : decode cX12_rules 19 = .ok (.iload_n 1, 1) := by decide +kernel
theorem dX12_rules_20 : decode cX12_rules 20 = .ok (.invokevirtual 544, 3) := by decide +kernel
theorem dX12_rules_23 : decode cX12_rules 23 = .ok (.aload_n 0, 1) := by decide +kernel
theorem dX12_rules_24 : decode cX12_rules 24 = .ok (.getfield 534, 3) := by decide +kernel
theorem dX12_rules_27 : decode cX12_rules 27 = .ok (.ireturn, 1) := by decide +kernel
theorem dX12_rule_0 : decode cX12_rule 0 = .ok (.aload_n 0, 1) := by decide +kernel
theorem dX12_rule_1 : decode cX12_rule 1 = .ok (.aload_n 0, 1) := by decide +kernel
theorem dX12_rule_2 : decode cX12_rule 2 = .ok (.iload_n 1, 1) := by decide +kernel
theorem dX12_rule_3 : decode cX12_rule 3 = .ok (.invokevirtual 541, 3) := by decide +kernel
theorem dX12_rule_6 : decode cX12_rule 6 = .ok (.putfield 82, 3) := by decide +kernel
theorem dX12_rule_9 : decode cX12_rule 9 = .ok (.aload_n 0, 1) := by decide +kernel
theorem dX12_rule_10 : decode cX12_rule 10 = .ok (.getfield 82, 3) := by decide +kernel
theorem dX12_rule_13 : decode cX12_rule 13 = .ok (.ifCond .ne 12, 3) := by decide +kernel
theorem dX12_rule_16 : decode cX12_rule 16 = .ok (.iload_n 2, 1) := by decide +kernel
theorem dX12_rule_17 : decode cX12_rule 17 = .ok (.ifCond .ge 8, 3) := by decide +kernel
theorem dX12_rule_20 : decode cX12_rule 20 = .ok (.aload_n 0, 1) := by decide +kernel
theorem dX12_rule_21 : decode cX12_rule 21 = .ok (.iconst 3, 1) := by decide +kernel
theorem dX12_rule_22 : decode cX12_rule 22 = .ok (.putfield 82, 3) := by decide +kernel
theorem dX12_rule_25 : decode cX12_rule 25 = .ok (.aload_n 0, 1) := by decide +kernel
theorem dX12_rule_26 : decode cX12_rule 26 = .ok (.getfield 82, 3) := by decide +kernel
theorem dX12_rule_29 : decode cX12_rule 29 = .ok (.ifCond .le 5, 3) := by decide +kernel
theorem dX12_rule_32 : decode cX12_rule 32 = .ok (.iconst 0, 1) := by decide +kernel
theorem dX12_rule_33 : decode cX12_rule 33 = .ok (.ireturn, 1) := by decide +kernel
theorem dX12_rule_34 : decode cX12_rule 34 = .ok (.aload_n 0, 1) := by decide +kernel
theorem dX12_rule_35 : decode cX12_rule 35 = .ok (.iload_n 1, 1) := by decide +kernel
theorem dX12_rule_36 : decode cX12_rule 36 = .ok (.invokevirtual 544, 3) := by decide +kernel
theorem dX12_rule_39 : decode cX12_rule 39 = .ok (.iload_n 2, 1) := by decide +kernel
theorem dX12_rule_40 : decode cX12_rule 40 = .ok (.aload_n 0, 1) := by decide +kernel
theorem dX12_rule_41 : decode cX12_rule 41 = .ok (.getfield 534, 3) := by decide +kernel
theorem dX12_rule_44 : decode cX12_rule 44 = .ok (.if_icmp .ge 12, 3) := by decide +kernel
theorem dX12_rule_47 : decode cX12_rule 47 = .ok (.aload_n 0, 1) := by decide +kernel
theorem dX12_rule_48 : decode cX12_rule 48 = .ok (.getfield 66, 3) := by decide +kernel
theorem dX12_rule_51 : decode cX12_rule 51 = .ok (.iload_n 2, 1) := by decide +kernel
theorem dX12_rule_52 : decode cX12_rule 52 = .ok (.iaload, 1) := by decide +kernel
theorem dX12_rule_53 : decode cX12_rule 53 = .ok (.goto 4, 3) := by decide +kernel
theorem dX12_rule_56 : decode cX12_rule 56 = .ok (.iconst (-1), 1) := by decide +kernel
theorem dX12_rule_57 : decode cX12_rule 57 = .ok (.ireturn, 1) := by decide +kernel
theorem dX12_mostAlike_0 : decode cX12_mostAlike 0 = .ok (.iconst 0, 1) := by decide +kernel
theorem dX12_mostAlike_1 : decode cX12_mostAlike 1 = .ok (.istore_n 2, 1) := by decide +kernel
theorem dX12_mostAlike_2 : decode cX12_mostAlike 2 = .ok (.iconst 0, 1) := by decide +kernel
theorem dX12_mostAlike_3 : decode cX12_mostAlike 3 = .ok (.istore_n 3, 1) := by decide +kernel
theorem dX12_mostAlike_4 : decode cX12_mostAlike 4 = .ok (.iload_n 3, 1) := by decide +kernel
theorem dX12_mostAlike_5 : decode cX12_mostAlike 5 = .ok (.bipush 8, 2) := by decide +kernel
theorem dX12_mostAlike_7 : decode cX12_mostAlike 7 = .ok (.if_icmp .ge 16, 3) := by decide +kernel
theorem dX12_mostAlike_10 : decode cX12_mostAlike 10 = .ok (.aload_n 0, 1) := by decide +kernel
theorem dX12_mostAlike_11 : decode cX12_mostAlike 11 = .ok (.getfield 69, 3) := by decide +kernel
theorem dX12_mostAlike_14 : decode cX12_mostAlike 14 = .ok (.iload_n 3, 1) := by decide +kernel
theorem dX12_mostAlike_15 : decode cX12_mostAlike 15 = .ok (.iconst 0, 1) := by decide +kernel
theorem dX12_mostAlike_16 : decode cX12_mostAlike 16 = .ok (.iastore, 1) := by decide +kernel
theorem dX12_mostAlike_17 : decode cX12_mostAlike 17 = .ok (.iinc 3 1, 3) := by decide +kernel
theorem dX12_mostAlike_20 : decode cX12_mostAlike 20 = .ok (.goto (-16), 3) := by decide +kernel
theorem dX12_mostAlike_23 : decode cX12_mostAlike 23 = .ok (.iconst 0, 1) := by decide +kernel
theorem dX12_mostAlike_24 : decode cX12_mostAlike 24 = .ok (.istore_n 3, 1) := by decide +kernel
theorem dX12_mostAlike_25 : decode cX12_mostAlike 25 = .ok (.iload_n 3, 1) := by decide +kernel
theorem dX12_mostAlike_26 : decode cX12_mostAlike 26 = .ok (.aload_n 0, 1) := by decide +kernel
theorem dX12_mostAlike_27 : decode cX12_mostAlike 27 = .ok (.getfield 534, 3) := by decide +kernel
theorem dX12_mostAlike_30 : decode cX12_mostAlike 30 = .ok (.if_icmp .ge 74, 3) := by decide +kernel
theorem dX12_mostAlike_33 : decode cX12_mostAlike 33 = .ok (.aload_n 0, 1) := by decide +kernel
theorem dX12_mostAlike_34 : decode cX12_mostAlike 34 = .ok (.aload_n 0, 1) := by decide +kernel
theorem dX12_mostAlike_35 : decode cX12_mostAlike 35 = .ok (.getfield 66, 3) := by decide +kernel
theorem dX12_mostAlike_38 : decode cX12_mostAlike 38 = .ok (.iload_n 3, 1) := by decide +kernel
theorem dX12_mostAlike_39 : decode cX12_mostAlike 39 = .ok (.iaload, 1) := by decide +kernel
theorem dX12_mostAlike_40 : decode cX12_mostAlike 40 = .ok (.bipush 10, 2) := by decide +kernel
theorem dX12_mostAlike_42 : decode cX12_mostAlike 42 = .ok (.idiv, 1) := by decide +kernel
theorem dX12_mostAlike_43 : decode cX12_mostAlike 43 = .ok (.aload_n 0, 1) := by decide +kernel
theorem dX12_mostAlike_44 : decode cX12_mostAlike 44 = .ok (.getfield 66, 3) := by decide +kernel
theorem dX12_mostAlike_47 : decode cX12_mostAlike 47 = .ok (.iload_n 3, 1) := by decide +kernel
theorem dX12_mostAlike_48 : decode cX12_mostAlike 48 = .ok (.iaload, 1) := by decide +kernel
theorem dX12_mostAlike_49 : decode cX12_mostAlike 49 = .ok (.bipush 10, 2) := by decide +kernel
theorem dX12_mostAlike_51 : decode cX12_mostAlike 51 = .ok (.irem, 1) := by decide +kernel
theorem dX12_mostAlike_52 : decode cX12_mostAlike 52 = .ok (.aload_n 0, 1) := by decide +kernel
theorem dX12_mostAlike_53 : decode cX12_mostAlike 53 = .ok (.getfield 9, 3) := by decide +kernel
theorem dX12_mostAlike_56 : decode cX12_mostAlike 56 = .ok (.bipush 51, 2) := by decide +kernel
theorem dX12_mostAlike_58 : decode cX12_mostAlike 58 = .ok (.iload_n 1, 1) := by decide +kernel
theorem dX12_mostAlike_59 : decode cX12_mostAlike 59 = .ok (.iadd, 1) := by decide +kernel
theorem dX12_mostAlike_60 : decode cX12_mostAlike 60 = .ok (.iaload, 1) := by decide +kernel
theorem dX12_mostAlike_61 : decode cX12_mostAlike 61 = .ok (.aload_n 0, 1) := by decide +kernel
theorem dX12_mostAlike_62 : decode cX12_mostAlike 62 = .ok (.getfield 9, 3) := by decide +kernel
theorem dX12_mostAlike_65 : decode cX12_mostAlike 65 = .ok (.bipush 61, 2) := by decide +kernel
theorem dX12_mostAlike_67 : decode cX12_mostAlike 67 = .ok (.iload_n 1, 1) := by decide +kernel
theorem dX12_mostAlike_68 : decode cX12_mostAlike 68 = .ok (.iadd, 1) := by decide +kernel
theorem dX12_mostAlike_69 : decode cX12_mostAlike 69 = .ok (.iaload, 1) := by decide +kernel
theorem dX12_mostAlike_70 : decode cX12_mostAlike 70 = .ok (.invokevirtual 537, 3) := by decide +kernel
theorem dX12_mostAlike_73 : decode cX12_mostAlike 73 = .ok (.istore 4, 2) := by decide +kernel
theorem dX12_mostAlike_75 : decode cX12_mostAlike 75 = .ok (.aload_n 0, 1) := by decide +kernel
theorem dX12_mostAlike_76 : decode cX12_mostAlike 76 = .ok (.getfield 69, 3) := by decide +kernel
theorem dX12_mostAlike_79 : decode cX12_mostAlike 79 = .ok (.iload 4, 2) := by decide +kernel
theorem dX12_mostAlike_81 : decode cX12_mostAlike 81 = .ok (.dup2, 1) := by decide +kernel
theorem dX12_mostAlike_82 : decode cX12_mostAlike 82 = .ok (.iaload, 1) := by decide +kernel
theorem dX12_mostAlike_83 : decode cX12_mostAlike 83 = .ok (.iconst 1, 1) := by decide +kernel
theorem dX12_mostAlike_84 : decode cX12_mostAlike 84 = .ok (.iadd, 1) := by decide +kernel
theorem dX12_mostAlike_85 : decode cX12_mostAlike 85 = .ok (.iastore, 1) := by decide +kernel
theorem dX12_mostAlike_86 : decode cX12_mostAlike 86 = .ok (.iload_n 2, 1) := by decide +kernel
theorem dX12_mostAlike_87 : decode cX12_mostAlike 87 = .ok (.aload_n 0, 1) := by decide +kernel
theorem dX12_mostAlike_88 : decode cX12_mostAlike 88 = .ok (.getfield 69, 3) := by decide +kernel
theorem dX12_mostAlike_91 : decode cX12_mostAlike 91 = .ok (.iload 4, 2) := by decide +kernel
theorem dX12_mostAlike_93 : decode cX12_mostAlike 93 = .ok (.iaload, 1) := by decide +kernel
theorem dX12_mostAlike_94 : decode cX12_mostAlike 94 = .ok (.invokestatic 547, 3) := by decide +kernel
theorem dX12_mostAlike_97 : decode cX12_mostAlike 97 = .ok (.istore_n 2, 1) := by decide +kernel
theorem dX12_mostAlike_98 : decode cX12_mostAlike 98 = .ok (.iinc 3 1, 3) := by decide +kernel
theorem dX12_mostAlike_101 : decode cX12_mostAlike 101 = .ok (.goto (-76), 3) := by decide +kernel
theorem dX12_mostAlike_104 : decode cX12_mostAlike 104 = .ok (.iload_n 2, 1) := by decide +kernel
theorem dX12_mostAlike_105 : decode cX12_mostAlike 105 = .ok (.ireturn, 1) := by decide +kernel
theorem dX12_ask_0 : decode cX12_ask 0 = .ok (.aload_n 0, 1) := by decide +kernel
theorem dX12_ask_1 : decode cX12_ask 1 = .ok (.aload_n 0, 1) := by decide +kernel
theorem dX12_ask_2 : decode cX12_ask 2 = .ok (.iload_n 1, 1) := by decide +kernel
theorem dX12_ask_3 : decode cX12_ask 3 = .ok (.invokevirtual 541, 3) := by decide +kernel
theorem dX12_ask_6 : decode cX12_ask 6 = .ok (.putfield 82, 3) := by decide +kernel
theorem dX12_ask_9 : decode cX12_ask 9 = .ok (.aload_n 0, 1) := by decide +kernel
theorem dX12_ask_10 : decode cX12_ask 10 = .ok (.getfield 82, 3) := by decide +kernel
theorem dX12_ask_13 : decode cX12_ask 13 = .ok (.ifCond .le 5, 3) := by decide +kernel
theorem dX12_ask_16 : decode cX12_ask 16 = .ok (.iconst 0, 1) := by decide +kernel
theorem dX12_ask_17 : decode cX12_ask 17 = .ok (.ireturn, 1) := by decide +kernel
theorem dX12_ask_18 : decode cX12_ask 18 = .ok (.aload_n 0, 1) := by decide +kernel
theorem dX12_ask_19 : decode cX12_ask 19 = .ok (.iload_n 1, 1) := by decide +kernel
theorem dX12_ask_20 : decode cX12_ask 20 = .ok (.invokevirtual 544, 3) := by decide +kernel
theorem dX12_ask_23 : decode cX12_ask 23 = .ok (.iconst (-1), 1) := by decide +kernel
theorem dX12_ask_24 : decode cX12_ask 24 = .ok (.istore_n 2, 1) := by decide +kernel
theorem dX12_ask_25 : decode cX12_ask 25 = .ok (.ldc_w 423, 3) := by decide +kernel
theorem dX12_ask_28 : decode cX12_ask 28 = .ok (.istore_n 3, 1) := by decide +kernel
theorem dX12_ask_29 : decode cX12_ask 29 = .ok (.iconst 0, 1) := by decide +kernel
theorem dX12_ask_30 : decode cX12_ask 30 = .ok (.istore 4, 2) := by decide +kernel
theorem dX12_ask_32 : decode cX12_ask 32 = .ok (.iload 4, 2) := by decide +kernel
theorem dX12_ask_34 : decode cX12_ask 34 = .ok (.aload_n 0, 1) := by decide +kernel
theorem dX12_ask_35 : decode cX12_ask 35 = .ok (.invokevirtual 267, 3) := by decide +kernel
theorem dX12_ask_38 : decode cX12_ask 38 = .ok (.if_icmp .ge 39, 3) := by decide +kernel
theorem dX12_ask_41 : decode cX12_ask 41 = .ok (.aload_n 0, 1) := by decide +kernel
theorem dX12_ask_42 : decode cX12_ask 42 = .ok (.getfield 534, 3) := by decide +kernel
theorem dX12_ask_45 : decode cX12_ask 45 = .ok (.ifCond .le 32, 3) := by decide +kernel
theorem dX12_ask_48 : decode cX12_ask 48 = .ok (.aload_n 0, 1) := by decide +kernel
theorem dX12_ask_49 : decode cX12_ask 49 = .ok (.iload 4, 2) := by decide +kernel
theorem dX12_ask_51 : decode cX12_ask 51 = .ok (.invokevirtual 549, 3) := by decide +kernel
theorem dX12_ask_54 : decode cX12_ask 54 = .ok (.istore 5, 2) := by decide +kernel
theorem dX12_ask_56 : decode cX12_ask 56 = .ok (.iload 5, 2) := by decide +kernel
theorem dX12_ask_58 : decode cX12_ask 58 = .ok (.iload_n 3, 1) := by decide +kernel
theorem dX12_ask_59 : decode cX12_ask 59 = .ok (.if_icmp .lt 6, 3) := by decide +kernel
theorem dX12_ask_62 : decode cX12_ask 62 = .ok (.goto 9, 3) := by decide +kernel
theorem dX12_ask_65 : decode cX12_ask 65 = .ok (.iload 4, 2) := by decide +kernel
theorem dX12_ask_67 : decode cX12_ask 67 = .ok (.istore_n 2, 1) := by decide +kernel
theorem dX12_ask_68 : decode cX12_ask 68 = .ok (.iload 5, 2) := by decide +kernel
theorem dX12_ask_70 : decode cX12_ask 70 = .ok (.istore_n 3, 1) := by decide +kernel
theorem dX12_ask_71 : decode cX12_ask 71 = .ok (.iinc 4 1, 3) := by decide +kernel
theorem dX12_ask_74 : decode cX12_ask 74 = .ok (.goto (-42), 3) := by decide +kernel
theorem dX12_ask_77 : decode cX12_ask 77 = .ok (.iload_n 2, 1) := by decide +kernel
theorem dX12_ask_78 : decode cX12_ask 78 = .ok (.ireturn, 1) := by decide +kernel
theorem dX12_isTray_0 : decode cX12_isTray 0 = .ok (.iload_n 0, 1) := by decide +kernel
theorem dX12_isTray_1 : decode cX12_isTray 1 = .ok (.i2l, 1) := by decide +kernel
theorem dX12_isTray_2 : decode cX12_isTray 2 = .ok (.lconst 0, 1) := by decide +kernel
theorem dX12_isTray_3 : decode cX12_isTray 3 = .ok (.ldc2_w 376, 3) := by decide +kernel
theorem dX12_isTray_6 : decode cX12_isTray 6 = .ok (.invokestatic 143, 3) := by decide +kernel
theorem dX12_isTray_9 : decode cX12_isTray 9 = .ok (.ireturn, 1) := by decide +kernel
theorem dX12_tray_0 : decode cX12_tray 0 = .ok (.aload_n 0, 1) := by decide +kernel
theorem dX12_tray_1 : decode cX12_tray 1 = .ok (.iload_n 1, 1) := by decide +kernel
theorem dX12_tray_2 : decode cX12_tray 2 = .ok (.invokestatic 360, 3) := by decide +kernel
theorem dX12_tray_5 : decode cX12_tray 5 = .ok (.ifCond .ne 7, 3) := by decide +kernel
theorem dX12_tray_8 : decode cX12_tray 8 = .ok (.iconst 1, 1) := by decide +kernel
theorem dX12_tray_9 : decode cX12_tray 9 = .ok (.goto 32, 3) := by decide +kernel
theorem dX12_tray_12 : decode cX12_tray 12 = .ok (.iload_n 2, 1) := by decide +kernel
theorem dX12_tray_13 : decode cX12_tray 13 = .ok (.i2l, 1) := by decide +kernel
theorem dX12_tray_14 : decode cX12_tray 14 = .ok (.lconst 0, 1) := by decide +kernel
theorem dX12_tray_15 : decode cX12_tray 15 = .ok (.ldc2_w 376, 3) := by decide +kernel
theorem dX12_tray_18 : decode cX12_tray 18 = .ok (.invokestatic 143, 3) := by decide +kernel
theorem dX12_tray_21 : decode cX12_tray 21 = .ok (.ifCond .eq 15, 3) := by decide +kernel
theorem dX12_tray_24 : decode cX12_tray 24 = .ok (.iload_n 3, 1) := by decide +kernel
theorem dX12_tray_25 : decode cX12_tray 25 = .ok (.i2l, 1) := by decide +kernel
theorem dX12_tray_26 : decode cX12_tray 26 = .ok (.lconst 0, 1) := by decide +kernel
theorem dX12_tray_27 : decode cX12_tray 27 = .ok (.ldc2_w 400, 3) := by decide +kernel
theorem dX12_tray_30 : decode cX12_tray 30 = .ok (.invokestatic 143, 3) := by decide +kernel
theorem dX12_tray_33 : decode cX12_tray 33 = .ok (.ifCond .ne 7, 3) := by decide +kernel
theorem dX12_tray_36 : decode cX12_tray 36 = .ok (.iconst 2, 1) := by decide +kernel
theorem dX12_tray_37 : decode cX12_tray 37 = .ok (.goto 4, 3) := by decide +kernel
theorem dX12_tray_40 : decode cX12_tray 40 = .ok (.iconst 0, 1) := by decide +kernel
theorem dX12_tray_41 : decode cX12_tray 41 = .ok (.putfield 82, 3) := by decide +kernel
theorem dX12_tray_44 : decode cX12_tray 44 = .ok (.aload_n 0, 1) := by decide +kernel
theorem dX12_tray_45 : decode cX12_tray 45 = .ok (.getfield 82, 3) := by decide +kernel
theorem dX12_tray_48 : decode cX12_tray 48 = .ok (.ifCond .le 4, 3) := by decide +kernel
theorem dX12_tray_51 : decode cX12_tray 51 = .ok (.return_, 1) := by decide +kernel
theorem dX12_tray_52 : decode cX12_tray 52 = .ok (.aload_n 0, 1) := by decide +kernel
theorem dX12_tray_53 : decode cX12_tray 53 = .ok (.getfield 72, 3) := by decide +kernel
theorem dX12_tray_56 : decode cX12_tray 56 = .ok (.iload_n 1, 1) := by decide +kernel
theorem dX12_tray_57 : decode cX12_tray 57 = .ok (.iload_n 2, 1) := by decide +kernel
theorem dX12_tray_58 : decode cX12_tray 58 = .ok (.iastore, 1) := by decide +kernel
theorem dX12_tray_59 : decode cX12_tray 59 = .ok (.aload_n 0, 1) := by decide +kernel
theorem dX12_tray_60 : decode cX12_tray 60 = .ok (.getfield 75, 3) := by decide +kernel
theorem dX12_tray_63 : decode cX12_tray 63 = .ok (.iload_n 1, 1) := by decide +kernel
theorem dX12_tray_64 : decode cX12_tray 64 = .ok (.iload_n 3, 1) := by decide +kernel
theorem dX12_tray_65 : decode cX12_tray 65 = .ok (.iastore, 1) := by decide +kernel
theorem dX12_tray_66 : decode cX12_tray 66 = .ok (.iconst 0, 1) := by decide +kernel
theorem dX12_tray_67 : decode cX12_tray 67 = .ok (.istore 4, 2) := by decide +kernel
theorem dX12_tray_69 : decode cX12_tray 69 = .ok (.iload 4, 2) := by decide +kernel
theorem dX12_tray_71 : decode cX12_tray 71 = .ok (.bipush 30, 2) := by decide +kernel
theorem dX12_tray_73 : decode cX12_tray 73 = .ok (.if_icmp .ge 22, 3) := by decide +kernel
theorem dX12_tray_76 : decode cX12_tray 76 = .ok (.aload_n 0, 1) := by decide +kernel
theorem dX12_tray_77 : decode cX12_tray 77 = .ok (.getfield 78, 3) := by decide +kernel
theorem dX12_tray_80 : decode cX12_tray 80 = .ok (.bipush 30, 2) := by decide +kernel
theorem dX12_tray_82 : decode cX12_tray 82 = .ok (.iload_n 1, 1) := by decide +kernel
theorem dX12_tray_83 : decode cX12_tray 83 = .ok (.imul, 1) := by decide +kernel
theorem dX12_tray_84 : decode cX12_tray 84 = .ok (.iload 4, 2) := by decide +kernel
theorem dX12_tray_86 : decode cX12_tray 86 = .ok (.iadd, 1) := by decide +kernel
theorem dX12_tray_87 : decode cX12_tray 87 = .ok (.lconst 0, 1) := by decide +kernel
theorem dX12_tray_88 : decode cX12_tray 88 = .ok (.lastore, 1) := by decide +kernel
theorem dX12_tray_89 : decode cX12_tray 89 = .ok (.iinc 4 1, 3) := by decide +kernel
theorem dX12_tray_92 : decode cX12_tray 92 = .ok (.goto (-23), 3) := by decide +kernel
theorem dX12_tray_95 : decode cX12_tray 95 = .ok (.return_, 1) := by decide +kernel
theorem dX12_cut_0 : decode cX12_cut 0 = .ok (.bipush 64, 2) := by decide +kernel
theorem dX12_cut_2 : decode cX12_cut 2 = .ok (.bipush 8, 2) := by decide +kernel
theorem dX12_cut_4 : decode cX12_cut 4 = .ok (.aload_n 0, 1) := by decide +kernel
theorem dX12_cut_5 : decode cX12_cut 5 = .ok (.getfield 72, 3) := by decide +kernel
theorem dX12_cut_8 : decode cX12_cut 8 = .ok (.iload_n 1, 1) := by decide +kernel
theorem dX12_cut_9 : decode cX12_cut 9 = .ok (.iaload, 1) := by decide +kernel
theorem dX12_cut_10 : decode cX12_cut 10 = .ok (.ishl, 1) := by decide +kernel
theorem dX12_cut_11 : decode cX12_cut 11 = .ok (.isub, 1) := by decide +kernel
theorem dX12_cut_12 : decode cX12_cut 12 = .ok (.istore 5, 2) := by decide +kernel
theorem dX12_cut_14 : decode cX12_cut 14 = .ok (.aload_n 0, 1) := by decide +kernel
theorem dX12_cut_15 : decode cX12_cut 15 = .ok (.getfield 78, 3) := by decide +kernel
theorem dX12_cut_18 : decode cX12_cut 18 = .ok (.bipush 30, 2) := by decide +kernel
theorem dX12_cut_20 : decode cX12_cut 20 = .ok (.iload_n 1, 1) := by decide +kernel
theorem dX12_cut_21 : decode cX12_cut 21 = .ok (.imul, 1) := by decide +kernel
theorem dX12_cut_22 : decode cX12_cut 22 = .ok (.iload_n 2, 1) := by decide +kernel
theorem dX12_cut_23 : decode cX12_cut 23 = .ok (.iadd, 1) := by decide +kernel
theorem dX12_cut_24 : decode cX12_cut 24 = .ok (.lload_n 3, 1) := by decide +kernel
theorem dX12_cut_25 : decode cX12_cut 25 = .ok (.iload 5, 2) := by decide +kernel
theorem dX12_cut_27 : decode cX12_cut 27 = .ok (.lshl, 1) := by decide +kernel
theorem dX12_cut_28 : decode cX12_cut 28 = .ok (.iload 5, 2) := by decide +kernel
theorem dX12_cut_30 : decode cX12_cut 30 = .ok (.lshr, 1) := by decide +kernel
theorem dX12_cut_31 : decode cX12_cut 31 = .ok (.lastore, 1) := by decide +kernel
theorem dX12_cut_32 : decode cX12_cut 32 = .ok (.aload_n 0, 1) := by decide +kernel
theorem dX12_cut_33 : decode cX12_cut 33 = .ok (.getfield 78, 3) := by decide +kernel
theorem dX12_cut_36 : decode cX12_cut 36 = .ok (.bipush 30, 2) := by decide +kernel
theorem dX12_cut_38 : decode cX12_cut 38 = .ok (.iload_n 1, 1) := by decide +kernel
theorem dX12_cut_39 : decode cX12_cut 39 = .ok (.imul, 1) := by decide +kernel
theorem dX12_cut_40 : decode cX12_cut 40 = .ok (.iload_n 2, 1) := by decide +kernel
theorem dX12_cut_41 : decode cX12_cut 41 = .ok (.iadd, 1) := by decide +kernel
theorem dX12_cut_42 : decode cX12_cut 42 = .ok (.laload, 1) := by decide +kernel
theorem dX12_cut_43 : decode cX12_cut 43 = .ok (.lreturn, 1) := by decide +kernel
theorem dX12_write_0 : decode cX12_write 0 = .ok (.aload_n 0, 1) := by decide +kernel
theorem dX12_write_1 : decode cX12_write 1 = .ok (.aload_n 0, 1) := by decide +kernel
theorem dX12_write_2 : decode cX12_write 2 = .ok (.iload_n 1, 1) := by decide +kernel
theorem dX12_write_3 : decode cX12_write 3 = .ok (.invokevirtual 373, 3) := by decide +kernel
theorem dX12_write_6 : decode cX12_write 6 = .ok (.putfield 82, 3) := by decide +kernel
theorem dX12_write_9 : decode cX12_write 9 = .ok (.aload_n 0, 1) := by decide +kernel
theorem dX12_write_10 : decode cX12_write 10 = .ok (.getfield 82, 3) := by decide +kernel
theorem dX12_write_13 : decode cX12_write 13 = .ok (.ifCond .le 5, 3) := by decide +kernel
theorem dX12_write_16 : decode cX12_write 16 = .ok (.lconst 0, 1) := by decide +kernel
theorem dX12_write_17 : decode cX12_write 17 = .ok (.lreturn, 1) := by decide +kernel
theorem dX12_write_18 : decode cX12_write 18 = .ok (.iload_n 2, 1) := by decide +kernel
theorem dX12_write_19 : decode cX12_write 19 = .ok (.i2l, 1) := by decide +kernel
theorem dX12_write_20 : decode cX12_write 20 = .ok (.lconst 0, 1) := by decide +kernel
theorem dX12_write_21 : decode cX12_write 21 = .ok (.aload_n 0, 1) := by decide +kernel
theorem dX12_write_22 : decode cX12_write 22 = .ok (.getfield 75, 3) := by decide +kernel
theorem dX12_write_25 : decode cX12_write 25 = .ok (.iload_n 1, 1) := by decide +kernel
theorem dX12_write_26 : decode cX12_write 26 = .ok (.iaload, 1) := by decide +kernel
theorem dX12_write_27 : decode cX12_write 27 = .ok (.iconst 1, 1) := by decide +kernel
theorem dX12_write_28 : decode cX12_write 28 = .ok (.isub, 1) := by decide +kernel
theorem dX12_write_29 : decode cX12_write 29 = .ok (.i2l, 1) := by decide +kernel
theorem dX12_write_30 : decode cX12_write 30 = .ok (.invokestatic 143, 3) := by decide +kernel
theorem dX12_write_33 : decode cX12_write 33 = .ok (.ifCond .eq 13, 3) := by decide +kernel
theorem dX12_write_36 : decode cX12_write 36 = .ok (.aload_n 0, 1) := by decide +kernel
theorem dX12_write_37 : decode cX12_write 37 = .ok (.iload_n 1, 1) := by decide +kernel
theorem dX12_write_38 : decode cX12_write 38 = .ok (.iload_n 2, 1) := by decide +kernel
theorem dX12_write_39 : decode cX12_write 39 = .ok (.lload_n 3, 1) := by decide +kernel
theorem dX12_write_40 : decode cX12_write 40 = .ok (.invokevirtual 552, 3) := by decide +kernel
theorem dX12_write_43 : decode cX12_write 43 = .ok (.goto 9, 3) := by decide +kernel
theorem dX12_write_46 : decode cX12_write 46 = .ok (.aload_n 0, 1) := by decide +kernel
theorem dX12_write_47 : decode cX12_write 47 = .ok (.iconst 3, 1) := by decide +kernel
theorem dX12_write_48 : decode cX12_write 48 = .ok (.invokevirtual 256, 3) := by decide +kernel
theorem dX12_write_51 : decode cX12_write 51 = .ok (.i2l, 1) := by decide +kernel
theorem dX12_write_52 : decode cX12_write 52 = .ok (.lreturn, 1) := by decide +kernel
theorem dX12_copy_0 : decode cX12_copy 0 = .ok (.aload_n 0, 1) := by decide +kernel
theorem dX12_copy_1 : decode cX12_copy 1 = .ok (.aload_n 0, 1) := by decide +kernel
theorem dX12_copy_2 : decode cX12_copy 2 = .ok (.iload_n 1, 1) := by decide +kernel
theorem dX12_copy_3 : decode cX12_copy 3 = .ok (.invokevirtual 373, 3) := by decide +kernel
theorem dX12_copy_6 : decode cX12_copy 6 = .ok (.putfield 82, 3) := by decide +kernel
theorem dX12_copy_9 : decode cX12_copy 9 = .ok (.aload_n 0, 1) := by decide +kernel
theorem dX12_copy_10 : decode cX12_copy 10 = .ok (.getfield 82, 3) := by decide +kernel
theorem dX12_copy_13 : decode cX12_copy 13 = .ok (.ifCond .le 5, 3) := by decide +kernel
theorem dX12_copy_16 : decode cX12_copy 16 = .ok (.iconst 0, 1) := by decide +kernel
theorem dX12_copy_17 : decode cX12_copy 17 = .ok (.ireturn, 1) := by decide +kernel
theorem dX12_copy_18 : decode cX12_copy 18 = .ok (.aload_n 0, 1) := by decide +kernel
theorem dX12_copy_19 : decode cX12_copy 19 = .ok (.invokevirtual 378, 3) := by decide +kernel
theorem dX12_copy_22 : decode cX12_copy 22 = .ok (.iconst 0, 1) := by decide +kernel
theorem dX12_copy_23 : decode cX12_copy 23 = .ok (.istore_n 2, 1) := by decide +kernel
theorem dX12_copy_24 : decode cX12_copy 24 = .ok (.iload_n 2, 1) := by decide +kernel
theorem dX12_copy_25 : decode cX12_copy 25 = .ok (.aload_n 0, 1) := by decide +kernel
theorem dX12_copy_26 : decode cX12_copy 26 = .ok (.getfield 75, 3) := by decide +kernel
theorem dX12_copy_29 : decode cX12_copy 29 = .ok (.iload_n 1, 1) := by decide +kernel
theorem dX12_copy_30 : decode cX12_copy 30 = .ok (.iaload, 1) := by decide +kernel
theorem dX12_copy_31 : decode cX12_copy 31 = .ok (.if_icmp .ge 26, 3) := by decide +kernel
theorem dX12_copy_34 : decode cX12_copy 34 = .ok (.aload_n 0, 1) := by decide +kernel
theorem dX12_copy_35 : decode cX12_copy 35 = .ok (.invokevirtual 353, 3) := by decide +kernel
theorem dX12_copy_38 : decode cX12_copy 38 = .ok (.aload_n 0, 1) := by decide +kernel
theorem dX12_copy_39 : decode cX12_copy 39 = .ok (.iload_n 1, 1) := by decide +kernel
theorem dX12_copy_40 : decode cX12_copy 40 = .ok (.iload_n 2, 1) := by decide +kernel
theorem dX12_copy_41 : decode cX12_copy 41 = .ok (.aload_n 0, 1) := by decide +kernel
theorem dX12_copy_42 : decode cX12_copy 42 = .ok (.iconst 1, 1) := by decide +kernel
theorem dX12_copy_43 : decode cX12_copy 43 = .ok (.invokevirtual 387, 3) := by decide +kernel
theorem dX12_copy_46 : decode cX12_copy 46 = .ok (.i2l, 1) := by decide +kernel
theorem dX12_copy_47 : decode cX12_copy 47 = .ok (.invokevirtual 552, 3) := by decide +kernel
theorem dX12_copy_50 : decode cX12_copy 50 = .ok (.pop2, 1) := by decide +kernel
theorem dX12_copy_51 : decode cX12_copy 51 = .ok (.iinc 2 1, 3) := by decide +kernel
theorem dX12_copy_54 : decode cX12_copy 54 = .ok (.goto (-30), 3) := by decide +kernel
theorem dX12_copy_57 : decode cX12_copy 57 = .ok (.aload_n 0, 1) := by decide +kernel
theorem dX12_copy_58 : decode cX12_copy 58 = .ok (.invokevirtual 393, 3) := by decide +kernel
theorem dX12_copy_61 : decode cX12_copy 61 = .ok (.aload_n 0, 1) := by decide +kernel
theorem dX12_copy_62 : decode cX12_copy 62 = .ok (.getfield 75, 3) := by decide +kernel
theorem dX12_copy_65 : decode cX12_copy 65 = .ok (.iload_n 1, 1) := by decide +kernel
theorem dX12_copy_66 : decode cX12_copy 66 = .ok (.iaload, 1) := by decide +kernel
theorem dX12_copy_67 : decode cX12_copy 67 = .ok (.ireturn, 1) := by decide +kernel
theorem dX12_image_0 : decode cX12_image 0 = .ok (.aload_n 0, 1) := by decide +kernel
theorem dX12_image_1 : decode cX12_image 1 = .ok (.iload_n 1, 1) := by decide +kernel
theorem dX12_image_2 : decode cX12_image 2 = .ok (.i2l, 1) := by decide +kernel
theorem dX12_image_3 : decode cX12_image 3 = .ok (.lconst 0, 1) := by decide +kernel
theorem dX12_image_4 : decode cX12_image 4 = .ok (.ldc2_w 332, 3) := by decide +kernel
theorem dX12_image_7 : decode cX12_image 7 = .ok (.invokestatic 143, 3) := by decide +kernel
theorem dX12_image_10 : decode cX12_image 10 = .ok (.ifCond .eq 7, 3) := by decide +kernel
theorem dX12_image_13 : decode cX12_image 13 = .ok (.iconst 0, 1) := by decide +kernel
theorem dX12_image_14 : decode cX12_image 14 = .ok (.goto 4, 3) := by decide +kernel
theorem dX12_image_17 : decode cX12_image 17 = .ok (.iconst 1, 1) := by decide +kernel
theorem dX12_image_18 : decode cX12_image 18 = .ok (.putfield 82, 3) := by decide +kernel
theorem dX12_image_21 : decode cX12_image 21 = .ok (.aload_n 0, 1) := by decide +kernel
theorem dX12_image_22 : decode cX12_image 22 = .ok (.getfield 82, 3) := by decide +kernel
theorem dX12_image_25 : decode cX12_image 25 = .ok (.ifCond .le 4, 3) := by decide +kernel
theorem dX12_image_28 : decode cX12_image 28 = .ok (.return_, 1) := by decide +kernel
theorem dX12_image_29 : decode cX12_image 29 = .ok (.aload_n 0, 1) := by decide +kernel
theorem dX12_image_30 : decode cX12_image 30 = .ok (.getfield 19, 3) := by decide +kernel
theorem dX12_image_33 : decode cX12_image 33 = .ok (.iload_n 1, 1) := by decide +kernel
theorem dX12_image_34 : decode cX12_image 34 = .ok (.iconst 1, 1) := by decide +kernel
theorem dX12_image_35 : decode cX12_image 35 = .ok (.bastore, 1) := by decide +kernel
theorem dX12_image_36 : decode cX12_image 36 = .ok (.iconst 0, 1) := by decide +kernel
theorem dX12_image_37 : decode cX12_image 37 = .ok (.istore_n 2, 1) := by decide +kernel
theorem dX12_image_38 : decode cX12_image 38 = .ok (.iload_n 2, 1) := by decide +kernel
theorem dX12_image_39 : decode cX12_image 39 = .ok (.sipush 3205, 3) := by decide +kernel
theorem dX12_image_42 : decode cX12_image 42 = .ok (.if_icmp .ge 27, 3) := by decide +kernel
theorem dX12_image_45 : decode cX12_image 45 = .ok (.aload_n 0, 1) := by decide +kernel
theorem dX12_image_46 : decode cX12_image 46 = .ok (.getfield 16, 3) := by decide +kernel
theorem dX12_image_49 : decode cX12_image 49 = .ok (.sipush 3205, 3) := by decide +kernel
theorem dX12_image_52 : decode cX12_image 52 = .ok (.iload_n 1, 1) := by decide +kernel
theorem dX12_image_53 : decode cX12_image 53 = .ok (.imul, 1) := by decide +kernel
theorem dX12_image_54 : decode cX12_image 54 = .ok (.iload_n 2, 1) := by decide +kernel
theorem dX12_image_55 : decode cX12_image 55 = .ok (.iadd, 1) := by decide +kernel
theorem dX12_image_56 : decode cX12_image 56 = .ok (.aload_n 0, 1) := by decide +kernel
theorem dX12_image_57 : decode cX12_image 57 = .ok (.getfield 9, 3) := by decide +kernel
theorem dX12_image_60 : decode cX12_image 60 = .ok (.iload_n 2, 1) := by decide +kernel
theorem dX12_image_61 : decode cX12_image 61 = .ok (.iaload, 1) := by decide +kernel
theorem dX12_image_62 : decode cX12_image 62 = .ok (.iastore, 1) := by decide +kernel
theorem dX12_image_63 : decode cX12_image 63 = .ok (.iinc 2 1, 3) := by decide +kernel
theorem dX12_image_66 : decode cX12_image 66 = .ok (.goto (-28), 3) := by decide +kernel
theorem dX12_image_69 : decode cX12_image 69 = .ok (.return_, 1) := by decide +kernel
theorem dX12_restore_0 : decode cX12_restore 0 = .ok (.aload_n 0, 1) := by decide +kernel
theorem dX12_restore_1 : decode cX12_restore 1 = .ok (.iload_n 1, 1) := by decide +kernel
theorem dX12_restore_2 : decode cX12_restore 2 = .ok (.i2l, 1) := by decide +kernel
theorem dX12_restore_3 : decode cX12_restore 3 = .ok (.lconst 0, 1) := by decide +kernel
theorem dX12_restore_4 : decode cX12_restore 4 = .ok (.ldc2_w 332, 3) := by decide +kernel
theorem dX12_restore_7 : decode cX12_restore 7 = .ok (.invokestatic 143, 3) := by decide +kernel
theorem dX12_restore_10 : decode cX12_restore 10 = .ok (.ifCond .ne 7, 3) := by decide +kernel
theorem dX12_restore_13 : decode cX12_restore 13 = .ok (.iconst 1, 1) := by decide +kernel
theorem dX12_restore_14 : decode cX12_restore 14 = .ok (.goto 17, 3) := by decide +kernel
theorem dX12_restore_17 : decode cX12_restore 17 = .ok (.aload_n 0, 1) := by decide +kernel
theorem dX12_restore_18 : decode cX12_restore 18 = .ok (.getfield 19, 3) := by decide +kernel
theorem dX12_restore_21 : decode cX12_restore 21 = .ok (.iload_n 1, 1) := by decide +kernel
theorem dX12_restore_22 : decode cX12_restore 22 = .ok (.baload, 1) := by decide +kernel
theorem dX12_restore_23 : decode cX12_restore 23 = .ok (.ifCond .ne 7, 3) := by decide +kernel
theorem dX12_restore_26 : decode cX12_restore 26 = .ok (.iconst 2, 1) := by decide +kernel
theorem dX12_restore_27 : decode cX12_restore 27 = .ok (.goto 4, 3) := by decide +kernel
theorem dX12_restore_30 : decode cX12_restore 30 = .ok (.iconst 0, 1) := by decide +kernel
theorem dX12_restore_31 : decode cX12_restore 31 = .ok (.putfield 82, 3) := by decide +kernel
theorem dX12_restore_34 : decode cX12_restore 34 = .ok (.aload_n 0, 1) := by decide +kernel
theorem dX12_restore_35 : decode cX12_restore 35 = .ok (.getfield 82, 3) := by decide +kernel
theorem dX12_restore_38 : decode cX12_restore 38 = .ok (.ifCond .le 4, 3) := by decide +kernel
theorem dX12_restore_41 : decode cX12_restore 41 = .ok (.return_, 1) := by decide +kernel
theorem dX12_restore_42 : decode cX12_restore 42 = .ok (.iconst 0, 1) := by decide +kernel
theorem dX12_restore_43 : decode cX12_restore 43 = .ok (.istore_n 2, 1) := by decide +kernel
theorem dX12_restore_44 : decode cX12_restore 44 = .ok (.iload_n 2, 1) := by decide +kernel
theorem dX12_restore_45 : decode cX12_restore 45 = .ok (.sipush 3205, 3) := by decide +kernel
theorem dX12_restore_48 : decode cX12_restore 48 = .ok (.if_icmp .ge 27, 3) := by decide +kernel
theorem dX12_restore_51 : decode cX12_restore 51 = .ok (.aload_n 0, 1) := by decide +kernel
theorem dX12_restore_52 : decode cX12_restore 52 = .ok (.getfield 9, 3) := by decide +kernel
theorem dX12_restore_55 : decode cX12_restore 55 = .ok (.iload_n 2, 1) := by decide +kernel
theorem dX12_restore_56 : decode cX12_restore 56 = .ok (.aload_n 0, 1) := by decide +kernel
theorem dX12_restore_57 : decode cX12_restore 57 = .ok (.getfield 16, 3) := by decide +kernel
theorem dX12_restore_60 : decode cX12_restore 60 = .ok (.sipush 3205, 3) := by decide +kernel
theorem dX12_restore_63 : decode cX12_restore 63 = .ok (.iload_n 1, 1) := by decide +kernel
theorem dX12_restore_64 : decode cX12_restore 64 = .ok (.imul, 1) := by decide +kernel
theorem dX12_restore_65 : decode cX12_restore 65 = .ok (.iload_n 2, 1) := by decide +kernel
theorem dX12_restore_66 : decode cX12_restore 66 = .ok (.iadd, 1) := by decide +kernel
theorem dX12_restore_67 : decode cX12_restore 67 = .ok (.iaload, 1) := by decide +kernel
theorem dX12_restore_68 : decode cX12_restore 68 = .ok (.iastore, 1) := by decide +kernel
theorem dX12_restore_69 : decode cX12_restore 69 = .ok (.iinc 2 1, 3) := by decide +kernel
theorem dX12_restore_72 : decode cX12_restore 72 = .ok (.goto (-28), 3) := by decide +kernel
theorem dX12_restore_75 : decode cX12_restore 75 = .ok (.return_, 1) := by decide +kernel
theorem dX12_count_0 : decode cX12_count 0 = .ok (.aload_n 0, 1) := by decide +kernel
theorem dX12_count_1 : decode cX12_count 1 = .ok (.iconst 0, 1) := by decide +kernel
theorem dX12_count_2 : decode cX12_count 2 = .ok (.putfield 82, 3) := by decide +kernel
theorem dX12_count_5 : decode cX12_count 5 = .ok (.iload_n 1, 1) := by decide +kernel
theorem dX12_count_6 : decode cX12_count 6 = .ok (.tableswitch 138 0 11 #[62, 69, 76, 83, 88, 94, 100, 106, 112, 117, 125, 133], 62) := by decide +kernel
theorem dX12_count_68 : decode cX12_count 68 = .ok (.aload_n 0, 1) := by decide +kernel
theorem dX12_count_69 : decode cX12_count 69 = .ok (.getfield 9, 3) := by decide +kernel
theorem dX12_count_72 : decode cX12_count 72 = .ok (.iconst 0, 1) := by decide +kernel
theorem dX12_count_73 : decode cX12_count 73 = .ok (.iaload, 1) := by decide +kernel
theorem dX12_count_74 : decode cX12_count 74 = .ok (.ireturn, 1) := by decide +kernel
theorem dX12_count_75 : decode cX12_count 75 = .ok (.aload_n 0, 1) := by decide +kernel
theorem dX12_count_76 : decode cX12_count 76 = .ok (.getfield 9, 3) := by decide +kernel
theorem dX12_count_79 : decode cX12_count 79 = .ok (.iconst 1, 1) := by decide +kernel
theorem dX12_count_80 : decode cX12_count 80 = .ok (.iaload, 1) := by decide +kernel
theorem dX12_count_81 : decode cX12_count 81 = .ok (.ireturn, 1) := by decide +kernel
theorem dX12_count_82 : decode cX12_count 82 = .ok (.aload_n 0, 1) := by decide +kernel
theorem dX12_count_83 : decode cX12_count 83 = .ok (.getfield 9, 3) := by decide +kernel
theorem dX12_count_86 : decode cX12_count 86 = .ok (.iconst 2, 1) := by decide +kernel
theorem dX12_count_87 : decode cX12_count 87 = .ok (.iaload, 1) := by decide +kernel
theorem dX12_count_88 : decode cX12_count 88 = .ok (.ireturn, 1) := by decide +kernel
theorem dX12_count_89 : decode cX12_count 89 = .ok (.aload_n 0, 1) := by decide +kernel
theorem dX12_count_90 : decode cX12_count 90 = .ok (.invokevirtual 267, 3) := by decide +kernel
theorem dX12_count_93 : decode cX12_count 93 = .ok (.ireturn, 1) := by decide +kernel
theorem dX12_count_94 : decode cX12_count 94 = .ok (.aload_n 0, 1) := by decide +kernel
theorem dX12_count_95 : decode cX12_count 95 = .ok (.iconst 0, 1) := by decide +kernel
theorem dX12_count_96 : decode cX12_count 96 = .ok (.invokevirtual 387, 3) := by decide +kernel
theorem dX12_count_99 : decode cX12_count 99 = .ok (.ireturn, 1) := by decide +kernel
theorem dX12_count_100 : decode cX12_count 100 = .ok (.aload_n 0, 1) := by decide +kernel
theorem dX12_count_101 : decode cX12_count 101 = .ok (.iconst 1, 1) := by decide +kernel
theorem dX12_count_102 : decode cX12_count 102 = .ok (.invokevirtual 387, 3) := by decide +kernel
theorem dX12_count_105 : decode cX12_count 105 = .ok (.ireturn, 1) := by decide +kernel
theorem dX12_count_106 : decode cX12_count 106 = .ok (.aload_n 0, 1) := by decide +kernel
theorem dX12_count_107 : decode cX12_count 107 = .ok (.iconst 2, 1) := by decide +kernel
theorem dX12_count_108 : decode cX12_count 108 = .ok (.invokevirtual 387, 3) := by decide +kernel
theorem dX12_count_111 : decode cX12_count 111 = .ok (.ireturn, 1) := by decide +kernel
theorem dX12_count_112 : decode cX12_count 112 = .ok (.aload_n 0, 1) := by decide +kernel
theorem dX12_count_113 : decode cX12_count 113 = .ok (.iconst 3, 1) := by decide +kernel
theorem dX12_count_114 : decode cX12_count 114 = .ok (.invokevirtual 387, 3) := by decide +kernel
theorem dX12_count_117 : decode cX12_count 117 = .ok (.ireturn, 1) := by decide +kernel
theorem dX12_count_118 : decode cX12_count 118 = .ok (.aload_n 0, 1) := by decide +kernel
theorem dX12_count_119 : decode cX12_count 119 = .ok (.invokevirtual 390, 3) := by decide +kernel
theorem dX12_count_122 : decode cX12_count 122 = .ok (.ireturn, 1) := by decide +kernel
theorem dX12_count_123 : decode cX12_count 123 = .ok (.aload_n 0, 1) := by decide +kernel
theorem dX12_count_124 : decode cX12_count 124 = .ok (.getfield 9, 3) := by decide +kernel
theorem dX12_count_127 : decode cX12_count 127 = .ok (.bipush 47, 2) := by decide +kernel
theorem dX12_count_129 : decode cX12_count 129 = .ok (.iaload, 1) := by decide +kernel
theorem dX12_count_130 : decode cX12_count 130 = .ok (.ireturn, 1) := by decide +kernel
theorem dX12_count_131 : decode cX12_count 131 = .ok (.aload_n 0, 1) := by decide +kernel
theorem dX12_count_132 : decode cX12_count 132 = .ok (.getfield 9, 3) := by decide +kernel
theorem dX12_count_135 : decode cX12_count 135 = .ok (.bipush 6, 2) := by decide +kernel
theorem dX12_count_137 : decode cX12_count 137 = .ok (.iaload, 1) := by decide +kernel
theorem dX12_count_138 : decode cX12_count 138 = .ok (.ireturn, 1) := by decide +kernel
theorem dX12_count_139 : decode cX12_count 139 = .ok (.aload_n 0, 1) := by decide +kernel
theorem dX12_count_140 : decode cX12_count 140 = .ok (.getfield 85, 3) := by decide +kernel
theorem dX12_count_143 : decode cX12_count 143 = .ok (.ireturn, 1) := by decide +kernel
theorem dX12_count_144 : decode cX12_count 144 = .ok (.iconst (-1), 1) := by decide +kernel
theorem dX12_count_145 : decode cX12_count 145 = .ok (.ireturn, 1) := by decide +kernel
