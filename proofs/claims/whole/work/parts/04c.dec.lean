theorem dX7_init_0 : decode cX7_init 0 = .ok (.aload_n 0, 1) := by decide +kernel
theorem dX7_init_1 : decode cX7_init 1 = .ok (.invokespecial 1, 3) := by decide +kernel
theorem dX7_init_4 : decode cX7_init 4 = .ok (.aload_n 0, 1) := by decide +kernel
theorem dX7_init_5 : decode cX7_init 5 = .ok (.sipush 720, 3) := by decide +kernel
theorem dX7_init_8 : decode cX7_init 8 = .ok (.newarray .int, 2) := by decide +kernel
theorem dX7_init_10 : decode cX7_init 10 = .ok (.putfield 7, 3) := by decide +kernel
theorem dX7_init_13 : decode cX7_init 13 = .ok (.aload_n 0, 1) := by decide +kernel
theorem dX7_init_14 : decode cX7_init 14 = .ok (.sipush 2160, 3) := by decide +kernel
theorem dX7_init_17 : decode cX7_init 17 = .ok (.newarray .int, 2) := by decide +kernel
theorem dX7_init_19 : decode cX7_init 19 = .ok (.putfield 13, 3) := by decide +kernel
theorem dX7_init_22 : decode cX7_init 22 = .ok (.aload_n 0, 1) := by decide +kernel
theorem dX7_init_23 : decode cX7_init 23 = .ok (.bipush 32, 2) := by decide +kernel
theorem dX7_init_25 : decode cX7_init 25 = .ok (.newarray .int, 2) := by decide +kernel
theorem dX7_init_27 : decode cX7_init 27 = .ok (.putfield 16, 3) := by decide +kernel
theorem dX7_init_30 : decode cX7_init 30 = .ok (.aload_n 0, 1) := by decide +kernel
theorem dX7_init_31 : decode cX7_init 31 = .ok (.iconst 4, 1) := by decide +kernel
theorem dX7_init_32 : decode cX7_init 32 = .ok (.newarray .int, 2) := by decide +kernel
theorem dX7_init_34 : decode cX7_init 34 = .ok (.putfield 19, 3) := by decide +kernel
theorem dX7_init_37 : decode cX7_init 37 = .ok (.aload_n 0, 1) := by decide +kernel
theorem dX7_init_38 : decode cX7_init 38 = .ok (.iconst 4, 1) := by decide +kernel
theorem dX7_init_39 : decode cX7_init 39 = .ok (.newarray .int, 2) := by decide +kernel
theorem dX7_init_41 : decode cX7_init 41 = .ok (.putfield 22, 3) := by decide +kernel
theorem dX7_init_44 : decode cX7_init 44 = .ok (.aload_n 0, 1) := by decide +kernel
theorem dX7_init_45 : decode cX7_init 45 = .ok (.bipush 6, 2) := by decide +kernel
theorem dX7_init_47 : decode cX7_init 47 = .ok (.newarray .int, 2) := by decide +kernel
theorem dX7_init_49 : decode cX7_init 49 = .ok (.putfield 25, 3) := by decide +kernel
theorem dX7_init_52 : decode cX7_init 52 = .ok (.aload_n 0, 1) := by decide +kernel
theorem dX7_init_53 : decode cX7_init 53 = .ok (.bipush 6, 2) := by decide +kernel
theorem dX7_init_55 : decode cX7_init 55 = .ok (.newarray .int, 2) := by decide +kernel
theorem dX7_init_57 : decode cX7_init 57 = .ok (.putfield 28, 3) := by decide +kernel
theorem dX7_init_60 : decode cX7_init 60 = .ok (.aload_n 0, 1) := by decide +kernel
theorem dX7_init_61 : decode cX7_init 61 = .ok (.bipush 6, 2) := by decide +kernel
theorem dX7_init_63 : decode cX7_init 63 = .ok (.newarray .int, 2) := by decide +kernel
theorem dX7_init_65 : decode cX7_init 65 = .ok (.putfield 31, 3) := by decide +kernel
theorem dX7_init_68 : decode cX7_init 68 = .ok (.aload_n 0, 1) := by decide +kernel
theorem dX7_init_69 : decode cX7_init 69 = .ok (.bipush 80, 2) := by decide +kernel
theorem dX7_init_71 : decode cX7_init 71 = .ok (.newarray .byte, 2) := by decide +kernel
theorem dX7_init_73 : decode cX7_init 73 = .ok (.putfield 34, 3) := by decide +kernel
theorem dX7_init_76 : decode cX7_init 76 = .ok (.aload_n 0, 1) := by decide +kernel
theorem dX7_init_77 : decode cX7_init 77 = .ok (.iconst 4, 1) := by decide +kernel
theorem dX7_init_78 : decode cX7_init 78 = .ok (.newarray .int, 2) := by decide +kernel
theorem dX7_init_80 : decode cX7_init 80 = .ok (.putfield 38, 3) := by decide +kernel
theorem dX7_init_83 : decode cX7_init 83 = .ok (.aload_n 0, 1) := by decide +kernel
theorem dX7_init_84 : decode cX7_init 84 = .ok (.iconst 4, 1) := by decide +kernel
theorem dX7_init_85 : decode cX7_init 85 = .ok (.newarray .int, 2) := by decide +kernel
theorem dX7_init_87 : decode cX7_init 87 = .ok (.putfield 41, 3) := by decide +kernel
theorem dX7_init_90 : decode cX7_init 90 = .ok (.aload_n 0, 1) := by decide +kernel
theorem dX7_init_91 : decode cX7_init 91 = .ok (.iconst 4, 1) := by decide +kernel
theorem dX7_init_92 : decode cX7_init 92 = .ok (.newarray .int, 2) := by decide +kernel
theorem dX7_init_94 : decode cX7_init 94 = .ok (.putfield 44, 3) := by decide +kernel
theorem dX7_init_97 : decode cX7_init 97 = .ok (.aload_n 0, 1) := by decide +kernel
theorem dX7_init_98 : decode cX7_init 98 = .ok (.iconst 4, 1) := by decide +kernel
theorem dX7_init_99 : decode cX7_init 99 = .ok (.newarray .boolean, 2) := by decide +kernel
theorem dX7_init_101 : decode cX7_init 101 = .ok (.putfield 47, 3) := by decide +kernel
theorem dX7_init_104 : decode cX7_init 104 = .ok (.aload_n 0, 1) := by decide +kernel
theorem dX7_init_105 : decode cX7_init 105 = .ok (.iconst 4, 1) := by decide +kernel
theorem dX7_init_106 : decode cX7_init 106 = .ok (.newarray .int, 2) := by decide +kernel
theorem dX7_init_108 : decode cX7_init 108 = .ok (.putfield 51, 3) := by decide +kernel
theorem dX7_init_111 : decode cX7_init 111 = .ok (.aload_n 0, 1) := by decide +kernel
theorem dX7_init_112 : decode cX7_init 112 = .ok (.bipush 80, 2) := by decide +kernel
theorem dX7_init_114 : decode cX7_init 114 = .ok (.newarray .int, 2) := by decide +kernel
theorem dX7_init_116 : decode cX7_init 116 = .ok (.putfield 54, 3) := by decide +kernel
theorem dX7_init_119 : decode cX7_init 119 = .ok (.aload_n 0, 1) := by decide +kernel
theorem dX7_init_120 : decode cX7_init 120 = .ok (.bipush 80, 2) := by decide +kernel
theorem dX7_init_122 : decode cX7_init 122 = .ok (.newarray .int, 2) := by decide +kernel
theorem dX7_init_124 : decode cX7_init 124 = .ok (.putfield 57, 3) := by decide +kernel
theorem dX7_init_127 : decode cX7_init 127 = .ok (.aload_n 0, 1) := by decide +kernel
theorem dX7_init_128 : decode cX7_init 128 = .ok (.bipush 80, 2) := by decide +kernel
theorem dX7_init_130 : decode cX7_init 130 = .ok (.newarray .int, 2) := by decide +kernel
theorem dX7_init_132 : decode cX7_init 132 = .ok (.putfield 60, 3) := by decide +kernel
theorem dX7_init_135 : decode cX7_init 135 = .ok (.aload_n 0, 1) := by decide +kernel
theorem dX7_init_136 : decode cX7_init 136 = .ok (.sipush 556, 3) := by decide +kernel
theorem dX7_init_139 : decode cX7_init 139 = .ok (.newarray .int, 2) := by decide +kernel
theorem dX7_init_141 : decode cX7_init 141 = .ok (.putfield 63, 3) := by decide +kernel
theorem dX7_init_144 : decode cX7_init 144 = .ok (.aload_n 0, 1) := by decide +kernel
theorem dX7_init_145 : decode cX7_init 145 = .ok (.bipush 8, 2) := by decide +kernel
theorem dX7_init_147 : decode cX7_init 147 = .ok (.newarray .int, 2) := by decide +kernel
theorem dX7_init_149 : decode cX7_init 149 = .ok (.putfield 66, 3) := by decide +kernel
theorem dX7_init_152 : decode cX7_init 152 = .ok (.aload_n 0, 1) := by decide +kernel
theorem dX7_init_153 : decode cX7_init 153 = .ok (.bipush 16, 2) := by decide +kernel
theorem dX7_init_155 : decode cX7_init 155 = .ok (.newarray .boolean, 2) := by decide +kernel
theorem dX7_init_157 : decode cX7_init 157 = .ok (.putfield 69, 3) := by decide +kernel
theorem dX7_init_160 : decode cX7_init 160 = .ok (.aload_n 0, 1) := by decide +kernel
theorem dX7_init_161 : decode cX7_init 161 = .ok (.iconst 4, 1) := by decide +kernel
theorem dX7_init_162 : decode cX7_init 162 = .ok (.newarray .int, 2) := by decide +kernel
theorem dX7_init_164 : decode cX7_init 164 = .ok (.putfield 72, 3) := by decide +kernel
theorem dX7_init_167 : decode cX7_init 167 = .ok (.aload_n 0, 1) := by decide +kernel
theorem dX7_init_168 : decode cX7_init 168 = .ok (.bipush 90, 2) := by decide +kernel
theorem dX7_init_170 : decode cX7_init 170 = .ok (.newarray .int, 2) := by decide +kernel
theorem dX7_init_172 : decode cX7_init 172 = .ok (.putfield 75, 3) := by decide +kernel
theorem dX7_init_175 : decode cX7_init 175 = .ok (.aload_n 0, 1) := by decide +kernel
theorem dX7_init_176 : decode cX7_init 176 = .ok (.sipush 1000, 3) := by decide +kernel
theorem dX7_init_179 : decode cX7_init 179 = .ok (.newarray .int, 2) := by decide +kernel
theorem dX7_init_181 : decode cX7_init 181 = .ok (.putfield 78, 3) := by decide +kernel
theorem dX7_init_184 : decode cX7_init 184 = .ok (.aload_n 0, 1) := by decide +kernel
theorem dX7_init_185 : decode cX7_init 185 = .ok (.sipush 400, 3) := by decide +kernel
theorem dX7_init_188 : decode cX7_init 188 = .ok (.newarray .int, 2) := by decide +kernel
theorem dX7_init_190 : decode cX7_init 190 = .ok (.putfield 81, 3) := by decide +kernel
theorem dX7_init_193 : decode cX7_init 193 = .ok (.aload_n 0, 1) := by decide +kernel
theorem dX7_init_194 : decode cX7_init 194 = .ok (.sipush 908, 3) := by decide +kernel
theorem dX7_init_197 : decode cX7_init 197 = .ok (.newarray .int, 2) := by decide +kernel
theorem dX7_init_199 : decode cX7_init 199 = .ok (.putfield 84, 3) := by decide +kernel
theorem dX7_init_202 : decode cX7_init 202 = .ok (.aload_n 0, 1) := by decide +kernel
theorem dX7_init_203 : decode cX7_init 203 = .ok (.sipush 1000, 3) := by decide +kernel
theorem dX7_init_206 : decode cX7_init 206 = .ok (.newarray .int, 2) := by decide +kernel
theorem dX7_init_208 : decode cX7_init 208 = .ok (.putfield 87, 3) := by decide +kernel
theorem dX7_init_211 : decode cX7_init 211 = .ok (.aload_n 0, 1) := by decide +kernel
theorem dX7_init_212 : decode cX7_init 212 = .ok (.bipush 16, 2) := by decide +kernel
theorem dX7_init_214 : decode cX7_init 214 = .ok (.newarray .int, 2) := by decide +kernel
theorem dX7_init_216 : decode cX7_init 216 = .ok (.putfield 90, 3) := by decide +kernel
theorem dX7_init_219 : decode cX7_init 219 = .ok (.aload_n 0, 1) := by decide +kernel
theorem dX7_init_220 : decode cX7_init 220 = .ok (.iconst 4, 1) := by decide +kernel
theorem dX7_init_221 : decode cX7_init 221 = .ok (.newarray .int, 2) := by decide +kernel
theorem dX7_init_223 : decode cX7_init 223 = .ok (.putfield 93, 3) := by decide +kernel
theorem dX7_init_226 : decode cX7_init 226 = .ok (.aload_n 0, 1) := by decide +kernel
theorem dX7_init_227 : decode cX7_init 227 = .ok (.bipush 6, 2) := by decide +kernel
theorem dX7_init_229 : decode cX7_init 229 = .ok (.newarray .int, 2) := by decide +kernel
theorem dX7_init_231 : decode cX7_init 231 = .ok (.putfield 96, 3) := by decide +kernel
theorem dX7_init_234 : decode cX7_init 234 = .ok (.aload_n 0, 1) := by decide +kernel
theorem dX7_init_235 : decode cX7_init 235 = .ok (.bipush 6, 2) := by decide +kernel
theorem dX7_init_237 : decode cX7_init 237 = .ok (.newarray .int, 2) := by decide +kernel
theorem dX7_init_239 : decode cX7_init 239 = .ok (.putfield 99, 3) := by decide +kernel
theorem dX7_init_242 : decode cX7_init 242 = .ok (.aload_n 0, 1) := by decide +kernel
theorem dX7_init_243 : decode cX7_init 243 = .ok (.bipush 6, 2) := by decide +kernel
theorem dX7_init_245 : decode cX7_init 245 = .ok (.newarray .int, 2) := by decide +kernel
theorem dX7_init_247 : decode cX7_init 247 = .ok (.putfield 102, 3) := by decide +kernel
theorem dX7_init_250 : decode cX7_init 250 = .ok (.iconst 0, 1) := by decide +kernel
theorem dX7_init_251 : decode cX7_init 251 = .ok (.istore_n 1, 1) := by decide +kernel
theorem dX7_init_252 : decode cX7_init 252 = .ok (.iload_n 1, 1) := by decide +kernel
theorem dX7_init_253 : decode cX7_init 253 = .ok (.iconst 4, 1) := by decide +kernel
theorem dX7_init_254 : decode cX7_init 254 = .ok (.if_icmp .ge 18, 3) := by decide +kernel
theorem dX7_init_257 : decode cX7_init 257 = .ok (.aload_n 0, 1) := by decide +kernel
theorem dX7_init_258 : decode cX7_init 258 = .ok (.iload_n 1, 1) := by decide +kernel
theorem dX7_init_259 : decode cX7_init 259 = .ok (.putfield 105, 3) := by decide +kernel
theorem dX7_init_262 : decode cX7_init 262 = .ok (.aload_n 0, 1) := by decide +kernel
theorem dX7_init_263 : decode cX7_init 263 = .ok (.invokevirtual 109, 3) := by decide +kernel
theorem dX7_init_266 : decode cX7_init 266 = .ok (.iinc 1 1, 3) := by decide +kernel
theorem dX7_init_269 : decode cX7_init 269 = .ok (.goto (-17), 3) := by decide +kernel
theorem dX7_init_272 : decode cX7_init 272 = .ok (.aload_n 0, 1) := by decide +kernel
theorem dX7_init_273 : decode cX7_init 273 = .ok (.iconst 0, 1) := by decide +kernel
theorem dX7_init_274 : decode cX7_init 274 = .ok (.putfield 105, 3) := by decide +kernel
theorem dX7_init_277 : decode cX7_init 277 = .ok (.return_, 1) := by decide +kernel
theorem dX7_within_0 : decode cX7_within 0 = .ok (.iload_n 0, 1) := by decide +kernel
theorem dX7_within_1 : decode cX7_within 1 = .ok (.iload_n 1, 1) := by decide +kernel
theorem dX7_within_2 : decode cX7_within 2 = .ok (.if_icmp .lt 12, 3) := by decide +kernel
theorem dX7_within_5 : decode cX7_within 5 = .ok (.iload_n 0, 1) := by decide +kernel
theorem dX7_within_6 : decode cX7_within 6 = .ok (.iload_n 2, 1) := by decide +kernel
theorem dX7_within_7 : decode cX7_within 7 = .ok (.if_icmp .gt 7, 3) := by decide +kernel
theorem dX7_within_10 : decode cX7_within 10 = .ok (.iconst 1, 1) := by decide +kernel
theorem dX7_within_11 : decode cX7_within 11 = .ok (.goto 4, 3) := by decide +kernel
theorem dX7_within_14 : decode cX7_within 14 = .ok (.iconst 0, 1) := by decide +kernel
theorem dX7_within_15 : decode cX7_within 15 = .ok (.ireturn, 1) := by decide +kernel
theorem dX7_empty_0 : decode cX7_empty 0 = .ok (.iconst 0, 1) := by decide +kernel
theorem dX7_empty_1 : decode cX7_empty 1 = .ok (.istore_n 1, 1) := by decide +kernel
theorem dX7_empty_2 : decode cX7_empty 2 = .ok (.iload_n 1, 1) := by decide +kernel
theorem dX7_empty_3 : decode cX7_empty 3 = .ok (.sipush 180, 3) := by decide +kernel
theorem dX7_empty_6 : decode cX7_empty 6 = .ok (.if_icmp .ge 25, 3) := by decide +kernel
theorem dX7_empty_9 : decode cX7_empty 9 = .ok (.aload_n 0, 1) := by decide +kernel
theorem dX7_empty_10 : decode cX7_empty 10 = .ok (.getfield 7, 3) := by decide +kernel
theorem dX7_empty_13 : decode cX7_empty 13 = .ok (.sipush 180, 3) := by decide +kernel
theorem dX7_empty_16 : decode cX7_empty 16 = .ok (.aload_n 0, 1) := by decide +kernel
theorem dX7_empty_17 : decode cX7_empty 17 = .ok (.getfield 105, 3) := by decide +kernel
theorem dX7_empty_20 : decode cX7_empty 20 = .ok (.imul, 1) := by decide +kernel
theorem dX7_empty_21 : decode cX7_empty 21 = .ok (.iload_n 1, 1) := by decide +kernel
theorem dX7_empty_22 : decode cX7_empty 22 = .ok (.iadd, 1) := by decide +kernel
theorem dX7_empty_23 : decode cX7_empty 23 = .ok (.iconst (-1), 1) := by decide +kernel
theorem dX7_empty_24 : decode cX7_empty 24 = .ok (.iastore, 1) := by decide +kernel
theorem dX7_empty_25 : decode cX7_empty 25 = .ok (.iinc 1 1, 3) := by decide +kernel
theorem dX7_empty_28 : decode cX7_empty 28 = .ok (.goto (-26), 3) := by decide +kernel
theorem dX7_empty_31 : decode cX7_empty 31 = .ok (.iconst 0, 1) := by decide +kernel
theorem dX7_empty_32 : decode cX7_empty 32 = .ok (.istore_n 1, 1) := by decide +kernel
theorem dX7_empty_33 : decode cX7_empty 33 = .ok (.iload_n 1, 1) := by decide +kernel
theorem dX7_empty_34 : decode cX7_empty 34 = .ok (.sipush 540, 3) := by decide +kernel
theorem dX7_empty_37 : decode cX7_empty 37 = .ok (.if_icmp .ge 25, 3) := by decide +kernel
theorem dX7_empty_40 : decode cX7_empty 40 = .ok (.aload_n 0, 1) := by decide +kernel
theorem dX7_empty_41 : decode cX7_empty 41 = .ok (.getfield 13, 3) := by decide +kernel
theorem dX7_empty_44 : decode cX7_empty 44 = .ok (.sipush 540, 3) := by decide +kernel
theorem dX7_empty_47 : decode cX7_empty 47 = .ok (.aload_n 0, 1) := by decide +kernel
theorem dX7_empty_48 : decode cX7_empty 48 = .ok (.getfield 105, 3) := by decide +kernel
theorem dX7_empty_51 : decode cX7_empty 51 = .ok (.imul, 1) := by decide +kernel
theorem dX7_empty_52 : decode cX7_empty 52 = .ok (.iload_n 1, 1) := by decide +kernel
theorem dX7_empty_53 : decode cX7_empty 53 = .ok (.iadd, 1) := by decide +kernel
theorem dX7_empty_54 : decode cX7_empty 54 = .ok (.iconst (-1), 1) := by decide +kernel
theorem dX7_empty_55 : decode cX7_empty 55 = .ok (.iastore, 1) := by decide +kernel
theorem dX7_empty_56 : decode cX7_empty 56 = .ok (.iinc 1 1, 3) := by decide +kernel
theorem dX7_empty_59 : decode cX7_empty 59 = .ok (.goto (-26), 3) := by decide +kernel
theorem dX7_empty_62 : decode cX7_empty 62 = .ok (.iconst 0, 1) := by decide +kernel
theorem dX7_empty_63 : decode cX7_empty 63 = .ok (.istore_n 1, 1) := by decide +kernel
theorem dX7_empty_64 : decode cX7_empty 64 = .ok (.iload_n 1, 1) := by decide +kernel
theorem dX7_empty_65 : decode cX7_empty 65 = .ok (.bipush 8, 2) := by decide +kernel
theorem dX7_empty_67 : decode cX7_empty 67 = .ok (.if_icmp .ge 24, 3) := by decide +kernel
theorem dX7_empty_70 : decode cX7_empty 70 = .ok (.aload_n 0, 1) := by decide +kernel
theorem dX7_empty_71 : decode cX7_empty 71 = .ok (.getfield 16, 3) := by decide +kernel
theorem dX7_empty_74 : decode cX7_empty 74 = .ok (.bipush 8, 2) := by decide +kernel
theorem dX7_empty_76 : decode cX7_empty 76 = .ok (.aload_n 0, 1) := by decide +kernel
theorem dX7_empty_77 : decode cX7_empty 77 = .ok (.getfield 105, 3) := by decide +kernel
theorem dX7_empty_80 : decode cX7_empty 80 = .ok (.imul, 1) := by decide +kernel
theorem dX7_empty_81 : decode cX7_empty 81 = .ok (.iload_n 1, 1) := by decide +kernel
theorem dX7_empty_82 : decode cX7_empty 82 = .ok (.iadd, 1) := by decide +kernel
theorem dX7_empty_83 : decode cX7_empty 83 = .ok (.iconst (-1), 1) := by decide +kernel
theorem dX7_empty_84 : decode cX7_empty 84 = .ok (.iastore, 1) := by decide +kernel
theorem dX7_empty_85 : decode cX7_empty 85 = .ok (.iinc 1 1, 3) := by decide +kernel
theorem dX7_empty_88 : decode cX7_empty 88 = .ok (.goto (-24), 3) := by decide +kernel
theorem dX7_empty_91 : decode cX7_empty 91 = .ok (.aload_n 0, 1) := by decide +kernel
theorem dX7_empty_92 : decode cX7_empty 92 = .ok (.getfield 19, 3) := by decide +kernel
theorem dX7_empty_95 : decode cX7_empty 95 = .ok (.aload_n 0, 1) := by decide +kernel
theorem dX7_empty_96 : decode cX7_empty 96 = .ok (.getfield 105, 3) := by decide +kernel
theorem dX7_empty_99 : decode cX7_empty 99 = .ok (.iconst 0, 1) := by decide +kernel
theorem dX7_empty_100 : decode cX7_empty 100 = .ok (.iastore, 1) := by decide +kernel
theorem dX7_empty_101 : decode cX7_empty 101 = .ok (.return_, 1) := by decide +kernel
theorem dX7_copy_0 : decode cX7_copy 0 = .ok (.iconst 0, 1) := by decide +kernel
theorem dX7_copy_1 : decode cX7_copy 1 = .ok (.istore_n 3, 1) := by decide +kernel
theorem dX7_copy_2 : decode cX7_copy 2 = .ok (.iload_n 3, 1) := by decide +kernel
theorem dX7_copy_3 : decode cX7_copy 3 = .ok (.sipush 180, 3) := by decide +kernel
theorem dX7_copy_6 : decode cX7_copy 6 = .ok (.if_icmp .ge 33, 3) := by decide +kernel
theorem dX7_copy_9 : decode cX7_copy 9 = .ok (.aload_n 0, 1) := by decide +kernel
theorem dX7_copy_10 : decode cX7_copy 10 = .ok (.getfield 7, 3) := by decide +kernel
theorem dX7_copy_13 : decode cX7_copy 13 = .ok (.sipush 180, 3) := by decide +kernel
theorem dX7_copy_16 : decode cX7_copy 16 = .ok (.iload_n 1, 1) := by decide +kernel
theorem dX7_copy_17 : decode cX7_copy 17 = .ok (.imul, 1) := by decide +kernel
theorem dX7_copy_18 : decode cX7_copy 18 = .ok (.iload_n 3, 1) := by decide +kernel
theorem dX7_copy_19 : decode cX7_copy 19 = .ok (.iadd, 1) := by decide +kernel
theorem dX7_copy_20 : decode cX7_copy 20 = .ok (.aload_n 0, 1) := by decide +kernel
theorem dX7_copy_21 : decode cX7_copy 21 = .ok (.getfield 7, 3) := by decide +kernel
theorem dX7_copy_24 : decode cX7_copy 24 = .ok (.sipush 180, 3) := by decide +kernel
theorem dX7_copy_27 : decode cX7_copy 27 = .ok (.iload_n 2, 1) := by decide +kernel
theorem dX7_copy_28 : decode cX7_copy 28 = .ok (.imul, 1) := by decide +kernel
theorem dX7_copy_29 : decode cX7_copy 29 = .ok (.iload_n 3, 1) := by decide +kernel
theorem dX7_copy_30 : decode cX7_copy 30 = .ok (.iadd, 1) := by decide +kernel
theorem dX7_copy_31 : decode cX7_copy 31 = .ok (.iaload, 1) := by decide +kernel
theorem dX7_copy_32 : decode cX7_copy 32 = .ok (.iastore, 1) := by decide +kernel
theorem dX7_copy_33 : decode cX7_copy 33 = .ok (.iinc 3 1, 3) := by decide +kernel
theorem dX7_copy_36 : decode cX7_copy 36 = .ok (.goto (-34), 3) := by decide +kernel
theorem dX7_copy_39 : decode cX7_copy 39 = .ok (.iconst 0, 1) := by decide +kernel
theorem dX7_copy_40 : decode cX7_copy 40 = .ok (.istore_n 3, 1) := by decide +kernel
theorem dX7_copy_41 : decode cX7_copy 41 = .ok (.iload_n 3, 1) := by decide +kernel
theorem dX7_copy_42 : decode cX7_copy 42 = .ok (.sipush 540, 3) := by decide +kernel
theorem dX7_copy_45 : decode cX7_copy 45 = .ok (.if_icmp .ge 33, 3) := by decide +kernel
theorem dX7_copy_48 : decode cX7_copy 48 = .ok (.aload_n 0, 1) := by decide +kernel
theorem dX7_copy_49 : decode cX7_copy 49 = .ok (.getfield 13, 3) := by decide +kernel
theorem dX7_copy_52 : decode cX7_copy 52 = .ok (.sipush 540, 3) := by decide +kernel
theorem dX7_copy_55 : decode cX7_copy 55 = .ok (.iload_n 1, 1) := by decide +kernel
theorem dX7_copy_56 : decode cX7_copy 56 = .ok (.imul, 1) := by decide +kernel
theorem dX7_copy_57 : decode cX7_copy 57 = .ok (.iload_n 3, 1) := by decide +kernel
theorem dX7_copy_58 : decode cX7_copy 58 = .ok (.iadd, 1) := by decide +kernel
theorem dX7_copy_59 : decode cX7_copy 59 = .ok (.aload_n 0, 1) := by decide +kernel
theorem dX7_copy_60 : decode cX7_copy 60 = .ok (.getfield 13, 3) := by decide +kernel
theorem dX7_copy_63 : decode cX7_copy 63 = .ok (.sipush 540, 3) := by decide +kernel
theorem dX7_copy_66 : decode cX7_copy 66 = .ok (.iload_n 2, 1) := by decide +kernel
theorem dX7_copy_67 : decode cX7_copy 67 = .ok (.imul, 1) := by decide +kernel
theorem dX7_copy_68 : decode cX7_copy 68 = .ok (.iload_n 3, 1) := by decide +kernel
theorem dX7_copy_69 : decode cX7_copy 69 = .ok (.iadd, 1) := by decide +kernel
theorem dX7_copy_70 : decode cX7_copy 70 = .ok (.iaload, 1) := by decide +kernel
theorem dX7_copy_71 : decode cX7_copy 71 = .ok (.iastore, 1) := by decide +kernel
theorem dX7_copy_72 : decode cX7_copy 72 = .ok (.iinc 3 1, 3) := by decide +kernel
theorem dX7_copy_75 : decode cX7_copy 75 = .ok (.goto (-34), 3) := by decide +kernel
theorem dX7_copy_78 : decode cX7_copy 78 = .ok (.iconst 0, 1) := by decide +kernel
theorem dX7_copy_79 : decode cX7_copy 79 = .ok (.istore_n 3, 1) := by decide +kernel
theorem dX7_copy_80 : decode cX7_copy 80 = .ok (.iload_n 3, 1) := by decide +kernel
theorem dX7_copy_81 : decode cX7_copy 81 = .ok (.bipush 8, 2) := by decide +kernel
theorem dX7_copy_83 : decode cX7_copy 83 = .ok (.if_icmp .ge 31, 3) := by decide +kernel
theorem dX7_copy_86 : decode cX7_copy 86 = .ok (.aload_n 0, 1) := by decide +kernel
theorem dX7_copy_87 : decode cX7_copy 87 = .ok (.getfield 16, 3) := by decide +kernel
theorem dX7_copy_90 : decode cX7_copy 90 = .ok (.bipush 8, 2) := by decide +kernel
theorem dX7_copy_92 : decode cX7_copy 92 = .ok (.iload_n 1, 1) := by decide +kernel
theorem dX7_copy_93 : decode cX7_copy 93 = .ok (.imul, 1) := by decide +kernel
theorem dX7_copy_94 : decode cX7_copy 94 = .ok (.iload_n 3, 1) := by decide +kernel
theorem dX7_copy_95 : decode cX7_copy 95 = .ok (.iadd, 1) := by decide +kernel
theorem dX7_copy_96 : decode cX7_copy 96 = .ok (.aload_n 0, 1) := by decide +kernel
theorem dX7_copy_97 : decode cX7_copy 97 = .ok (.getfield 16, 3) := by decide +kernel
theorem dX7_copy_100 : decode cX7_copy 100 = .ok (.bipush 8, 2) := by decide +kernel
theorem dX7_copy_102 : decode cX7_copy 102 = .ok (.iload_n 2, 1) := by decide +kernel
theorem dX7_copy_103 : decode cX7_copy 103 = .ok (.imul, 1) := by decide +kernel
theorem dX7_copy_104 : decode cX7_copy 104 = .ok (.iload_n 3, 1) := by decide +kernel
theorem dX7_copy_105 : decode cX7_copy 105 = .ok (.iadd, 1) := by decide +kernel
theorem dX7_copy_106 : decode cX7_copy 106 = .ok (.iaload, 1) := by decide +kernel
theorem dX7_copy_107 : decode cX7_copy 107 = .ok (.iastore, 1) := by decide +kernel
theorem dX7_copy_108 : decode cX7_copy 108 = .ok (.iinc 3 1, 3) := by decide +kernel
theorem dX7_copy_111 : decode cX7_copy 111 = .ok (.goto (-31), 3) := by decide +kernel
theorem dX7_copy_114 : decode cX7_copy 114 = .ok (.aload_n 0, 1) := by decide +kernel
theorem dX7_copy_115 : decode cX7_copy 115 = .ok (.getfield 19, 3) := by decide +kernel
theorem dX7_copy_118 : decode cX7_copy 118 = .ok (.iload_n 1, 1) := by decide +kernel
theorem dX7_copy_119 : decode cX7_copy 119 = .ok (.aload_n 0, 1) := by decide +kernel
theorem dX7_copy_120 : decode cX7_copy 120 = .ok (.getfield 19, 3) := by decide +kernel
theorem dX7_copy_123 : decode cX7_copy 123 = .ok (.iload_n 2, 1) := by decide +kernel
theorem dX7_copy_124 : decode cX7_copy 124 = .ok (.iaload, 1) := by decide +kernel
theorem dX7_copy_125 : decode cX7_copy 125 = .ok (.iastore, 1) := by decide +kernel
theorem dX7_copy_126 : decode cX7_copy 126 = .ok (.return_, 1) := by decide +kernel
theorem dX7_kindOf_0 : decode cX7_kindOf 0 = .ok (.aload_n 0, 1) := by decide +kernel
theorem dX7_kindOf_1 : decode cX7_kindOf 1 = .ok (.getfield 7, 3) := by decide +kernel
theorem dX7_kindOf_4 : decode cX7_kindOf 4 = .ok (.sipush 180, 3) := by decide +kernel
theorem dX7_kindOf_7 : decode cX7_kindOf 7 = .ok (.aload_n 0, 1) := by decide +kernel
theorem dX7_kindOf_8 : decode cX7_kindOf 8 = .ok (.getfield 105, 3) := by decide +kernel
theorem dX7_kindOf_11 : decode cX7_kindOf 11 = .ok (.imul, 1) := by decide +kernel
theorem dX7_kindOf_12 : decode cX7_kindOf 12 = .ok (.iload_n 1, 1) := by decide +kernel
theorem dX7_kindOf_13 : decode cX7_kindOf 13 = .ok (.iadd, 1) := by decide +kernel
theorem dX7_kindOf_14 : decode cX7_kindOf 14 = .ok (.iaload, 1) := by decide +kernel
theorem dX7_kindOf_15 : decode cX7_kindOf 15 = .ok (.ireturn, 1) := by decide +kernel
theorem dX7_isThere_0 : decode cX7_isThere 0 = .ok (.iload_n 1, 1) := by decide +kernel
theorem dX7_isThere_1 : decode cX7_isThere 1 = .ok (.iconst 0, 1) := by decide +kernel
theorem dX7_isThere_2 : decode cX7_isThere 2 = .ok (.sipush 179, 3) := by decide +kernel
theorem dX7_isThere_5 : decode cX7_isThere 5 = .ok (.invokestatic 112, 3) := by decide +kernel
theorem dX7_isThere_8 : decode cX7_isThere 8 = .ok (.ifCond .eq 16, 3) := by decide +kernel
theorem dX7_isThere_11 : decode cX7_isThere 11 = .ok (.aload_n 0, 1) := by decide +kernel
theorem dX7_isThere_12 : decode cX7_isThere 12 = .ok (.iload_n 1, 1) := by decide +kernel
theorem dX7_isThere_13 : decode cX7_isThere 13 = .ok (.invokevirtual 116, 3) := by decide +kernel
theorem dX7_isThere_16 : decode cX7_isThere 16 = .ok (.iconst (-1), 1) := by decide +kernel
theorem dX7_isThere_17 : decode cX7_isThere 17 = .ok (.if_icmp .eq 7, 3) := by decide +kernel
theorem dX7_isThere_20 : decode cX7_isThere 20 = .ok (.iconst 1, 1) := by decide +kernel
theorem dX7_isThere_21 : decode cX7_isThere 21 = .ok (.goto 4, 3) := by decide +kernel
theorem dX7_isThere_24 : decode cX7_isThere 24 = .ok (.iconst 0, 1) := by decide +kernel
theorem dX7_isThere_25 : decode cX7_isThere 25 = .ok (.ireturn, 1) := by decide +kernel
theorem dX7_isBracket_0 : decode cX7_isBracket 0 = .ok (.aload_n 0, 1) := by decide +kernel
theorem dX7_isBracket_1 : decode cX7_isBracket 1 = .ok (.iload_n 1, 1) := by decide +kernel
theorem dX7_isBracket_2 : decode cX7_isBracket 2 = .ok (.invokevirtual 120, 3) := by decide +kernel
theorem dX7_isBracket_5 : decode cX7_isBracket 5 = .ok (.ifCond .eq 15, 3) := by decide +kernel
theorem dX7_isBracket_8 : decode cX7_isBracket 8 = .ok (.aload_n 0, 1) := by decide +kernel
theorem dX7_isBracket_9 : decode cX7_isBracket 9 = .ok (.iload_n 1, 1) := by decide +kernel
theorem dX7_isBracket_10 : decode cX7_isBracket 10 = .ok (.invokevirtual 116, 3) := by decide +kernel
theorem dX7_isBracket_13 : decode cX7_isBracket 13 = .ok (.ifCond .eq 7, 3) := by decide +kernel
theorem dX7_isBracket_16 : decode cX7_isBracket 16 = .ok (.iconst 1, 1) := by decide +kernel
theorem dX7_isBracket_17 : decode cX7_isBracket 17 = .ok (.goto 4, 3) := by decide +kernel
theorem dX7_isBracket_20 : decode cX7_isBracket 20 = .ok (.iconst 0, 1) := by decide +kernel
theorem dX7_isBracket_21 : decode cX7_isBracket 21 = .ok (.ireturn, 1) := by decide +kernel
theorem dX7_at_0 : decode cX7_at 0 = .ok (.iload_n 1, 1) := by decide +kernel
theorem dX7_at_1 : decode cX7_at 1 = .ok (.sipush 900, 3) := by decide +kernel
theorem dX7_at_4 : decode cX7_at 4 = .ok (.if_icmp .lt 24, 3) := by decide +kernel
theorem dX7_at_7 : decode cX7_at 7 = .ok (.aload_n 0, 1) := by decide +kernel
theorem dX7_at_8 : decode cX7_at 8 = .ok (.getfield 16, 3) := by decide +kernel
theorem dX7_at_11 : decode cX7_at 11 = .ok (.bipush 8, 2) := by decide +kernel
theorem dX7_at_13 : decode cX7_at 13 = .ok (.aload_n 0, 1) := by decide +kernel
theorem dX7_at_14 : decode cX7_at 14 = .ok (.getfield 105, 3) := by decide +kernel
theorem dX7_at_17 : decode cX7_at 17 = .ok (.imul, 1) := by decide +kernel
theorem dX7_at_18 : decode cX7_at 18 = .ok (.iload_n 1, 1) := by decide +kernel
theorem dX7_at_19 : decode cX7_at 19 = .ok (.iadd, 1) := by decide +kernel
theorem dX7_at_20 : decode cX7_at 20 = .ok (.sipush 900, 3) := by decide +kernel
theorem dX7_at_23 : decode cX7_at 23 = .ok (.isub, 1) := by decide +kernel
theorem dX7_at_24 : decode cX7_at 24 = .ok (.iaload, 1) := by decide +kernel
theorem dX7_at_25 : decode cX7_at 25 = .ok (.goto 18, 3) := by decide +kernel
theorem dX7_at_28 : decode cX7_at 28 = .ok (.aload_n 0, 1) := by decide +kernel
theorem dX7_at_29 : decode cX7_at 29 = .ok (.getfield 13, 3) := by decide +kernel
theorem dX7_at_32 : decode cX7_at 32 = .ok (.sipush 540, 3) := by decide +kernel
theorem dX7_at_35 : decode cX7_at 35 = .ok (.aload_n 0, 1) := by decide +kernel
theorem dX7_at_36 : decode cX7_at 36 = .ok (.getfield 105, 3) := by decide +kernel
theorem dX7_at_39 : decode cX7_at 39 = .ok (.imul, 1) := by decide +kernel
theorem dX7_at_40 : decode cX7_at 40 = .ok (.iload_n 1, 1) := by decide +kernel
theorem dX7_at_41 : decode cX7_at 41 = .ok (.iadd, 1) := by decide +kernel
theorem dX7_at_42 : decode cX7_at 42 = .ok (.iaload, 1) := by decide +kernel
theorem dX7_at_43 : decode cX7_at 43 = .ok (.ireturn, 1) := by decide +kernel
theorem dX7_set_0 : decode cX7_set 0 = .ok (.iload_n 1, 1) := by decide +kernel
theorem dX7_set_1 : decode cX7_set 1 = .ok (.sipush 900, 3) := by decide +kernel
theorem dX7_set_4 : decode cX7_set 4 = .ok (.if_icmp .lt 25, 3) := by decide +kernel
theorem dX7_set_7 : decode cX7_set 7 = .ok (.aload_n 0, 1) := by decide +kernel
theorem dX7_set_8 : decode cX7_set 8 = .ok (.getfield 16, 3) := by decide +kernel
theorem dX7_set_11 : decode cX7_set 11 = .ok (.bipush 8, 2) := by decide +kernel
theorem dX7_set_13 : decode cX7_set 13 = .ok (.aload_n 0, 1) := by decide +kernel
theorem dX7_set_14 : decode cX7_set 14 = .ok (.getfield 105, 3) := by decide +kernel
theorem dX7_set_17 : decode cX7_set 17 = .ok (.imul, 1) := by decide +kernel
theorem dX7_set_18 : decode cX7_set 18 = .ok (.iload_n 1, 1) := by decide +kernel
theorem dX7_set_19 : decode cX7_set 19 = .ok (.iadd, 1) := by decide +kernel
theorem dX7_set_20 : decode cX7_set 20 = .ok (.sipush 900, 3) := by decide +kernel
theorem dX7_set_23 : decode cX7_set 23 = .ok (.isub, 1) := by decide +kernel
theorem dX7_set_24 : decode cX7_set 24 = .ok (.iload_n 2, 1) := by decide +kernel
theorem dX7_set_25 : decode cX7_set 25 = .ok (.iastore, 1) := by decide +kernel
theorem dX7_set_26 : decode cX7_set 26 = .ok (.goto 19, 3) := by decide +kernel
theorem dX7_set_29 : decode cX7_set 29 = .ok (.aload_n 0, 1) := by decide +kernel
theorem dX7_set_30 : decode cX7_set 30 = .ok (.getfield 13, 3) := by decide +kernel
theorem dX7_set_33 : decode cX7_set 33 = .ok (.sipush 540, 3) := by decide +kernel
theorem dX7_set_36 : decode cX7_set 36 = .ok (.aload_n 0, 1) := by decide +kernel
theorem dX7_set_37 : decode cX7_set 37 = .ok (.getfield 105, 3) := by decide +kernel
theorem dX7_set_40 : decode cX7_set 40 = .ok (.imul, 1) := by decide +kernel
theorem dX7_set_41 : decode cX7_set 41 = .ok (.iload_n 1, 1) := by decide +kernel
theorem dX7_set_42 : decode cX7_set 42 = .ok (.iadd, 1) := by decide +kernel
theorem dX7_set_43 : decode cX7_set 43 = .ok (.iload_n 2, 1) := by decide +kernel
theorem dX7_set_44 : decode cX7_set 44 = .ok (.iastore, 1) := by decide +kernel
theorem dX7_set_45 : decode cX7_set 45 = .ok (.return_, 1) := by decide +kernel
theorem dX7_wire_0 : decode cX7_wire 0 = .ok (.aload_n 0, 1) := by decide +kernel
theorem dX7_wire_1 : decode cX7_wire 1 = .ok (.iload_n 1, 1) := by decide +kernel
theorem dX7_wire_2 : decode cX7_wire 2 = .ok (.iload_n 2, 1) := by decide +kernel
theorem dX7_wire_3 : decode cX7_wire 3 = .ok (.invokevirtual 124, 3) := by decide +kernel
theorem dX7_wire_6 : decode cX7_wire 6 = .ok (.aload_n 0, 1) := by decide +kernel
theorem dX7_wire_7 : decode cX7_wire 7 = .ok (.iload_n 2, 1) := by decide +kernel
theorem dX7_wire_8 : decode cX7_wire 8 = .ok (.iload_n 1, 1) := by decide +kernel
theorem dX7_wire_9 : decode cX7_wire 9 = .ok (.invokevirtual 124, 3) := by decide +kernel
theorem dX7_wire_12 : decode cX7_wire 12 = .ok (.return_, 1) := by decide +kernel
theorem dX7_isOpen_0 : decode cX7_isOpen 0 = .ok (.iload_n 1, 1) := by decide +kernel
theorem dX7_isOpen_1 : decode cX7_isOpen 1 = .ok (.iconst 0, 1) := by decide +kernel
theorem dX7_isOpen_2 : decode cX7_isOpen 2 = .ok (.bipush 7, 2) := by decide +kernel
theorem dX7_isOpen_4 : decode cX7_isOpen 4 = .ok (.invokestatic 112, 3) := by decide +kernel
theorem dX7_isOpen_7 : decode cX7_isOpen 7 = .ok (.ifCond .eq 25, 3) := by decide +kernel
theorem dX7_isOpen_10 : decode cX7_isOpen 10 = .ok (.aload_n 0, 1) := by decide +kernel
theorem dX7_isOpen_11 : decode cX7_isOpen 11 = .ok (.getfield 16, 3) := by decide +kernel
theorem dX7_isOpen_14 : decode cX7_isOpen 14 = .ok (.bipush 8, 2) := by decide +kernel
theorem dX7_isOpen_16 : decode cX7_isOpen 16 = .ok (.aload_n 0, 1) := by decide +kernel
theorem dX7_isOpen_17 : decode cX7_isOpen 17 = .ok (.getfield 105, 3) := by decide +kernel
theorem dX7_isOpen_20 : decode cX7_isOpen 20 = .ok (.imul, 1) := by decide +kernel
theorem dX7_isOpen_21 : decode cX7_isOpen 21 = .ok (.iload_n 1, 1) := by decide +kernel
theorem dX7_isOpen_22 : decode cX7_isOpen 22 = .ok (.iadd, 1) := by decide +kernel
theorem dX7_isOpen_23 : decode cX7_isOpen 23 = .ok (.iaload, 1) := by decide +kernel
theorem dX7_isOpen_24 : decode cX7_isOpen 24 = .ok (.iconst (-1), 1) := by decide +kernel
theorem dX7_isOpen_25 : decode cX7_isOpen 25 = .ok (.if_icmp .eq 7, 3) := by decide +kernel
theorem dX7_isOpen_28 : decode cX7_isOpen 28 = .ok (.iconst 1, 1) := by decide +kernel
theorem dX7_isOpen_29 : decode cX7_isOpen 29 = .ok (.goto 4, 3) := by decide +kernel
theorem dX7_isOpen_32 : decode cX7_isOpen 32 = .ok (.iconst 0, 1) := by decide +kernel
theorem dX7_isOpen_33 : decode cX7_isOpen 33 = .ok (.ireturn, 1) := by decide +kernel
theorem dX7_made_0 : decode cX7_made 0 = .ok (.iconst 0, 1) := by decide +kernel
theorem dX7_made_1 : decode cX7_made 1 = .ok (.istore_n 2, 1) := by decide +kernel
theorem dX7_made_2 : decode cX7_made 2 = .ok (.aload_n 0, 1) := by decide +kernel
theorem dX7_made_3 : decode cX7_made 3 = .ok (.iload_n 2, 1) := by decide +kernel
theorem dX7_made_4 : decode cX7_made 4 = .ok (.invokevirtual 116, 3) := by decide +kernel
theorem dX7_made_7 : decode cX7_made 7 = .ok (.iconst (-1), 1) := by decide +kernel
theorem dX7_made_8 : decode cX7_made 8 = .ok (.if_icmp .eq 9, 3) := by decide +kernel
theorem dX7_made_11 : decode cX7_made 11 = .ok (.iinc 2 1, 3) := by decide +kernel
theorem dX7_made_14 : decode cX7_made 14 = .ok (.goto (-12), 3) := by decide +kernel
theorem dX7_made_17 : decode cX7_made 17 = .ok (.aload_n 0, 1) := by decide +kernel
theorem dX7_made_18 : decode cX7_made 18 = .ok (.getfield 7, 3) := by decide +kernel
theorem dX7_made_21 : decode cX7_made 21 = .ok (.sipush 180, 3) := by decide +kernel
theorem dX7_made_24 : decode cX7_made 24 = .ok (.aload_n 0, 1) := by decide +kernel
theorem dX7_made_25 : decode cX7_made 25 = .ok (.getfield 105, 3) := by decide +kernel
theorem dX7_made_28 : decode cX7_made 28 = .ok (.imul, 1) := by decide +kernel
theorem dX7_made_29 : decode cX7_made 29 = .ok (.iload_n 2, 1) := by decide +kernel
theorem dX7_made_30 : decode cX7_made 30 = .ok (.iadd, 1) := by decide +kernel
theorem dX7_made_31 : decode cX7_made 31 = .ok (.iload_n 1, 1) := by decide +kernel
theorem dX7_made_32 : decode cX7_made 32 = .ok (.iastore, 1) := by decide +kernel
theorem dX7_made_33 : decode cX7_made 33 = .ok (.iload_n 2, 1) := by decide +kernel
theorem dX7_made_34 : decode cX7_made 34 = .ok (.ireturn, 1) := by decide +kernel
theorem dX7_vanish_0 : decode cX7_vanish 0 = .ok (.aload_n 0, 1) := by decide +kernel
theorem dX7_vanish_1 : decode cX7_vanish 1 = .ok (.getfield 7, 3) := by decide +kernel
theorem dX7_vanish_4 : decode cX7_vanish 4 = .ok (.sipush 180, 3) := by decide +kernel
theorem dX7_vanish_7 : decode cX7_vanish 7 = .ok (.aload_n 0, 1) := by decide +kernel
theorem dX7_vanish_8 : decode cX7_vanish 8 = .ok (.getfield 105, 3) := by decide +kernel
theorem dX7_vanish_11 : decode cX7_vanish 11 = .ok (.imul, 1) := by decide +kernel
theorem dX7_vanish_12 : decode cX7_vanish 12 = .ok (.iload_n 1, 1) := by decide +kernel
theorem dX7_vanish_13 : decode cX7_vanish 13 = .ok (.iadd, 1) := by decide +kernel
theorem dX7_vanish_14 : decode cX7_vanish 14 = .ok (.iconst (-1), 1) := by decide +kernel
theorem dX7_vanish_15 : decode cX7_vanish 15 = .ok (.iastore, 1) := by decide +kernel
theorem dX7_vanish_16 : decode cX7_vanish 16 = .ok (.iconst 3, 1) := by decide +kernel
theorem dX7_vanish_17 : decode cX7_vanish 17 = .ok (.iload_n 1, 1) := by decide +kernel
theorem dX7_vanish_18 : decode cX7_vanish 18 = .ok (.imul, 1) := by decide +kernel
theorem dX7_vanish_19 : decode cX7_vanish 19 = .ok (.istore_n 2, 1) := by decide +kernel
theorem dX7_vanish_20 : decode cX7_vanish 20 = .ok (.iload_n 2, 1) := by decide +kernel
theorem dX7_vanish_21 : decode cX7_vanish 21 = .ok (.iconst 3, 1) := by decide +kernel
theorem dX7_vanish_22 : decode cX7_vanish 22 = .ok (.iload_n 1, 1) := by decide +kernel
theorem dX7_vanish_23 : decode cX7_vanish 23 = .ok (.imul, 1) := by decide +kernel
theorem dX7_vanish_24 : decode cX7_vanish 24 = .ok (.iconst 3, 1) := by decide +kernel
theorem dX7_vanish_25 : decode cX7_vanish 25 = .ok (.iadd, 1) := by decide +kernel
theorem dX7_vanish_26 : decode cX7_vanish 26 = .ok (.if_icmp .ge 25, 3) := by decide +kernel
theorem dX7_vanish_29 : decode cX7_vanish 29 = .ok (.aload_n 0, 1) := by decide +kernel
theorem dX7_vanish_30 : decode cX7_vanish 30 = .ok (.getfield 13, 3) := by decide +kernel
theorem dX7_vanish_33 : decode cX7_vanish 33 = .ok (.sipush 540, 3) := by decide +kernel
theorem dX7_vanish_36 : decode cX7_vanish 36 = .ok (.aload_n 0, 1) := by decide +kernel
theorem dX7_vanish_37 : decode cX7_vanish 37 = .ok (.getfield 105, 3) := by decide +kernel
theorem dX7_vanish_40 : decode cX7_vanish 40 = .ok (.imul, 1) := by decide +kernel
theorem dX7_vanish_41 : decode cX7_vanish 41 = .ok (.iload_n 2, 1) := by decide +kernel
theorem dX7_vanish_42 : decode cX7_vanish 42 = .ok (.iadd, 1) := by decide +kernel
theorem dX7_vanish_43 : decode cX7_vanish 43 = .ok (.iconst (-1), 1) := by decide +kernel
theorem dX7_vanish_44 : decode cX7_vanish 44 = .ok (.iastore, 1) := by decide +kernel
theorem dX7_vanish_45 : decode cX7_vanish 45 = .ok (.iinc 2 1, 3) := by decide +kernel
theorem dX7_vanish_48 : decode cX7_vanish 48 = .ok (.goto (-28), 3) := by decide +kernel
theorem dX7_vanish_51 : decode cX7_vanish 51 = .ok (.return_, 1) := by decide +kernel
theorem dX7_nodes_0 : decode cX7_nodes 0 = .ok (.iconst 0, 1) := by decide +kernel
theorem dX7_nodes_1 : decode cX7_nodes 1 = .ok (.istore_n 1, 1) := by decide +kernel
theorem dX7_nodes_2 : decode cX7_nodes 2 = .ok (.iconst 0, 1) := by decide +kernel
theorem dX7_nodes_3 : decode cX7_nodes 3 = .ok (.istore_n 2, 1) := by decide +kernel
theorem dX7_nodes_4 : decode cX7_nodes 4 = .ok (.iload_n 2, 1) := by decide +kernel
theorem dX7_nodes_5 : decode cX7_nodes 5 = .ok (.sipush 180, 3) := by decide +kernel
theorem dX7_nodes_8 : decode cX7_nodes 8 = .ok (.if_icmp .ge 26, 3) := by decide +kernel
theorem dX7_nodes_11 : decode cX7_nodes 11 = .ok (.iload_n 1, 1) := by decide +kernel
theorem dX7_nodes_12 : decode cX7_nodes 12 = .ok (.aload_n 0, 1) := by decide +kernel
theorem dX7_nodes_13 : decode cX7_nodes 13 = .ok (.iload_n 2, 1) := by decide +kernel
theorem dX7_nodes_14 : decode cX7_nodes 14 = .ok (.invokevirtual 116, 3) := by decide +kernel
theorem dX7_nodes_17 : decode cX7_nodes 17 = .ok (.iconst (-1), 1) := by decide +kernel
theorem dX7_nodes_18 : decode cX7_nodes 18 = .ok (.if_icmp .ne 7, 3) := by decide +kernel
theorem dX7_nodes_21 : decode cX7_nodes 21 = .ok (.iconst 0, 1) := by decide +kernel
theorem dX7_nodes_22 : decode cX7_nodes 22 = .ok (.goto 4, 3) := by decide +kernel
theorem dX7_nodes_25 : decode cX7_nodes 25 = .ok (.iconst 1, 1) := by decide +kernel
theorem dX7_nodes_26 : decode cX7_nodes 26 = .ok (.iadd, 1) := by decide +kernel
theorem dX7_nodes_27 : decode cX7_nodes 27 = .ok (.istore_n 1, 1) := by decide +kernel
theorem dX7_nodes_28 : decode cX7_nodes 28 = .ok (.iinc 2 1, 3) := by decide +kernel
theorem dX7_nodes_31 : decode cX7_nodes 31 = .ok (.goto (-27), 3) := by decide +kernel
theorem dX7_nodes_34 : decode cX7_nodes 34 = .ok (.iload_n 1, 1) := by decide +kernel
theorem dX7_nodes_35 : decode cX7_nodes 35 = .ok (.ireturn, 1) := by decide +kernel
theorem dX7_ofKind_0 : decode cX7_ofKind 0 = .ok (.iconst 0, 1) := by decide +kernel
theorem dX7_ofKind_1 : decode cX7_ofKind 1 = .ok (.istore_n 2, 1) := by decide +kernel
theorem dX7_ofKind_2 : decode cX7_ofKind 2 = .ok (.iconst 0, 1) := by decide +kernel
theorem dX7_ofKind_3 : decode cX7_ofKind 3 = .ok (.istore_n 3, 1) := by decide +kernel
theorem dX7_ofKind_4 : decode cX7_ofKind 4 = .ok (.iload_n 3, 1) := by decide +kernel
theorem dX7_ofKind_5 : decode cX7_ofKind 5 = .ok (.sipush 180, 3) := by decide +kernel
theorem dX7_ofKind_8 : decode cX7_ofKind 8 = .ok (.if_icmp .ge 26, 3) := by decide +kernel
theorem dX7_ofKind_11 : decode cX7_ofKind 11 = .ok (.iload_n 2, 1) := by decide +kernel
theorem dX7_ofKind_12 : decode cX7_ofKind 12 = .ok (.aload_n 0, 1) := by decide +kernel
theorem dX7_ofKind_13 : decode cX7_ofKind 13 = .ok (.iload_n 3, 1) := by decide +kernel
theorem dX7_ofKind_14 : decode cX7_ofKind 14 = .ok (.invokevirtual 116, 3) := by decide +kernel
theorem dX7_ofKind_17 : decode cX7_ofKind 17 = .ok (.iload_n 1, 1) := by decide +kernel
theorem dX7_ofKind_18 : decode cX7_ofKind 18 = .ok (.if_icmp .ne 7, 3) := by decide +kernel
theorem dX7_ofKind_21 : decode cX7_ofKind 21 = .ok (.iconst 1, 1) := by decide +kernel
theorem dX7_ofKind_22 : decode cX7_ofKind 22 = .ok (.goto 4, 3) := by decide +kernel
theorem dX7_ofKind_25 : decode cX7_ofKind 25 = .ok (.iconst 0, 1) := by decide +kernel
theorem dX7_ofKind_26 : decode cX7_ofKind 26 = .ok (.iadd, 1) := by decide +kernel
theorem dX7_ofKind_27 : decode cX7_ofKind 27 = .ok (.istore_n 2, 1) := by decide +kernel
theorem dX7_ofKind_28 : decode cX7_ofKind 28 = .ok (.iinc 3 1, 3) := by decide +kernel
theorem dX7_ofKind_31 : decode cX7_ofKind 31 = .ok (.goto (-27), 3) := by decide +kernel
theorem dX7_ofKind_34 : decode cX7_ofKind 34 = .ok (.iload_n 2, 1) := by decide +kernel
theorem dX7_ofKind_35 : decode cX7_ofKind 35 = .ok (.ireturn, 1) := by decide +kernel
theorem dX7_meets_0 : decode cX7_meets 0 = .ok (.aload_n 0, 1) := by decide +kernel
theorem dX7_meets_1 : decode cX7_meets 1 = .ok (.iconst 3, 1) := by decide +kernel
theorem dX7_meets_2 : decode cX7_meets 2 = .ok (.iload_n 1, 1) := by decide +kernel
theorem dX7_meets_3 : decode cX7_meets 3 = .ok (.imul, 1) := by decide +kernel
theorem dX7_meets_4 : decode cX7_meets 4 = .ok (.invokevirtual 128, 3) := by decide +kernel
theorem dX7_meets_7 : decode cX7_meets 7 = .ok (.istore_n 2, 1) := by decide +kernel
theorem dX7_meets_8 : decode cX7_meets 8 = .ok (.iload_n 2, 1) := by decide +kernel
theorem dX7_meets_9 : decode cX7_meets 9 = .ok (.iconst 0, 1) := by decide +kernel
theorem dX7_meets_10 : decode cX7_meets 10 = .ok (.sipush 539, 3) := by decide +kernel
theorem dX7_meets_13 : decode cX7_meets 13 = .ok (.invokestatic 112, 3) := by decide +kernel
theorem dX7_meets_16 : decode cX7_meets 16 = .ok (.ifCond .eq 15, 3) := by decide +kernel
theorem dX7_meets_19 : decode cX7_meets 19 = .ok (.iload_n 2, 1) := by decide +kernel
theorem dX7_meets_20 : decode cX7_meets 20 = .ok (.iconst 3, 1) := by decide +kernel
theorem dX7_meets_21 : decode cX7_meets 21 = .ok (.irem, 1) := by decide +kernel
theorem dX7_meets_22 : decode cX7_meets 22 = .ok (.ifCond .ne 9, 3) := by decide +kernel
theorem dX7_meets_25 : decode cX7_meets 25 = .ok (.iload_n 2, 1) := by decide +kernel
theorem dX7_meets_26 : decode cX7_meets 26 = .ok (.iconst 3, 1) := by decide +kernel
theorem dX7_meets_27 : decode cX7_meets 27 = .ok (.idiv, 1) := by decide +kernel
theorem dX7_meets_28 : decode cX7_meets 28 = .ok (.goto 4, 3) := by decide +kernel
theorem dX7_meets_31 : decode cX7_meets 31 = .ok (.iconst (-1), 1) := by decide +kernel
theorem dX7_meets_32 : decode cX7_meets 32 = .ok (.ireturn, 1) := by decide +kernel
theorem dX7_isMeeting_0 : decode cX7_isMeeting 0 = .ok (.aload_n 0, 1) := by decide +kernel
theorem dX7_isMeeting_1 : decode cX7_isMeeting 1 = .ok (.iload_n 1, 1) := by decide +kernel
theorem dX7_isMeeting_2 : decode cX7_isMeeting 2 = .ok (.invokevirtual 116, 3) := by decide +kernel
theorem dX7_isMeeting_5 : decode cX7_isMeeting 5 = .ok (.iconst (-1), 1) := by decide +kernel
theorem dX7_isMeeting_6 : decode cX7_isMeeting 6 = .ok (.if_icmp .eq 16, 3) := by decide +kernel
theorem dX7_isMeeting_9 : decode cX7_isMeeting 9 = .ok (.aload_n 0, 1) := by decide +kernel
theorem dX7_isMeeting_10 : decode cX7_isMeeting 10 = .ok (.iload_n 1, 1) := by decide +kernel
theorem dX7_isMeeting_11 : decode cX7_isMeeting 11 = .ok (.invokevirtual 131, 3) := by decide +kernel
theorem dX7_isMeeting_14 : decode cX7_isMeeting 14 = .ok (.iload_n 1, 1) := by decide +kernel
theorem dX7_isMeeting_15 : decode cX7_isMeeting 15 = .ok (.if_icmp .le 7, 3) := by decide +kernel
theorem dX7_isMeeting_18 : decode cX7_isMeeting 18 = .ok (.iconst 1, 1) := by decide +kernel
theorem dX7_isMeeting_19 : decode cX7_isMeeting 19 = .ok (.goto 4, 3) := by decide +kernel
theorem dX7_isMeeting_22 : decode cX7_isMeeting 22 = .ok (.iconst 0, 1) := by decide +kernel
theorem dX7_isMeeting_23 : decode cX7_isMeeting 23 = .ok (.ireturn, 1) := by decide +kernel
theorem dX7_meetingsNow_0 : decode cX7_meetingsNow 0 = .ok (.iconst 0, 1) := by decide +kernel
theorem dX7_meetingsNow_1 : decode cX7_meetingsNow 1 = .ok (.istore_n 1, 1) := by decide +kernel
theorem dX7_meetingsNow_2 : decode cX7_meetingsNow 2 = .ok (.iconst 0, 1) := by decide +kernel
theorem dX7_meetingsNow_3 : decode cX7_meetingsNow 3 = .ok (.istore_n 2, 1) := by decide +kernel
theorem dX7_meetingsNow_4 : decode cX7_meetingsNow 4 = .ok (.iload_n 2, 1) := by decide +kernel
theorem dX7_meetingsNow_5 : decode cX7_meetingsNow 5 = .ok (.sipush 180, 3) := by decide +kernel
theorem dX7_meetingsNow_8 : decode cX7_meetingsNow 8 = .ok (.if_icmp .ge 25, 3) := by decide +kernel
theorem dX7_meetingsNow_11 : decode cX7_meetingsNow 11 = .ok (.iload_n 1, 1) := by decide +kernel
theorem dX7_meetingsNow_12 : decode cX7_meetingsNow 12 = .ok (.aload_n 0, 1) := by decide +kernel
theorem dX7_meetingsNow_13 : decode cX7_meetingsNow 13 = .ok (.iload_n 2, 1) := by decide +kernel
theorem dX7_meetingsNow_14 : decode cX7_meetingsNow 14 = .ok (.invokevirtual 134, 3) := by decide +kernel
theorem dX7_meetingsNow_17 : decode cX7_meetingsNow 17 = .ok (.ifCond .eq 7, 3) := by decide +kernel
theorem dX7_meetingsNow_20 : decode cX7_meetingsNow 20 = .ok (.iconst 1, 1) := by decide +kernel
theorem dX7_meetingsNow_21 : decode cX7_meetingsNow 21 = .ok (.goto 4, 3) := by decide +kernel
theorem dX7_meetingsNow_24 : decode cX7_meetingsNow 24 = .ok (.iconst 0, 1) := by decide +kernel
theorem dX7_meetingsNow_25 : decode cX7_meetingsNow 25 = .ok (.iadd, 1) := by decide +kernel
theorem dX7_meetingsNow_26 : decode cX7_meetingsNow 26 = .ok (.istore_n 1, 1) := by decide +kernel
theorem dX7_meetingsNow_27 : decode cX7_meetingsNow 27 = .ok (.iinc 2 1, 3) := by decide +kernel
theorem dX7_meetingsNow_30 : decode cX7_meetingsNow 30 = .ok (.goto (-26), 3) := by decide +kernel
theorem dX7_meetingsNow_33 : decode cX7_meetingsNow 33 = .ok (.iload_n 1, 1) := by decide +kernel
theorem dX7_meetingsNow_34 : decode cX7_meetingsNow 34 = .ok (.ireturn, 1) := by decide +kernel
theorem dX7_meetingAt_0 : decode cX7_meetingAt 0 = .ok (.iload_n 1, 1) := by decide +kernel
theorem dX7_meetingAt_1 : decode cX7_meetingAt 1 = .ok (.istore_n 2, 1) := by decide +kernel
theorem dX7_meetingAt_2 : decode cX7_meetingAt 2 = .ok (.iconst 0, 1) := by decide +kernel
theorem dX7_meetingAt_3 : decode cX7_meetingAt 3 = .ok (.istore_n 3, 1) := by decide +kernel
theorem dX7_meetingAt_4 : decode cX7_meetingAt 4 = .ok (.iload_n 3, 1) := by decide +kernel
theorem dX7_meetingAt_5 : decode cX7_meetingAt 5 = .ok (.sipush 180, 3) := by decide +kernel
theorem dX7_meetingAt_8 : decode cX7_meetingAt 8 = .ok (.if_icmp .ge 26, 3) := by decide +kernel
theorem dX7_meetingAt_11 : decode cX7_meetingAt 11 = .ok (.aload_n 0, 1) := by decide +kernel
theorem dX7_meetingAt_12 : decode cX7_meetingAt 12 = .ok (.iload_n 3, 1) := by decide +kernel
theorem dX7_meetingAt_13 : decode cX7_meetingAt 13 = .ok (.invokevirtual 134, 3) := by decide +kernel
theorem dX7_meetingAt_16 : decode cX7_meetingAt 16 = .ok (.ifCond .eq 12, 3) := by decide +kernel
theorem dX7_meetingAt_19 : decode cX7_meetingAt 19 = .ok (.iload_n 2, 1) := by decide +kernel
theorem dX7_meetingAt_20 : decode cX7_meetingAt 20 = .ok (.ifCond .ne 5, 3) := by decide +kernel
theorem dX7_meetingAt_23 : decode cX7_meetingAt 23 = .ok (.iload_n 3, 1) := by decide +kernel
theorem dX7_meetingAt_24 : decode cX7_meetingAt 24 = .ok (.ireturn, 1) := by decide +kernel
theorem dX7_meetingAt_25 : decode cX7_meetingAt 25 = .ok (.iinc 2 (-1), 3) := by decide +kernel
theorem dX7_meetingAt_28 : decode cX7_meetingAt 28 = .ok (.iinc 3 1, 3) := by decide +kernel
theorem dX7_meetingAt_31 : decode cX7_meetingAt 31 = .ok (.goto (-27), 3) := by decide +kernel
theorem dX7_meetingAt_34 : decode cX7_meetingAt 34 = .ok (.iconst (-1), 1) := by decide +kernel
theorem dX7_meetingAt_35 : decode cX7_meetingAt 35 = .ok (.ireturn, 1) := by decide +kernel
theorem dX7_sortOf_0 : decode cX7_sortOf 0 = .ok (.aload_n 0, 1) := by decide +kernel
theorem dX7_sortOf_1 : decode cX7_sortOf 1 = .ok (.iload_n 1, 1) := by decide +kernel
theorem dX7_sortOf_2 : decode cX7_sortOf 2 = .ok (.invokevirtual 116, 3) := by decide +kernel
theorem dX7_sortOf_5 : decode cX7_sortOf 5 = .ok (.istore_n 2, 1) := by decide +kernel
theorem dX7_sortOf_6 : decode cX7_sortOf 6 = .ok (.aload_n 0, 1) := by decide +kernel
theorem dX7_sortOf_7 : decode cX7_sortOf 7 = .ok (.aload_n 0, 1) := by decide +kernel
theorem dX7_sortOf_8 : decode cX7_sortOf 8 = .ok (.iload_n 1, 1) := by decide +kernel
theorem dX7_sortOf_9 : decode cX7_sortOf 9 = .ok (.invokevirtual 131, 3) := by decide +kernel
theorem dX7_sortOf_12 : decode cX7_sortOf 12 = .ok (.invokevirtual 116, 3) := by decide +kernel
theorem dX7_sortOf_15 : decode cX7_sortOf 15 = .ok (.istore_n 3, 1) := by decide +kernel
theorem dX7_sortOf_16 : decode cX7_sortOf 16 = .ok (.iload_n 2, 1) := by decide +kernel
theorem dX7_sortOf_17 : decode cX7_sortOf 17 = .ok (.iload_n 3, 1) := by decide +kernel
theorem dX7_sortOf_18 : decode cX7_sortOf 18 = .ok (.if_icmp .ne 7, 3) := by decide +kernel
theorem dX7_sortOf_21 : decode cX7_sortOf 21 = .ok (.iconst 1, 1) := by decide +kernel
theorem dX7_sortOf_22 : decode cX7_sortOf 22 = .ok (.goto 16, 3) := by decide +kernel
theorem dX7_sortOf_25 : decode cX7_sortOf 25 = .ok (.iload_n 2, 1) := by decide +kernel
theorem dX7_sortOf_26 : decode cX7_sortOf 26 = .ok (.ifCond .eq 7, 3) := by decide +kernel
theorem dX7_sortOf_29 : decode cX7_sortOf 29 = .ok (.iload_n 3, 1) := by decide +kernel
theorem dX7_sortOf_30 : decode cX7_sortOf 30 = .ok (.ifCond .ne 7, 3) := by decide +kernel
theorem dX7_sortOf_33 : decode cX7_sortOf 33 = .ok (.iconst 3, 1) := by decide +kernel
theorem dX7_sortOf_34 : decode cX7_sortOf 34 = .ok (.goto 4, 3) := by decide +kernel
theorem dX7_sortOf_37 : decode cX7_sortOf 37 = .ok (.iconst 2, 1) := by decide +kernel
theorem dX7_sortOf_38 : decode cX7_sortOf 38 = .ok (.ireturn, 1) := by decide +kernel
theorem dX7_layPorts_0 : decode cX7_layPorts 0 = .ok (.iconst 0, 1) := by decide +kernel
theorem dX7_layPorts_1 : decode cX7_layPorts 1 = .ok (.istore_n 3, 1) := by decide +kernel
theorem dX7_layPorts_2 : decode cX7_layPorts 2 = .ok (.iload_n 3, 1) := by decide +kernel
theorem dX7_layPorts_3 : decode cX7_layPorts 3 = .ok (.iconst 4, 1) := by decide +kernel
theorem dX7_layPorts_4 : decode cX7_layPorts 4 = .ok (.if_icmp .ge 56, 3) := by decide +kernel
theorem dX7_layPorts_7 : decode cX7_layPorts 7 = .ok (.aload_n 0, 1) := by decide +kernel
theorem dX7_layPorts_8 : decode cX7_layPorts 8 = .ok (.getfield 38, 3) := by decide +kernel
theorem dX7_layPorts_11 : decode cX7_layPorts 11 = .ok (.iload_n 3, 1) := by decide +kernel
theorem dX7_layPorts_12 : decode cX7_layPorts 12 = .ok (.iconst 3, 1) := by decide +kernel
theorem dX7_layPorts_13 : decode cX7_layPorts 13 = .ok (.iload_n 3, 1) := by decide +kernel
theorem dX7_layPorts_14 : decode cX7_layPorts 14 = .ok (.iconst 2, 1) := by decide +kernel
theorem dX7_layPorts_15 : decode cX7_layPorts 15 = .ok (.if_icmp .ge 7, 3) := by decide +kernel
theorem dX7_layPorts_18 : decode cX7_layPorts 18 = .ok (.iload_n 1, 1) := by decide +kernel
theorem dX7_layPorts_19 : decode cX7_layPorts 19 = .ok (.goto 4, 3) := by decide +kernel
theorem dX7_layPorts_22 : decode cX7_layPorts 22 = .ok (.iload_n 2, 1) := by decide +kernel
theorem dX7_layPorts_23 : decode cX7_layPorts 23 = .ok (.imul, 1) := by decide +kernel
theorem dX7_layPorts_24 : decode cX7_layPorts 24 = .ok (.iconst 1, 1) := by decide +kernel
theorem dX7_layPorts_25 : decode cX7_layPorts 25 = .ok (.iadd, 1) := by decide +kernel
theorem dX7_layPorts_26 : decode cX7_layPorts 26 = .ok (.iload_n 3, 1) := by decide +kernel
theorem dX7_layPorts_27 : decode cX7_layPorts 27 = .ok (.iconst 2, 1) := by decide +kernel
theorem dX7_layPorts_28 : decode cX7_layPorts 28 = .ok (.irem, 1) := by decide +kernel
theorem dX7_layPorts_29 : decode cX7_layPorts 29 = .ok (.iadd, 1) := by decide +kernel
theorem dX7_layPorts_30 : decode cX7_layPorts 30 = .ok (.iastore, 1) := by decide +kernel
theorem dX7_layPorts_31 : decode cX7_layPorts 31 = .ok (.aload_n 0, 1) := by decide +kernel
theorem dX7_layPorts_32 : decode cX7_layPorts 32 = .ok (.getfield 41, 3) := by decide +kernel
theorem dX7_layPorts_35 : decode cX7_layPorts 35 = .ok (.iload_n 3, 1) := by decide +kernel
theorem dX7_layPorts_36 : decode cX7_layPorts 36 = .ok (.aload_n 0, 1) := by decide +kernel
theorem dX7_layPorts_37 : decode cX7_layPorts 37 = .ok (.aload_n 0, 1) := by decide +kernel
theorem dX7_layPorts_38 : decode cX7_layPorts 38 = .ok (.getfield 38, 3) := by decide +kernel
theorem dX7_layPorts_41 : decode cX7_layPorts 41 = .ok (.iload_n 3, 1) := by decide +kernel
theorem dX7_layPorts_42 : decode cX7_layPorts 42 = .ok (.iaload, 1) := by decide +kernel
theorem dX7_layPorts_43 : decode cX7_layPorts 43 = .ok (.invokevirtual 128, 3) := by decide +kernel
theorem dX7_layPorts_46 : decode cX7_layPorts 46 = .ok (.iastore, 1) := by decide +kernel
theorem dX7_layPorts_47 : decode cX7_layPorts 47 = .ok (.aload_n 0, 1) := by decide +kernel
theorem dX7_layPorts_48 : decode cX7_layPorts 48 = .ok (.getfield 47, 3) := by decide +kernel
theorem dX7_layPorts_51 : decode cX7_layPorts 51 = .ok (.iload_n 3, 1) := by decide +kernel
theorem dX7_layPorts_52 : decode cX7_layPorts 52 = .ok (.iconst 0, 1) := by decide +kernel
theorem dX7_layPorts_53 : decode cX7_layPorts 53 = .ok (.bastore, 1) := by decide +kernel
theorem dX7_layPorts_54 : decode cX7_layPorts 54 = .ok (.iinc 3 1, 3) := by decide +kernel
theorem dX7_layPorts_57 : decode cX7_layPorts 57 = .ok (.goto (-55), 3) := by decide +kernel
theorem dX7_layPorts_60 : decode cX7_layPorts 60 = .ok (.iconst 0, 1) := by decide +kernel
theorem dX7_layPorts_61 : decode cX7_layPorts 61 = .ok (.istore_n 3, 1) := by decide +kernel
theorem dX7_layPorts_62 : decode cX7_layPorts 62 = .ok (.iload_n 3, 1) := by decide +kernel
theorem dX7_layPorts_63 : decode cX7_layPorts 63 = .ok (.iconst 4, 1) := by decide +kernel
theorem dX7_layPorts_64 : decode cX7_layPorts 64 = .ok (.if_icmp .ge 74, 3) := by decide +kernel
theorem dX7_layPorts_67 : decode cX7_layPorts 67 = .ok (.aload_n 0, 1) := by decide +kernel
theorem dX7_layPorts_68 : decode cX7_layPorts 68 = .ok (.getfield 44, 3) := by decide +kernel
theorem dX7_layPorts_71 : decode cX7_layPorts 71 = .ok (.iload_n 3, 1) := by decide +kernel
theorem dX7_layPorts_72 : decode cX7_layPorts 72 = .ok (.iconst (-1), 1) := by decide +kernel
theorem dX7_layPorts_73 : decode cX7_layPorts 73 = .ok (.iastore, 1) := by decide +kernel
theorem dX7_layPorts_74 : decode cX7_layPorts 74 = .ok (.iconst 0, 1) := by decide +kernel
theorem dX7_layPorts_75 : decode cX7_layPorts 75 = .ok (.istore 4, 2) := by decide +kernel
theorem dX7_layPorts_77 : decode cX7_layPorts 77 = .ok (.iload 4, 2) := by decide +kernel
theorem dX7_layPorts_79 : decode cX7_layPorts 79 = .ok (.iconst 4, 1) := by decide +kernel
theorem dX7_layPorts_80 : decode cX7_layPorts 80 = .ok (.if_icmp .ge 52, 3) := by decide +kernel
theorem dX7_layPorts_83 : decode cX7_layPorts 83 = .ok (.aload_n 0, 1) := by decide +kernel
theorem dX7_layPorts_84 : decode cX7_layPorts 84 = .ok (.getfield 44, 3) := by decide +kernel
theorem dX7_layPorts_87 : decode cX7_layPorts 87 = .ok (.iload_n 3, 1) := by decide +kernel
theorem dX7_layPorts_88 : decode cX7_layPorts 88 = .ok (.aload_n 0, 1) := by decide +kernel
theorem dX7_layPorts_89 : decode cX7_layPorts 89 = .ok (.getfield 41, 3) := by decide +kernel
theorem dX7_layPorts_92 : decode cX7_layPorts 92 = .ok (.iload_n 3, 1) := by decide +kernel
theorem dX7_layPorts_93 : decode cX7_layPorts 93 = .ok (.iaload, 1) := by decide +kernel
theorem dX7_layPorts_94 : decode cX7_layPorts 94 = .ok (.aload_n 0, 1) := by decide +kernel
theorem dX7_layPorts_95 : decode cX7_layPorts 95 = .ok (.getfield 38, 3) := by decide +kernel
theorem dX7_layPorts_98 : decode cX7_layPorts 98 = .ok (.iload 4, 2) := by decide +kernel
theorem dX7_layPorts_100 : decode cX7_layPorts 100 = .ok (.iaload, 1) := by decide +kernel
theorem dX7_layPorts_101 : decode cX7_layPorts 101 = .ok (.if_icmp .ne 18, 3) := by decide +kernel
theorem dX7_layPorts_104 : decode cX7_layPorts 104 = .ok (.aload_n 0, 1) := by decide +kernel
theorem dX7_layPorts_105 : decode cX7_layPorts 105 = .ok (.getfield 41, 3) := by decide +kernel
theorem dX7_layPorts_108 : decode cX7_layPorts 108 = .ok (.iload_n 3, 1) := by decide +kernel
theorem dX7_layPorts_109 : decode cX7_layPorts 109 = .ok (.iaload, 1) := by decide +kernel
theorem dX7_layPorts_110 : decode cX7_layPorts 110 = .ok (.iconst (-1), 1) := by decide +kernel
theorem dX7_layPorts_111 : decode cX7_layPorts 111 = .ok (.if_icmp .eq 8, 3) := by decide +kernel
theorem dX7_layPorts_114 : decode cX7_layPorts 114 = .ok (.iload 4, 2) := by decide +kernel
theorem dX7_layPorts_116 : decode cX7_layPorts 116 = .ok (.goto 9, 3) := by decide +kernel
theorem dX7_layPorts_119 : decode cX7_layPorts 119 = .ok (.aload_n 0, 1) := by decide +kernel
theorem dX7_layPorts_120 : decode cX7_layPorts 120 = .ok (.getfield 44, 3) := by decide +kernel
theorem dX7_layPorts_123 : decode cX7_layPorts 123 = .ok (.iload_n 3, 1) := by decide +kernel
theorem dX7_layPorts_124 : decode cX7_layPorts 124 = .ok (.iaload, 1) := by decide +kernel
theorem dX7_layPorts_125 : decode cX7_layPorts 125 = .ok (.iastore, 1) := by decide +kernel
theorem dX7_layPorts_126 : decode cX7_layPorts 126 = .ok (.iinc 4 1, 3) := by decide +kernel
theorem dX7_layPorts_129 : decode cX7_layPorts 129 = .ok (.goto (-52), 3) := by decide +kernel
theorem dX7_layPorts_132 : decode cX7_layPorts 132 = .ok (.iinc 3 1, 3) := by decide +kernel
theorem dX7_layPorts_135 : decode cX7_layPorts 135 = .ok (.goto (-73), 3) := by decide +kernel
theorem dX7_layPorts_138 : decode cX7_layPorts 138 = .ok (.return_, 1) := by decide +kernel
theorem dX7_across_0 : decode cX7_across 0 = .ok (.iload_n 1, 1) := by decide +kernel
theorem dX7_across_1 : decode cX7_across 1 = .ok (.ifCond .eq 9, 3) := by decide +kernel
theorem dX7_across_4 : decode cX7_across 4 = .ok (.iconst 3, 1) := by decide +kernel
theorem dX7_across_5 : decode cX7_across 5 = .ok (.iload_n 0, 1) := by decide +kernel
theorem dX7_across_6 : decode cX7_across 6 = .ok (.isub, 1) := by decide +kernel
theorem dX7_across_7 : decode cX7_across 7 = .ok (.goto 8, 3) := by decide +kernel
theorem dX7_across_10 : decode cX7_across 10 = .ok (.iload_n 0, 1) := by decide +kernel
theorem dX7_across_11 : decode cX7_across 11 = .ok (.iconst 2, 1) := by decide +kernel
theorem dX7_across_12 : decode cX7_across 12 = .ok (.iadd, 1) := by decide +kernel
theorem dX7_across_13 : decode cX7_across 13 = .ok (.iconst 4, 1) := by decide +kernel
theorem dX7_across_14 : decode cX7_across 14 = .ok (.irem, 1) := by decide +kernel
theorem dX7_across_15 : decode cX7_across 15 = .ok (.ireturn, 1) := by decide +kernel
theorem dX7_overFrom_0 : decode cX7_overFrom 0 = .ok (.aload_n 0, 1) := by decide +kernel
theorem dX7_overFrom_1 : decode cX7_overFrom 1 = .ok (.getfield 47, 3) := by decide +kernel
theorem dX7_overFrom_4 : decode cX7_overFrom 4 = .ok (.iload_n 1, 1) := by decide +kernel
theorem dX7_overFrom_5 : decode cX7_overFrom 5 = .ok (.iconst 1, 1) := by decide +kernel
theorem dX7_overFrom_6 : decode cX7_overFrom 6 = .ok (.bastore, 1) := by decide +kernel
theorem dX7_overFrom_7 : decode cX7_overFrom 7 = .ok (.iload_n 1, 1) := by decide +kernel
theorem dX7_overFrom_8 : decode cX7_overFrom 8 = .ok (.iload_n 2, 1) := by decide +kernel
theorem dX7_overFrom_9 : decode cX7_overFrom 9 = .ok (.invokestatic 137, 3) := by decide +kernel
theorem dX7_overFrom_12 : decode cX7_overFrom 12 = .ok (.istore_n 3, 1) := by decide +kernel
theorem dX7_overFrom_13 : decode cX7_overFrom 13 = .ok (.aload_n 0, 1) := by decide +kernel
theorem dX7_overFrom_14 : decode cX7_overFrom 14 = .ok (.getfield 47, 3) := by decide +kernel
theorem dX7_overFrom_17 : decode cX7_overFrom 17 = .ok (.iload_n 3, 1) := by decide +kernel
theorem dX7_overFrom_18 : decode cX7_overFrom 18 = .ok (.iconst 1, 1) := by decide +kernel
theorem dX7_overFrom_19 : decode cX7_overFrom 19 = .ok (.bastore, 1) := by decide +kernel
theorem dX7_overFrom_20 : decode cX7_overFrom 20 = .ok (.aload_n 0, 1) := by decide +kernel
theorem dX7_overFrom_21 : decode cX7_overFrom 21 = .ok (.getfield 44, 3) := by decide +kernel
theorem dX7_overFrom_24 : decode cX7_overFrom 24 = .ok (.iload_n 3, 1) := by decide +kernel
theorem dX7_overFrom_25 : decode cX7_overFrom 25 = .ok (.iaload, 1) := by decide +kernel
theorem dX7_overFrom_26 : decode cX7_overFrom 26 = .ok (.iconst (-1), 1) := by decide +kernel
theorem dX7_overFrom_27 : decode cX7_overFrom 27 = .ok (.if_icmp .eq 50, 3) := by decide +kernel
theorem dX7_overFrom_30 : decode cX7_overFrom 30 = .ok (.aload_n 0, 1) := by decide +kernel
theorem dX7_overFrom_31 : decode cX7_overFrom 31 = .ok (.getfield 47, 3) := by decide +kernel
theorem dX7_overFrom_34 : decode cX7_overFrom 34 = .ok (.aload_n 0, 1) := by decide +kernel
theorem dX7_overFrom_35 : decode cX7_overFrom 35 = .ok (.getfield 44, 3) := by decide +kernel
theorem dX7_overFrom_38 : decode cX7_overFrom 38 = .ok (.iload_n 3, 1) := by decide +kernel
theorem dX7_overFrom_39 : decode cX7_overFrom 39 = .ok (.iaload, 1) := by decide +kernel
theorem dX7_overFrom_40 : decode cX7_overFrom 40 = .ok (.baload, 1) := by decide +kernel
theorem dX7_overFrom_41 : decode cX7_overFrom 41 = .ok (.ifCond .ne 36, 3) := by decide +kernel
theorem dX7_overFrom_44 : decode cX7_overFrom 44 = .ok (.aload_n 0, 1) := by decide +kernel
theorem dX7_overFrom_45 : decode cX7_overFrom 45 = .ok (.getfield 44, 3) := by decide +kernel
theorem dX7_overFrom_48 : decode cX7_overFrom 48 = .ok (.iload_n 3, 1) := by decide +kernel
theorem dX7_overFrom_49 : decode cX7_overFrom 49 = .ok (.iaload, 1) := by decide +kernel
theorem dX7_overFrom_50 : decode cX7_overFrom 50 = .ok (.istore 4, 2) := by decide +kernel
theorem dX7_overFrom_52 : decode cX7_overFrom 52 = .ok (.aload_n 0, 1) := by decide +kernel
theorem dX7_overFrom_53 : decode cX7_overFrom 53 = .ok (.getfield 47, 3) := by decide +kernel
theorem dX7_overFrom_56 : decode cX7_overFrom 56 = .ok (.iload 4, 2) := by decide +kernel
theorem dX7_overFrom_58 : decode cX7_overFrom 58 = .ok (.iconst 1, 1) := by decide +kernel
theorem dX7_overFrom_59 : decode cX7_overFrom 59 = .ok (.bastore, 1) := by decide +kernel
theorem dX7_overFrom_60 : decode cX7_overFrom 60 = .ok (.iload 4, 2) := by decide +kernel
theorem dX7_overFrom_62 : decode cX7_overFrom 62 = .ok (.iload_n 2, 1) := by decide +kernel
theorem dX7_overFrom_63 : decode cX7_overFrom 63 = .ok (.invokestatic 137, 3) := by decide +kernel
theorem dX7_overFrom_66 : decode cX7_overFrom 66 = .ok (.istore_n 3, 1) := by decide +kernel
theorem dX7_overFrom_67 : decode cX7_overFrom 67 = .ok (.aload_n 0, 1) := by decide +kernel
theorem dX7_overFrom_68 : decode cX7_overFrom 68 = .ok (.getfield 47, 3) := by decide +kernel
theorem dX7_overFrom_71 : decode cX7_overFrom 71 = .ok (.iload_n 3, 1) := by decide +kernel
theorem dX7_overFrom_72 : decode cX7_overFrom 72 = .ok (.iconst 1, 1) := by decide +kernel
theorem dX7_overFrom_73 : decode cX7_overFrom 73 = .ok (.bastore, 1) := by decide +kernel
theorem dX7_overFrom_74 : decode cX7_overFrom 74 = .ok (.goto (-54), 3) := by decide +kernel
theorem dX7_overFrom_77 : decode cX7_overFrom 77 = .ok (.iload_n 3, 1) := by decide +kernel
theorem dX7_overFrom_78 : decode cX7_overFrom 78 = .ok (.ireturn, 1) := by decide +kernel
theorem dX7_meetAlike_0 : decode cX7_meetAlike 0 = .ok (.aload_n 0, 1) := by decide +kernel
theorem dX7_meetAlike_1 : decode cX7_meetAlike 1 = .ok (.iload_n 1, 1) := by decide +kernel
theorem dX7_meetAlike_2 : decode cX7_meetAlike 2 = .ok (.iload_n 2, 1) := by decide +kernel
theorem dX7_meetAlike_3 : decode cX7_meetAlike 3 = .ok (.invokevirtual 141, 3) := by decide +kernel
theorem dX7_meetAlike_6 : decode cX7_meetAlike 6 = .ok (.aload_n 0, 1) := by decide +kernel
theorem dX7_meetAlike_7 : decode cX7_meetAlike 7 = .ok (.iload_n 1, 1) := by decide +kernel
theorem dX7_meetAlike_8 : decode cX7_meetAlike 8 = .ok (.invokevirtual 116, 3) := by decide +kernel
theorem dX7_meetAlike_11 : decode cX7_meetAlike 11 = .ok (.iconst 1, 1) := by decide +kernel
theorem dX7_meetAlike_12 : decode cX7_meetAlike 12 = .ok (.if_icmp .ne 7, 3) := by decide +kernel
theorem dX7_meetAlike_15 : decode cX7_meetAlike 15 = .ok (.iconst 1, 1) := by decide +kernel
theorem dX7_meetAlike_16 : decode cX7_meetAlike 16 = .ok (.goto 4, 3) := by decide +kernel
theorem dX7_meetAlike_19 : decode cX7_meetAlike 19 = .ok (.iconst 0, 1) := by decide +kernel
theorem dX7_meetAlike_20 : decode cX7_meetAlike 20 = .ok (.istore_n 3, 1) := by decide +kernel
theorem dX7_meetAlike_21 : decode cX7_meetAlike 21 = .ok (.aload_n 0, 1) := by decide +kernel
theorem dX7_meetAlike_22 : decode cX7_meetAlike 22 = .ok (.iload_n 1, 1) := by decide +kernel
theorem dX7_meetAlike_23 : decode cX7_meetAlike 23 = .ok (.invokevirtual 116, 3) := by decide +kernel
theorem dX7_meetAlike_26 : decode cX7_meetAlike 26 = .ok (.ifCond .ne 7, 3) := by decide +kernel
theorem dX7_meetAlike_29 : decode cX7_meetAlike 29 = .ok (.iconst 1, 1) := by decide +kernel
theorem dX7_meetAlike_30 : decode cX7_meetAlike 30 = .ok (.goto 4, 3) := by decide +kernel
theorem dX7_meetAlike_33 : decode cX7_meetAlike 33 = .ok (.iconst 0, 1) := by decide +kernel
theorem dX7_meetAlike_34 : decode cX7_meetAlike 34 = .ok (.istore 4, 2) := by decide +kernel
theorem dX7_meetAlike_36 : decode cX7_meetAlike 36 = .ok (.aload_n 0, 1) := by decide +kernel
theorem dX7_meetAlike_37 : decode cX7_meetAlike 37 = .ok (.iload_n 1, 1) := by decide +kernel
theorem dX7_meetAlike_38 : decode cX7_meetAlike 38 = .ok (.invokevirtual 144, 3) := by decide +kernel
theorem dX7_meetAlike_41 : decode cX7_meetAlike 41 = .ok (.aload_n 0, 1) := by decide +kernel
theorem dX7_meetAlike_42 : decode cX7_meetAlike 42 = .ok (.iload_n 2, 1) := by decide +kernel
theorem dX7_meetAlike_43 : decode cX7_meetAlike 43 = .ok (.invokevirtual 144, 3) := by decide +kernel
theorem dX7_meetAlike_46 : decode cX7_meetAlike 46 = .ok (.iconst 0, 1) := by decide +kernel
theorem dX7_meetAlike_47 : decode cX7_meetAlike 47 = .ok (.istore 5, 2) := by decide +kernel
theorem dX7_meetAlike_49 : decode cX7_meetAlike 49 = .ok (.iload 5, 2) := by decide +kernel
theorem dX7_meetAlike_51 : decode cX7_meetAlike 51 = .ok (.iconst 4, 1) := by decide +kernel
theorem dX7_meetAlike_52 : decode cX7_meetAlike 52 = .ok (.if_icmp .ge 62, 3) := by decide +kernel
theorem dX7_meetAlike_55 : decode cX7_meetAlike 55 = .ok (.iload 4, 2) := by decide +kernel
theorem dX7_meetAlike_57 : decode cX7_meetAlike 57 = .ok (.ifCond .ne 57, 3) := by decide +kernel
theorem dX7_meetAlike_60 : decode cX7_meetAlike 60 = .ok (.aload_n 0, 1) := by decide +kernel
theorem dX7_meetAlike_61 : decode cX7_meetAlike 61 = .ok (.getfield 47, 3) := by decide +kernel
theorem dX7_meetAlike_64 : decode cX7_meetAlike 64 = .ok (.iload 5, 2) := by decide +kernel
theorem dX7_meetAlike_66 : decode cX7_meetAlike 66 = .ok (.baload, 1) := by decide +kernel
theorem dX7_meetAlike_67 : decode cX7_meetAlike 67 = .ok (.ifCond .ne 41, 3) := by decide +kernel
theorem dX7_meetAlike_70 : decode cX7_meetAlike 70 = .ok (.aload_n 0, 1) := by decide +kernel
theorem dX7_meetAlike_71 : decode cX7_meetAlike 71 = .ok (.getfield 44, 3) := by decide +kernel
theorem dX7_meetAlike_74 : decode cX7_meetAlike 74 = .ok (.iload 5, 2) := by decide +kernel
theorem dX7_meetAlike_76 : decode cX7_meetAlike 76 = .ok (.iaload, 1) := by decide +kernel
theorem dX7_meetAlike_77 : decode cX7_meetAlike 77 = .ok (.iconst (-1), 1) := by decide +kernel
theorem dX7_meetAlike_78 : decode cX7_meetAlike 78 = .ok (.if_icmp .ne 30, 3) := by decide +kernel
theorem dX7_meetAlike_81 : decode cX7_meetAlike 81 = .ok (.aload_n 0, 1) := by decide +kernel
theorem dX7_meetAlike_82 : decode cX7_meetAlike 82 = .ok (.iload 5, 2) := by decide +kernel
theorem dX7_meetAlike_84 : decode cX7_meetAlike 84 = .ok (.iload_n 3, 1) := by decide +kernel
theorem dX7_meetAlike_85 : decode cX7_meetAlike 85 = .ok (.invokevirtual 148, 3) := by decide +kernel
theorem dX7_meetAlike_88 : decode cX7_meetAlike 88 = .ok (.istore 6, 2) := by decide +kernel
theorem dX7_meetAlike_90 : decode cX7_meetAlike 90 = .ok (.aload_n 0, 1) := by decide +kernel
theorem dX7_meetAlike_91 : decode cX7_meetAlike 91 = .ok (.aload_n 0, 1) := by decide +kernel
theorem dX7_meetAlike_92 : decode cX7_meetAlike 92 = .ok (.getfield 41, 3) := by decide +kernel
theorem dX7_meetAlike_95 : decode cX7_meetAlike 95 = .ok (.iload 5, 2) := by decide +kernel
theorem dX7_meetAlike_97 : decode cX7_meetAlike 97 = .ok (.iaload, 1) := by decide +kernel
theorem dX7_meetAlike_98 : decode cX7_meetAlike 98 = .ok (.aload_n 0, 1) := by decide +kernel
theorem dX7_meetAlike_99 : decode cX7_meetAlike 99 = .ok (.getfield 41, 3) := by decide +kernel
theorem dX7_meetAlike_102 : decode cX7_meetAlike 102 = .ok (.iload 6, 2) := by decide +kernel
theorem dX7_meetAlike_104 : decode cX7_meetAlike 104 = .ok (.iaload, 1) := by decide +kernel
theorem dX7_meetAlike_105 : decode cX7_meetAlike 105 = .ok (.invokevirtual 151, 3) := by decide +kernel
theorem dX7_meetAlike_108 : decode cX7_meetAlike 108 = .ok (.iinc 5 1, 3) := by decide +kernel
theorem dX7_meetAlike_111 : decode cX7_meetAlike 111 = .ok (.goto (-62), 3) := by decide +kernel
theorem dX7_meetAlike_114 : decode cX7_meetAlike 114 = .ok (.iconst 0, 1) := by decide +kernel
theorem dX7_meetAlike_115 : decode cX7_meetAlike 115 = .ok (.istore 5, 2) := by decide +kernel
theorem dX7_meetAlike_117 : decode cX7_meetAlike 117 = .ok (.iload 5, 2) := by decide +kernel
theorem dX7_meetAlike_119 : decode cX7_meetAlike 119 = .ok (.iconst 4, 1) := by decide +kernel
theorem dX7_meetAlike_120 : decode cX7_meetAlike 120 = .ok (.if_icmp .ge 45, 3) := by decide +kernel
theorem dX7_meetAlike_123 : decode cX7_meetAlike 123 = .ok (.iload 4, 2) := by decide +kernel
theorem dX7_meetAlike_125 : decode cX7_meetAlike 125 = .ok (.ifCond .ne 40, 3) := by decide +kernel
theorem dX7_meetAlike_128 : decode cX7_meetAlike 128 = .ok (.aload_n 0, 1) := by decide +kernel
theorem dX7_meetAlike_129 : decode cX7_meetAlike 129 = .ok (.getfield 47, 3) := by decide +kernel
theorem dX7_meetAlike_132 : decode cX7_meetAlike 132 = .ok (.iload 5, 2) := by decide +kernel
theorem dX7_meetAlike_134 : decode cX7_meetAlike 134 = .ok (.baload, 1) := by decide +kernel
theorem dX7_meetAlike_135 : decode cX7_meetAlike 135 = .ok (.ifCond .ne 24, 3) := by decide +kernel
theorem dX7_meetAlike_138 : decode cX7_meetAlike 138 = .ok (.aload_n 0, 1) := by decide +kernel
theorem dX7_meetAlike_139 : decode cX7_meetAlike 139 = .ok (.iload 5, 2) := by decide +kernel
theorem dX7_meetAlike_141 : decode cX7_meetAlike 141 = .ok (.iload_n 3, 1) := by decide +kernel
theorem dX7_meetAlike_142 : decode cX7_meetAlike 142 = .ok (.invokevirtual 148, 3) := by decide +kernel
theorem dX7_meetAlike_145 : decode cX7_meetAlike 145 = .ok (.pop, 1) := by decide +kernel
theorem dX7_meetAlike_146 : decode cX7_meetAlike 146 = .ok (.aload_n 0, 1) := by decide +kernel
theorem dX7_meetAlike_147 : decode cX7_meetAlike 147 = .ok (.getfield 19, 3) := by decide +kernel
theorem dX7_meetAlike_150 : decode cX7_meetAlike 150 = .ok (.aload_n 0, 1) := by decide +kernel
theorem dX7_meetAlike_151 : decode cX7_meetAlike 151 = .ok (.getfield 105, 3) := by decide +kernel
theorem dX7_meetAlike_154 : decode cX7_meetAlike 154 = .ok (.dup2, 1) := by decide +kernel
theorem dX7_meetAlike_155 : decode cX7_meetAlike 155 = .ok (.iaload, 1) := by decide +kernel
theorem dX7_meetAlike_156 : decode cX7_meetAlike 156 = .ok (.iconst 1, 1) := by decide +kernel
theorem dX7_meetAlike_157 : decode cX7_meetAlike 157 = .ok (.iadd, 1) := by decide +kernel
theorem dX7_meetAlike_158 : decode cX7_meetAlike 158 = .ok (.iastore, 1) := by decide +kernel
theorem dX7_meetAlike_159 : decode cX7_meetAlike 159 = .ok (.iinc 5 1, 3) := by decide +kernel
theorem dX7_meetAlike_162 : decode cX7_meetAlike 162 = .ok (.goto (-45), 3) := by decide +kernel
theorem dX7_meetAlike_165 : decode cX7_meetAlike 165 = .ok (.return_, 1) := by decide +kernel
theorem dX7_meetEnd_0 : decode cX7_meetEnd 0 = .ok (.aload_n 0, 1) := by decide +kernel
theorem dX7_meetEnd_1 : decode cX7_meetEnd 1 = .ok (.iload_n 2, 1) := by decide +kernel
theorem dX7_meetEnd_2 : decode cX7_meetEnd 2 = .ok (.iload_n 1, 1) := by decide +kernel
theorem dX7_meetEnd_3 : decode cX7_meetEnd 3 = .ok (.invokevirtual 141, 3) := by decide +kernel
theorem dX7_meetEnd_6 : decode cX7_meetEnd 6 = .ok (.aload_n 0, 1) := by decide +kernel
theorem dX7_meetEnd_7 : decode cX7_meetEnd 7 = .ok (.iload_n 1, 1) := by decide +kernel
theorem dX7_meetEnd_8 : decode cX7_meetEnd 8 = .ok (.invokevirtual 144, 3) := by decide +kernel
theorem dX7_meetEnd_11 : decode cX7_meetEnd 11 = .ok (.aload_n 0, 1) := by decide +kernel
theorem dX7_meetEnd_12 : decode cX7_meetEnd 12 = .ok (.iload_n 2, 1) := by decide +kernel
theorem dX7_meetEnd_13 : decode cX7_meetEnd 13 = .ok (.invokevirtual 144, 3) := by decide +kernel
theorem dX7_meetEnd_16 : decode cX7_meetEnd 16 = .ok (.aload_n 0, 1) := by decide +kernel
theorem dX7_meetEnd_17 : decode cX7_meetEnd 17 = .ok (.iconst 0, 1) := by decide +kernel
theorem dX7_meetEnd_18 : decode cX7_meetEnd 18 = .ok (.invokevirtual 154, 3) := by decide +kernel
theorem dX7_meetEnd_21 : decode cX7_meetEnd 21 = .ok (.istore_n 3, 1) := by decide +kernel
theorem dX7_meetEnd_22 : decode cX7_meetEnd 22 = .ok (.aload_n 0, 1) := by decide +kernel
theorem dX7_meetEnd_23 : decode cX7_meetEnd 23 = .ok (.iconst 0, 1) := by decide +kernel
theorem dX7_meetEnd_24 : decode cX7_meetEnd 24 = .ok (.invokevirtual 154, 3) := by decide +kernel
theorem dX7_meetEnd_27 : decode cX7_meetEnd 27 = .ok (.istore 4, 2) := by decide +kernel
theorem dX7_meetEnd_29 : decode cX7_meetEnd 29 = .ok (.aload_n 0, 1) := by decide +kernel
theorem dX7_meetEnd_30 : decode cX7_meetEnd 30 = .ok (.getfield 44, 3) := by decide +kernel
theorem dX7_meetEnd_33 : decode cX7_meetEnd 33 = .ok (.iconst 0, 1) := by decide +kernel
theorem dX7_meetEnd_34 : decode cX7_meetEnd 34 = .ok (.iaload, 1) := by decide +kernel
theorem dX7_meetEnd_35 : decode cX7_meetEnd 35 = .ok (.iconst 1, 1) := by decide +kernel
theorem dX7_meetEnd_36 : decode cX7_meetEnd 36 = .ok (.if_icmp .ne 17, 3) := by decide +kernel
theorem dX7_meetEnd_39 : decode cX7_meetEnd 39 = .ok (.aload_n 0, 1) := by decide +kernel
theorem dX7_meetEnd_40 : decode cX7_meetEnd 40 = .ok (.iconst 3, 1) := by decide +kernel
theorem dX7_meetEnd_41 : decode cX7_meetEnd 41 = .ok (.iload_n 3, 1) := by decide +kernel
theorem dX7_meetEnd_42 : decode cX7_meetEnd 42 = .ok (.imul, 1) := by decide +kernel
theorem dX7_meetEnd_43 : decode cX7_meetEnd 43 = .ok (.iconst 3, 1) := by decide +kernel
theorem dX7_meetEnd_44 : decode cX7_meetEnd 44 = .ok (.iload 4, 2) := by decide +kernel
theorem dX7_meetEnd_46 : decode cX7_meetEnd 46 = .ok (.imul, 1) := by decide +kernel
theorem dX7_meetEnd_47 : decode cX7_meetEnd 47 = .ok (.invokevirtual 151, 3) := by decide +kernel
theorem dX7_meetEnd_50 : decode cX7_meetEnd 50 = .ok (.goto 30, 3) := by decide +kernel
theorem dX7_meetEnd_53 : decode cX7_meetEnd 53 = .ok (.aload_n 0, 1) := by decide +kernel
theorem dX7_meetEnd_54 : decode cX7_meetEnd 54 = .ok (.iconst 3, 1) := by decide +kernel
theorem dX7_meetEnd_55 : decode cX7_meetEnd 55 = .ok (.iload_n 3, 1) := by decide +kernel
theorem dX7_meetEnd_56 : decode cX7_meetEnd 56 = .ok (.imul, 1) := by decide +kernel
theorem dX7_meetEnd_57 : decode cX7_meetEnd 57 = .ok (.aload_n 0, 1) := by decide +kernel
theorem dX7_meetEnd_58 : decode cX7_meetEnd 58 = .ok (.getfield 41, 3) := by decide +kernel
theorem dX7_meetEnd_61 : decode cX7_meetEnd 61 = .ok (.iconst 0, 1) := by decide +kernel
theorem dX7_meetEnd_62 : decode cX7_meetEnd 62 = .ok (.iaload, 1) := by decide +kernel
theorem dX7_meetEnd_63 : decode cX7_meetEnd 63 = .ok (.invokevirtual 151, 3) := by decide +kernel
theorem dX7_meetEnd_66 : decode cX7_meetEnd 66 = .ok (.aload_n 0, 1) := by decide +kernel
theorem dX7_meetEnd_67 : decode cX7_meetEnd 67 = .ok (.iconst 3, 1) := by decide +kernel
theorem dX7_meetEnd_68 : decode cX7_meetEnd 68 = .ok (.iload 4, 2) := by decide +kernel
theorem dX7_meetEnd_70 : decode cX7_meetEnd 70 = .ok (.imul, 1) := by decide +kernel
theorem dX7_meetEnd_71 : decode cX7_meetEnd 71 = .ok (.aload_n 0, 1) := by decide +kernel
theorem dX7_meetEnd_72 : decode cX7_meetEnd 72 = .ok (.getfield 41, 3) := by decide +kernel
theorem dX7_meetEnd_75 : decode cX7_meetEnd 75 = .ok (.iconst 1, 1) := by decide +kernel
theorem dX7_meetEnd_76 : decode cX7_meetEnd 76 = .ok (.iaload, 1) := by decide +kernel
theorem dX7_meetEnd_77 : decode cX7_meetEnd 77 = .ok (.invokevirtual 151, 3) := by decide +kernel
theorem dX7_meetEnd_80 : decode cX7_meetEnd 80 = .ok (.return_, 1) := by decide +kernel
theorem dX7_meetUnlike_0 : decode cX7_meetUnlike 0 = .ok (.aload_n 0, 1) := by decide +kernel
theorem dX7_meetUnlike_1 : decode cX7_meetUnlike 1 = .ok (.iload_n 1, 1) := by decide +kernel
theorem dX7_meetUnlike_2 : decode cX7_meetUnlike 2 = .ok (.iload_n 2, 1) := by decide +kernel
theorem dX7_meetUnlike_3 : decode cX7_meetUnlike 3 = .ok (.invokevirtual 141, 3) := by decide +kernel
theorem dX7_meetUnlike_6 : decode cX7_meetUnlike 6 = .ok (.aload_n 0, 1) := by decide +kernel
theorem dX7_meetUnlike_7 : decode cX7_meetUnlike 7 = .ok (.iload_n 1, 1) := by decide +kernel
theorem dX7_meetUnlike_8 : decode cX7_meetUnlike 8 = .ok (.invokevirtual 116, 3) := by decide +kernel
theorem dX7_meetUnlike_11 : decode cX7_meetUnlike 11 = .ok (.istore_n 3, 1) := by decide +kernel
theorem dX7_meetUnlike_12 : decode cX7_meetUnlike 12 = .ok (.aload_n 0, 1) := by decide +kernel
theorem dX7_meetUnlike_13 : decode cX7_meetUnlike 13 = .ok (.iload_n 2, 1) := by decide +kernel
theorem dX7_meetUnlike_14 : decode cX7_meetUnlike 14 = .ok (.invokevirtual 116, 3) := by decide +kernel
theorem dX7_meetUnlike_17 : decode cX7_meetUnlike 17 = .ok (.istore 4, 2) := by decide +kernel
theorem dX7_meetUnlike_19 : decode cX7_meetUnlike 19 = .ok (.aload_n 0, 1) := by decide +kernel
theorem dX7_meetUnlike_20 : decode cX7_meetUnlike 20 = .ok (.iload_n 1, 1) := by decide +kernel
theorem dX7_meetUnlike_21 : decode cX7_meetUnlike 21 = .ok (.invokevirtual 144, 3) := by decide +kernel
theorem dX7_meetUnlike_24 : decode cX7_meetUnlike 24 = .ok (.aload_n 0, 1) := by decide +kernel
theorem dX7_meetUnlike_25 : decode cX7_meetUnlike 25 = .ok (.iload_n 2, 1) := by decide +kernel
theorem dX7_meetUnlike_26 : decode cX7_meetUnlike 26 = .ok (.invokevirtual 144, 3) := by decide +kernel
theorem dX7_meetUnlike_29 : decode cX7_meetUnlike 29 = .ok (.aload_n 0, 1) := by decide +kernel
theorem dX7_meetUnlike_30 : decode cX7_meetUnlike 30 = .ok (.getfield 51, 3) := by decide +kernel
theorem dX7_meetUnlike_33 : decode cX7_meetUnlike 33 = .ok (.iconst 2, 1) := by decide +kernel
theorem dX7_meetUnlike_34 : decode cX7_meetUnlike 34 = .ok (.aload_n 0, 1) := by decide +kernel
theorem dX7_meetUnlike_35 : decode cX7_meetUnlike 35 = .ok (.iload_n 3, 1) := by decide +kernel
theorem dX7_meetUnlike_36 : decode cX7_meetUnlike 36 = .ok (.invokevirtual 154, 3) := by decide +kernel
theorem dX7_meetUnlike_39 : decode cX7_meetUnlike 39 = .ok (.iastore, 1) := by decide +kernel
theorem dX7_meetUnlike_40 : decode cX7_meetUnlike 40 = .ok (.aload_n 0, 1) := by decide +kernel
theorem dX7_meetUnlike_41 : decode cX7_meetUnlike 41 = .ok (.getfield 51, 3) := by decide +kernel
theorem dX7_meetUnlike_44 : decode cX7_meetUnlike 44 = .ok (.iconst 3, 1) := by decide +kernel
theorem dX7_meetUnlike_45 : decode cX7_meetUnlike 45 = .ok (.aload_n 0, 1) := by decide +kernel
theorem dX7_meetUnlike_46 : decode cX7_meetUnlike 46 = .ok (.iload_n 3, 1) := by decide +kernel
theorem dX7_meetUnlike_47 : decode cX7_meetUnlike 47 = .ok (.invokevirtual 154, 3) := by decide +kernel
theorem dX7_meetUnlike_50 : decode cX7_meetUnlike 50 = .ok (.iastore, 1) := by decide +kernel
theorem dX7_meetUnlike_51 : decode cX7_meetUnlike 51 = .ok (.aload_n 0, 1) := by decide +kernel
theorem dX7_meetUnlike_52 : decode cX7_meetUnlike 52 = .ok (.getfield 51, 3) := by decide +kernel
theorem dX7_meetUnlike_55 : decode cX7_meetUnlike 55 = .ok (.iconst 0, 1) := by decide +kernel
theorem dX7_meetUnlike_56 : decode cX7_meetUnlike 56 = .ok (.aload_n 0, 1) := by decide +kernel
theorem dX7_meetUnlike_57 : decode cX7_meetUnlike 57 = .ok (.iload 4, 2) := by decide +kernel
theorem dX7_meetUnlike_59 : decode cX7_meetUnlike 59 = .ok (.invokevirtual 154, 3) := by decide +kernel
theorem dX7_meetUnlike_62 : decode cX7_meetUnlike 62 = .ok (.iastore, 1) := by decide +kernel
theorem dX7_meetUnlike_63 : decode cX7_meetUnlike 63 = .ok (.aload_n 0, 1) := by decide +kernel
theorem dX7_meetUnlike_64 : decode cX7_meetUnlike 64 = .ok (.getfield 51, 3) := by decide +kernel
theorem dX7_meetUnlike_67 : decode cX7_meetUnlike 67 = .ok (.iconst 1, 1) := by decide +kernel
theorem dX7_meetUnlike_68 : decode cX7_meetUnlike 68 = .ok (.aload_n 0, 1) := by decide +kernel
theorem dX7_meetUnlike_69 : decode cX7_meetUnlike 69 = .ok (.iload 4, 2) := by decide +kernel
theorem dX7_meetUnlike_71 : decode cX7_meetUnlike 71 = .ok (.invokevirtual 154, 3) := by decide +kernel
theorem dX7_meetUnlike_74 : decode cX7_meetUnlike 74 = .ok (.iastore, 1) := by decide +kernel
theorem dX7_meetUnlike_75 : decode cX7_meetUnlike 75 = .ok (.iconst 0, 1) := by decide +kernel
theorem dX7_meetUnlike_76 : decode cX7_meetUnlike 76 = .ok (.istore 5, 2) := by decide +kernel
theorem dX7_meetUnlike_78 : decode cX7_meetUnlike 78 = .ok (.iload 5, 2) := by decide +kernel
theorem dX7_meetUnlike_80 : decode cX7_meetUnlike 80 = .ok (.iconst 4, 1) := by decide +kernel
theorem dX7_meetUnlike_81 : decode cX7_meetUnlike 81 = .ok (.if_icmp .ge 57, 3) := by decide +kernel
theorem dX7_meetUnlike_84 : decode cX7_meetUnlike 84 = .ok (.aload_n 0, 1) := by decide +kernel
theorem dX7_meetUnlike_85 : decode cX7_meetUnlike 85 = .ok (.iconst 3, 1) := by decide +kernel
theorem dX7_meetUnlike_86 : decode cX7_meetUnlike 86 = .ok (.aload_n 0, 1) := by decide +kernel
theorem dX7_meetUnlike_87 : decode cX7_meetUnlike 87 = .ok (.getfield 51, 3) := by decide +kernel
theorem dX7_meetUnlike_90 : decode cX7_meetUnlike 90 = .ok (.iload 5, 2) := by decide +kernel
theorem dX7_meetUnlike_92 : decode cX7_meetUnlike 92 = .ok (.iaload, 1) := by decide +kernel
theorem dX7_meetUnlike_93 : decode cX7_meetUnlike 93 = .ok (.imul, 1) := by decide +kernel
theorem dX7_meetUnlike_94 : decode cX7_meetUnlike 94 = .ok (.aload_n 0, 1) := by decide +kernel
theorem dX7_meetUnlike_95 : decode cX7_meetUnlike 95 = .ok (.getfield 44, 3) := by decide +kernel
theorem dX7_meetUnlike_98 : decode cX7_meetUnlike 98 = .ok (.iload 5, 2) := by decide +kernel
theorem dX7_meetUnlike_100 : decode cX7_meetUnlike 100 = .ok (.iaload, 1) := by decide +kernel
theorem dX7_meetUnlike_101 : decode cX7_meetUnlike 101 = .ok (.iconst (-1), 1) := by decide +kernel
theorem dX7_meetUnlike_102 : decode cX7_meetUnlike 102 = .ok (.if_icmp .ne 13, 3) := by decide +kernel
theorem dX7_meetUnlike_105 : decode cX7_meetUnlike 105 = .ok (.aload_n 0, 1) := by decide +kernel
theorem dX7_meetUnlike_106 : decode cX7_meetUnlike 106 = .ok (.getfield 41, 3) := by decide +kernel
theorem dX7_meetUnlike_109 : decode cX7_meetUnlike 109 = .ok (.iload 5, 2) := by decide +kernel
theorem dX7_meetUnlike_111 : decode cX7_meetUnlike 111 = .ok (.iaload, 1) := by decide +kernel
theorem dX7_meetUnlike_112 : decode cX7_meetUnlike 112 = .ok (.goto 17, 3) := by decide +kernel
theorem dX7_meetUnlike_115 : decode cX7_meetUnlike 115 = .ok (.iconst 3, 1) := by decide +kernel
theorem dX7_meetUnlike_116 : decode cX7_meetUnlike 116 = .ok (.aload_n 0, 1) := by decide +kernel
theorem dX7_meetUnlike_117 : decode cX7_meetUnlike 117 = .ok (.getfield 51, 3) := by decide +kernel
theorem dX7_meetUnlike_120 : decode cX7_meetUnlike 120 = .ok (.aload_n 0, 1) := by decide +kernel
theorem dX7_meetUnlike_121 : decode cX7_meetUnlike 121 = .ok (.getfield 44, 3) := by decide +kernel
theorem dX7_meetUnlike_124 : decode cX7_meetUnlike 124 = .ok (.iload 5, 2) := by decide +kernel
theorem dX7_meetUnlike_126 : decode cX7_meetUnlike 126 = .ok (.iaload, 1) := by decide +kernel
theorem dX7_meetUnlike_127 : decode cX7_meetUnlike 127 = .ok (.iaload, 1) := by decide +kernel
theorem dX7_meetUnlike_128 : decode cX7_meetUnlike 128 = .ok (.imul, 1) := by decide +kernel
theorem dX7_meetUnlike_129 : decode cX7_meetUnlike 129 = .ok (.invokevirtual 151, 3) := by decide +kernel
theorem dX7_meetUnlike_132 : decode cX7_meetUnlike 132 = .ok (.iinc 5 1, 3) := by decide +kernel
theorem dX7_meetUnlike_135 : decode cX7_meetUnlike 135 = .ok (.goto (-57), 3) := by decide +kernel
theorem dX7_meetUnlike_138 : decode cX7_meetUnlike 138 = .ok (.iconst 0, 1) := by decide +kernel
theorem dX7_meetUnlike_139 : decode cX7_meetUnlike 139 = .ok (.istore 5, 2) := by decide +kernel
theorem dX7_meetUnlike_141 : decode cX7_meetUnlike 141 = .ok (.iload 5, 2) := by decide +kernel
theorem dX7_meetUnlike_143 : decode cX7_meetUnlike 143 = .ok (.iconst 2, 1) := by decide +kernel
theorem dX7_meetUnlike_144 : decode cX7_meetUnlike 144 = .ok (.if_icmp .ge 58, 3) := by decide +kernel
theorem dX7_meetUnlike_147 : decode cX7_meetUnlike 147 = .ok (.iconst 0, 1) := by decide +kernel
theorem dX7_meetUnlike_148 : decode cX7_meetUnlike 148 = .ok (.istore 6, 2) := by decide +kernel
theorem dX7_meetUnlike_150 : decode cX7_meetUnlike 150 = .ok (.iload 6, 2) := by decide +kernel
theorem dX7_meetUnlike_152 : decode cX7_meetUnlike 152 = .ok (.iconst 2, 1) := by decide +kernel
theorem dX7_meetUnlike_153 : decode cX7_meetUnlike 153 = .ok (.if_icmp .ge 43, 3) := by decide +kernel
theorem dX7_meetUnlike_156 : decode cX7_meetUnlike 156 = .ok (.aload_n 0, 1) := by decide +kernel
theorem dX7_meetUnlike_157 : decode cX7_meetUnlike 157 = .ok (.iconst 3, 1) := by decide +kernel
theorem dX7_meetUnlike_158 : decode cX7_meetUnlike 158 = .ok (.aload_n 0, 1) := by decide +kernel
theorem dX7_meetUnlike_159 : decode cX7_meetUnlike 159 = .ok (.getfield 51, 3) := by decide +kernel
theorem dX7_meetUnlike_162 : decode cX7_meetUnlike 162 = .ok (.iconst 2, 1) := by decide +kernel
theorem dX7_meetUnlike_163 : decode cX7_meetUnlike 163 = .ok (.iload 5, 2) := by decide +kernel
theorem dX7_meetUnlike_165 : decode cX7_meetUnlike 165 = .ok (.iadd, 1) := by decide +kernel
theorem dX7_meetUnlike_166 : decode cX7_meetUnlike 166 = .ok (.iaload, 1) := by decide +kernel
theorem dX7_meetUnlike_167 : decode cX7_meetUnlike 167 = .ok (.imul, 1) := by decide +kernel
theorem dX7_meetUnlike_168 : decode cX7_meetUnlike 168 = .ok (.iconst 1, 1) := by decide +kernel
theorem dX7_meetUnlike_169 : decode cX7_meetUnlike 169 = .ok (.iadd, 1) := by decide +kernel
theorem dX7_meetUnlike_170 : decode cX7_meetUnlike 170 = .ok (.iload 6, 2) := by decide +kernel
theorem dX7_meetUnlike_172 : decode cX7_meetUnlike 172 = .ok (.iadd, 1) := by decide +kernel
theorem dX7_meetUnlike_173 : decode cX7_meetUnlike 173 = .ok (.iconst 3, 1) := by decide +kernel
theorem dX7_meetUnlike_174 : decode cX7_meetUnlike 174 = .ok (.aload_n 0, 1) := by decide +kernel
theorem dX7_meetUnlike_175 : decode cX7_meetUnlike 175 = .ok (.getfield 51, 3) := by decide +kernel
theorem dX7_meetUnlike_178 : decode cX7_meetUnlike 178 = .ok (.iload 6, 2) := by decide +kernel
theorem dX7_meetUnlike_180 : decode cX7_meetUnlike 180 = .ok (.iaload, 1) := by decide +kernel
theorem dX7_meetUnlike_181 : decode cX7_meetUnlike 181 = .ok (.imul, 1) := by decide +kernel
theorem dX7_meetUnlike_182 : decode cX7_meetUnlike 182 = .ok (.iconst 1, 1) := by decide +kernel
theorem dX7_meetUnlike_183 : decode cX7_meetUnlike 183 = .ok (.iadd, 1) := by decide +kernel
theorem dX7_meetUnlike_184 : decode cX7_meetUnlike 184 = .ok (.iload 5, 2) := by decide +kernel
theorem dX7_meetUnlike_186 : decode cX7_meetUnlike 186 = .ok (.iadd, 1) := by decide +kernel
theorem dX7_meetUnlike_187 : decode cX7_meetUnlike 187 = .ok (.invokevirtual 151, 3) := by decide +kernel
theorem dX7_meetUnlike_190 : decode cX7_meetUnlike 190 = .ok (.iinc 6 1, 3) := by decide +kernel
theorem dX7_meetUnlike_193 : decode cX7_meetUnlike 193 = .ok (.goto (-43), 3) := by decide +kernel
theorem dX7_meetUnlike_196 : decode cX7_meetUnlike 196 = .ok (.iinc 5 1, 3) := by decide +kernel
theorem dX7_meetUnlike_199 : decode cX7_meetUnlike 199 = .ok (.goto (-58), 3) := by decide +kernel
theorem dX7_meetUnlike_202 : decode cX7_meetUnlike 202 = .ok (.return_, 1) := by decide +kernel
theorem dX7_meetNow_0 : decode cX7_meetNow 0 = .ok (.aload_n 0, 1) := by decide +kernel
theorem dX7_meetNow_1 : decode cX7_meetNow 1 = .ok (.iload_n 1, 1) := by decide +kernel
theorem dX7_meetNow_2 : decode cX7_meetNow 2 = .ok (.invokevirtual 157, 3) := by decide +kernel
theorem dX7_meetNow_5 : decode cX7_meetNow 5 = .ok (.istore_n 2, 1) := by decide +kernel
theorem dX7_meetNow_6 : decode cX7_meetNow 6 = .ok (.aload_n 0, 1) := by decide +kernel
theorem dX7_meetNow_7 : decode cX7_meetNow 7 = .ok (.iload_n 1, 1) := by decide +kernel
theorem dX7_meetNow_8 : decode cX7_meetNow 8 = .ok (.invokevirtual 131, 3) := by decide +kernel
theorem dX7_meetNow_11 : decode cX7_meetNow 11 = .ok (.istore_n 3, 1) := by decide +kernel
theorem dX7_meetNow_12 : decode cX7_meetNow 12 = .ok (.iload_n 2, 1) := by decide +kernel
theorem dX7_meetNow_13 : decode cX7_meetNow 13 = .ok (.iconst 1, 1) := by decide +kernel
theorem dX7_meetNow_14 : decode cX7_meetNow 14 = .ok (.if_icmp .ne 12, 3) := by decide +kernel
theorem dX7_meetNow_17 : decode cX7_meetNow 17 = .ok (.aload_n 0, 1) := by decide +kernel
theorem dX7_meetNow_18 : decode cX7_meetNow 18 = .ok (.iload_n 1, 1) := by decide +kernel
theorem dX7_meetNow_19 : decode cX7_meetNow 19 = .ok (.iload_n 3, 1) := by decide +kernel
theorem dX7_meetNow_20 : decode cX7_meetNow 20 = .ok (.invokevirtual 160, 3) := by decide +kernel
theorem dX7_meetNow_23 : decode cX7_meetNow 23 = .ok (.goto 40, 3) := by decide +kernel
theorem dX7_meetNow_26 : decode cX7_meetNow 26 = .ok (.iload_n 2, 1) := by decide +kernel
theorem dX7_meetNow_27 : decode cX7_meetNow 27 = .ok (.iconst 2, 1) := by decide +kernel
theorem dX7_meetNow_28 : decode cX7_meetNow 28 = .ok (.if_icmp .ne 12, 3) := by decide +kernel
theorem dX7_meetNow_31 : decode cX7_meetNow 31 = .ok (.aload_n 0, 1) := by decide +kernel
theorem dX7_meetNow_32 : decode cX7_meetNow 32 = .ok (.iload_n 1, 1) := by decide +kernel
theorem dX7_meetNow_33 : decode cX7_meetNow 33 = .ok (.iload_n 3, 1) := by decide +kernel
theorem dX7_meetNow_34 : decode cX7_meetNow 34 = .ok (.invokevirtual 163, 3) := by decide +kernel
theorem dX7_meetNow_37 : decode cX7_meetNow 37 = .ok (.goto 26, 3) := by decide +kernel
theorem dX7_meetNow_40 : decode cX7_meetNow 40 = .ok (.aload_n 0, 1) := by decide +kernel
theorem dX7_meetNow_41 : decode cX7_meetNow 41 = .ok (.iload_n 1, 1) := by decide +kernel
theorem dX7_meetNow_42 : decode cX7_meetNow 42 = .ok (.invokevirtual 116, 3) := by decide +kernel
theorem dX7_meetNow_45 : decode cX7_meetNow 45 = .ok (.ifCond .ne 12, 3) := by decide +kernel
theorem dX7_meetNow_48 : decode cX7_meetNow 48 = .ok (.aload_n 0, 1) := by decide +kernel
theorem dX7_meetNow_49 : decode cX7_meetNow 49 = .ok (.iload_n 1, 1) := by decide +kernel
theorem dX7_meetNow_50 : decode cX7_meetNow 50 = .ok (.iload_n 3, 1) := by decide +kernel
theorem dX7_meetNow_51 : decode cX7_meetNow 51 = .ok (.invokevirtual 166, 3) := by decide +kernel
theorem dX7_meetNow_54 : decode cX7_meetNow 54 = .ok (.goto 9, 3) := by decide +kernel
theorem dX7_meetNow_57 : decode cX7_meetNow 57 = .ok (.aload_n 0, 1) := by decide +kernel
theorem dX7_meetNow_58 : decode cX7_meetNow 58 = .ok (.iload_n 3, 1) := by decide +kernel
theorem dX7_meetNow_59 : decode cX7_meetNow 59 = .ok (.iload_n 1, 1) := by decide +kernel
theorem dX7_meetNow_60 : decode cX7_meetNow 60 = .ok (.invokevirtual 166, 3) := by decide +kernel
theorem dX7_meetNow_63 : decode cX7_meetNow 63 = .ok (.iload_n 2, 1) := by decide +kernel
theorem dX7_meetNow_64 : decode cX7_meetNow 64 = .ok (.ireturn, 1) := by decide +kernel
theorem dX7_letter_0 : decode cX7_letter 0 = .ok (.iload_n 1, 1) := by decide +kernel
theorem dX7_letter_1 : decode cX7_letter 1 = .ok (.bipush 32, 2) := by decide +kernel
theorem dX7_letter_3 : decode cX7_letter 3 = .ok (.bipush 126, 2) := by decide +kernel
theorem dX7_letter_5 : decode cX7_letter 5 = .ok (.invokestatic 112, 3) := by decide +kernel
theorem dX7_letter_8 : decode cX7_letter 8 = .ok (.ifCond .ne 6, 3) := by decide +kernel
theorem dX7_letter_11 : decode cX7_letter 11 = .ok (.bipush (-102), 2) := by decide +kernel
theorem dX7_letter_13 : decode cX7_letter 13 = .ok (.ireturn, 1) := by decide +kernel
theorem dX7_letter_14 : decode cX7_letter 14 = .ok (.aload_n 0, 1) := by decide +kernel
theorem dX7_letter_15 : decode cX7_letter 15 = .ok (.getfield 169, 3) := by decide +kernel
theorem dX7_letter_18 : decode cX7_letter 18 = .ok (.bipush 80, 2) := by decide +kernel
theorem dX7_letter_20 : decode cX7_letter 20 = .ok (.if_icmp .ne 6, 3) := by decide +kernel
theorem dX7_letter_23 : decode cX7_letter 23 = .ok (.bipush (-104), 2) := by decide +kernel
theorem dX7_letter_25 : decode cX7_letter 25 = .ok (.ireturn, 1) := by decide +kernel
theorem dX7_letter_26 : decode cX7_letter 26 = .ok (.aload_n 0, 1) := by decide +kernel
theorem dX7_letter_27 : decode cX7_letter 27 = .ok (.getfield 34, 3) := by decide +kernel
theorem dX7_letter_30 : decode cX7_letter 30 = .ok (.aload_n 0, 1) := by decide +kernel
theorem dX7_letter_31 : decode cX7_letter 31 = .ok (.getfield 169, 3) := by decide +kernel
theorem dX7_letter_34 : decode cX7_letter 34 = .ok (.iload_n 1, 1) := by decide +kernel
theorem dX7_letter_35 : decode cX7_letter 35 = .ok (.i2b, 1) := by decide +kernel
theorem dX7_letter_36 : decode cX7_letter 36 = .ok (.bastore, 1) := by decide +kernel
theorem dX7_letter_37 : decode cX7_letter 37 = .ok (.aload_n 0, 1) := by decide +kernel
theorem dX7_letter_38 : decode cX7_letter 38 = .ok (.dup, 1) := by decide +kernel
theorem dX7_letter_39 : decode cX7_letter 39 = .ok (.getfield 169, 3) := by decide +kernel
theorem dX7_letter_42 : decode cX7_letter 42 = .ok (.iconst 1, 1) := by decide +kernel
theorem dX7_letter_43 : decode cX7_letter 43 = .ok (.iadd, 1) := by decide +kernel
theorem dX7_letter_44 : decode cX7_letter 44 = .ok (.putfield 169, 3) := by decide +kernel
theorem dX7_letter_47 : decode cX7_letter 47 = .ok (.aload_n 0, 1) := by decide +kernel
theorem dX7_letter_48 : decode cX7_letter 48 = .ok (.getfield 169, 3) := by decide +kernel
theorem dX7_letter_51 : decode cX7_letter 51 = .ok (.ireturn, 1) := by decide +kernel
theorem dX7_blank_0 : decode cX7_blank 0 = .ok (.aload_n 0, 1) := by decide +kernel
theorem dX7_blank_1 : decode cX7_blank 1 = .ok (.getfield 169, 3) := by decide +kernel
theorem dX7_blank_4 : decode cX7_blank 4 = .ok (.istore_n 1, 1) := by decide +kernel
theorem dX7_blank_5 : decode cX7_blank 5 = .ok (.aload_n 0, 1) := by decide +kernel
theorem dX7_blank_6 : decode cX7_blank 6 = .ok (.iconst 0, 1) := by decide +kernel
theorem dX7_blank_7 : decode cX7_blank 7 = .ok (.putfield 169, 3) := by decide +kernel
theorem dX7_blank_10 : decode cX7_blank 10 = .ok (.iload_n 1, 1) := by decide +kernel
theorem dX7_blank_11 : decode cX7_blank 11 = .ok (.ireturn, 1) := by decide +kernel
theorem dX7_kindBy_0 : decode cX7_kindBy 0 = .ok (.iload_n 0, 1) := by decide +kernel
theorem dX7_kindBy_1 : decode cX7_kindBy 1 = .ok (.bipush 42, 2) := by decide +kernel
theorem dX7_kindBy_3 : decode cX7_kindBy 3 = .ok (.if_icmp .ne 7, 3) := by decide +kernel
theorem dX7_kindBy_6 : decode cX7_kindBy 6 = .ok (.iconst 0, 1) := by decide +kernel
theorem dX7_kindBy_7 : decode cX7_kindBy 7 = .ok (.goto 34, 3) := by decide +kernel
theorem dX7_kindBy_10 : decode cX7_kindBy 10 = .ok (.iload_n 0, 1) := by decide +kernel
theorem dX7_kindBy_11 : decode cX7_kindBy 11 = .ok (.bipush 40, 2) := by decide +kernel
theorem dX7_kindBy_13 : decode cX7_kindBy 13 = .ok (.if_icmp .ne 7, 3) := by decide +kernel
theorem dX7_kindBy_16 : decode cX7_kindBy 16 = .ok (.iconst 1, 1) := by decide +kernel
theorem dX7_kindBy_17 : decode cX7_kindBy 17 = .ok (.goto 24, 3) := by decide +kernel
theorem dX7_kindBy_20 : decode cX7_kindBy 20 = .ok (.iload_n 0, 1) := by decide +kernel
theorem dX7_kindBy_21 : decode cX7_kindBy 21 = .ok (.bipush 91, 2) := by decide +kernel
theorem dX7_kindBy_23 : decode cX7_kindBy 23 = .ok (.if_icmp .ne 7, 3) := by decide +kernel
theorem dX7_kindBy_26 : decode cX7_kindBy 26 = .ok (.iconst 2, 1) := by decide +kernel
theorem dX7_kindBy_27 : decode cX7_kindBy 27 = .ok (.goto 14, 3) := by decide +kernel
theorem dX7_kindBy_30 : decode cX7_kindBy 30 = .ok (.iload_n 0, 1) := by decide +kernel
theorem dX7_kindBy_31 : decode cX7_kindBy 31 = .ok (.bipush 123, 2) := by decide +kernel
theorem dX7_kindBy_33 : decode cX7_kindBy 33 = .ok (.if_icmp .ne 7, 3) := by decide +kernel
theorem dX7_kindBy_36 : decode cX7_kindBy 36 = .ok (.iconst 3, 1) := by decide +kernel
theorem dX7_kindBy_37 : decode cX7_kindBy 37 = .ok (.goto 4, 3) := by decide +kernel
theorem dX7_kindBy_40 : decode cX7_kindBy 40 = .ok (.iconst (-1), 1) := by decide +kernel
theorem dX7_kindBy_41 : decode cX7_kindBy 41 = .ok (.ireturn, 1) := by decide +kernel
theorem dX7_closing_0 : decode cX7_closing 0 = .ok (.iload_n 0, 1) := by decide +kernel
theorem dX7_closing_1 : decode cX7_closing 1 = .ok (.iconst 1, 1) := by decide +kernel
theorem dX7_closing_2 : decode cX7_closing 2 = .ok (.if_icmp .ne 8, 3) := by decide +kernel
theorem dX7_closing_5 : decode cX7_closing 5 = .ok (.bipush 41, 2) := by decide +kernel
theorem dX7_closing_7 : decode cX7_closing 7 = .ok (.goto 15, 3) := by decide +kernel
theorem dX7_closing_10 : decode cX7_closing 10 = .ok (.iload_n 0, 1) := by decide +kernel
theorem dX7_closing_11 : decode cX7_closing 11 = .ok (.iconst 2, 1) := by decide +kernel
theorem dX7_closing_12 : decode cX7_closing 12 = .ok (.if_icmp .ne 8, 3) := by decide +kernel
theorem dX7_closing_15 : decode cX7_closing 15 = .ok (.bipush 93, 2) := by decide +kernel
theorem dX7_closing_17 : decode cX7_closing 17 = .ok (.goto 5, 3) := by decide +kernel
theorem dX7_closing_20 : decode cX7_closing 20 = .ok (.bipush 125, 2) := by decide +kernel
theorem dX7_closing_22 : decode cX7_closing 22 = .ok (.ireturn, 1) := by decide +kernel
theorem dX7_rawWire_0 : decode cX7_rawWire 0 = .ok (.aload_n 0, 1) := by decide +kernel
theorem dX7_rawWire_1 : decode cX7_rawWire 1 = .ok (.getfield 63, 3) := by decide +kernel
theorem dX7_rawWire_4 : decode cX7_rawWire 4 = .ok (.iload_n 1, 1) := by decide +kernel
theorem dX7_rawWire_5 : decode cX7_rawWire 5 = .ok (.iload_n 2, 1) := by decide +kernel
theorem dX7_rawWire_6 : decode cX7_rawWire 6 = .ok (.iastore, 1) := by decide +kernel
theorem dX7_rawWire_7 : decode cX7_rawWire 7 = .ok (.aload_n 0, 1) := by decide +kernel
theorem dX7_rawWire_8 : decode cX7_rawWire 8 = .ok (.getfield 63, 3) := by decide +kernel
theorem dX7_rawWire_11 : decode cX7_rawWire 11 = .ok (.iload_n 2, 1) := by decide +kernel
theorem dX7_rawWire_12 : decode cX7_rawWire 12 = .ok (.iload_n 1, 1) := by decide +kernel
theorem dX7_rawWire_13 : decode cX7_rawWire 13 = .ok (.iastore, 1) := by decide +kernel
theorem dX7_rawWire_14 : decode cX7_rawWire 14 = .ok (.return_, 1) := by decide +kernel
theorem dX7_treeIs_0 : decode cX7_treeIs 0 = .ok (.aload_n 0, 1) := by decide +kernel
theorem dX7_treeIs_1 : decode cX7_treeIs 1 = .ok (.getfield 172, 3) := by decide +kernel
theorem dX7_treeIs_4 : decode cX7_treeIs 4 = .ok (.ifCond .le 79, 3) := by decide +kernel
theorem dX7_treeIs_7 : decode cX7_treeIs 7 = .ok (.aload_n 0, 1) := by decide +kernel
theorem dX7_treeIs_8 : decode cX7_treeIs 8 = .ok (.getfield 54, 3) := by decide +kernel
theorem dX7_treeIs_11 : decode cX7_treeIs 11 = .ok (.aload_n 0, 1) := by decide +kernel
theorem dX7_treeIs_12 : decode cX7_treeIs 12 = .ok (.getfield 172, 3) := by decide +kernel
theorem dX7_treeIs_15 : decode cX7_treeIs 15 = .ok (.iconst 1, 1) := by decide +kernel
theorem dX7_treeIs_16 : decode cX7_treeIs 16 = .ok (.isub, 1) := by decide +kernel
theorem dX7_treeIs_17 : decode cX7_treeIs 17 = .ok (.iaload, 1) := by decide +kernel
theorem dX7_treeIs_18 : decode cX7_treeIs 18 = .ok (.istore_n 2, 1) := by decide +kernel
theorem dX7_treeIs_19 : decode cX7_treeIs 19 = .ok (.aload_n 0, 1) := by decide +kernel
theorem dX7_treeIs_20 : decode cX7_treeIs 20 = .ok (.iconst 3, 1) := by decide +kernel
theorem dX7_treeIs_21 : decode cX7_treeIs 21 = .ok (.iload_n 2, 1) := by decide +kernel
theorem dX7_treeIs_22 : decode cX7_treeIs 22 = .ok (.imul, 1) := by decide +kernel
theorem dX7_treeIs_23 : decode cX7_treeIs 23 = .ok (.iconst 1, 1) := by decide +kernel
theorem dX7_treeIs_24 : decode cX7_treeIs 24 = .ok (.iadd, 1) := by decide +kernel
theorem dX7_treeIs_25 : decode cX7_treeIs 25 = .ok (.aload_n 0, 1) := by decide +kernel
theorem dX7_treeIs_26 : decode cX7_treeIs 26 = .ok (.getfield 57, 3) := by decide +kernel
theorem dX7_treeIs_29 : decode cX7_treeIs 29 = .ok (.aload_n 0, 1) := by decide +kernel
theorem dX7_treeIs_30 : decode cX7_treeIs 30 = .ok (.getfield 172, 3) := by decide +kernel
theorem dX7_treeIs_33 : decode cX7_treeIs 33 = .ok (.iconst 1, 1) := by decide +kernel
theorem dX7_treeIs_34 : decode cX7_treeIs 34 = .ok (.isub, 1) := by decide +kernel
theorem dX7_treeIs_35 : decode cX7_treeIs 35 = .ok (.iaload, 1) := by decide +kernel
theorem dX7_treeIs_36 : decode cX7_treeIs 36 = .ok (.iadd, 1) := by decide +kernel
theorem dX7_treeIs_37 : decode cX7_treeIs 37 = .ok (.iload_n 1, 1) := by decide +kernel
theorem dX7_treeIs_38 : decode cX7_treeIs 38 = .ok (.invokevirtual 175, 3) := by decide +kernel
theorem dX7_treeIs_41 : decode cX7_treeIs 41 = .ok (.aload_n 0, 1) := by decide +kernel
theorem dX7_treeIs_42 : decode cX7_treeIs 42 = .ok (.getfield 57, 3) := by decide +kernel
theorem dX7_treeIs_45 : decode cX7_treeIs 45 = .ok (.aload_n 0, 1) := by decide +kernel
theorem dX7_treeIs_46 : decode cX7_treeIs 46 = .ok (.getfield 172, 3) := by decide +kernel
theorem dX7_treeIs_49 : decode cX7_treeIs 49 = .ok (.iconst 1, 1) := by decide +kernel
theorem dX7_treeIs_50 : decode cX7_treeIs 50 = .ok (.isub, 1) := by decide +kernel
theorem dX7_treeIs_51 : decode cX7_treeIs 51 = .ok (.dup2, 1) := by decide +kernel
theorem dX7_treeIs_52 : decode cX7_treeIs 52 = .ok (.iaload, 1) := by decide +kernel
theorem dX7_treeIs_53 : decode cX7_treeIs 53 = .ok (.iconst 1, 1) := by decide +kernel
theorem dX7_treeIs_54 : decode cX7_treeIs 54 = .ok (.iadd, 1) := by decide +kernel
theorem dX7_treeIs_55 : decode cX7_treeIs 55 = .ok (.iastore, 1) := by decide +kernel
theorem dX7_treeIs_56 : decode cX7_treeIs 56 = .ok (.aload_n 0, 1) := by decide +kernel
theorem dX7_treeIs_57 : decode cX7_treeIs 57 = .ok (.aload_n 0, 1) := by decide +kernel
theorem dX7_treeIs_58 : decode cX7_treeIs 58 = .ok (.getfield 57, 3) := by decide +kernel
theorem dX7_treeIs_61 : decode cX7_treeIs 61 = .ok (.aload_n 0, 1) := by decide +kernel
theorem dX7_treeIs_62 : decode cX7_treeIs 62 = .ok (.getfield 172, 3) := by decide +kernel
theorem dX7_treeIs_65 : decode cX7_treeIs 65 = .ok (.iconst 1, 1) := by decide +kernel
theorem dX7_treeIs_66 : decode cX7_treeIs 66 = .ok (.isub, 1) := by decide +kernel
theorem dX7_treeIs_67 : decode cX7_treeIs 67 = .ok (.iaload, 1) := by decide +kernel
theorem dX7_treeIs_68 : decode cX7_treeIs 68 = .ok (.iconst 2, 1) := by decide +kernel
theorem dX7_treeIs_69 : decode cX7_treeIs 69 = .ok (.if_icmp .ne 7, 3) := by decide +kernel
theorem dX7_treeIs_72 : decode cX7_treeIs 72 = .ok (.iconst 3, 1) := by decide +kernel
theorem dX7_treeIs_73 : decode cX7_treeIs 73 = .ok (.goto 4, 3) := by decide +kernel
theorem dX7_treeIs_76 : decode cX7_treeIs 76 = .ok (.iconst 0, 1) := by decide +kernel
theorem dX7_treeIs_77 : decode cX7_treeIs 77 = .ok (.putfield 178, 3) := by decide +kernel
theorem dX7_treeIs_80 : decode cX7_treeIs 80 = .ok (.goto 47, 3) := by decide +kernel
theorem dX7_treeIs_83 : decode cX7_treeIs 83 = .ok (.aload_n 0, 1) := by decide +kernel
theorem dX7_treeIs_84 : decode cX7_treeIs 84 = .ok (.getfield 181, 3) := by decide +kernel
theorem dX7_treeIs_87 : decode cX7_treeIs 87 = .ok (.ifCond .ne 21, 3) := by decide +kernel
theorem dX7_treeIs_90 : decode cX7_treeIs 90 = .ok (.aload_n 0, 1) := by decide +kernel
theorem dX7_treeIs_91 : decode cX7_treeIs 91 = .ok (.iload_n 1, 1) := by decide +kernel
theorem dX7_treeIs_92 : decode cX7_treeIs 92 = .ok (.putfield 184, 3) := by decide +kernel
theorem dX7_treeIs_95 : decode cX7_treeIs 95 = .ok (.aload_n 0, 1) := by decide +kernel
theorem dX7_treeIs_96 : decode cX7_treeIs 96 = .ok (.iconst 1, 1) := by decide +kernel
theorem dX7_treeIs_97 : decode cX7_treeIs 97 = .ok (.putfield 181, 3) := by decide +kernel
theorem dX7_treeIs_100 : decode cX7_treeIs 100 = .ok (.aload_n 0, 1) := by decide +kernel
theorem dX7_treeIs_101 : decode cX7_treeIs 101 = .ok (.iconst 1, 1) := by decide +kernel
theorem dX7_treeIs_102 : decode cX7_treeIs 102 = .ok (.putfield 178, 3) := by decide +kernel
theorem dX7_treeIs_105 : decode cX7_treeIs 105 = .ok (.goto 22, 3) := by decide +kernel
theorem dX7_treeIs_108 : decode cX7_treeIs 108 = .ok (.aload_n 0, 1) := by decide +kernel
theorem dX7_treeIs_109 : decode cX7_treeIs 109 = .ok (.aload_n 0, 1) := by decide +kernel
theorem dX7_treeIs_110 : decode cX7_treeIs 110 = .ok (.getfield 184, 3) := by decide +kernel
theorem dX7_treeIs_113 : decode cX7_treeIs 113 = .ok (.iload_n 1, 1) := by decide +kernel
theorem dX7_treeIs_114 : decode cX7_treeIs 114 = .ok (.invokevirtual 175, 3) := by decide +kernel
theorem dX7_treeIs_117 : decode cX7_treeIs 117 = .ok (.aload_n 0, 1) := by decide +kernel
theorem dX7_treeIs_118 : decode cX7_treeIs 118 = .ok (.iconst 0, 1) := by decide +kernel
theorem dX7_treeIs_119 : decode cX7_treeIs 119 = .ok (.putfield 181, 3) := by decide +kernel
theorem dX7_treeIs_122 : decode cX7_treeIs 122 = .ok (.aload_n 0, 1) := by decide +kernel
theorem dX7_treeIs_123 : decode cX7_treeIs 123 = .ok (.iconst 2, 1) := by decide +kernel
theorem dX7_treeIs_124 : decode cX7_treeIs 124 = .ok (.putfield 178, 3) := by decide +kernel
theorem dX7_treeIs_127 : decode cX7_treeIs 127 = .ok (.return_, 1) := by decide +kernel
theorem dX7_takesTree_0 : decode cX7_takesTree 0 = .ok (.iload_n 1, 1) := by decide +kernel
theorem dX7_takesTree_1 : decode cX7_takesTree 1 = .ok (.invokestatic 187, 3) := by decide +kernel
theorem dX7_takesTree_4 : decode cX7_takesTree 4 = .ok (.istore_n 2, 1) := by decide +kernel
theorem dX7_takesTree_5 : decode cX7_takesTree 5 = .ok (.iload_n 2, 1) := by decide +kernel
theorem dX7_takesTree_6 : decode cX7_takesTree 6 = .ok (.iconst (-1), 1) := by decide +kernel
theorem dX7_takesTree_7 : decode cX7_takesTree 7 = .ok (.if_icmp .eq 71, 3) := by decide +kernel
theorem dX7_takesTree_10 : decode cX7_takesTree 10 = .ok (.aload_n 0, 1) := by decide +kernel
theorem dX7_takesTree_11 : decode cX7_takesTree 11 = .ok (.getfield 190, 3) := by decide +kernel
theorem dX7_takesTree_14 : decode cX7_takesTree 14 = .ok (.istore_n 3, 1) := by decide +kernel
theorem dX7_takesTree_15 : decode cX7_takesTree 15 = .ok (.aload_n 0, 1) := by decide +kernel
theorem dX7_takesTree_16 : decode cX7_takesTree 16 = .ok (.getfield 60, 3) := by decide +kernel
theorem dX7_takesTree_19 : decode cX7_takesTree 19 = .ok (.iload_n 3, 1) := by decide +kernel
theorem dX7_takesTree_20 : decode cX7_takesTree 20 = .ok (.iload_n 2, 1) := by decide +kernel
theorem dX7_takesTree_21 : decode cX7_takesTree 21 = .ok (.iastore, 1) := by decide +kernel
theorem dX7_takesTree_22 : decode cX7_takesTree 22 = .ok (.aload_n 0, 1) := by decide +kernel
theorem dX7_takesTree_23 : decode cX7_takesTree 23 = .ok (.dup, 1) := by decide +kernel
theorem dX7_takesTree_24 : decode cX7_takesTree 24 = .ok (.getfield 190, 3) := by decide +kernel
theorem dX7_takesTree_27 : decode cX7_takesTree 27 = .ok (.iconst 1, 1) := by decide +kernel
theorem dX7_takesTree_28 : decode cX7_takesTree 28 = .ok (.iadd, 1) := by decide +kernel
theorem dX7_takesTree_29 : decode cX7_takesTree 29 = .ok (.putfield 190, 3) := by decide +kernel
theorem dX7_takesTree_32 : decode cX7_takesTree 32 = .ok (.iload_n 2, 1) := by decide +kernel
theorem dX7_takesTree_33 : decode cX7_takesTree 33 = .ok (.ifCond .ne 13, 3) := by decide +kernel
theorem dX7_takesTree_36 : decode cX7_takesTree 36 = .ok (.aload_n 0, 1) := by decide +kernel
theorem dX7_takesTree_37 : decode cX7_takesTree 37 = .ok (.iconst 3, 1) := by decide +kernel
theorem dX7_takesTree_38 : decode cX7_takesTree 38 = .ok (.iload_n 3, 1) := by decide +kernel
theorem dX7_takesTree_39 : decode cX7_takesTree 39 = .ok (.imul, 1) := by decide +kernel
theorem dX7_takesTree_40 : decode cX7_takesTree 40 = .ok (.invokevirtual 193, 3) := by decide +kernel
theorem dX7_takesTree_43 : decode cX7_takesTree 43 = .ok (.goto 33, 3) := by decide +kernel
theorem dX7_takesTree_46 : decode cX7_takesTree 46 = .ok (.aload_n 0, 1) := by decide +kernel
theorem dX7_takesTree_47 : decode cX7_takesTree 47 = .ok (.getfield 54, 3) := by decide +kernel
theorem dX7_takesTree_50 : decode cX7_takesTree 50 = .ok (.aload_n 0, 1) := by decide +kernel
theorem dX7_takesTree_51 : decode cX7_takesTree 51 = .ok (.getfield 172, 3) := by decide +kernel
theorem dX7_takesTree_54 : decode cX7_takesTree 54 = .ok (.iload_n 3, 1) := by decide +kernel
theorem dX7_takesTree_55 : decode cX7_takesTree 55 = .ok (.iastore, 1) := by decide +kernel
theorem dX7_takesTree_56 : decode cX7_takesTree 56 = .ok (.aload_n 0, 1) := by decide +kernel
theorem dX7_takesTree_57 : decode cX7_takesTree 57 = .ok (.getfield 57, 3) := by decide +kernel
theorem dX7_takesTree_60 : decode cX7_takesTree 60 = .ok (.aload_n 0, 1) := by decide +kernel
theorem dX7_takesTree_61 : decode cX7_takesTree 61 = .ok (.getfield 172, 3) := by decide +kernel
theorem dX7_takesTree_64 : decode cX7_takesTree 64 = .ok (.iconst 0, 1) := by decide +kernel
theorem dX7_takesTree_65 : decode cX7_takesTree 65 = .ok (.iastore, 1) := by decide +kernel
theorem dX7_takesTree_66 : decode cX7_takesTree 66 = .ok (.aload_n 0, 1) := by decide +kernel
theorem dX7_takesTree_67 : decode cX7_takesTree 67 = .ok (.dup, 1) := by decide +kernel
theorem dX7_takesTree_68 : decode cX7_takesTree 68 = .ok (.getfield 172, 3) := by decide +kernel
theorem dX7_takesTree_71 : decode cX7_takesTree 71 = .ok (.iconst 1, 1) := by decide +kernel
theorem dX7_takesTree_72 : decode cX7_takesTree 72 = .ok (.iadd, 1) := by decide +kernel
theorem dX7_takesTree_73 : decode cX7_takesTree 73 = .ok (.putfield 172, 3) := by decide +kernel
theorem dX7_takesTree_76 : decode cX7_takesTree 76 = .ok (.iconst 1, 1) := by decide +kernel
theorem dX7_takesTree_77 : decode cX7_takesTree 77 = .ok (.ireturn, 1) := by decide +kernel
theorem dX7_takesTree_78 : decode cX7_takesTree 78 = .ok (.iload_n 1, 1) := by decide +kernel
theorem dX7_takesTree_79 : decode cX7_takesTree 79 = .ok (.bipush 97, 2) := by decide +kernel
theorem dX7_takesTree_81 : decode cX7_takesTree 81 = .ok (.isub, 1) := by decide +kernel
theorem dX7_takesTree_82 : decode cX7_takesTree 82 = .ok (.istore_n 3, 1) := by decide +kernel
theorem dX7_takesTree_83 : decode cX7_takesTree 83 = .ok (.iload_n 3, 1) := by decide +kernel
theorem dX7_takesTree_84 : decode cX7_takesTree 84 = .ok (.iconst 0, 1) := by decide +kernel
theorem dX7_takesTree_85 : decode cX7_takesTree 85 = .ok (.bipush 7, 2) := by decide +kernel
theorem dX7_takesTree_87 : decode cX7_takesTree 87 = .ok (.invokestatic 112, 3) := by decide +kernel
theorem dX7_takesTree_90 : decode cX7_takesTree 90 = .ok (.ifCond .eq 13, 3) := by decide +kernel
theorem dX7_takesTree_93 : decode cX7_takesTree 93 = .ok (.aload_n 0, 1) := by decide +kernel
theorem dX7_takesTree_94 : decode cX7_takesTree 94 = .ok (.getfield 66, 3) := by decide +kernel
theorem dX7_takesTree_97 : decode cX7_takesTree 97 = .ok (.iload_n 3, 1) := by decide +kernel
theorem dX7_takesTree_98 : decode cX7_takesTree 98 = .ok (.iaload, 1) := by decide +kernel
theorem dX7_takesTree_99 : decode cX7_takesTree 99 = .ok (.iconst 2, 1) := by decide +kernel
theorem dX7_takesTree_100 : decode cX7_takesTree 100 = .ok (.if_icmp .ne 5, 3) := by decide +kernel
theorem dX7_takesTree_103 : decode cX7_takesTree 103 = .ok (.iconst 0, 1) := by decide +kernel
theorem dX7_takesTree_104 : decode cX7_takesTree 104 = .ok (.ireturn, 1) := by decide +kernel
theorem dX7_takesTree_105 : decode cX7_takesTree 105 = .ok (.aload_n 0, 1) := by decide +kernel
theorem dX7_takesTree_106 : decode cX7_takesTree 106 = .ok (.getfield 66, 3) := by decide +kernel
theorem dX7_takesTree_109 : decode cX7_takesTree 109 = .ok (.iload_n 3, 1) := by decide +kernel
theorem dX7_takesTree_110 : decode cX7_takesTree 110 = .ok (.dup2, 1) := by decide +kernel
theorem dX7_takesTree_111 : decode cX7_takesTree 111 = .ok (.iaload, 1) := by decide +kernel
theorem dX7_takesTree_112 : decode cX7_takesTree 112 = .ok (.iconst 1, 1) := by decide +kernel
theorem dX7_takesTree_113 : decode cX7_takesTree 113 = .ok (.iadd, 1) := by decide +kernel
theorem dX7_takesTree_114 : decode cX7_takesTree 114 = .ok (.iastore, 1) := by decide +kernel
theorem dX7_takesTree_115 : decode cX7_takesTree 115 = .ok (.aload_n 0, 1) := by decide +kernel
theorem dX7_takesTree_116 : decode cX7_takesTree 116 = .ok (.sipush 540, 3) := by decide +kernel
theorem dX7_takesTree_119 : decode cX7_takesTree 119 = .ok (.iconst 2, 1) := by decide +kernel
theorem dX7_takesTree_120 : decode cX7_takesTree 120 = .ok (.iload_n 3, 1) := by decide +kernel
theorem dX7_takesTree_121 : decode cX7_takesTree 121 = .ok (.imul, 1) := by decide +kernel
theorem dX7_takesTree_122 : decode cX7_takesTree 122 = .ok (.iadd, 1) := by decide +kernel
theorem dX7_takesTree_123 : decode cX7_takesTree 123 = .ok (.aload_n 0, 1) := by decide +kernel
theorem dX7_takesTree_124 : decode cX7_takesTree 124 = .ok (.getfield 66, 3) := by decide +kernel
theorem dX7_takesTree_127 : decode cX7_takesTree 127 = .ok (.iload_n 3, 1) := by decide +kernel
theorem dX7_takesTree_128 : decode cX7_takesTree 128 = .ok (.iaload, 1) := by decide +kernel
theorem dX7_takesTree_129 : decode cX7_takesTree 129 = .ok (.iadd, 1) := by decide +kernel
theorem dX7_takesTree_130 : decode cX7_takesTree 130 = .ok (.iconst 1, 1) := by decide +kernel
theorem dX7_takesTree_131 : decode cX7_takesTree 131 = .ok (.isub, 1) := by decide +kernel
theorem dX7_takesTree_132 : decode cX7_takesTree 132 = .ok (.invokevirtual 193, 3) := by decide +kernel
theorem dX7_takesTree_135 : decode cX7_takesTree 135 = .ok (.iconst 1, 1) := by decide +kernel
theorem dX7_takesTree_136 : decode cX7_takesTree 136 = .ok (.ireturn, 1) := by decide +kernel
theorem dX7_takes_0 : decode cX7_takes 0 = .ok (.aload_n 0, 1) := by decide +kernel
theorem dX7_takes_1 : decode cX7_takes 1 = .ok (.getfield 178, 3) := by decide +kernel
theorem dX7_takes_4 : decode cX7_takes 4 = .ok (.tableswitch 88 0 2 #[28, 34, 61], 28) := by decide +kernel
theorem dX7_takes_32 : decode cX7_takes 32 = .ok (.aload_n 0, 1) := by decide +kernel
theorem dX7_takes_33 : decode cX7_takes 33 = .ok (.iload_n 1, 1) := by decide +kernel
theorem dX7_takes_34 : decode cX7_takes 34 = .ok (.invokevirtual 196, 3) := by decide +kernel
theorem dX7_takes_37 : decode cX7_takes 37 = .ok (.ireturn, 1) := by decide +kernel
theorem dX7_takes_38 : decode cX7_takes 38 = .ok (.aload_n 0, 1) := by decide +kernel
theorem dX7_takes_39 : decode cX7_takes 39 = .ok (.iload_n 1, 1) := by decide +kernel
theorem dX7_takes_40 : decode cX7_takes 40 = .ok (.bipush 61, 2) := by decide +kernel
theorem dX7_takes_42 : decode cX7_takes 42 = .ok (.if_icmp .ne 7, 3) := by decide +kernel
theorem dX7_takes_45 : decode cX7_takes 45 = .ok (.iconst 0, 1) := by decide +kernel
theorem dX7_takes_46 : decode cX7_takes 46 = .ok (.goto 4, 3) := by decide +kernel
theorem dX7_takes_49 : decode cX7_takes 49 = .ok (.iconst 1, 1) := by decide +kernel
theorem dX7_takes_50 : decode cX7_takes 50 = .ok (.putfield 178, 3) := by decide +kernel
theorem dX7_takes_53 : decode cX7_takes 53 = .ok (.iload_n 1, 1) := by decide +kernel
theorem dX7_takes_54 : decode cX7_takes 54 = .ok (.bipush 61, 2) := by decide +kernel
theorem dX7_takes_56 : decode cX7_takes 56 = .ok (.if_icmp .ne 7, 3) := by decide +kernel
theorem dX7_takes_59 : decode cX7_takes 59 = .ok (.iconst 1, 1) := by decide +kernel
theorem dX7_takes_60 : decode cX7_takes 60 = .ok (.goto 4, 3) := by decide +kernel
theorem dX7_takes_63 : decode cX7_takes 63 = .ok (.iconst 0, 1) := by decide +kernel
theorem dX7_takes_64 : decode cX7_takes 64 = .ok (.ireturn, 1) := by decide +kernel
theorem dX7_takes_65 : decode cX7_takes 65 = .ok (.aload_n 0, 1) := by decide +kernel
theorem dX7_takes_66 : decode cX7_takes 66 = .ok (.iload_n 1, 1) := by decide +kernel
theorem dX7_takes_67 : decode cX7_takes 67 = .ok (.bipush 44, 2) := by decide +kernel
theorem dX7_takes_69 : decode cX7_takes 69 = .ok (.if_icmp .ne 7, 3) := by decide +kernel
theorem dX7_takes_72 : decode cX7_takes 72 = .ok (.iconst 0, 1) := by decide +kernel
theorem dX7_takes_73 : decode cX7_takes 73 = .ok (.goto 4, 3) := by decide +kernel
theorem dX7_takes_76 : decode cX7_takes 76 = .ok (.iconst 2, 1) := by decide +kernel
theorem dX7_takes_77 : decode cX7_takes 77 = .ok (.putfield 178, 3) := by decide +kernel
theorem dX7_takes_80 : decode cX7_takes 80 = .ok (.iload_n 1, 1) := by decide +kernel
theorem dX7_takes_81 : decode cX7_takes 81 = .ok (.bipush 44, 2) := by decide +kernel
theorem dX7_takes_83 : decode cX7_takes 83 = .ok (.if_icmp .ne 7, 3) := by decide +kernel
theorem dX7_takes_86 : decode cX7_takes 86 = .ok (.iconst 1, 1) := by decide +kernel
theorem dX7_takes_87 : decode cX7_takes 87 = .ok (.goto 4, 3) := by decide +kernel
theorem dX7_takes_90 : decode cX7_takes 90 = .ok (.iconst 0, 1) := by decide +kernel
theorem dX7_takes_91 : decode cX7_takes 91 = .ok (.ireturn, 1) := by decide +kernel
theorem dX7_takes_92 : decode cX7_takes 92 = .ok (.aload_n 0, 1) := by decide +kernel
theorem dX7_takes_93 : decode cX7_takes 93 = .ok (.getfield 54, 3) := by decide +kernel
theorem dX7_takes_96 : decode cX7_takes 96 = .ok (.aload_n 0, 1) := by decide +kernel
theorem dX7_takes_97 : decode cX7_takes 97 = .ok (.getfield 172, 3) := by decide +kernel
theorem dX7_takes_100 : decode cX7_takes 100 = .ok (.iconst 1, 1) := by decide +kernel
theorem dX7_takes_101 : decode cX7_takes 101 = .ok (.isub, 1) := by decide +kernel
theorem dX7_takes_102 : decode cX7_takes 102 = .ok (.iaload, 1) := by decide +kernel
theorem dX7_takes_103 : decode cX7_takes 103 = .ok (.istore_n 2, 1) := by decide +kernel
theorem dX7_takes_104 : decode cX7_takes 104 = .ok (.iload_n 1, 1) := by decide +kernel
theorem dX7_takes_105 : decode cX7_takes 105 = .ok (.aload_n 0, 1) := by decide +kernel
theorem dX7_takes_106 : decode cX7_takes 106 = .ok (.getfield 60, 3) := by decide +kernel
theorem dX7_takes_109 : decode cX7_takes 109 = .ok (.iload_n 2, 1) := by decide +kernel
theorem dX7_takes_110 : decode cX7_takes 110 = .ok (.iaload, 1) := by decide +kernel
theorem dX7_takes_111 : decode cX7_takes 111 = .ok (.invokestatic 199, 3) := by decide +kernel
theorem dX7_takes_114 : decode cX7_takes 114 = .ok (.if_icmp .eq 5, 3) := by decide +kernel
theorem dX7_takes_117 : decode cX7_takes 117 = .ok (.iconst 0, 1) := by decide +kernel
theorem dX7_takes_118 : decode cX7_takes 118 = .ok (.ireturn, 1) := by decide +kernel
theorem dX7_takes_119 : decode cX7_takes 119 = .ok (.aload_n 0, 1) := by decide +kernel
theorem dX7_takes_120 : decode cX7_takes 120 = .ok (.dup, 1) := by decide +kernel
theorem dX7_takes_121 : decode cX7_takes 121 = .ok (.getfield 172, 3) := by decide +kernel
theorem dX7_takes_124 : decode cX7_takes 124 = .ok (.iconst 1, 1) := by decide +kernel
theorem dX7_takes_125 : decode cX7_takes 125 = .ok (.isub, 1) := by decide +kernel
theorem dX7_takes_126 : decode cX7_takes 126 = .ok (.putfield 172, 3) := by decide +kernel
theorem dX7_takes_129 : decode cX7_takes 129 = .ok (.aload_n 0, 1) := by decide +kernel
theorem dX7_takes_130 : decode cX7_takes 130 = .ok (.iconst 3, 1) := by decide +kernel
theorem dX7_takes_131 : decode cX7_takes 131 = .ok (.iload_n 2, 1) := by decide +kernel
theorem dX7_takes_132 : decode cX7_takes 132 = .ok (.imul, 1) := by decide +kernel
theorem dX7_takes_133 : decode cX7_takes 133 = .ok (.invokevirtual 193, 3) := by decide +kernel
theorem dX7_takes_136 : decode cX7_takes 136 = .ok (.iconst 1, 1) := by decide +kernel
theorem dX7_takes_137 : decode cX7_takes 137 = .ok (.ireturn, 1) := by decide +kernel
theorem dX7_read_0 : decode cX7_read 0 = .ok (.aload_n 0, 1) := by decide +kernel
theorem dX7_read_1 : decode cX7_read 1 = .ok (.iconst 0, 1) := by decide +kernel
theorem dX7_read_2 : decode cX7_read 2 = .ok (.putfield 172, 3) := by decide +kernel
theorem dX7_read_5 : decode cX7_read 5 = .ok (.aload_n 0, 1) := by decide +kernel
theorem dX7_read_6 : decode cX7_read 6 = .ok (.iconst 0, 1) := by decide +kernel
theorem dX7_read_7 : decode cX7_read 7 = .ok (.putfield 190, 3) := by decide +kernel
theorem dX7_read_10 : decode cX7_read 10 = .ok (.aload_n 0, 1) := by decide +kernel
theorem dX7_read_11 : decode cX7_read 11 = .ok (.iconst 0, 1) := by decide +kernel
theorem dX7_read_12 : decode cX7_read 12 = .ok (.putfield 178, 3) := by decide +kernel
theorem dX7_read_15 : decode cX7_read 15 = .ok (.aload_n 0, 1) := by decide +kernel
theorem dX7_read_16 : decode cX7_read 16 = .ok (.iconst 0, 1) := by decide +kernel
theorem dX7_read_17 : decode cX7_read 17 = .ok (.putfield 181, 3) := by decide +kernel
theorem dX7_read_20 : decode cX7_read 20 = .ok (.iconst 0, 1) := by decide +kernel
theorem dX7_read_21 : decode cX7_read 21 = .ok (.istore_n 1, 1) := by decide +kernel
theorem dX7_read_22 : decode cX7_read 22 = .ok (.iload_n 1, 1) := by decide +kernel
theorem dX7_read_23 : decode cX7_read 23 = .ok (.bipush 8, 2) := by decide +kernel
theorem dX7_read_25 : decode cX7_read 25 = .ok (.if_icmp .ge 16, 3) := by decide +kernel
theorem dX7_read_28 : decode cX7_read 28 = .ok (.aload_n 0, 1) := by decide +kernel
theorem dX7_read_29 : decode cX7_read 29 = .ok (.getfield 66, 3) := by decide +kernel
theorem dX7_read_32 : decode cX7_read 32 = .ok (.iload_n 1, 1) := by decide +kernel
theorem dX7_read_33 : decode cX7_read 33 = .ok (.iconst 0, 1) := by decide +kernel
theorem dX7_read_34 : decode cX7_read 34 = .ok (.iastore, 1) := by decide +kernel
theorem dX7_read_35 : decode cX7_read 35 = .ok (.iinc 1 1, 3) := by decide +kernel
theorem dX7_read_38 : decode cX7_read 38 = .ok (.goto (-16), 3) := by decide +kernel
theorem dX7_read_41 : decode cX7_read 41 = .ok (.iconst 0, 1) := by decide +kernel
theorem dX7_read_42 : decode cX7_read 42 = .ok (.istore_n 1, 1) := by decide +kernel
theorem dX7_read_43 : decode cX7_read 43 = .ok (.iload_n 1, 1) := by decide +kernel
theorem dX7_read_44 : decode cX7_read 44 = .ok (.aload_n 0, 1) := by decide +kernel
theorem dX7_read_45 : decode cX7_read 45 = .ok (.getfield 169, 3) := by decide +kernel
theorem dX7_read_48 : decode cX7_read 48 = .ok (.if_icmp .ge 22, 3) := by decide +kernel
theorem dX7_read_51 : decode cX7_read 51 = .ok (.aload_n 0, 1) := by decide +kernel
theorem dX7_read_52 : decode cX7_read 52 = .ok (.aload_n 0, 1) := by decide +kernel
theorem dX7_read_53 : decode cX7_read 53 = .ok (.getfield 34, 3) := by decide +kernel
theorem dX7_read_56 : decode cX7_read 56 = .ok (.iload_n 1, 1) := by decide +kernel
theorem dX7_read_57 : decode cX7_read 57 = .ok (.baload, 1) := by decide +kernel
theorem dX7_read_58 : decode cX7_read 58 = .ok (.invokevirtual 202, 3) := by decide +kernel
theorem dX7_read_61 : decode cX7_read 61 = .ok (.ifCond .eq 9, 3) := by decide +kernel
theorem dX7_read_64 : decode cX7_read 64 = .ok (.iinc 1 1, 3) := by decide +kernel
theorem dX7_read_67 : decode cX7_read 67 = .ok (.goto (-24), 3) := by decide +kernel
theorem dX7_read_70 : decode cX7_read 70 = .ok (.aload_n 0, 1) := by decide +kernel
theorem dX7_read_71 : decode cX7_read 71 = .ok (.iload_n 1, 1) := by decide +kernel
theorem dX7_read_72 : decode cX7_read 72 = .ok (.aload_n 0, 1) := by decide +kernel
theorem dX7_read_73 : decode cX7_read 73 = .ok (.getfield 169, 3) := by decide +kernel
theorem dX7_read_76 : decode cX7_read 76 = .ok (.if_icmp .ne 19, 3) := by decide +kernel
theorem dX7_read_79 : decode cX7_read 79 = .ok (.iload_n 1, 1) := by decide +kernel
theorem dX7_read_80 : decode cX7_read 80 = .ok (.ifCond .le 15, 3) := by decide +kernel
theorem dX7_read_83 : decode cX7_read 83 = .ok (.aload_n 0, 1) := by decide +kernel
theorem dX7_read_84 : decode cX7_read 84 = .ok (.getfield 178, 3) := by decide +kernel
theorem dX7_read_87 : decode cX7_read 87 = .ok (.iconst 2, 1) := by decide +kernel
theorem dX7_read_88 : decode cX7_read 88 = .ok (.if_icmp .ne 7, 3) := by decide +kernel
theorem dX7_read_91 : decode cX7_read 91 = .ok (.iconst 1, 1) := by decide +kernel
theorem dX7_read_92 : decode cX7_read 92 = .ok (.goto 4, 3) := by decide +kernel
theorem dX7_read_95 : decode cX7_read 95 = .ok (.iconst 0, 1) := by decide +kernel
theorem dX7_read_96 : decode cX7_read 96 = .ok (.putfield 205, 3) := by decide +kernel
theorem dX7_read_99 : decode cX7_read 99 = .ok (.iload_n 1, 1) := by decide +kernel
theorem dX7_read_100 : decode cX7_read 100 = .ok (.ireturn, 1) := by decide +kernel
theorem dX7_fault_0 : decode cX7_fault 0 = .ok (.aload_n 0, 1) := by decide +kernel
theorem dX7_fault_1 : decode cX7_fault 1 = .ok (.invokevirtual 209, 3) := by decide +kernel
theorem dX7_fault_4 : decode cX7_fault 4 = .ok (.ireturn, 1) := by decide +kernel
theorem dX7_otherEnd_0 : decode cX7_otherEnd 0 = .ok (.iload_n 1, 1) := by decide +kernel
theorem dX7_otherEnd_1 : decode cX7_otherEnd 1 = .ok (.istore_n 2, 1) := by decide +kernel
theorem dX7_otherEnd_2 : decode cX7_otherEnd 2 = .ok (.iload_n 2, 1) := by decide +kernel
theorem dX7_otherEnd_3 : decode cX7_otherEnd 3 = .ok (.sipush 540, 3) := by decide +kernel
theorem dX7_otherEnd_6 : decode cX7_otherEnd 6 = .ok (.if_icmp .lt 61, 3) := by decide +kernel
theorem dX7_otherEnd_9 : decode cX7_otherEnd 9 = .ok (.iload_n 2, 1) := by decide +kernel
theorem dX7_otherEnd_10 : decode cX7_otherEnd 10 = .ok (.sipush 540, 3) := by decide +kernel
theorem dX7_otherEnd_13 : decode cX7_otherEnd 13 = .ok (.isub, 1) := by decide +kernel
theorem dX7_otherEnd_14 : decode cX7_otherEnd 14 = .ok (.istore_n 3, 1) := by decide +kernel
theorem dX7_otherEnd_15 : decode cX7_otherEnd 15 = .ok (.aload_n 0, 1) := by decide +kernel
theorem dX7_otherEnd_16 : decode cX7_otherEnd 16 = .ok (.getfield 69, 3) := by decide +kernel
theorem dX7_otherEnd_19 : decode cX7_otherEnd 19 = .ok (.iload_n 3, 1) := by decide +kernel
theorem dX7_otherEnd_20 : decode cX7_otherEnd 20 = .ok (.iconst 1, 1) := by decide +kernel
theorem dX7_otherEnd_21 : decode cX7_otherEnd 21 = .ok (.bastore, 1) := by decide +kernel
theorem dX7_otherEnd_22 : decode cX7_otherEnd 22 = .ok (.aload_n 0, 1) := by decide +kernel
theorem dX7_otherEnd_23 : decode cX7_otherEnd 23 = .ok (.getfield 66, 3) := by decide +kernel
theorem dX7_otherEnd_26 : decode cX7_otherEnd 26 = .ok (.iload_n 3, 1) := by decide +kernel
theorem dX7_otherEnd_27 : decode cX7_otherEnd 27 = .ok (.iconst 2, 1) := by decide +kernel
theorem dX7_otherEnd_28 : decode cX7_otherEnd 28 = .ok (.idiv, 1) := by decide +kernel
theorem dX7_otherEnd_29 : decode cX7_otherEnd 29 = .ok (.iaload, 1) := by decide +kernel
theorem dX7_otherEnd_30 : decode cX7_otherEnd 30 = .ok (.iconst 1, 1) := by decide +kernel
theorem dX7_otherEnd_31 : decode cX7_otherEnd 31 = .ok (.if_icmp .ne 11, 3) := by decide +kernel
theorem dX7_otherEnd_34 : decode cX7_otherEnd 34 = .ok (.sipush 900, 3) := by decide +kernel
theorem dX7_otherEnd_37 : decode cX7_otherEnd 37 = .ok (.iload_n 3, 1) := by decide +kernel
theorem dX7_otherEnd_38 : decode cX7_otherEnd 38 = .ok (.iconst 2, 1) := by decide +kernel
theorem dX7_otherEnd_39 : decode cX7_otherEnd 39 = .ok (.idiv, 1) := by decide +kernel
theorem dX7_otherEnd_40 : decode cX7_otherEnd 40 = .ok (.iadd, 1) := by decide +kernel
theorem dX7_otherEnd_41 : decode cX7_otherEnd 41 = .ok (.ireturn, 1) := by decide +kernel
theorem dX7_otherEnd_42 : decode cX7_otherEnd 42 = .ok (.aload_n 0, 1) := by decide +kernel
theorem dX7_otherEnd_43 : decode cX7_otherEnd 43 = .ok (.getfield 69, 3) := by decide +kernel
theorem dX7_otherEnd_46 : decode cX7_otherEnd 46 = .ok (.iload_n 3, 1) := by decide +kernel
theorem dX7_otherEnd_47 : decode cX7_otherEnd 47 = .ok (.iconst 1, 1) := by decide +kernel
theorem dX7_otherEnd_48 : decode cX7_otherEnd 48 = .ok (.ixor, 1) := by decide +kernel
theorem dX7_otherEnd_49 : decode cX7_otherEnd 49 = .ok (.iconst 1, 1) := by decide +kernel
theorem dX7_otherEnd_50 : decode cX7_otherEnd 50 = .ok (.bastore, 1) := by decide +kernel
theorem dX7_otherEnd_51 : decode cX7_otherEnd 51 = .ok (.aload_n 0, 1) := by decide +kernel
theorem dX7_otherEnd_52 : decode cX7_otherEnd 52 = .ok (.getfield 63, 3) := by decide +kernel
theorem dX7_otherEnd_55 : decode cX7_otherEnd 55 = .ok (.sipush 540, 3) := by decide +kernel
theorem dX7_otherEnd_58 : decode cX7_otherEnd 58 = .ok (.iload_n 3, 1) := by decide +kernel
theorem dX7_otherEnd_59 : decode cX7_otherEnd 59 = .ok (.iconst 1, 1) := by decide +kernel
theorem dX7_otherEnd_60 : decode cX7_otherEnd 60 = .ok (.ixor, 1) := by decide +kernel
theorem dX7_otherEnd_61 : decode cX7_otherEnd 61 = .ok (.iadd, 1) := by decide +kernel
theorem dX7_otherEnd_62 : decode cX7_otherEnd 62 = .ok (.iaload, 1) := by decide +kernel
theorem dX7_otherEnd_63 : decode cX7_otherEnd 63 = .ok (.istore_n 2, 1) := by decide +kernel
theorem dX7_otherEnd_64 : decode cX7_otherEnd 64 = .ok (.goto (-62), 3) := by decide +kernel
theorem dX7_otherEnd_67 : decode cX7_otherEnd 67 = .ok (.iload_n 2, 1) := by decide +kernel
theorem dX7_otherEnd_68 : decode cX7_otherEnd 68 = .ok (.ireturn, 1) := by decide +kernel
theorem dX7_layNet_0 : decode cX7_layNet 0 = .ok (.aload_n 0, 1) := by decide +kernel
theorem dX7_layNet_1 : decode cX7_layNet 1 = .ok (.iconst 0, 1) := by decide +kernel
theorem dX7_layNet_2 : decode cX7_layNet 2 = .ok (.putfield 105, 3) := by decide +kernel
theorem dX7_layNet_5 : decode cX7_layNet 5 = .ok (.aload_n 0, 1) := by decide +kernel
theorem dX7_layNet_6 : decode cX7_layNet 6 = .ok (.invokevirtual 109, 3) := by decide +kernel
theorem dX7_layNet_9 : decode cX7_layNet 9 = .ok (.iconst 0, 1) := by decide +kernel
theorem dX7_layNet_10 : decode cX7_layNet 10 = .ok (.istore_n 1, 1) := by decide +kernel
theorem dX7_layNet_11 : decode cX7_layNet 11 = .ok (.iload_n 1, 1) := by decide +kernel
theorem dX7_layNet_12 : decode cX7_layNet 12 = .ok (.bipush 16, 2) := by decide +kernel
theorem dX7_layNet_14 : decode cX7_layNet 14 = .ok (.if_icmp .ge 16, 3) := by decide +kernel
theorem dX7_layNet_17 : decode cX7_layNet 17 = .ok (.aload_n 0, 1) := by decide +kernel
theorem dX7_layNet_18 : decode cX7_layNet 18 = .ok (.getfield 69, 3) := by decide +kernel
theorem dX7_layNet_21 : decode cX7_layNet 21 = .ok (.iload_n 1, 1) := by decide +kernel
theorem dX7_layNet_22 : decode cX7_layNet 22 = .ok (.iconst 0, 1) := by decide +kernel
theorem dX7_layNet_23 : decode cX7_layNet 23 = .ok (.bastore, 1) := by decide +kernel
theorem dX7_layNet_24 : decode cX7_layNet 24 = .ok (.iinc 1 1, 3) := by decide +kernel
theorem dX7_layNet_27 : decode cX7_layNet 27 = .ok (.goto (-16), 3) := by decide +kernel
theorem dX7_layNet_30 : decode cX7_layNet 30 = .ok (.iconst 0, 1) := by decide +kernel
theorem dX7_layNet_31 : decode cX7_layNet 31 = .ok (.istore_n 1, 1) := by decide +kernel
theorem dX7_layNet_32 : decode cX7_layNet 32 = .ok (.iload_n 1, 1) := by decide +kernel
theorem dX7_layNet_33 : decode cX7_layNet 33 = .ok (.aload_n 0, 1) := by decide +kernel
theorem dX7_layNet_34 : decode cX7_layNet 34 = .ok (.getfield 190, 3) := by decide +kernel
theorem dX7_layNet_37 : decode cX7_layNet 37 = .ok (.if_icmp .ge 69, 3) := by decide +kernel
theorem dX7_layNet_40 : decode cX7_layNet 40 = .ok (.aload_n 0, 1) := by decide +kernel
theorem dX7_layNet_41 : decode cX7_layNet 41 = .ok (.getfield 7, 3) := by decide +kernel
theorem dX7_layNet_44 : decode cX7_layNet 44 = .ok (.iload_n 1, 1) := by decide +kernel
theorem dX7_layNet_45 : decode cX7_layNet 45 = .ok (.aload_n 0, 1) := by decide +kernel
theorem dX7_layNet_46 : decode cX7_layNet 46 = .ok (.getfield 60, 3) := by decide +kernel
theorem dX7_layNet_49 : decode cX7_layNet 49 = .ok (.iload_n 1, 1) := by decide +kernel
theorem dX7_layNet_50 : decode cX7_layNet 50 = .ok (.iaload, 1) := by decide +kernel
theorem dX7_layNet_51 : decode cX7_layNet 51 = .ok (.iastore, 1) := by decide +kernel
theorem dX7_layNet_52 : decode cX7_layNet 52 = .ok (.iconst 3, 1) := by decide +kernel
theorem dX7_layNet_53 : decode cX7_layNet 53 = .ok (.iload_n 1, 1) := by decide +kernel
theorem dX7_layNet_54 : decode cX7_layNet 54 = .ok (.imul, 1) := by decide +kernel
theorem dX7_layNet_55 : decode cX7_layNet 55 = .ok (.istore_n 2, 1) := by decide +kernel
theorem dX7_layNet_56 : decode cX7_layNet 56 = .ok (.iload_n 2, 1) := by decide +kernel
theorem dX7_layNet_57 : decode cX7_layNet 57 = .ok (.iconst 3, 1) := by decide +kernel
theorem dX7_layNet_58 : decode cX7_layNet 58 = .ok (.iload_n 1, 1) := by decide +kernel
theorem dX7_layNet_59 : decode cX7_layNet 59 = .ok (.imul, 1) := by decide +kernel
theorem dX7_layNet_60 : decode cX7_layNet 60 = .ok (.aload_n 0, 1) := by decide +kernel
theorem dX7_layNet_61 : decode cX7_layNet 61 = .ok (.getfield 60, 3) := by decide +kernel
theorem dX7_layNet_64 : decode cX7_layNet 64 = .ok (.iload_n 1, 1) := by decide +kernel
theorem dX7_layNet_65 : decode cX7_layNet 65 = .ok (.iaload, 1) := by decide +kernel
theorem dX7_layNet_66 : decode cX7_layNet 66 = .ok (.ifCond .ne 7, 3) := by decide +kernel
theorem dX7_layNet_69 : decode cX7_layNet 69 = .ok (.iconst 1, 1) := by decide +kernel
theorem dX7_layNet_70 : decode cX7_layNet 70 = .ok (.goto 4, 3) := by decide +kernel
theorem dX7_layNet_73 : decode cX7_layNet 73 = .ok (.iconst 3, 1) := by decide +kernel
theorem dX7_layNet_74 : decode cX7_layNet 74 = .ok (.iadd, 1) := by decide +kernel
theorem dX7_layNet_75 : decode cX7_layNet 75 = .ok (.if_icmp .ge 25, 3) := by decide +kernel
theorem dX7_layNet_78 : decode cX7_layNet 78 = .ok (.aload_n 0, 1) := by decide +kernel
theorem dX7_layNet_79 : decode cX7_layNet 79 = .ok (.getfield 13, 3) := by decide +kernel
theorem dX7_layNet_82 : decode cX7_layNet 82 = .ok (.iload_n 2, 1) := by decide +kernel
theorem dX7_layNet_83 : decode cX7_layNet 83 = .ok (.aload_n 0, 1) := by decide +kernel
theorem dX7_layNet_84 : decode cX7_layNet 84 = .ok (.aload_n 0, 1) := by decide +kernel
theorem dX7_layNet_85 : decode cX7_layNet 85 = .ok (.getfield 63, 3) := by decide +kernel
theorem dX7_layNet_88 : decode cX7_layNet 88 = .ok (.iload_n 2, 1) := by decide +kernel
theorem dX7_layNet_89 : decode cX7_layNet 89 = .ok (.iaload, 1) := by decide +kernel
theorem dX7_layNet_90 : decode cX7_layNet 90 = .ok (.invokevirtual 213, 3) := by decide +kernel
theorem dX7_layNet_93 : decode cX7_layNet 93 = .ok (.iastore, 1) := by decide +kernel
theorem dX7_layNet_94 : decode cX7_layNet 94 = .ok (.iinc 2 1, 3) := by decide +kernel
theorem dX7_layNet_97 : decode cX7_layNet 97 = .ok (.goto (-41), 3) := by decide +kernel
theorem dX7_layNet_100 : decode cX7_layNet 100 = .ok (.iinc 1 1, 3) := by decide +kernel
theorem dX7_layNet_103 : decode cX7_layNet 103 = .ok (.goto (-71), 3) := by decide +kernel
theorem dX7_layNet_106 : decode cX7_layNet 106 = .ok (.iconst 0, 1) := by decide +kernel
theorem dX7_layNet_107 : decode cX7_layNet 107 = .ok (.istore_n 1, 1) := by decide +kernel
theorem dX7_layNet_108 : decode cX7_layNet 108 = .ok (.iload_n 1, 1) := by decide +kernel
theorem dX7_layNet_109 : decode cX7_layNet 109 = .ok (.bipush 8, 2) := by decide +kernel
theorem dX7_layNet_111 : decode cX7_layNet 111 = .ok (.if_icmp .ge 50, 3) := by decide +kernel
theorem dX7_layNet_114 : decode cX7_layNet 114 = .ok (.aload_n 0, 1) := by decide +kernel
theorem dX7_layNet_115 : decode cX7_layNet 115 = .ok (.getfield 66, 3) := by decide +kernel
theorem dX7_layNet_118 : decode cX7_layNet 118 = .ok (.iload_n 1, 1) := by decide +kernel
theorem dX7_layNet_119 : decode cX7_layNet 119 = .ok (.iaload, 1) := by decide +kernel
theorem dX7_layNet_120 : decode cX7_layNet 120 = .ok (.iconst 1, 1) := by decide +kernel
theorem dX7_layNet_121 : decode cX7_layNet 121 = .ok (.if_icmp .ne 34, 3) := by decide +kernel
theorem dX7_layNet_124 : decode cX7_layNet 124 = .ok (.aload_n 0, 1) := by decide +kernel
theorem dX7_layNet_125 : decode cX7_layNet 125 = .ok (.getfield 69, 3) := by decide +kernel
theorem dX7_layNet_128 : decode cX7_layNet 128 = .ok (.iconst 2, 1) := by decide +kernel
theorem dX7_layNet_129 : decode cX7_layNet 129 = .ok (.iload_n 1, 1) := by decide +kernel
theorem dX7_layNet_130 : decode cX7_layNet 130 = .ok (.imul, 1) := by decide +kernel
theorem dX7_layNet_131 : decode cX7_layNet 131 = .ok (.iconst 1, 1) := by decide +kernel
theorem dX7_layNet_132 : decode cX7_layNet 132 = .ok (.bastore, 1) := by decide +kernel
theorem dX7_layNet_133 : decode cX7_layNet 133 = .ok (.aload_n 0, 1) := by decide +kernel
theorem dX7_layNet_134 : decode cX7_layNet 134 = .ok (.getfield 16, 3) := by decide +kernel
theorem dX7_layNet_137 : decode cX7_layNet 137 = .ok (.iload_n 1, 1) := by decide +kernel
theorem dX7_layNet_138 : decode cX7_layNet 138 = .ok (.aload_n 0, 1) := by decide +kernel
theorem dX7_layNet_139 : decode cX7_layNet 139 = .ok (.aload_n 0, 1) := by decide +kernel
theorem dX7_layNet_140 : decode cX7_layNet 140 = .ok (.getfield 63, 3) := by decide +kernel
theorem dX7_layNet_143 : decode cX7_layNet 143 = .ok (.sipush 540, 3) := by decide +kernel
theorem dX7_layNet_146 : decode cX7_layNet 146 = .ok (.iconst 2, 1) := by decide +kernel
theorem dX7_layNet_147 : decode cX7_layNet 147 = .ok (.iload_n 1, 1) := by decide +kernel
theorem dX7_layNet_148 : decode cX7_layNet 148 = .ok (.imul, 1) := by decide +kernel
theorem dX7_layNet_149 : decode cX7_layNet 149 = .ok (.iadd, 1) := by decide +kernel
theorem dX7_layNet_150 : decode cX7_layNet 150 = .ok (.iaload, 1) := by decide +kernel
theorem dX7_layNet_151 : decode cX7_layNet 151 = .ok (.invokevirtual 213, 3) := by decide +kernel
theorem dX7_layNet_154 : decode cX7_layNet 154 = .ok (.iastore, 1) := by decide +kernel
theorem dX7_layNet_155 : decode cX7_layNet 155 = .ok (.iinc 1 1, 3) := by decide +kernel
theorem dX7_layNet_158 : decode cX7_layNet 158 = .ok (.goto (-50), 3) := by decide +kernel
theorem dX7_layNet_161 : decode cX7_layNet 161 = .ok (.iconst 0, 1) := by decide +kernel
theorem dX7_layNet_162 : decode cX7_layNet 162 = .ok (.istore_n 1, 1) := by decide +kernel
theorem dX7_layNet_163 : decode cX7_layNet 163 = .ok (.iload_n 1, 1) := by decide +kernel
theorem dX7_layNet_164 : decode cX7_layNet 164 = .ok (.bipush 16, 2) := by decide +kernel
theorem dX7_layNet_166 : decode cX7_layNet 166 = .ok (.if_icmp .ge 35, 3) := by decide +kernel
theorem dX7_layNet_169 : decode cX7_layNet 169 = .ok (.aload_n 0, 1) := by decide +kernel
theorem dX7_layNet_170 : decode cX7_layNet 170 = .ok (.getfield 66, 3) := by decide +kernel
theorem dX7_layNet_173 : decode cX7_layNet 173 = .ok (.iload_n 1, 1) := by decide +kernel
theorem dX7_layNet_174 : decode cX7_layNet 174 = .ok (.iconst 2, 1) := by decide +kernel
theorem dX7_layNet_175 : decode cX7_layNet 175 = .ok (.idiv, 1) := by decide +kernel
theorem dX7_layNet_176 : decode cX7_layNet 176 = .ok (.iaload, 1) := by decide +kernel
theorem dX7_layNet_177 : decode cX7_layNet 177 = .ok (.iconst 2, 1) := by decide +kernel
theorem dX7_layNet_178 : decode cX7_layNet 178 = .ok (.if_icmp .ne 17, 3) := by decide +kernel
theorem dX7_layNet_181 : decode cX7_layNet 181 = .ok (.aload_n 0, 1) := by decide +kernel
theorem dX7_layNet_182 : decode cX7_layNet 182 = .ok (.getfield 69, 3) := by decide +kernel
theorem dX7_layNet_185 : decode cX7_layNet 185 = .ok (.iload_n 1, 1) := by decide +kernel
theorem dX7_layNet_186 : decode cX7_layNet 186 = .ok (.baload, 1) := by decide +kernel
theorem dX7_layNet_187 : decode cX7_layNet 187 = .ok (.ifCond .ne 8, 3) := by decide +kernel
theorem dX7_layNet_190 : decode cX7_layNet 190 = .ok (.aload_n 0, 1) := by decide +kernel
theorem dX7_layNet_191 : decode cX7_layNet 191 = .ok (.iload_n 1, 1) := by decide +kernel
theorem dX7_layNet_192 : decode cX7_layNet 192 = .ok (.invokevirtual 216, 3) := by decide +kernel
theorem dX7_layNet_195 : decode cX7_layNet 195 = .ok (.iinc 1 1, 3) := by decide +kernel
theorem dX7_layNet_198 : decode cX7_layNet 198 = .ok (.goto (-35), 3) := by decide +kernel
theorem dX7_layNet_201 : decode cX7_layNet 201 = .ok (.return_, 1) := by decide +kernel
theorem dX7_ring_0 : decode cX7_ring 0 = .ok (.iload_n 1, 1) := by decide +kernel
theorem dX7_ring_1 : decode cX7_ring 1 = .ok (.istore_n 2, 1) := by decide +kernel
theorem dX7_ring_2 : decode cX7_ring 2 = .ok (.aload_n 0, 1) := by decide +kernel
theorem dX7_ring_3 : decode cX7_ring 3 = .ok (.getfield 69, 3) := by decide +kernel
theorem dX7_ring_6 : decode cX7_ring 6 = .ok (.iload_n 2, 1) := by decide +kernel
theorem dX7_ring_7 : decode cX7_ring 7 = .ok (.baload, 1) := by decide +kernel
theorem dX7_ring_8 : decode cX7_ring 8 = .ok (.ifCond .ne 39, 3) := by decide +kernel
theorem dX7_ring_11 : decode cX7_ring 11 = .ok (.aload_n 0, 1) := by decide +kernel
theorem dX7_ring_12 : decode cX7_ring 12 = .ok (.getfield 69, 3) := by decide +kernel
theorem dX7_ring_15 : decode cX7_ring 15 = .ok (.iload_n 2, 1) := by decide +kernel
theorem dX7_ring_16 : decode cX7_ring 16 = .ok (.iconst 1, 1) := by decide +kernel
theorem dX7_ring_17 : decode cX7_ring 17 = .ok (.bastore, 1) := by decide +kernel
theorem dX7_ring_18 : decode cX7_ring 18 = .ok (.aload_n 0, 1) := by decide +kernel
theorem dX7_ring_19 : decode cX7_ring 19 = .ok (.getfield 69, 3) := by decide +kernel
theorem dX7_ring_22 : decode cX7_ring 22 = .ok (.iload_n 2, 1) := by decide +kernel
theorem dX7_ring_23 : decode cX7_ring 23 = .ok (.iconst 1, 1) := by decide +kernel
theorem dX7_ring_24 : decode cX7_ring 24 = .ok (.ixor, 1) := by decide +kernel
theorem dX7_ring_25 : decode cX7_ring 25 = .ok (.iconst 1, 1) := by decide +kernel
theorem dX7_ring_26 : decode cX7_ring 26 = .ok (.bastore, 1) := by decide +kernel
theorem dX7_ring_27 : decode cX7_ring 27 = .ok (.aload_n 0, 1) := by decide +kernel
theorem dX7_ring_28 : decode cX7_ring 28 = .ok (.getfield 63, 3) := by decide +kernel
theorem dX7_ring_31 : decode cX7_ring 31 = .ok (.sipush 540, 3) := by decide +kernel
theorem dX7_ring_34 : decode cX7_ring 34 = .ok (.iload_n 2, 1) := by decide +kernel
theorem dX7_ring_35 : decode cX7_ring 35 = .ok (.iconst 1, 1) := by decide +kernel
theorem dX7_ring_36 : decode cX7_ring 36 = .ok (.ixor, 1) := by decide +kernel
theorem dX7_ring_37 : decode cX7_ring 37 = .ok (.iadd, 1) := by decide +kernel
theorem dX7_ring_38 : decode cX7_ring 38 = .ok (.iaload, 1) := by decide +kernel
theorem dX7_ring_39 : decode cX7_ring 39 = .ok (.sipush 540, 3) := by decide +kernel
theorem dX7_ring_42 : decode cX7_ring 42 = .ok (.isub, 1) := by decide +kernel
theorem dX7_ring_43 : decode cX7_ring 43 = .ok (.istore_n 2, 1) := by decide +kernel
theorem dX7_ring_44 : decode cX7_ring 44 = .ok (.goto (-42), 3) := by decide +kernel
theorem dX7_ring_47 : decode cX7_ring 47 = .ok (.aload_n 0, 1) := by decide +kernel
theorem dX7_ring_48 : decode cX7_ring 48 = .ok (.getfield 19, 3) := by decide +kernel
theorem dX7_ring_51 : decode cX7_ring 51 = .ok (.iconst 0, 1) := by decide +kernel
theorem dX7_ring_52 : decode cX7_ring 52 = .ok (.dup2, 1) := by decide +kernel
theorem dX7_ring_53 : decode cX7_ring 53 = .ok (.iaload, 1) := by decide +kernel
theorem dX7_ring_54 : decode cX7_ring 54 = .ok (.iconst 1, 1) := by decide +kernel
theorem dX7_ring_55 : decode cX7_ring 55 = .ok (.iadd, 1) := by decide +kernel
theorem dX7_ring_56 : decode cX7_ring 56 = .ok (.iastore, 1) := by decide +kernel
theorem dX7_ring_57 : decode cX7_ring 57 = .ok (.return_, 1) := by decide +kernel
theorem dX7_net_0 : decode cX7_net 0 = .ok (.aload_n 0, 1) := by decide +kernel
theorem dX7_net_1 : decode cX7_net 1 = .ok (.invokevirtual 209, 3) := by decide +kernel
theorem dX7_net_4 : decode cX7_net 4 = .ok (.pop, 1) := by decide +kernel
theorem dX7_net_5 : decode cX7_net 5 = .ok (.aload_n 0, 1) := by decide +kernel
theorem dX7_net_6 : decode cX7_net 6 = .ok (.getfield 205, 3) := by decide +kernel
theorem dX7_net_9 : decode cX7_net 9 = .ok (.ifCond .eq 12, 3) := by decide +kernel
theorem dX7_net_12 : decode cX7_net 12 = .ok (.aload_n 0, 1) := by decide +kernel
theorem dX7_net_13 : decode cX7_net 13 = .ok (.getfield 190, 3) := by decide +kernel
theorem dX7_net_16 : decode cX7_net 16 = .ok (.bipush 30, 2) := by decide +kernel
theorem dX7_net_18 : decode cX7_net 18 = .ok (.if_icmp .le 6, 3) := by decide +kernel
theorem dX7_net_21 : decode cX7_net 21 = .ok (.bipush (-103), 2) := by decide +kernel
theorem dX7_net_23 : decode cX7_net 23 = .ok (.ireturn, 1) := by decide +kernel
theorem dX7_net_24 : decode cX7_net 24 = .ok (.aload_n 0, 1) := by decide +kernel
theorem dX7_net_25 : decode cX7_net 25 = .ok (.invokevirtual 219, 3) := by decide +kernel
theorem dX7_net_28 : decode cX7_net 28 = .ok (.iconst 0, 1) := by decide +kernel
theorem dX7_net_29 : decode cX7_net 29 = .ok (.istore_n 1, 1) := by decide +kernel
theorem dX7_net_30 : decode cX7_net 30 = .ok (.iload_n 1, 1) := by decide +kernel
theorem dX7_net_31 : decode cX7_net 31 = .ok (.iconst 4, 1) := by decide +kernel
theorem dX7_net_32 : decode cX7_net 32 = .ok (.if_icmp .ge 16, 3) := by decide +kernel
theorem dX7_net_35 : decode cX7_net 35 = .ok (.aload_n 0, 1) := by decide +kernel
theorem dX7_net_36 : decode cX7_net 36 = .ok (.getfield 22, 3) := by decide +kernel
theorem dX7_net_39 : decode cX7_net 39 = .ok (.iload_n 1, 1) := by decide +kernel
theorem dX7_net_40 : decode cX7_net 40 = .ok (.iconst 0, 1) := by decide +kernel
theorem dX7_net_41 : decode cX7_net 41 = .ok (.iastore, 1) := by decide +kernel
theorem dX7_net_42 : decode cX7_net 42 = .ok (.iinc 1 1, 3) := by decide +kernel
theorem dX7_net_45 : decode cX7_net 45 = .ok (.goto (-15), 3) := by decide +kernel
theorem dX7_net_48 : decode cX7_net 48 = .ok (.aload_n 0, 1) := by decide +kernel
theorem dX7_net_49 : decode cX7_net 49 = .ok (.dup, 1) := by decide +kernel
theorem dX7_net_50 : decode cX7_net 50 = .ok (.getfield 222, 3) := by decide +kernel
theorem dX7_net_53 : decode cX7_net 53 = .ok (.iconst 1, 1) := by decide +kernel
theorem dX7_net_54 : decode cX7_net 54 = .ok (.iadd, 1) := by decide +kernel
theorem dX7_net_55 : decode cX7_net 55 = .ok (.putfield 222, 3) := by decide +kernel
theorem dX7_net_58 : decode cX7_net 58 = .ok (.aload_n 0, 1) := by decide +kernel
theorem dX7_net_59 : decode cX7_net 59 = .ok (.iconst 0, 1) := by decide +kernel
theorem dX7_net_60 : decode cX7_net 60 = .ok (.putfield 225, 3) := by decide +kernel
theorem dX7_net_63 : decode cX7_net 63 = .ok (.aload_n 0, 1) := by decide +kernel
theorem dX7_net_64 : decode cX7_net 64 = .ok (.iconst 0, 1) := by decide +kernel
theorem dX7_net_65 : decode cX7_net 65 = .ok (.putfield 169, 3) := by decide +kernel
theorem dX7_net_68 : decode cX7_net 68 = .ok (.aload_n 0, 1) := by decide +kernel
theorem dX7_net_69 : decode cX7_net 69 = .ok (.getfield 190, 3) := by decide +kernel
theorem dX7_net_72 : decode cX7_net 72 = .ok (.ireturn, 1) := by decide +kernel
theorem dX7_isNet_0 : decode cX7_isNet 0 = .ok (.aload_n 0, 1) := by decide +kernel
theorem dX7_isNet_1 : decode cX7_isNet 1 = .ok (.getfield 222, 3) := by decide +kernel
theorem dX7_isNet_4 : decode cX7_isNet 4 = .ok (.ifCond .le 7, 3) := by decide +kernel
theorem dX7_isNet_7 : decode cX7_isNet 7 = .ok (.iconst 1, 1) := by decide +kernel
theorem dX7_isNet_8 : decode cX7_isNet 8 = .ok (.goto 4, 3) := by decide +kernel
theorem dX7_isNet_11 : decode cX7_isNet 11 = .ok (.iconst 0, 1) := by decide +kernel
theorem dX7_isNet_12 : decode cX7_isNet 12 = .ok (.ireturn, 1) := by decide +kernel
theorem dX7_placeTold_0 : decode cX7_placeTold 0 = .ok (.iload_n 2, 1) := by decide +kernel
theorem dX7_placeTold_1 : decode cX7_placeTold 1 = .ok (.ifCond .le 15, 3) := by decide +kernel
theorem dX7_placeTold_4 : decode cX7_placeTold 4 = .ok (.aload_n 0, 1) := by decide +kernel
theorem dX7_placeTold_5 : decode cX7_placeTold 5 = .ok (.iload_n 1, 1) := by decide +kernel
theorem dX7_placeTold_6 : decode cX7_placeTold 6 = .ok (.invokevirtual 116, 3) := by decide +kernel
theorem dX7_placeTold_9 : decode cX7_placeTold 9 = .ok (.ifCond .ne 7, 3) := by decide +kernel
theorem dX7_placeTold_12 : decode cX7_placeTold 12 = .ok (.iconst (-1), 1) := by decide +kernel
theorem dX7_placeTold_13 : decode cX7_placeTold 13 = .ok (.goto 12, 3) := by decide +kernel
theorem dX7_placeTold_16 : decode cX7_placeTold 16 = .ok (.aload_n 0, 1) := by decide +kernel
theorem dX7_placeTold_17 : decode cX7_placeTold 17 = .ok (.iconst 3, 1) := by decide +kernel
theorem dX7_placeTold_18 : decode cX7_placeTold 18 = .ok (.iload_n 1, 1) := by decide +kernel
theorem dX7_placeTold_19 : decode cX7_placeTold 19 = .ok (.imul, 1) := by decide +kernel
theorem dX7_placeTold_20 : decode cX7_placeTold 20 = .ok (.iload_n 2, 1) := by decide +kernel
theorem dX7_placeTold_21 : decode cX7_placeTold 21 = .ok (.iadd, 1) := by decide +kernel
theorem dX7_placeTold_22 : decode cX7_placeTold 22 = .ok (.invokevirtual 128, 3) := by decide +kernel
theorem dX7_placeTold_25 : decode cX7_placeTold 25 = .ok (.ireturn, 1) := by decide +kernel
theorem dX7_nodeNow_0 : decode cX7_nodeNow 0 = .ok (.iload_n 2, 1) := by decide +kernel
theorem dX7_nodeNow_1 : decode cX7_nodeNow 1 = .ok (.tableswitch 78 0 5 #[39, 45, 45, 45, 54, 60], 39) := by decide +kernel
theorem dX7_nodeNow_40 : decode cX7_nodeNow 40 = .ok (.aload_n 0, 1) := by decide +kernel
theorem dX7_nodeNow_41 : decode cX7_nodeNow 41 = .ok (.iload_n 1, 1) := by decide +kernel
theorem dX7_nodeNow_42 : decode cX7_nodeNow 42 = .ok (.invokevirtual 116, 3) := by decide +kernel
theorem dX7_nodeNow_45 : decode cX7_nodeNow 45 = .ok (.ireturn, 1) := by decide +kernel
theorem dX7_nodeNow_46 : decode cX7_nodeNow 46 = .ok (.aload_n 0, 1) := by decide +kernel
theorem dX7_nodeNow_47 : decode cX7_nodeNow 47 = .ok (.iload_n 1, 1) := by decide +kernel
theorem dX7_nodeNow_48 : decode cX7_nodeNow 48 = .ok (.iload_n 2, 1) := by decide +kernel
theorem dX7_nodeNow_49 : decode cX7_nodeNow 49 = .ok (.iconst 1, 1) := by decide +kernel
theorem dX7_nodeNow_50 : decode cX7_nodeNow 50 = .ok (.isub, 1) := by decide +kernel
theorem dX7_nodeNow_51 : decode cX7_nodeNow 51 = .ok (.invokevirtual 228, 3) := by decide +kernel
theorem dX7_nodeNow_54 : decode cX7_nodeNow 54 = .ok (.ireturn, 1) := by decide +kernel
theorem dX7_nodeNow_55 : decode cX7_nodeNow 55 = .ok (.aload_n 0, 1) := by decide +kernel
theorem dX7_nodeNow_56 : decode cX7_nodeNow 56 = .ok (.iload_n 1, 1) := by decide +kernel
theorem dX7_nodeNow_57 : decode cX7_nodeNow 57 = .ok (.invokevirtual 131, 3) := by decide +kernel
theorem dX7_nodeNow_60 : decode cX7_nodeNow 60 = .ok (.ireturn, 1) := by decide +kernel
theorem dX7_nodeNow_61 : decode cX7_nodeNow 61 = .ok (.aload_n 0, 1) := by decide +kernel
theorem dX7_nodeNow_62 : decode cX7_nodeNow 62 = .ok (.iload_n 1, 1) := by decide +kernel
theorem dX7_nodeNow_63 : decode cX7_nodeNow 63 = .ok (.invokevirtual 116, 3) := by decide +kernel
theorem dX7_nodeNow_66 : decode cX7_nodeNow 66 = .ok (.ifCond .ne 7, 3) := by decide +kernel
theorem dX7_nodeNow_69 : decode cX7_nodeNow 69 = .ok (.iconst (-1), 1) := by decide +kernel
theorem dX7_nodeNow_70 : decode cX7_nodeNow 70 = .ok (.goto 8, 3) := by decide +kernel
theorem dX7_nodeNow_73 : decode cX7_nodeNow 73 = .ok (.aload_n 0, 1) := by decide +kernel
theorem dX7_nodeNow_74 : decode cX7_nodeNow 74 = .ok (.iload_n 1, 1) := by decide +kernel
theorem dX7_nodeNow_75 : decode cX7_nodeNow 75 = .ok (.invokevirtual 232, 3) := by decide +kernel
theorem dX7_nodeNow_78 : decode cX7_nodeNow 78 = .ok (.ireturn, 1) := by decide +kernel
theorem dX7_nodeNow_79 : decode cX7_nodeNow 79 = .ok (.aload_n 0, 1) := by decide +kernel
theorem dX7_nodeNow_80 : decode cX7_nodeNow 80 = .ok (.iload_n 1, 1) := by decide +kernel
theorem dX7_nodeNow_81 : decode cX7_nodeNow 81 = .ok (.invokevirtual 116, 3) := by decide +kernel
theorem dX7_nodeNow_84 : decode cX7_nodeNow 84 = .ok (.ifCond .ne 7, 3) := by decide +kernel
theorem dX7_nodeNow_87 : decode cX7_nodeNow 87 = .ok (.iconst (-1), 1) := by decide +kernel
theorem dX7_nodeNow_88 : decode cX7_nodeNow 88 = .ok (.goto 8, 3) := by decide +kernel
theorem dX7_nodeNow_91 : decode cX7_nodeNow 91 = .ok (.aload_n 0, 1) := by decide +kernel
theorem dX7_nodeNow_92 : decode cX7_nodeNow 92 = .ok (.iload_n 1, 1) := by decide +kernel
theorem dX7_nodeNow_93 : decode cX7_nodeNow 93 = .ok (.invokevirtual 235, 3) := by decide +kernel
theorem dX7_nodeNow_96 : decode cX7_nodeNow 96 = .ok (.ireturn, 1) := by decide +kernel
theorem dX7_node_0 : decode cX7_node 0 = .ok (.aload_n 0, 1) := by decide +kernel
theorem dX7_node_1 : decode cX7_node 1 = .ok (.iconst 0, 1) := by decide +kernel
theorem dX7_node_2 : decode cX7_node 2 = .ok (.putfield 105, 3) := by decide +kernel
theorem dX7_node_5 : decode cX7_node 5 = .ok (.aload_n 0, 1) := by decide +kernel
theorem dX7_node_6 : decode cX7_node 6 = .ok (.iload_n 1, 1) := by decide +kernel
theorem dX7_node_7 : decode cX7_node 7 = .ok (.invokevirtual 120, 3) := by decide +kernel
theorem dX7_node_10 : decode cX7_node 10 = .ok (.ifCond .ne 8, 3) := by decide +kernel
theorem dX7_node_13 : decode cX7_node 13 = .ok (.bipush (-101), 2) := by decide +kernel
theorem dX7_node_15 : decode cX7_node 15 = .ok (.goto 24, 3) := by decide +kernel
theorem dX7_node_18 : decode cX7_node 18 = .ok (.iload_n 2, 1) := by decide +kernel
theorem dX7_node_19 : decode cX7_node 19 = .ok (.iconst 0, 1) := by decide +kernel
theorem dX7_node_20 : decode cX7_node 20 = .ok (.bipush 6, 2) := by decide +kernel
theorem dX7_node_22 : decode cX7_node 22 = .ok (.invokestatic 112, 3) := by decide +kernel
theorem dX7_node_25 : decode cX7_node 25 = .ok (.ifCond .eq 12, 3) := by decide +kernel
theorem dX7_node_28 : decode cX7_node 28 = .ok (.aload_n 0, 1) := by decide +kernel
theorem dX7_node_29 : decode cX7_node 29 = .ok (.iload_n 1, 1) := by decide +kernel
theorem dX7_node_30 : decode cX7_node 30 = .ok (.iload_n 2, 1) := by decide +kernel
theorem dX7_node_31 : decode cX7_node 31 = .ok (.invokevirtual 238, 3) := by decide +kernel
theorem dX7_node_34 : decode cX7_node 34 = .ok (.goto 5, 3) := by decide +kernel
theorem dX7_node_37 : decode cX7_node 37 = .ok (.bipush (-102), 2) := by decide +kernel
theorem dX7_node_39 : decode cX7_node 39 = .ok (.ireturn, 1) := by decide +kernel
theorem dX7_as_0 : decode cX7_as 0 = .ok (.aload_n 0, 1) := by decide +kernel
theorem dX7_as_1 : decode cX7_as 1 = .ok (.iconst 0, 1) := by decide +kernel
theorem dX7_as_2 : decode cX7_as 2 = .ok (.putfield 105, 3) := by decide +kernel
theorem dX7_as_5 : decode cX7_as 5 = .ok (.aload_n 0, 1) := by decide +kernel
theorem dX7_as_6 : decode cX7_as 6 = .ok (.iload_n 1, 1) := by decide +kernel
theorem dX7_as_7 : decode cX7_as 7 = .ok (.invokevirtual 120, 3) := by decide +kernel
theorem dX7_as_10 : decode cX7_as 10 = .ok (.ifCond .ne 6, 3) := by decide +kernel
theorem dX7_as_13 : decode cX7_as 13 = .ok (.bipush (-101), 2) := by decide +kernel
theorem dX7_as_15 : decode cX7_as 15 = .ok (.ireturn, 1) := by decide +kernel
theorem dX7_as_16 : decode cX7_as 16 = .ok (.iload_n 2, 1) := by decide +kernel
theorem dX7_as_17 : decode cX7_as 17 = .ok (.iconst 0, 1) := by decide +kernel
theorem dX7_as_18 : decode cX7_as 18 = .ok (.iconst 4, 1) := by decide +kernel
theorem dX7_as_19 : decode cX7_as 19 = .ok (.invokestatic 112, 3) := by decide +kernel
theorem dX7_as_22 : decode cX7_as 22 = .ok (.ifCond .ne 6, 3) := by decide +kernel
theorem dX7_as_25 : decode cX7_as 25 = .ok (.bipush (-102), 2) := by decide +kernel
theorem dX7_as_27 : decode cX7_as 27 = .ok (.ireturn, 1) := by decide +kernel
theorem dX7_as_28 : decode cX7_as 28 = .ok (.aload_n 0, 1) := by decide +kernel
theorem dX7_as_29 : decode cX7_as 29 = .ok (.iload_n 1, 1) := by decide +kernel
theorem dX7_as_30 : decode cX7_as 30 = .ok (.invokevirtual 116, 3) := by decide +kernel
theorem dX7_as_33 : decode cX7_as 33 = .ok (.istore_n 3, 1) := by decide +kernel
theorem dX7_as_34 : decode cX7_as 34 = .ok (.iload_n 2, 1) := by decide +kernel
theorem dX7_as_35 : decode cX7_as 35 = .ok (.ifCond .eq 41, 3) := by decide +kernel
theorem dX7_as_38 : decode cX7_as 38 = .ok (.iload_n 2, 1) := by decide +kernel
theorem dX7_as_39 : decode cX7_as 39 = .ok (.iconst 1, 1) := by decide +kernel
theorem dX7_as_40 : decode cX7_as 40 = .ok (.if_icmp .ne 7, 3) := by decide +kernel
theorem dX7_as_43 : decode cX7_as 43 = .ok (.iload_n 3, 1) := by decide +kernel
theorem dX7_as_44 : decode cX7_as 44 = .ok (.ifCond .eq 32, 3) := by decide +kernel
theorem dX7_as_47 : decode cX7_as 47 = .ok (.iload_n 2, 1) := by decide +kernel
theorem dX7_as_48 : decode cX7_as 48 = .ok (.iconst 2, 1) := by decide +kernel
theorem dX7_as_49 : decode cX7_as 49 = .ok (.if_icmp .ne 7, 3) := by decide +kernel
theorem dX7_as_52 : decode cX7_as 52 = .ok (.iload_n 3, 1) := by decide +kernel
theorem dX7_as_53 : decode cX7_as 53 = .ok (.ifCond .ne 23, 3) := by decide +kernel
theorem dX7_as_56 : decode cX7_as 56 = .ok (.iload_n 2, 1) := by decide +kernel
theorem dX7_as_57 : decode cX7_as 57 = .ok (.iconst 3, 1) := by decide +kernel
theorem dX7_as_58 : decode cX7_as 58 = .ok (.if_icmp .ne 8, 3) := by decide +kernel
theorem dX7_as_61 : decode cX7_as 61 = .ok (.iload_n 3, 1) := by decide +kernel
theorem dX7_as_62 : decode cX7_as 62 = .ok (.iconst 1, 1) := by decide +kernel
theorem dX7_as_63 : decode cX7_as 63 = .ok (.if_icmp .gt 13, 3) := by decide +kernel
theorem dX7_as_66 : decode cX7_as 66 = .ok (.iload_n 2, 1) := by decide +kernel
theorem dX7_as_67 : decode cX7_as 67 = .ok (.iconst 4, 1) := by decide +kernel
theorem dX7_as_68 : decode cX7_as 68 = .ok (.if_icmp .ne 12, 3) := by decide +kernel
theorem dX7_as_71 : decode cX7_as 71 = .ok (.iload_n 3, 1) := by decide +kernel
theorem dX7_as_72 : decode cX7_as 72 = .ok (.iconst 3, 1) := by decide +kernel
theorem dX7_as_73 : decode cX7_as 73 = .ok (.if_icmp .ne 7, 3) := by decide +kernel
theorem dX7_as_76 : decode cX7_as 76 = .ok (.iconst 1, 1) := by decide +kernel
theorem dX7_as_77 : decode cX7_as 77 = .ok (.goto 4, 3) := by decide +kernel
theorem dX7_as_80 : decode cX7_as 80 = .ok (.iconst 0, 1) := by decide +kernel
theorem dX7_as_81 : decode cX7_as 81 = .ok (.istore 4, 2) := by decide +kernel
theorem dX7_as_83 : decode cX7_as 83 = .ok (.iload 4, 2) := by decide +kernel
theorem dX7_as_85 : decode cX7_as 85 = .ok (.ifCond .eq 7, 3) := by decide +kernel
theorem dX7_as_88 : decode cX7_as 88 = .ok (.iload_n 1, 1) := by decide +kernel
theorem dX7_as_89 : decode cX7_as 89 = .ok (.goto 4, 3) := by decide +kernel
theorem dX7_as_92 : decode cX7_as 92 = .ok (.iconst (-1), 1) := by decide +kernel
theorem dX7_as_93 : decode cX7_as 93 = .ok (.ireturn, 1) := by decide +kernel
theorem dX7_open_0 : decode cX7_open 0 = .ok (.aload_n 0, 1) := by decide +kernel
theorem dX7_open_1 : decode cX7_open 1 = .ok (.iconst 0, 1) := by decide +kernel
theorem dX7_open_2 : decode cX7_open 2 = .ok (.putfield 105, 3) := by decide +kernel
theorem dX7_open_5 : decode cX7_open 5 = .ok (.aload_n 0, 1) := by decide +kernel
theorem dX7_open_6 : decode cX7_open 6 = .ok (.iload_n 1, 1) := by decide +kernel
theorem dX7_open_7 : decode cX7_open 7 = .ok (.invokevirtual 241, 3) := by decide +kernel
theorem dX7_open_10 : decode cX7_open 10 = .ok (.ifCond .eq 15, 3) := by decide +kernel
theorem dX7_open_13 : decode cX7_open 13 = .ok (.aload_n 0, 1) := by decide +kernel
theorem dX7_open_14 : decode cX7_open 14 = .ok (.sipush 900, 3) := by decide +kernel
theorem dX7_open_17 : decode cX7_open 17 = .ok (.iload_n 1, 1) := by decide +kernel
theorem dX7_open_18 : decode cX7_open 18 = .ok (.iadd, 1) := by decide +kernel
theorem dX7_open_19 : decode cX7_open 19 = .ok (.invokevirtual 128, 3) := by decide +kernel
theorem dX7_open_22 : decode cX7_open 22 = .ok (.goto 5, 3) := by decide +kernel
theorem dX7_open_25 : decode cX7_open 25 = .ok (.bipush (-101), 2) := by decide +kernel
theorem dX7_open_27 : decode cX7_open 27 = .ok (.ireturn, 1) := by decide +kernel
theorem dX7_meetings_0 : decode cX7_meetings 0 = .ok (.iload_n 1, 1) := by decide +kernel
theorem dX7_meetings_1 : decode cX7_meetings 1 = .ok (.ifCond .eq 17, 3) := by decide +kernel
theorem dX7_meetings_4 : decode cX7_meetings 4 = .ok (.iload_n 1, 1) := by decide +kernel
theorem dX7_meetings_5 : decode cX7_meetings 5 = .ok (.bipush 10, 2) := by decide +kernel
theorem dX7_meetings_7 : decode cX7_meetings 7 = .ok (.bipush 39, 2) := by decide +kernel
theorem dX7_meetings_9 : decode cX7_meetings 9 = .ok (.invokestatic 112, 3) := by decide +kernel
theorem dX7_meetings_12 : decode cX7_meetings 12 = .ok (.ifCond .ne 6, 3) := by decide +kernel
theorem dX7_meetings_15 : decode cX7_meetings 15 = .ok (.bipush (-102), 2) := by decide +kernel
theorem dX7_meetings_17 : decode cX7_meetings 17 = .ok (.ireturn, 1) := by decide +kernel
theorem dX7_meetings_18 : decode cX7_meetings 18 = .ok (.aload_n 0, 1) := by decide +kernel
theorem dX7_meetings_19 : decode cX7_meetings 19 = .ok (.iconst 0, 1) := by decide +kernel
theorem dX7_meetings_20 : decode cX7_meetings 20 = .ok (.putfield 105, 3) := by decide +kernel
theorem dX7_meetings_23 : decode cX7_meetings 23 = .ok (.aload_n 0, 1) := by decide +kernel
theorem dX7_meetings_24 : decode cX7_meetings 24 = .ok (.invokevirtual 244, 3) := by decide +kernel
theorem dX7_meetings_27 : decode cX7_meetings 27 = .ok (.ifCond .ne 8, 3) := by decide +kernel
theorem dX7_meetings_30 : decode cX7_meetings 30 = .ok (.bipush (-103), 2) := by decide +kernel
theorem dX7_meetings_32 : decode cX7_meetings 32 = .ok (.goto 22, 3) := by decide +kernel
theorem dX7_meetings_35 : decode cX7_meetings 35 = .ok (.iload_n 1, 1) := by decide +kernel
theorem dX7_meetings_36 : decode cX7_meetings 36 = .ok (.ifCond .ne 10, 3) := by decide +kernel
theorem dX7_meetings_39 : decode cX7_meetings 39 = .ok (.aload_n 0, 1) := by decide +kernel
theorem dX7_meetings_40 : decode cX7_meetings 40 = .ok (.invokevirtual 248, 3) := by decide +kernel
theorem dX7_meetings_43 : decode cX7_meetings 43 = .ok (.goto 11, 3) := by decide +kernel
theorem dX7_meetings_46 : decode cX7_meetings 46 = .ok (.aload_n 0, 1) := by decide +kernel
theorem dX7_meetings_47 : decode cX7_meetings 47 = .ok (.iload_n 1, 1) := by decide +kernel
theorem dX7_meetings_48 : decode cX7_meetings 48 = .ok (.bipush 10, 2) := by decide +kernel
theorem dX7_meetings_50 : decode cX7_meetings 50 = .ok (.isub, 1) := by decide +kernel
theorem dX7_meetings_51 : decode cX7_meetings 51 = .ok (.invokevirtual 251, 3) := by decide +kernel
theorem dX7_meetings_54 : decode cX7_meetings 54 = .ok (.ireturn, 1) := by decide +kernel
theorem dX7_isFull_0 : decode cX7_isFull 0 = .ok (.aload_n 0, 1) := by decide +kernel
theorem dX7_isFull_1 : decode cX7_isFull 1 = .ok (.iload_n 1, 1) := by decide +kernel
theorem dX7_isFull_2 : decode cX7_isFull 2 = .ok (.invokevirtual 157, 3) := by decide +kernel
theorem dX7_isFull_5 : decode cX7_isFull 5 = .ok (.iconst 2, 1) := by decide +kernel
theorem dX7_isFull_6 : decode cX7_isFull 6 = .ok (.if_icmp .ne 18, 3) := by decide +kernel
theorem dX7_isFull_9 : decode cX7_isFull 9 = .ok (.aload_n 0, 1) := by decide +kernel
theorem dX7_isFull_10 : decode cX7_isFull 10 = .ok (.invokevirtual 254, 3) := by decide +kernel
theorem dX7_isFull_13 : decode cX7_isFull 13 = .ok (.iconst 2, 1) := by decide +kernel
theorem dX7_isFull_14 : decode cX7_isFull 14 = .ok (.iadd, 1) := by decide +kernel
theorem dX7_isFull_15 : decode cX7_isFull 15 = .ok (.bipush 60, 2) := by decide +kernel
theorem dX7_isFull_17 : decode cX7_isFull 17 = .ok (.if_icmp .le 7, 3) := by decide +kernel
theorem dX7_isFull_20 : decode cX7_isFull 20 = .ok (.iconst 1, 1) := by decide +kernel
theorem dX7_isFull_21 : decode cX7_isFull 21 = .ok (.goto 4, 3) := by decide +kernel
theorem dX7_isFull_24 : decode cX7_isFull 24 = .ok (.iconst 0, 1) := by decide +kernel
theorem dX7_isFull_25 : decode cX7_isFull 25 = .ok (.ireturn, 1) := by decide +kernel
theorem dX7_meet_0 : decode cX7_meet 0 = .ok (.aload_n 0, 1) := by decide +kernel
theorem dX7_meet_1 : decode cX7_meet 1 = .ok (.iconst 0, 1) := by decide +kernel
theorem dX7_meet_2 : decode cX7_meet 2 = .ok (.putfield 105, 3) := by decide +kernel
theorem dX7_meet_5 : decode cX7_meet 5 = .ok (.aload_n 0, 1) := by decide +kernel
theorem dX7_meet_6 : decode cX7_meet 6 = .ok (.invokevirtual 244, 3) := by decide +kernel
theorem dX7_meet_9 : decode cX7_meet 9 = .ok (.ifCond .eq 17, 3) := by decide +kernel
theorem dX7_meet_12 : decode cX7_meet 12 = .ok (.iload_n 1, 1) := by decide +kernel
theorem dX7_meet_13 : decode cX7_meet 13 = .ok (.iconst 0, 1) := by decide +kernel
theorem dX7_meet_14 : decode cX7_meet 14 = .ok (.aload_n 0, 1) := by decide +kernel
theorem dX7_meet_15 : decode cX7_meet 15 = .ok (.invokevirtual 248, 3) := by decide +kernel
theorem dX7_meet_18 : decode cX7_meet 18 = .ok (.iconst 1, 1) := by decide +kernel
theorem dX7_meet_19 : decode cX7_meet 19 = .ok (.isub, 1) := by decide +kernel
theorem dX7_meet_20 : decode cX7_meet 20 = .ok (.invokestatic 112, 3) := by decide +kernel
theorem dX7_meet_23 : decode cX7_meet 23 = .ok (.ifCond .ne 6, 3) := by decide +kernel
theorem dX7_meet_26 : decode cX7_meet 26 = .ok (.bipush (-101), 2) := by decide +kernel
theorem dX7_meet_28 : decode cX7_meet 28 = .ok (.ireturn, 1) := by decide +kernel
theorem dX7_meet_29 : decode cX7_meet 29 = .ok (.aload_n 0, 1) := by decide +kernel
theorem dX7_meet_30 : decode cX7_meet 30 = .ok (.iload_n 1, 1) := by decide +kernel
theorem dX7_meet_31 : decode cX7_meet 31 = .ok (.invokevirtual 251, 3) := by decide +kernel
theorem dX7_meet_34 : decode cX7_meet 34 = .ok (.istore_n 2, 1) := by decide +kernel
theorem dX7_meet_35 : decode cX7_meet 35 = .ok (.aload_n 0, 1) := by decide +kernel
theorem dX7_meet_36 : decode cX7_meet 36 = .ok (.iload_n 2, 1) := by decide +kernel
theorem dX7_meet_37 : decode cX7_meet 37 = .ok (.invokevirtual 257, 3) := by decide +kernel
theorem dX7_meet_40 : decode cX7_meet 40 = .ok (.ifCond .eq 6, 3) := by decide +kernel
theorem dX7_meet_43 : decode cX7_meet 43 = .ok (.bipush (-104), 2) := by decide +kernel
theorem dX7_meet_45 : decode cX7_meet 45 = .ok (.ireturn, 1) := by decide +kernel
theorem dX7_meet_46 : decode cX7_meet 46 = .ok (.aload_n 0, 1) := by decide +kernel
theorem dX7_meet_47 : decode cX7_meet 47 = .ok (.iload_n 2, 1) := by decide +kernel
theorem dX7_meet_48 : decode cX7_meet 48 = .ok (.invokevirtual 260, 3) := by decide +kernel
theorem dX7_meet_51 : decode cX7_meet 51 = .ok (.istore_n 3, 1) := by decide +kernel
theorem dX7_meet_52 : decode cX7_meet 52 = .ok (.aload_n 0, 1) := by decide +kernel
theorem dX7_meet_53 : decode cX7_meet 53 = .ok (.getfield 22, 3) := by decide +kernel
theorem dX7_meet_56 : decode cX7_meet 56 = .ok (.iload_n 3, 1) := by decide +kernel
theorem dX7_meet_57 : decode cX7_meet 57 = .ok (.dup2, 1) := by decide +kernel
theorem dX7_meet_58 : decode cX7_meet 58 = .ok (.iaload, 1) := by decide +kernel
theorem dX7_meet_59 : decode cX7_meet 59 = .ok (.iconst 1, 1) := by decide +kernel
theorem dX7_meet_60 : decode cX7_meet 60 = .ok (.iadd, 1) := by decide +kernel
theorem dX7_meet_61 : decode cX7_meet 61 = .ok (.iastore, 1) := by decide +kernel
theorem dX7_meet_62 : decode cX7_meet 62 = .ok (.iload_n 3, 1) := by decide +kernel
theorem dX7_meet_63 : decode cX7_meet 63 = .ok (.ireturn, 1) := by decide +kernel
theorem dX7_run_0 : decode cX7_run 0 = .ok (.iload_n 1, 1) := by decide +kernel
theorem dX7_run_1 : decode cX7_run 1 = .ok (.iconst 1, 1) := by decide +kernel
theorem dX7_run_2 : decode cX7_run 2 = .ok (.bipush 60, 2) := by decide +kernel
theorem dX7_run_4 : decode cX7_run 4 = .ok (.invokestatic 112, 3) := by decide +kernel
theorem dX7_run_7 : decode cX7_run 7 = .ok (.ifCond .ne 6, 3) := by decide +kernel
theorem dX7_run_10 : decode cX7_run 10 = .ok (.bipush (-102), 2) := by decide +kernel
theorem dX7_run_12 : decode cX7_run 12 = .ok (.ireturn, 1) := by decide +kernel
theorem dX7_run_13 : decode cX7_run 13 = .ok (.aload_n 0, 1) := by decide +kernel
theorem dX7_run_14 : decode cX7_run 14 = .ok (.invokevirtual 244, 3) := by decide +kernel
theorem dX7_run_17 : decode cX7_run 17 = .ok (.ifCond .ne 6, 3) := by decide +kernel
theorem dX7_run_20 : decode cX7_run 20 = .ok (.bipush (-103), 2) := by decide +kernel
theorem dX7_run_22 : decode cX7_run 22 = .ok (.ireturn, 1) := by decide +kernel
theorem dX7_run_23 : decode cX7_run 23 = .ok (.aload_n 0, 1) := by decide +kernel
theorem dX7_run_24 : decode cX7_run 24 = .ok (.iconst 0, 1) := by decide +kernel
theorem dX7_run_25 : decode cX7_run 25 = .ok (.putfield 105, 3) := by decide +kernel
theorem dX7_run_28 : decode cX7_run 28 = .ok (.iconst 0, 1) := by decide +kernel
theorem dX7_run_29 : decode cX7_run 29 = .ok (.istore_n 2, 1) := by decide +kernel
theorem dX7_run_30 : decode cX7_run 30 = .ok (.iload_n 2, 1) := by decide +kernel
theorem dX7_run_31 : decode cX7_run 31 = .ok (.iload_n 1, 1) := by decide +kernel
theorem dX7_run_32 : decode cX7_run 32 = .ok (.if_icmp .ge 46, 3) := by decide +kernel
theorem dX7_run_35 : decode cX7_run 35 = .ok (.aload_n 0, 1) := by decide +kernel
theorem dX7_run_36 : decode cX7_run 36 = .ok (.invokevirtual 248, 3) := by decide +kernel
theorem dX7_run_39 : decode cX7_run 39 = .ok (.ifCond .le 39, 3) := by decide +kernel
theorem dX7_run_42 : decode cX7_run 42 = .ok (.aload_n 0, 1) := by decide +kernel
theorem dX7_run_43 : decode cX7_run 43 = .ok (.aload_n 0, 1) := by decide +kernel
theorem dX7_run_44 : decode cX7_run 44 = .ok (.iconst 0, 1) := by decide +kernel
theorem dX7_run_45 : decode cX7_run 45 = .ok (.invokevirtual 251, 3) := by decide +kernel
theorem dX7_run_48 : decode cX7_run 48 = .ok (.invokevirtual 257, 3) := by decide +kernel
theorem dX7_run_51 : decode cX7_run 51 = .ok (.ifCond .ne 27, 3) := by decide +kernel
theorem dX7_run_54 : decode cX7_run 54 = .ok (.aload_n 0, 1) := by decide +kernel
theorem dX7_run_55 : decode cX7_run 55 = .ok (.getfield 22, 3) := by decide +kernel
theorem dX7_run_58 : decode cX7_run 58 = .ok (.aload_n 0, 1) := by decide +kernel
theorem dX7_run_59 : decode cX7_run 59 = .ok (.aload_n 0, 1) := by decide +kernel
theorem dX7_run_60 : decode cX7_run 60 = .ok (.iconst 0, 1) := by decide +kernel
theorem dX7_run_61 : decode cX7_run 61 = .ok (.invokevirtual 251, 3) := by decide +kernel
theorem dX7_run_64 : decode cX7_run 64 = .ok (.invokevirtual 260, 3) := by decide +kernel
theorem dX7_run_67 : decode cX7_run 67 = .ok (.dup2, 1) := by decide +kernel
theorem dX7_run_68 : decode cX7_run 68 = .ok (.iaload, 1) := by decide +kernel
theorem dX7_run_69 : decode cX7_run 69 = .ok (.iconst 1, 1) := by decide +kernel
theorem dX7_run_70 : decode cX7_run 70 = .ok (.iadd, 1) := by decide +kernel
theorem dX7_run_71 : decode cX7_run 71 = .ok (.iastore, 1) := by decide +kernel
theorem dX7_run_72 : decode cX7_run 72 = .ok (.iinc 2 1, 3) := by decide +kernel
theorem dX7_run_75 : decode cX7_run 75 = .ok (.goto (-45), 3) := by decide +kernel
theorem dX7_run_78 : decode cX7_run 78 = .ok (.iload_n 2, 1) := by decide +kernel
theorem dX7_run_79 : decode cX7_run 79 = .ok (.ireturn, 1) := by decide +kernel
theorem dX7_join_0 : decode cX7_join 0 = .ok (.aload_n 0, 1) := by decide +kernel
theorem dX7_join_1 : decode cX7_join 1 = .ok (.iconst 0, 1) := by decide +kernel
theorem dX7_join_2 : decode cX7_join 2 = .ok (.putfield 105, 3) := by decide +kernel
theorem dX7_join_5 : decode cX7_join 5 = .ok (.aload_n 0, 1) := by decide +kernel
theorem dX7_join_6 : decode cX7_join 6 = .ok (.iload_n 1, 1) := by decide +kernel
theorem dX7_join_7 : decode cX7_join 7 = .ok (.invokevirtual 241, 3) := by decide +kernel
theorem dX7_join_10 : decode cX7_join 10 = .ok (.ifCond .eq 16, 3) := by decide +kernel
theorem dX7_join_13 : decode cX7_join 13 = .ok (.aload_n 0, 1) := by decide +kernel
theorem dX7_join_14 : decode cX7_join 14 = .ok (.iload_n 2, 1) := by decide +kernel
theorem dX7_join_15 : decode cX7_join 15 = .ok (.invokevirtual 241, 3) := by decide +kernel
theorem dX7_join_18 : decode cX7_join 18 = .ok (.ifCond .eq 8, 3) := by decide +kernel
theorem dX7_join_21 : decode cX7_join 21 = .ok (.iload_n 1, 1) := by decide +kernel
theorem dX7_join_22 : decode cX7_join 22 = .ok (.iload_n 2, 1) := by decide +kernel
theorem dX7_join_23 : decode cX7_join 23 = .ok (.if_icmp .ne 6, 3) := by decide +kernel
theorem dX7_join_26 : decode cX7_join 26 = .ok (.bipush (-101), 2) := by decide +kernel
theorem dX7_join_28 : decode cX7_join 28 = .ok (.ireturn, 1) := by decide +kernel
theorem dX7_join_29 : decode cX7_join 29 = .ok (.aload_n 0, 1) := by decide +kernel
theorem dX7_join_30 : decode cX7_join 30 = .ok (.sipush 900, 3) := by decide +kernel
theorem dX7_join_33 : decode cX7_join 33 = .ok (.iload_n 1, 1) := by decide +kernel
theorem dX7_join_34 : decode cX7_join 34 = .ok (.iadd, 1) := by decide +kernel
theorem dX7_join_35 : decode cX7_join 35 = .ok (.invokevirtual 128, 3) := by decide +kernel
theorem dX7_join_38 : decode cX7_join 38 = .ok (.istore_n 3, 1) := by decide +kernel
theorem dX7_join_39 : decode cX7_join 39 = .ok (.aload_n 0, 1) := by decide +kernel
theorem dX7_join_40 : decode cX7_join 40 = .ok (.sipush 900, 3) := by decide +kernel
theorem dX7_join_43 : decode cX7_join 43 = .ok (.iload_n 2, 1) := by decide +kernel
theorem dX7_join_44 : decode cX7_join 44 = .ok (.iadd, 1) := by decide +kernel
theorem dX7_join_45 : decode cX7_join 45 = .ok (.invokevirtual 128, 3) := by decide +kernel
theorem dX7_join_48 : decode cX7_join 48 = .ok (.istore 4, 2) := by decide +kernel
theorem dX7_join_50 : decode cX7_join 50 = .ok (.aload_n 0, 1) := by decide +kernel
theorem dX7_join_51 : decode cX7_join 51 = .ok (.sipush 900, 3) := by decide +kernel
theorem dX7_join_54 : decode cX7_join 54 = .ok (.iload_n 1, 1) := by decide +kernel
theorem dX7_join_55 : decode cX7_join 55 = .ok (.iadd, 1) := by decide +kernel
theorem dX7_join_56 : decode cX7_join 56 = .ok (.iconst (-1), 1) := by decide +kernel
theorem dX7_join_57 : decode cX7_join 57 = .ok (.invokevirtual 124, 3) := by decide +kernel
theorem dX7_join_60 : decode cX7_join 60 = .ok (.aload_n 0, 1) := by decide +kernel
theorem dX7_join_61 : decode cX7_join 61 = .ok (.sipush 900, 3) := by decide +kernel
theorem dX7_join_64 : decode cX7_join 64 = .ok (.iload_n 2, 1) := by decide +kernel
theorem dX7_join_65 : decode cX7_join 65 = .ok (.iadd, 1) := by decide +kernel
theorem dX7_join_66 : decode cX7_join 66 = .ok (.iconst (-1), 1) := by decide +kernel
theorem dX7_join_67 : decode cX7_join 67 = .ok (.invokevirtual 124, 3) := by decide +kernel
theorem dX7_join_70 : decode cX7_join 70 = .ok (.iload_n 3, 1) := by decide +kernel
theorem dX7_join_71 : decode cX7_join 71 = .ok (.sipush 900, 3) := by decide +kernel
theorem dX7_join_74 : decode cX7_join 74 = .ok (.iload_n 2, 1) := by decide +kernel
theorem dX7_join_75 : decode cX7_join 75 = .ok (.iadd, 1) := by decide +kernel
theorem dX7_join_76 : decode cX7_join 76 = .ok (.if_icmp .ne 16, 3) := by decide +kernel
theorem dX7_join_79 : decode cX7_join 79 = .ok (.aload_n 0, 1) := by decide +kernel
theorem dX7_join_80 : decode cX7_join 80 = .ok (.getfield 19, 3) := by decide +kernel
theorem dX7_join_83 : decode cX7_join 83 = .ok (.iconst 0, 1) := by decide +kernel
theorem dX7_join_84 : decode cX7_join 84 = .ok (.dup2, 1) := by decide +kernel
theorem dX7_join_85 : decode cX7_join 85 = .ok (.iaload, 1) := by decide +kernel
theorem dX7_join_86 : decode cX7_join 86 = .ok (.iconst 1, 1) := by decide +kernel
theorem dX7_join_87 : decode cX7_join 87 = .ok (.iadd, 1) := by decide +kernel
theorem dX7_join_88 : decode cX7_join 88 = .ok (.iastore, 1) := by decide +kernel
theorem dX7_join_89 : decode cX7_join 89 = .ok (.goto 10, 3) := by decide +kernel
theorem dX7_join_92 : decode cX7_join 92 = .ok (.aload_n 0, 1) := by decide +kernel
theorem dX7_join_93 : decode cX7_join 93 = .ok (.iload_n 3, 1) := by decide +kernel
theorem dX7_join_94 : decode cX7_join 94 = .ok (.iload 4, 2) := by decide +kernel
theorem dX7_join_96 : decode cX7_join 96 = .ok (.invokevirtual 151, 3) := by decide +kernel
theorem dX7_join_99 : decode cX7_join 99 = .ok (.aload_n 0, 1) := by decide +kernel
theorem dX7_join_100 : decode cX7_join 100 = .ok (.getfield 19, 3) := by decide +kernel
theorem dX7_join_103 : decode cX7_join 103 = .ok (.iconst 0, 1) := by decide +kernel
theorem dX7_join_104 : decode cX7_join 104 = .ok (.iaload, 1) := by decide +kernel
theorem dX7_join_105 : decode cX7_join 105 = .ok (.ireturn, 1) := by decide +kernel
theorem dX7_stop_0 : decode cX7_stop 0 = .ok (.aload_n 0, 1) := by decide +kernel
theorem dX7_stop_1 : decode cX7_stop 1 = .ok (.iconst 0, 1) := by decide +kernel
theorem dX7_stop_2 : decode cX7_stop 2 = .ok (.putfield 105, 3) := by decide +kernel
theorem dX7_stop_5 : decode cX7_stop 5 = .ok (.aload_n 0, 1) := by decide +kernel
theorem dX7_stop_6 : decode cX7_stop 6 = .ok (.iload_n 1, 1) := by decide +kernel
theorem dX7_stop_7 : decode cX7_stop 7 = .ok (.invokevirtual 241, 3) := by decide +kernel
theorem dX7_stop_10 : decode cX7_stop 10 = .ok (.ifCond .ne 6, 3) := by decide +kernel
theorem dX7_stop_13 : decode cX7_stop 13 = .ok (.bipush (-101), 2) := by decide +kernel
theorem dX7_stop_15 : decode cX7_stop 15 = .ok (.ireturn, 1) := by decide +kernel
theorem dX7_stop_16 : decode cX7_stop 16 = .ok (.aload_n 0, 1) := by decide +kernel
theorem dX7_stop_17 : decode cX7_stop 17 = .ok (.invokevirtual 254, 3) := by decide +kernel
theorem dX7_stop_20 : decode cX7_stop 20 = .ok (.bipush 60, 2) := by decide +kernel
theorem dX7_stop_22 : decode cX7_stop 22 = .ok (.if_icmp .ne 6, 3) := by decide +kernel
theorem dX7_stop_25 : decode cX7_stop 25 = .ok (.bipush (-104), 2) := by decide +kernel
theorem dX7_stop_27 : decode cX7_stop 27 = .ok (.ireturn, 1) := by decide +kernel
theorem dX7_stop_28 : decode cX7_stop 28 = .ok (.aload_n 0, 1) := by decide +kernel
theorem dX7_stop_29 : decode cX7_stop 29 = .ok (.sipush 900, 3) := by decide +kernel
theorem dX7_stop_32 : decode cX7_stop 32 = .ok (.iload_n 1, 1) := by decide +kernel
theorem dX7_stop_33 : decode cX7_stop 33 = .ok (.iadd, 1) := by decide +kernel
theorem dX7_stop_34 : decode cX7_stop 34 = .ok (.invokevirtual 128, 3) := by decide +kernel
theorem dX7_stop_37 : decode cX7_stop 37 = .ok (.istore_n 2, 1) := by decide +kernel
theorem dX7_stop_38 : decode cX7_stop 38 = .ok (.aload_n 0, 1) := by decide +kernel
theorem dX7_stop_39 : decode cX7_stop 39 = .ok (.sipush 900, 3) := by decide +kernel
theorem dX7_stop_42 : decode cX7_stop 42 = .ok (.iload_n 1, 1) := by decide +kernel
theorem dX7_stop_43 : decode cX7_stop 43 = .ok (.iadd, 1) := by decide +kernel
theorem dX7_stop_44 : decode cX7_stop 44 = .ok (.iconst (-1), 1) := by decide +kernel
theorem dX7_stop_45 : decode cX7_stop 45 = .ok (.invokevirtual 124, 3) := by decide +kernel
theorem dX7_stop_48 : decode cX7_stop 48 = .ok (.aload_n 0, 1) := by decide +kernel
theorem dX7_stop_49 : decode cX7_stop 49 = .ok (.iconst 0, 1) := by decide +kernel
theorem dX7_stop_50 : decode cX7_stop 50 = .ok (.invokevirtual 154, 3) := by decide +kernel
theorem dX7_stop_53 : decode cX7_stop 53 = .ok (.istore_n 3, 1) := by decide +kernel
theorem dX7_stop_54 : decode cX7_stop 54 = .ok (.aload_n 0, 1) := by decide +kernel
theorem dX7_stop_55 : decode cX7_stop 55 = .ok (.iconst 3, 1) := by decide +kernel
theorem dX7_stop_56 : decode cX7_stop 56 = .ok (.iload_n 3, 1) := by decide +kernel
theorem dX7_stop_57 : decode cX7_stop 57 = .ok (.imul, 1) := by decide +kernel
theorem dX7_stop_58 : decode cX7_stop 58 = .ok (.iload_n 2, 1) := by decide +kernel
theorem dX7_stop_59 : decode cX7_stop 59 = .ok (.invokevirtual 151, 3) := by decide +kernel
theorem dX7_stop_62 : decode cX7_stop 62 = .ok (.iload_n 3, 1) := by decide +kernel
theorem dX7_stop_63 : decode cX7_stop 63 = .ok (.ireturn, 1) := by decide +kernel
theorem dX7_change_0 : decode cX7_change 0 = .ok (.aload_n 0, 1) := by decide +kernel
theorem dX7_change_1 : decode cX7_change 1 = .ok (.iconst 0, 1) := by decide +kernel
theorem dX7_change_2 : decode cX7_change 2 = .ok (.putfield 105, 3) := by decide +kernel
theorem dX7_change_5 : decode cX7_change 5 = .ok (.aload_n 0, 1) := by decide +kernel
theorem dX7_change_6 : decode cX7_change 6 = .ok (.iload_n 1, 1) := by decide +kernel
theorem dX7_change_7 : decode cX7_change 7 = .ok (.invokevirtual 263, 3) := by decide +kernel
theorem dX7_change_10 : decode cX7_change 10 = .ok (.ifCond .ne 6, 3) := by decide +kernel
theorem dX7_change_13 : decode cX7_change 13 = .ok (.bipush (-101), 2) := by decide +kernel
theorem dX7_change_15 : decode cX7_change 15 = .ok (.ireturn, 1) := by decide +kernel
theorem dX7_change_16 : decode cX7_change 16 = .ok (.iload_n 2, 1) := by decide +kernel
theorem dX7_change_17 : decode cX7_change 17 = .ok (.iconst 1, 1) := by decide +kernel
theorem dX7_change_18 : decode cX7_change 18 = .ok (.iconst 3, 1) := by decide +kernel
theorem dX7_change_19 : decode cX7_change 19 = .ok (.invokestatic 112, 3) := by decide +kernel
theorem dX7_change_22 : decode cX7_change 22 = .ok (.ifCond .ne 6, 3) := by decide +kernel
theorem dX7_change_25 : decode cX7_change 25 = .ok (.bipush (-102), 2) := by decide +kernel
theorem dX7_change_27 : decode cX7_change 27 = .ok (.ireturn, 1) := by decide +kernel
theorem dX7_change_28 : decode cX7_change 28 = .ok (.aload_n 0, 1) := by decide +kernel
theorem dX7_change_29 : decode cX7_change 29 = .ok (.iload_n 1, 1) := by decide +kernel
theorem dX7_change_30 : decode cX7_change 30 = .ok (.invokevirtual 116, 3) := by decide +kernel
theorem dX7_change_33 : decode cX7_change 33 = .ok (.istore_n 3, 1) := by decide +kernel
theorem dX7_change_34 : decode cX7_change 34 = .ok (.aload_n 0, 1) := by decide +kernel
theorem dX7_change_35 : decode cX7_change 35 = .ok (.getfield 7, 3) := by decide +kernel
theorem dX7_change_38 : decode cX7_change 38 = .ok (.iload_n 1, 1) := by decide +kernel
theorem dX7_change_39 : decode cX7_change 39 = .ok (.iload_n 2, 1) := by decide +kernel
theorem dX7_change_40 : decode cX7_change 40 = .ok (.iastore, 1) := by decide +kernel
theorem dX7_change_41 : decode cX7_change 41 = .ok (.iload_n 3, 1) := by decide +kernel
theorem dX7_change_42 : decode cX7_change 42 = .ok (.ireturn, 1) := by decide +kernel
theorem dX7_flip_0 : decode cX7_flip 0 = .ok (.aload_n 0, 1) := by decide +kernel
theorem dX7_flip_1 : decode cX7_flip 1 = .ok (.iconst 0, 1) := by decide +kernel
theorem dX7_flip_2 : decode cX7_flip 2 = .ok (.putfield 105, 3) := by decide +kernel
theorem dX7_flip_5 : decode cX7_flip 5 = .ok (.aload_n 0, 1) := by decide +kernel
theorem dX7_flip_6 : decode cX7_flip 6 = .ok (.iload_n 1, 1) := by decide +kernel
theorem dX7_flip_7 : decode cX7_flip 7 = .ok (.invokevirtual 263, 3) := by decide +kernel
theorem dX7_flip_10 : decode cX7_flip 10 = .ok (.ifCond .ne 6, 3) := by decide +kernel
theorem dX7_flip_13 : decode cX7_flip 13 = .ok (.bipush (-101), 2) := by decide +kernel
theorem dX7_flip_15 : decode cX7_flip 15 = .ok (.ireturn, 1) := by decide +kernel
theorem dX7_flip_16 : decode cX7_flip 16 = .ok (.aload_n 0, 1) := by decide +kernel
theorem dX7_flip_17 : decode cX7_flip 17 = .ok (.iconst 3, 1) := by decide +kernel
theorem dX7_flip_18 : decode cX7_flip 18 = .ok (.iload_n 1, 1) := by decide +kernel
theorem dX7_flip_19 : decode cX7_flip 19 = .ok (.imul, 1) := by decide +kernel
theorem dX7_flip_20 : decode cX7_flip 20 = .ok (.iconst 1, 1) := by decide +kernel
theorem dX7_flip_21 : decode cX7_flip 21 = .ok (.iadd, 1) := by decide +kernel
theorem dX7_flip_22 : decode cX7_flip 22 = .ok (.invokevirtual 128, 3) := by decide +kernel
theorem dX7_flip_25 : decode cX7_flip 25 = .ok (.istore_n 2, 1) := by decide +kernel
theorem dX7_flip_26 : decode cX7_flip 26 = .ok (.aload_n 0, 1) := by decide +kernel
theorem dX7_flip_27 : decode cX7_flip 27 = .ok (.iconst 3, 1) := by decide +kernel
theorem dX7_flip_28 : decode cX7_flip 28 = .ok (.iload_n 1, 1) := by decide +kernel
theorem dX7_flip_29 : decode cX7_flip 29 = .ok (.imul, 1) := by decide +kernel
theorem dX7_flip_30 : decode cX7_flip 30 = .ok (.iconst 2, 1) := by decide +kernel
theorem dX7_flip_31 : decode cX7_flip 31 = .ok (.iadd, 1) := by decide +kernel
theorem dX7_flip_32 : decode cX7_flip 32 = .ok (.invokevirtual 128, 3) := by decide +kernel
theorem dX7_flip_35 : decode cX7_flip 35 = .ok (.istore_n 3, 1) := by decide +kernel
theorem dX7_flip_36 : decode cX7_flip 36 = .ok (.iload_n 2, 1) := by decide +kernel
theorem dX7_flip_37 : decode cX7_flip 37 = .ok (.iconst 3, 1) := by decide +kernel
theorem dX7_flip_38 : decode cX7_flip 38 = .ok (.iload_n 1, 1) := by decide +kernel
theorem dX7_flip_39 : decode cX7_flip 39 = .ok (.imul, 1) := by decide +kernel
theorem dX7_flip_40 : decode cX7_flip 40 = .ok (.iconst 2, 1) := by decide +kernel
theorem dX7_flip_41 : decode cX7_flip 41 = .ok (.iadd, 1) := by decide +kernel
theorem dX7_flip_42 : decode cX7_flip 42 = .ok (.if_icmp .eq 23, 3) := by decide +kernel
theorem dX7_flip_45 : decode cX7_flip 45 = .ok (.aload_n 0, 1) := by decide +kernel
theorem dX7_flip_46 : decode cX7_flip 46 = .ok (.iconst 3, 1) := by decide +kernel
theorem dX7_flip_47 : decode cX7_flip 47 = .ok (.iload_n 1, 1) := by decide +kernel
theorem dX7_flip_48 : decode cX7_flip 48 = .ok (.imul, 1) := by decide +kernel
theorem dX7_flip_49 : decode cX7_flip 49 = .ok (.iconst 1, 1) := by decide +kernel
theorem dX7_flip_50 : decode cX7_flip 50 = .ok (.iadd, 1) := by decide +kernel
theorem dX7_flip_51 : decode cX7_flip 51 = .ok (.iload_n 3, 1) := by decide +kernel
theorem dX7_flip_52 : decode cX7_flip 52 = .ok (.invokevirtual 151, 3) := by decide +kernel
theorem dX7_flip_55 : decode cX7_flip 55 = .ok (.aload_n 0, 1) := by decide +kernel
theorem dX7_flip_56 : decode cX7_flip 56 = .ok (.iconst 3, 1) := by decide +kernel
theorem dX7_flip_57 : decode cX7_flip 57 = .ok (.iload_n 1, 1) := by decide +kernel
theorem dX7_flip_58 : decode cX7_flip 58 = .ok (.imul, 1) := by decide +kernel
theorem dX7_flip_59 : decode cX7_flip 59 = .ok (.iconst 2, 1) := by decide +kernel
theorem dX7_flip_60 : decode cX7_flip 60 = .ok (.iadd, 1) := by decide +kernel
theorem dX7_flip_61 : decode cX7_flip 61 = .ok (.iload_n 2, 1) := by decide +kernel
theorem dX7_flip_62 : decode cX7_flip 62 = .ok (.invokevirtual 151, 3) := by decide +kernel
theorem dX7_flip_65 : decode cX7_flip 65 = .ok (.aload_n 0, 1) := by decide +kernel
theorem dX7_flip_66 : decode cX7_flip 66 = .ok (.iconst 3, 1) := by decide +kernel
theorem dX7_flip_67 : decode cX7_flip 67 = .ok (.iload_n 1, 1) := by decide +kernel
theorem dX7_flip_68 : decode cX7_flip 68 = .ok (.imul, 1) := by decide +kernel
theorem dX7_flip_69 : decode cX7_flip 69 = .ok (.iconst 1, 1) := by decide +kernel
theorem dX7_flip_70 : decode cX7_flip 70 = .ok (.iadd, 1) := by decide +kernel
theorem dX7_flip_71 : decode cX7_flip 71 = .ok (.invokevirtual 128, 3) := by decide +kernel
theorem dX7_flip_74 : decode cX7_flip 74 = .ok (.ireturn, 1) := by decide +kernel
theorem dX7_layEnding_0 : decode cX7_layEnding 0 = .ok (.aload_n 0, 1) := by decide +kernel
theorem dX7_layEnding_1 : decode cX7_layEnding 1 = .ok (.iconst 2, 1) := by decide +kernel
theorem dX7_layEnding_2 : decode cX7_layEnding 2 = .ok (.iload_n 1, 1) := by decide +kernel
theorem dX7_layEnding_3 : decode cX7_layEnding 3 = .ok (.invokevirtual 266, 3) := by decide +kernel
theorem dX7_layEnding_6 : decode cX7_layEnding 6 = .ok (.aload_n 0, 1) := by decide +kernel
theorem dX7_layEnding_7 : decode cX7_layEnding 7 = .ok (.iconst 2, 1) := by decide +kernel
theorem dX7_layEnding_8 : decode cX7_layEnding 8 = .ok (.putfield 105, 3) := by decide +kernel
theorem dX7_layEnding_11 : decode cX7_layEnding 11 = .ok (.iconst 0, 1) := by decide +kernel
theorem dX7_layEnding_12 : decode cX7_layEnding 12 = .ok (.istore_n 2, 1) := by decide +kernel
theorem dX7_layEnding_13 : decode cX7_layEnding 13 = .ok (.iload_n 2, 1) := by decide +kernel
theorem dX7_layEnding_14 : decode cX7_layEnding 14 = .ok (.iconst 4, 1) := by decide +kernel
theorem dX7_layEnding_15 : decode cX7_layEnding 15 = .ok (.if_icmp .ge 16, 3) := by decide +kernel
theorem dX7_layEnding_18 : decode cX7_layEnding 18 = .ok (.aload_n 0, 1) := by decide +kernel
theorem dX7_layEnding_19 : decode cX7_layEnding 19 = .ok (.getfield 72, 3) := by decide +kernel
theorem dX7_layEnding_22 : decode cX7_layEnding 22 = .ok (.iload_n 2, 1) := by decide +kernel
theorem dX7_layEnding_23 : decode cX7_layEnding 23 = .ok (.iconst 0, 1) := by decide +kernel
theorem dX7_layEnding_24 : decode cX7_layEnding 24 = .ok (.iastore, 1) := by decide +kernel
theorem dX7_layEnding_25 : decode cX7_layEnding 25 = .ok (.iinc 2 1, 3) := by decide +kernel
theorem dX7_layEnding_28 : decode cX7_layEnding 28 = .ok (.goto (-15), 3) := by decide +kernel
theorem dX7_layEnding_31 : decode cX7_layEnding 31 = .ok (.aload_n 0, 1) := by decide +kernel
theorem dX7_layEnding_32 : decode cX7_layEnding 32 = .ok (.getfield 72, 3) := by decide +kernel
theorem dX7_layEnding_35 : decode cX7_layEnding 35 = .ok (.iconst 0, 1) := by decide +kernel
theorem dX7_layEnding_36 : decode cX7_layEnding 36 = .ok (.iaload, 1) := by decide +kernel
theorem dX7_layEnding_37 : decode cX7_layEnding 37 = .ok (.bipush 60, 2) := by decide +kernel
theorem dX7_layEnding_39 : decode cX7_layEnding 39 = .ok (.if_icmp .ge 41, 3) := by decide +kernel
theorem dX7_layEnding_42 : decode cX7_layEnding 42 = .ok (.aload_n 0, 1) := by decide +kernel
theorem dX7_layEnding_43 : decode cX7_layEnding 43 = .ok (.invokevirtual 248, 3) := by decide +kernel
theorem dX7_layEnding_46 : decode cX7_layEnding 46 = .ok (.ifCond .le 34, 3) := by decide +kernel
theorem dX7_layEnding_49 : decode cX7_layEnding 49 = .ok (.aload_n 0, 1) := by decide +kernel
theorem dX7_layEnding_50 : decode cX7_layEnding 50 = .ok (.getfield 72, 3) := by decide +kernel
theorem dX7_layEnding_53 : decode cX7_layEnding 53 = .ok (.aload_n 0, 1) := by decide +kernel
theorem dX7_layEnding_54 : decode cX7_layEnding 54 = .ok (.aload_n 0, 1) := by decide +kernel
theorem dX7_layEnding_55 : decode cX7_layEnding 55 = .ok (.iconst 0, 1) := by decide +kernel
theorem dX7_layEnding_56 : decode cX7_layEnding 56 = .ok (.invokevirtual 251, 3) := by decide +kernel
theorem dX7_layEnding_59 : decode cX7_layEnding 59 = .ok (.invokevirtual 260, 3) := by decide +kernel
theorem dX7_layEnding_62 : decode cX7_layEnding 62 = .ok (.dup2, 1) := by decide +kernel
theorem dX7_layEnding_63 : decode cX7_layEnding 63 = .ok (.iaload, 1) := by decide +kernel
theorem dX7_layEnding_64 : decode cX7_layEnding 64 = .ok (.iconst 1, 1) := by decide +kernel
theorem dX7_layEnding_65 : decode cX7_layEnding 65 = .ok (.iadd, 1) := by decide +kernel
theorem dX7_layEnding_66 : decode cX7_layEnding 66 = .ok (.iastore, 1) := by decide +kernel
theorem dX7_layEnding_67 : decode cX7_layEnding 67 = .ok (.aload_n 0, 1) := by decide +kernel
theorem dX7_layEnding_68 : decode cX7_layEnding 68 = .ok (.getfield 72, 3) := by decide +kernel
theorem dX7_layEnding_71 : decode cX7_layEnding 71 = .ok (.iconst 0, 1) := by decide +kernel
theorem dX7_layEnding_72 : decode cX7_layEnding 72 = .ok (.dup2, 1) := by decide +kernel
theorem dX7_layEnding_73 : decode cX7_layEnding 73 = .ok (.iaload, 1) := by decide +kernel
theorem dX7_layEnding_74 : decode cX7_layEnding 74 = .ok (.iconst 1, 1) := by decide +kernel
theorem dX7_layEnding_75 : decode cX7_layEnding 75 = .ok (.iadd, 1) := by decide +kernel
theorem dX7_layEnding_76 : decode cX7_layEnding 76 = .ok (.iastore, 1) := by decide +kernel
theorem dX7_layEnding_77 : decode cX7_layEnding 77 = .ok (.goto (-46), 3) := by decide +kernel
theorem dX7_layEnding_80 : decode cX7_layEnding 80 = .ok (.aload_n 0, 1) := by decide +kernel
theorem dX7_layEnding_81 : decode cX7_layEnding 81 = .ok (.invokevirtual 248, 3) := by decide +kernel
theorem dX7_layEnding_84 : decode cX7_layEnding 84 = .ok (.ifCond .ne 7, 3) := by decide +kernel
theorem dX7_layEnding_87 : decode cX7_layEnding 87 = .ok (.iconst 1, 1) := by decide +kernel
theorem dX7_layEnding_88 : decode cX7_layEnding 88 = .ok (.goto 4, 3) := by decide +kernel
theorem dX7_layEnding_91 : decode cX7_layEnding 91 = .ok (.iconst 0, 1) := by decide +kernel
theorem dX7_layEnding_92 : decode cX7_layEnding 92 = .ok (.istore_n 2, 1) := by decide +kernel
theorem dX7_layEnding_93 : decode cX7_layEnding 93 = .ok (.aload_n 0, 1) := by decide +kernel
theorem dX7_layEnding_94 : decode cX7_layEnding 94 = .ok (.iconst 0, 1) := by decide +kernel
theorem dX7_layEnding_95 : decode cX7_layEnding 95 = .ok (.putfield 105, 3) := by decide +kernel
theorem dX7_layEnding_98 : decode cX7_layEnding 98 = .ok (.iload_n 2, 1) := by decide +kernel
theorem dX7_layEnding_99 : decode cX7_layEnding 99 = .ok (.ireturn, 1) := by decide +kernel
theorem dX7_layRounds_0 : decode cX7_layRounds 0 = .ok (.aload_n 0, 1) := by decide +kernel
theorem dX7_layRounds_1 : decode cX7_layRounds 1 = .ok (.iconst 3, 1) := by decide +kernel
theorem dX7_layRounds_2 : decode cX7_layRounds 2 = .ok (.iconst 0, 1) := by decide +kernel
theorem dX7_layRounds_3 : decode cX7_layRounds 3 = .ok (.invokevirtual 266, 3) := by decide +kernel
theorem dX7_layRounds_6 : decode cX7_layRounds 6 = .ok (.aload_n 0, 1) := by decide +kernel
theorem dX7_layRounds_7 : decode cX7_layRounds 7 = .ok (.iconst 3, 1) := by decide +kernel
theorem dX7_layRounds_8 : decode cX7_layRounds 8 = .ok (.putfield 105, 3) := by decide +kernel
theorem dX7_layRounds_11 : decode cX7_layRounds 11 = .ok (.aload_n 0, 1) := by decide +kernel
theorem dX7_layRounds_12 : decode cX7_layRounds 12 = .ok (.iconst 0, 1) := by decide +kernel
theorem dX7_layRounds_13 : decode cX7_layRounds 13 = .ok (.putfield 269, 3) := by decide +kernel
theorem dX7_layRounds_16 : decode cX7_layRounds 16 = .ok (.aload_n 0, 1) := by decide +kernel
theorem dX7_layRounds_17 : decode cX7_layRounds 17 = .ok (.invokevirtual 248, 3) := by decide +kernel
theorem dX7_layRounds_20 : decode cX7_layRounds 20 = .ok (.istore_n 1, 1) := by decide +kernel
theorem dX7_layRounds_21 : decode cX7_layRounds 21 = .ok (.iload_n 1, 1) := by decide +kernel
theorem dX7_layRounds_22 : decode cX7_layRounds 22 = .ok (.ifCond .le 69, 3) := by decide +kernel
theorem dX7_layRounds_25 : decode cX7_layRounds 25 = .ok (.iconst 0, 1) := by decide +kernel
theorem dX7_layRounds_26 : decode cX7_layRounds 26 = .ok (.istore_n 2, 1) := by decide +kernel
theorem dX7_layRounds_27 : decode cX7_layRounds 27 = .ok (.iload_n 2, 1) := by decide +kernel
theorem dX7_layRounds_28 : decode cX7_layRounds 28 = .ok (.iload_n 1, 1) := by decide +kernel
theorem dX7_layRounds_29 : decode cX7_layRounds 29 = .ok (.if_icmp .ge 20, 3) := by decide +kernel
theorem dX7_layRounds_32 : decode cX7_layRounds 32 = .ok (.aload_n 0, 1) := by decide +kernel
theorem dX7_layRounds_33 : decode cX7_layRounds 33 = .ok (.getfield 75, 3) := by decide +kernel
theorem dX7_layRounds_36 : decode cX7_layRounds 36 = .ok (.iload_n 2, 1) := by decide +kernel
theorem dX7_layRounds_37 : decode cX7_layRounds 37 = .ok (.aload_n 0, 1) := by decide +kernel
theorem dX7_layRounds_38 : decode cX7_layRounds 38 = .ok (.iload_n 2, 1) := by decide +kernel
theorem dX7_layRounds_39 : decode cX7_layRounds 39 = .ok (.invokevirtual 251, 3) := by decide +kernel
theorem dX7_layRounds_42 : decode cX7_layRounds 42 = .ok (.iastore, 1) := by decide +kernel
theorem dX7_layRounds_43 : decode cX7_layRounds 43 = .ok (.iinc 2 1, 3) := by decide +kernel
theorem dX7_layRounds_46 : decode cX7_layRounds 46 = .ok (.goto (-19), 3) := by decide +kernel
theorem dX7_layRounds_49 : decode cX7_layRounds 49 = .ok (.iconst 0, 1) := by decide +kernel
theorem dX7_layRounds_50 : decode cX7_layRounds 50 = .ok (.istore_n 2, 1) := by decide +kernel
theorem dX7_layRounds_51 : decode cX7_layRounds 51 = .ok (.iload_n 2, 1) := by decide +kernel
theorem dX7_layRounds_52 : decode cX7_layRounds 52 = .ok (.iload_n 1, 1) := by decide +kernel
theorem dX7_layRounds_53 : decode cX7_layRounds 53 = .ok (.if_icmp .ge 20, 3) := by decide +kernel
theorem dX7_layRounds_56 : decode cX7_layRounds 56 = .ok (.aload_n 0, 1) := by decide +kernel
theorem dX7_layRounds_57 : decode cX7_layRounds 57 = .ok (.aload_n 0, 1) := by decide +kernel
theorem dX7_layRounds_58 : decode cX7_layRounds 58 = .ok (.getfield 75, 3) := by decide +kernel
theorem dX7_layRounds_61 : decode cX7_layRounds 61 = .ok (.iload_n 2, 1) := by decide +kernel
theorem dX7_layRounds_62 : decode cX7_layRounds 62 = .ok (.iaload, 1) := by decide +kernel
theorem dX7_layRounds_63 : decode cX7_layRounds 63 = .ok (.invokevirtual 260, 3) := by decide +kernel
theorem dX7_layRounds_66 : decode cX7_layRounds 66 = .ok (.pop, 1) := by decide +kernel
theorem dX7_layRounds_67 : decode cX7_layRounds 67 = .ok (.iinc 2 1, 3) := by decide +kernel
theorem dX7_layRounds_70 : decode cX7_layRounds 70 = .ok (.goto (-19), 3) := by decide +kernel
theorem dX7_layRounds_73 : decode cX7_layRounds 73 = .ok (.aload_n 0, 1) := by decide +kernel
theorem dX7_layRounds_74 : decode cX7_layRounds 74 = .ok (.dup, 1) := by decide +kernel
theorem dX7_layRounds_75 : decode cX7_layRounds 75 = .ok (.getfield 269, 3) := by decide +kernel
theorem dX7_layRounds_78 : decode cX7_layRounds 78 = .ok (.iconst 1, 1) := by decide +kernel
theorem dX7_layRounds_79 : decode cX7_layRounds 79 = .ok (.iadd, 1) := by decide +kernel
theorem dX7_layRounds_80 : decode cX7_layRounds 80 = .ok (.putfield 269, 3) := by decide +kernel
theorem dX7_layRounds_83 : decode cX7_layRounds 83 = .ok (.aload_n 0, 1) := by decide +kernel
theorem dX7_layRounds_84 : decode cX7_layRounds 84 = .ok (.invokevirtual 248, 3) := by decide +kernel
theorem dX7_layRounds_87 : decode cX7_layRounds 87 = .ok (.istore_n 1, 1) := by decide +kernel
theorem dX7_layRounds_88 : decode cX7_layRounds 88 = .ok (.goto (-67), 3) := by decide +kernel
theorem dX7_layRounds_91 : decode cX7_layRounds 91 = .ok (.aload_n 0, 1) := by decide +kernel
theorem dX7_layRounds_92 : decode cX7_layRounds 92 = .ok (.iconst 0, 1) := by decide +kernel
theorem dX7_layRounds_93 : decode cX7_layRounds 93 = .ok (.putfield 105, 3) := by decide +kernel
theorem dX7_layRounds_96 : decode cX7_layRounds 96 = .ok (.return_, 1) := by decide +kernel
theorem dX7_endingNow_0 : decode cX7_endingNow 0 = .ok (.aload_n 0, 1) := by decide +kernel
theorem dX7_endingNow_1 : decode cX7_endingNow 1 = .ok (.iconst 0, 1) := by decide +kernel
theorem dX7_endingNow_2 : decode cX7_endingNow 2 = .ok (.invokevirtual 272, 3) := by decide +kernel
theorem dX7_endingNow_5 : decode cX7_endingNow 5 = .ok (.ifCond .ne 5, 3) := by decide +kernel
theorem dX7_endingNow_8 : decode cX7_endingNow 8 = .ok (.iconst (-1), 1) := by decide +kernel
theorem dX7_endingNow_9 : decode cX7_endingNow 9 = .ok (.ireturn, 1) := by decide +kernel
theorem dX7_endingNow_10 : decode cX7_endingNow 10 = .ok (.iload_n 1, 1) := by decide +kernel
theorem dX7_endingNow_11 : decode cX7_endingNow 11 = .ok (.iconst 4, 1) := by decide +kernel
theorem dX7_endingNow_12 : decode cX7_endingNow 12 = .ok (.if_icmp .ge 10, 3) := by decide +kernel
theorem dX7_endingNow_15 : decode cX7_endingNow 15 = .ok (.aload_n 0, 1) := by decide +kernel
theorem dX7_endingNow_16 : decode cX7_endingNow 16 = .ok (.getfield 72, 3) := by decide +kernel
theorem dX7_endingNow_19 : decode cX7_endingNow 19 = .ok (.iload_n 1, 1) := by decide +kernel
theorem dX7_endingNow_20 : decode cX7_endingNow 20 = .ok (.iaload, 1) := by decide +kernel
theorem dX7_endingNow_21 : decode cX7_endingNow 21 = .ok (.ireturn, 1) := by decide +kernel
theorem dX7_endingNow_22 : decode cX7_endingNow 22 = .ok (.iload_n 1, 1) := by decide +kernel
theorem dX7_endingNow_23 : decode cX7_endingNow 23 = .ok (.iconst 4, 1) := by decide +kernel
theorem dX7_endingNow_24 : decode cX7_endingNow 24 = .ok (.if_icmp .ne 12, 3) := by decide +kernel
theorem dX7_endingNow_27 : decode cX7_endingNow 27 = .ok (.aload_n 0, 1) := by decide +kernel
theorem dX7_endingNow_28 : decode cX7_endingNow 28 = .ok (.invokevirtual 275, 3) := by decide +kernel
theorem dX7_endingNow_31 : decode cX7_endingNow 31 = .ok (.aload_n 0, 1) := by decide +kernel
theorem dX7_endingNow_32 : decode cX7_endingNow 32 = .ok (.getfield 269, 3) := by decide +kernel
theorem dX7_endingNow_35 : decode cX7_endingNow 35 = .ok (.ireturn, 1) := by decide +kernel
theorem dX7_endingNow_36 : decode cX7_endingNow 36 = .ok (.aload_n 0, 1) := by decide +kernel
theorem dX7_endingNow_37 : decode cX7_endingNow 37 = .ok (.iconst 2, 1) := by decide +kernel
theorem dX7_endingNow_38 : decode cX7_endingNow 38 = .ok (.putfield 105, 3) := by decide +kernel
theorem dX7_endingNow_41 : decode cX7_endingNow 41 = .ok (.aload_n 0, 1) := by decide +kernel
theorem dX7_endingNow_42 : decode cX7_endingNow 42 = .ok (.invokevirtual 254, 3) := by decide +kernel
theorem dX7_endingNow_45 : decode cX7_endingNow 45 = .ok (.istore_n 2, 1) := by decide +kernel
theorem dX7_endingNow_46 : decode cX7_endingNow 46 = .ok (.aload_n 0, 1) := by decide +kernel
theorem dX7_endingNow_47 : decode cX7_endingNow 47 = .ok (.iconst 0, 1) := by decide +kernel
theorem dX7_endingNow_48 : decode cX7_endingNow 48 = .ok (.putfield 105, 3) := by decide +kernel
theorem dX7_endingNow_51 : decode cX7_endingNow 51 = .ok (.iload_n 1, 1) := by decide +kernel
theorem dX7_endingNow_52 : decode cX7_endingNow 52 = .ok (.iconst 5, 1) := by decide +kernel
theorem dX7_endingNow_53 : decode cX7_endingNow 53 = .ok (.if_icmp .ne 7, 3) := by decide +kernel
theorem dX7_endingNow_56 : decode cX7_endingNow 56 = .ok (.iload_n 2, 1) := by decide +kernel
theorem dX7_endingNow_57 : decode cX7_endingNow 57 = .ok (.goto 9, 3) := by decide +kernel
theorem dX7_endingNow_60 : decode cX7_endingNow 60 = .ok (.aload_n 0, 1) := by decide +kernel
theorem dX7_endingNow_61 : decode cX7_endingNow 61 = .ok (.getfield 19, 3) := by decide +kernel
theorem dX7_endingNow_64 : decode cX7_endingNow 64 = .ok (.iconst 2, 1) := by decide +kernel
theorem dX7_endingNow_65 : decode cX7_endingNow 65 = .ok (.iaload, 1) := by decide +kernel
theorem dX7_endingNow_66 : decode cX7_endingNow 66 = .ok (.ireturn, 1) := by decide +kernel
theorem dX7_ending_0 : decode cX7_ending 0 = .ok (.iload_n 1, 1) := by decide +kernel
theorem dX7_ending_1 : decode cX7_ending 1 = .ok (.iconst 0, 1) := by decide +kernel
theorem dX7_ending_2 : decode cX7_ending 2 = .ok (.bipush 6, 2) := by decide +kernel
theorem dX7_ending_4 : decode cX7_ending 4 = .ok (.invokestatic 112, 3) := by decide +kernel
theorem dX7_ending_7 : decode cX7_ending 7 = .ok (.ifCond .ne 6, 3) := by decide +kernel
theorem dX7_ending_10 : decode cX7_ending 10 = .ok (.bipush (-102), 2) := by decide +kernel
theorem dX7_ending_12 : decode cX7_ending 12 = .ok (.ireturn, 1) := by decide +kernel
theorem dX7_ending_13 : decode cX7_ending 13 = .ok (.aload_n 0, 1) := by decide +kernel
theorem dX7_ending_14 : decode cX7_ending 14 = .ok (.invokevirtual 244, 3) := by decide +kernel
theorem dX7_ending_17 : decode cX7_ending 17 = .ok (.ifCond .eq 11, 3) := by decide +kernel
theorem dX7_ending_20 : decode cX7_ending 20 = .ok (.aload_n 0, 1) := by decide +kernel
theorem dX7_ending_21 : decode cX7_ending 21 = .ok (.iload_n 1, 1) := by decide +kernel
theorem dX7_ending_22 : decode cX7_ending 22 = .ok (.invokevirtual 278, 3) := by decide +kernel
theorem dX7_ending_25 : decode cX7_ending 25 = .ok (.goto 5, 3) := by decide +kernel
theorem dX7_ending_28 : decode cX7_ending 28 = .ok (.bipush (-103), 2) := by decide +kernel
theorem dX7_ending_30 : decode cX7_ending 30 = .ok (.ireturn, 1) := by decide +kernel
theorem dX7_put_0 : decode cX7_put 0 = .ok (.aload_n 0, 1) := by decide +kernel
theorem dX7_put_1 : decode cX7_put 1 = .ok (.getfield 281, 3) := by decide +kernel
theorem dX7_put_4 : decode cX7_put 4 = .ok (.sipush 1000, 3) := by decide +kernel
theorem dX7_put_7 : decode cX7_put 7 = .ok (.if_icmp .ge 13, 3) := by decide +kernel
theorem dX7_put_10 : decode cX7_put 10 = .ok (.aload_n 0, 1) := by decide +kernel
theorem dX7_put_11 : decode cX7_put 11 = .ok (.getfield 78, 3) := by decide +kernel
theorem dX7_put_14 : decode cX7_put 14 = .ok (.aload_n 0, 1) := by decide +kernel
theorem dX7_put_15 : decode cX7_put 15 = .ok (.getfield 281, 3) := by decide +kernel
theorem dX7_put_18 : decode cX7_put 18 = .ok (.iload_n 1, 1) := by decide +kernel
theorem dX7_put_19 : decode cX7_put 19 = .ok (.iastore, 1) := by decide +kernel
theorem dX7_put_20 : decode cX7_put 20 = .ok (.aload_n 0, 1) := by decide +kernel
theorem dX7_put_21 : decode cX7_put 21 = .ok (.dup, 1) := by decide +kernel
theorem dX7_put_22 : decode cX7_put 22 = .ok (.getfield 281, 3) := by decide +kernel
theorem dX7_put_25 : decode cX7_put 25 = .ok (.iconst 1, 1) := by decide +kernel
theorem dX7_put_26 : decode cX7_put 26 = .ok (.iadd, 1) := by decide +kernel
theorem dX7_put_27 : decode cX7_put 27 = .ok (.putfield 281, 3) := by decide +kernel
theorem dX7_put_30 : decode cX7_put 30 = .ok (.return_, 1) := by decide +kernel
theorem dX7_tellFrom_0 : decode cX7_tellFrom 0 = .ok (.aload_n 0, 1) := by decide +kernel
theorem dX7_tellFrom_1 : decode cX7_tellFrom 1 = .ok (.iload_n 1, 1) := by decide +kernel
theorem dX7_tellFrom_2 : decode cX7_tellFrom 2 = .ok (.invokevirtual 128, 3) := by decide +kernel
theorem dX7_tellFrom_5 : decode cX7_tellFrom 5 = .ok (.istore_n 2, 1) := by decide +kernel
theorem dX7_tellFrom_6 : decode cX7_tellFrom 6 = .ok (.iload_n 2, 1) := by decide +kernel
theorem dX7_tellFrom_7 : decode cX7_tellFrom 7 = .ok (.sipush 900, 3) := by decide +kernel
theorem dX7_tellFrom_10 : decode cX7_tellFrom 10 = .ok (.if_icmp .ge 130, 3) := by decide +kernel
theorem dX7_tellFrom_13 : decode cX7_tellFrom 13 = .ok (.iload_n 2, 1) := by decide +kernel
theorem dX7_tellFrom_14 : decode cX7_tellFrom 14 = .ok (.iconst 3, 1) := by decide +kernel
theorem dX7_tellFrom_15 : decode cX7_tellFrom 15 = .ok (.irem, 1) := by decide +kernel
theorem dX7_tellFrom_16 : decode cX7_tellFrom 16 = .ok (.ifCond .ne 124, 3) := by decide +kernel
theorem dX7_tellFrom_19 : decode cX7_tellFrom 19 = .ok (.iload_n 2, 1) := by decide +kernel
theorem dX7_tellFrom_20 : decode cX7_tellFrom 20 = .ok (.iconst 3, 1) := by decide +kernel
theorem dX7_tellFrom_21 : decode cX7_tellFrom 21 = .ok (.idiv, 1) := by decide +kernel
theorem dX7_tellFrom_22 : decode cX7_tellFrom 22 = .ok (.istore_n 3, 1) := by decide +kernel
theorem dX7_tellFrom_23 : decode cX7_tellFrom 23 = .ok (.aload_n 0, 1) := by decide +kernel
theorem dX7_tellFrom_24 : decode cX7_tellFrom 24 = .ok (.iload_n 3, 1) := by decide +kernel
theorem dX7_tellFrom_25 : decode cX7_tellFrom 25 = .ok (.invokevirtual 116, 3) := by decide +kernel
theorem dX7_tellFrom_28 : decode cX7_tellFrom 28 = .ok (.ifCond .ne 12, 3) := by decide +kernel
theorem dX7_tellFrom_31 : decode cX7_tellFrom 31 = .ok (.aload_n 0, 1) := by decide +kernel
theorem dX7_tellFrom_32 : decode cX7_tellFrom 32 = .ok (.bipush 42, 2) := by decide +kernel
theorem dX7_tellFrom_34 : decode cX7_tellFrom 34 = .ok (.invokevirtual 284, 3) := by decide +kernel
theorem dX7_tellFrom_37 : decode cX7_tellFrom 37 = .ok (.goto 100, 3) := by decide +kernel
theorem dX7_tellFrom_40 : decode cX7_tellFrom 40 = .ok (.aload_n 0, 1) := by decide +kernel
theorem dX7_tellFrom_41 : decode cX7_tellFrom 41 = .ok (.aload_n 0, 1) := by decide +kernel
theorem dX7_tellFrom_42 : decode cX7_tellFrom 42 = .ok (.iload_n 3, 1) := by decide +kernel
theorem dX7_tellFrom_43 : decode cX7_tellFrom 43 = .ok (.invokevirtual 116, 3) := by decide +kernel
theorem dX7_tellFrom_46 : decode cX7_tellFrom 46 = .ok (.iconst 1, 1) := by decide +kernel
theorem dX7_tellFrom_47 : decode cX7_tellFrom 47 = .ok (.if_icmp .ne 8, 3) := by decide +kernel
theorem dX7_tellFrom_50 : decode cX7_tellFrom 50 = .ok (.bipush 40, 2) := by decide +kernel
theorem dX7_tellFrom_52 : decode cX7_tellFrom 52 = .ok (.goto 19, 3) := by decide +kernel
theorem dX7_tellFrom_55 : decode cX7_tellFrom 55 = .ok (.aload_n 0, 1) := by decide +kernel
theorem dX7_tellFrom_56 : decode cX7_tellFrom 56 = .ok (.iload_n 3, 1) := by decide +kernel
theorem dX7_tellFrom_57 : decode cX7_tellFrom 57 = .ok (.invokevirtual 116, 3) := by decide +kernel
theorem dX7_tellFrom_60 : decode cX7_tellFrom 60 = .ok (.iconst 2, 1) := by decide +kernel
theorem dX7_tellFrom_61 : decode cX7_tellFrom 61 = .ok (.if_icmp .ne 8, 3) := by decide +kernel
theorem dX7_tellFrom_64 : decode cX7_tellFrom 64 = .ok (.bipush 91, 2) := by decide +kernel
theorem dX7_tellFrom_66 : decode cX7_tellFrom 66 = .ok (.goto 5, 3) := by decide +kernel
theorem dX7_tellFrom_69 : decode cX7_tellFrom 69 = .ok (.bipush 123, 2) := by decide +kernel
theorem dX7_tellFrom_71 : decode cX7_tellFrom 71 = .ok (.invokevirtual 284, 3) := by decide +kernel
theorem dX7_tellFrom_74 : decode cX7_tellFrom 74 = .ok (.aload_n 0, 1) := by decide +kernel
theorem dX7_tellFrom_75 : decode cX7_tellFrom 75 = .ok (.getfield 81, 3) := by decide +kernel
theorem dX7_tellFrom_78 : decode cX7_tellFrom 78 = .ok (.aload_n 0, 1) := by decide +kernel
theorem dX7_tellFrom_79 : decode cX7_tellFrom 79 = .ok (.getfield 287, 3) := by decide +kernel
theorem dX7_tellFrom_82 : decode cX7_tellFrom 82 = .ok (.sipush 2000, 3) := by decide +kernel
theorem dX7_tellFrom_85 : decode cX7_tellFrom 85 = .ok (.aload_n 0, 1) := by decide +kernel
theorem dX7_tellFrom_86 : decode cX7_tellFrom 86 = .ok (.iload_n 3, 1) := by decide +kernel
theorem dX7_tellFrom_87 : decode cX7_tellFrom 87 = .ok (.invokevirtual 116, 3) := by decide +kernel
theorem dX7_tellFrom_90 : decode cX7_tellFrom 90 = .ok (.invokestatic 199, 3) := by decide +kernel
theorem dX7_tellFrom_93 : decode cX7_tellFrom 93 = .ok (.iadd, 1) := by decide +kernel
theorem dX7_tellFrom_94 : decode cX7_tellFrom 94 = .ok (.iastore, 1) := by decide +kernel
theorem dX7_tellFrom_95 : decode cX7_tellFrom 95 = .ok (.aload_n 0, 1) := by decide +kernel
theorem dX7_tellFrom_96 : decode cX7_tellFrom 96 = .ok (.getfield 81, 3) := by decide +kernel
theorem dX7_tellFrom_99 : decode cX7_tellFrom 99 = .ok (.aload_n 0, 1) := by decide +kernel
theorem dX7_tellFrom_100 : decode cX7_tellFrom 100 = .ok (.getfield 287, 3) := by decide +kernel
theorem dX7_tellFrom_103 : decode cX7_tellFrom 103 = .ok (.iconst 1, 1) := by decide +kernel
theorem dX7_tellFrom_104 : decode cX7_tellFrom 104 = .ok (.iadd, 1) := by decide +kernel
theorem dX7_tellFrom_105 : decode cX7_tellFrom 105 = .ok (.iconst 3, 1) := by decide +kernel
theorem dX7_tellFrom_106 : decode cX7_tellFrom 106 = .ok (.iload_n 3, 1) := by decide +kernel
theorem dX7_tellFrom_107 : decode cX7_tellFrom 107 = .ok (.imul, 1) := by decide +kernel
theorem dX7_tellFrom_108 : decode cX7_tellFrom 108 = .ok (.iconst 2, 1) := by decide +kernel
theorem dX7_tellFrom_109 : decode cX7_tellFrom 109 = .ok (.iadd, 1) := by decide +kernel
theorem dX7_tellFrom_110 : decode cX7_tellFrom 110 = .ok (.iastore, 1) := by decide +kernel
theorem dX7_tellFrom_111 : decode cX7_tellFrom 111 = .ok (.aload_n 0, 1) := by decide +kernel
theorem dX7_tellFrom_112 : decode cX7_tellFrom 112 = .ok (.getfield 81, 3) := by decide +kernel
theorem dX7_tellFrom_115 : decode cX7_tellFrom 115 = .ok (.aload_n 0, 1) := by decide +kernel
theorem dX7_tellFrom_116 : decode cX7_tellFrom 116 = .ok (.getfield 287, 3) := by decide +kernel
theorem dX7_tellFrom_119 : decode cX7_tellFrom 119 = .ok (.iconst 2, 1) := by decide +kernel
theorem dX7_tellFrom_120 : decode cX7_tellFrom 120 = .ok (.iadd, 1) := by decide +kernel
theorem dX7_tellFrom_121 : decode cX7_tellFrom 121 = .ok (.iconst 3, 1) := by decide +kernel
theorem dX7_tellFrom_122 : decode cX7_tellFrom 122 = .ok (.iload_n 3, 1) := by decide +kernel
theorem dX7_tellFrom_123 : decode cX7_tellFrom 123 = .ok (.imul, 1) := by decide +kernel
theorem dX7_tellFrom_124 : decode cX7_tellFrom 124 = .ok (.iconst 1, 1) := by decide +kernel
theorem dX7_tellFrom_125 : decode cX7_tellFrom 125 = .ok (.iadd, 1) := by decide +kernel
theorem dX7_tellFrom_126 : decode cX7_tellFrom 126 = .ok (.iastore, 1) := by decide +kernel
theorem dX7_tellFrom_127 : decode cX7_tellFrom 127 = .ok (.aload_n 0, 1) := by decide +kernel
theorem dX7_tellFrom_128 : decode cX7_tellFrom 128 = .ok (.dup, 1) := by decide +kernel
theorem dX7_tellFrom_129 : decode cX7_tellFrom 129 = .ok (.getfield 287, 3) := by decide +kernel
theorem dX7_tellFrom_132 : decode cX7_tellFrom 132 = .ok (.iconst 3, 1) := by decide +kernel
theorem dX7_tellFrom_133 : decode cX7_tellFrom 133 = .ok (.iadd, 1) := by decide +kernel
theorem dX7_tellFrom_134 : decode cX7_tellFrom 134 = .ok (.putfield 287, 3) := by decide +kernel
theorem dX7_tellFrom_137 : decode cX7_tellFrom 137 = .ok (.goto 56, 3) := by decide +kernel
theorem dX7_tellFrom_140 : decode cX7_tellFrom 140 = .ok (.aload_n 0, 1) := by decide +kernel
theorem dX7_tellFrom_141 : decode cX7_tellFrom 141 = .ok (.getfield 84, 3) := by decide +kernel
theorem dX7_tellFrom_144 : decode cX7_tellFrom 144 = .ok (.iload_n 1, 1) := by decide +kernel
theorem dX7_tellFrom_145 : decode cX7_tellFrom 145 = .ok (.iaload, 1) := by decide +kernel
theorem dX7_tellFrom_146 : decode cX7_tellFrom 146 = .ok (.iconst (-1), 1) := by decide +kernel
theorem dX7_tellFrom_147 : decode cX7_tellFrom 147 = .ok (.if_icmp .ne 33, 3) := by decide +kernel
theorem dX7_tellFrom_150 : decode cX7_tellFrom 150 = .ok (.aload_n 0, 1) := by decide +kernel
theorem dX7_tellFrom_151 : decode cX7_tellFrom 151 = .ok (.getfield 84, 3) := by decide +kernel
theorem dX7_tellFrom_154 : decode cX7_tellFrom 154 = .ok (.iload_n 1, 1) := by decide +kernel
theorem dX7_tellFrom_155 : decode cX7_tellFrom 155 = .ok (.aload_n 0, 1) := by decide +kernel
theorem dX7_tellFrom_156 : decode cX7_tellFrom 156 = .ok (.getfield 290, 3) := by decide +kernel
theorem dX7_tellFrom_159 : decode cX7_tellFrom 159 = .ok (.iastore, 1) := by decide +kernel
theorem dX7_tellFrom_160 : decode cX7_tellFrom 160 = .ok (.aload_n 0, 1) := by decide +kernel
theorem dX7_tellFrom_161 : decode cX7_tellFrom 161 = .ok (.getfield 84, 3) := by decide +kernel
theorem dX7_tellFrom_164 : decode cX7_tellFrom 164 = .ok (.iload_n 2, 1) := by decide +kernel
theorem dX7_tellFrom_165 : decode cX7_tellFrom 165 = .ok (.aload_n 0, 1) := by decide +kernel
theorem dX7_tellFrom_166 : decode cX7_tellFrom 166 = .ok (.getfield 290, 3) := by decide +kernel
theorem dX7_tellFrom_169 : decode cX7_tellFrom 169 = .ok (.iastore, 1) := by decide +kernel
theorem dX7_tellFrom_170 : decode cX7_tellFrom 170 = .ok (.aload_n 0, 1) := by decide +kernel
theorem dX7_tellFrom_171 : decode cX7_tellFrom 171 = .ok (.dup, 1) := by decide +kernel
theorem dX7_tellFrom_172 : decode cX7_tellFrom 172 = .ok (.getfield 290, 3) := by decide +kernel
theorem dX7_tellFrom_175 : decode cX7_tellFrom 175 = .ok (.iconst 1, 1) := by decide +kernel
theorem dX7_tellFrom_176 : decode cX7_tellFrom 176 = .ok (.iadd, 1) := by decide +kernel
theorem dX7_tellFrom_177 : decode cX7_tellFrom 177 = .ok (.putfield 290, 3) := by decide +kernel
theorem dX7_tellFrom_180 : decode cX7_tellFrom 180 = .ok (.aload_n 0, 1) := by decide +kernel
theorem dX7_tellFrom_181 : decode cX7_tellFrom 181 = .ok (.bipush 97, 2) := by decide +kernel
theorem dX7_tellFrom_183 : decode cX7_tellFrom 183 = .ok (.aload_n 0, 1) := by decide +kernel
theorem dX7_tellFrom_184 : decode cX7_tellFrom 184 = .ok (.getfield 84, 3) := by decide +kernel
theorem dX7_tellFrom_187 : decode cX7_tellFrom 187 = .ok (.iload_n 1, 1) := by decide +kernel
theorem dX7_tellFrom_188 : decode cX7_tellFrom 188 = .ok (.iaload, 1) := by decide +kernel
theorem dX7_tellFrom_189 : decode cX7_tellFrom 189 = .ok (.iadd, 1) := by decide +kernel
theorem dX7_tellFrom_190 : decode cX7_tellFrom 190 = .ok (.invokevirtual 284, 3) := by decide +kernel
theorem dX7_tellFrom_193 : decode cX7_tellFrom 193 = .ok (.return_, 1) := by decide +kernel
theorem dX7_layReading_0 : decode cX7_layReading 0 = .ok (.aload_n 0, 1) := by decide +kernel
theorem dX7_layReading_1 : decode cX7_layReading 1 = .ok (.iload_n 1, 1) := by decide +kernel
theorem dX7_layReading_2 : decode cX7_layReading 2 = .ok (.putfield 105, 3) := by decide +kernel
theorem dX7_layReading_5 : decode cX7_layReading 5 = .ok (.aload_n 0, 1) := by decide +kernel
theorem dX7_layReading_6 : decode cX7_layReading 6 = .ok (.iconst 0, 1) := by decide +kernel
theorem dX7_layReading_7 : decode cX7_layReading 7 = .ok (.putfield 281, 3) := by decide +kernel
theorem dX7_layReading_10 : decode cX7_layReading 10 = .ok (.aload_n 0, 1) := by decide +kernel
theorem dX7_layReading_11 : decode cX7_layReading 11 = .ok (.iconst 0, 1) := by decide +kernel
theorem dX7_layReading_12 : decode cX7_layReading 12 = .ok (.putfield 290, 3) := by decide +kernel
theorem dX7_layReading_15 : decode cX7_layReading 15 = .ok (.iconst 0, 1) := by decide +kernel
theorem dX7_layReading_16 : decode cX7_layReading 16 = .ok (.istore_n 2, 1) := by decide +kernel
theorem dX7_layReading_17 : decode cX7_layReading 17 = .ok (.iload_n 2, 1) := by decide +kernel
theorem dX7_layReading_18 : decode cX7_layReading 18 = .ok (.sipush 908, 3) := by decide +kernel
theorem dX7_layReading_21 : decode cX7_layReading 21 = .ok (.if_icmp .ge 16, 3) := by decide +kernel
theorem dX7_layReading_24 : decode cX7_layReading 24 = .ok (.aload_n 0, 1) := by decide +kernel
theorem dX7_layReading_25 : decode cX7_layReading 25 = .ok (.getfield 84, 3) := by decide +kernel
theorem dX7_layReading_28 : decode cX7_layReading 28 = .ok (.iload_n 2, 1) := by decide +kernel
theorem dX7_layReading_29 : decode cX7_layReading 29 = .ok (.iconst (-1), 1) := by decide +kernel
theorem dX7_layReading_30 : decode cX7_layReading 30 = .ok (.iastore, 1) := by decide +kernel
theorem dX7_layReading_31 : decode cX7_layReading 31 = .ok (.iinc 2 1, 3) := by decide +kernel
theorem dX7_layReading_34 : decode cX7_layReading 34 = .ok (.goto (-17), 3) := by decide +kernel
theorem dX7_layReading_37 : decode cX7_layReading 37 = .ok (.iconst 0, 1) := by decide +kernel
theorem dX7_layReading_38 : decode cX7_layReading 38 = .ok (.istore_n 2, 1) := by decide +kernel
theorem dX7_layReading_39 : decode cX7_layReading 39 = .ok (.iload_n 2, 1) := by decide +kernel
theorem dX7_layReading_40 : decode cX7_layReading 40 = .ok (.bipush 8, 2) := by decide +kernel
theorem dX7_layReading_42 : decode cX7_layReading 42 = .ok (.if_icmp .ge 110, 3) := by decide +kernel
theorem dX7_layReading_45 : decode cX7_layReading 45 = .ok (.aload_n 0, 1) := by decide +kernel
theorem dX7_layReading_46 : decode cX7_layReading 46 = .ok (.iload_n 2, 1) := by decide +kernel
theorem dX7_layReading_47 : decode cX7_layReading 47 = .ok (.invokevirtual 241, 3) := by decide +kernel
theorem dX7_layReading_50 : decode cX7_layReading 50 = .ok (.ifCond .eq 96, 3) := by decide +kernel
theorem dX7_layReading_53 : decode cX7_layReading 53 = .ok (.aload_n 0, 1) := by decide +kernel
theorem dX7_layReading_54 : decode cX7_layReading 54 = .ok (.getfield 81, 3) := by decide +kernel
theorem dX7_layReading_57 : decode cX7_layReading 57 = .ok (.iconst 0, 1) := by decide +kernel
theorem dX7_layReading_58 : decode cX7_layReading 58 = .ok (.sipush 2059, 3) := by decide +kernel
theorem dX7_layReading_61 : decode cX7_layReading 61 = .ok (.iastore, 1) := by decide +kernel
theorem dX7_layReading_62 : decode cX7_layReading 62 = .ok (.aload_n 0, 1) := by decide +kernel
theorem dX7_layReading_63 : decode cX7_layReading 63 = .ok (.getfield 81, 3) := by decide +kernel
theorem dX7_layReading_66 : decode cX7_layReading 66 = .ok (.iconst 1, 1) := by decide +kernel
theorem dX7_layReading_67 : decode cX7_layReading 67 = .ok (.sipush 900, 3) := by decide +kernel
theorem dX7_layReading_70 : decode cX7_layReading 70 = .ok (.iload_n 2, 1) := by decide +kernel
theorem dX7_layReading_71 : decode cX7_layReading 71 = .ok (.iadd, 1) := by decide +kernel
theorem dX7_layReading_72 : decode cX7_layReading 72 = .ok (.iastore, 1) := by decide +kernel
theorem dX7_layReading_73 : decode cX7_layReading 73 = .ok (.aload_n 0, 1) := by decide +kernel
theorem dX7_layReading_74 : decode cX7_layReading 74 = .ok (.iconst 2, 1) := by decide +kernel
theorem dX7_layReading_75 : decode cX7_layReading 75 = .ok (.putfield 287, 3) := by decide +kernel
theorem dX7_layReading_78 : decode cX7_layReading 78 = .ok (.aload_n 0, 1) := by decide +kernel
theorem dX7_layReading_79 : decode cX7_layReading 79 = .ok (.getfield 287, 3) := by decide +kernel
theorem dX7_layReading_82 : decode cX7_layReading 82 = .ok (.ifCond .le 64, 3) := by decide +kernel
theorem dX7_layReading_85 : decode cX7_layReading 85 = .ok (.aload_n 0, 1) := by decide +kernel
theorem dX7_layReading_86 : decode cX7_layReading 86 = .ok (.dup, 1) := by decide +kernel
theorem dX7_layReading_87 : decode cX7_layReading 87 = .ok (.getfield 287, 3) := by decide +kernel
theorem dX7_layReading_90 : decode cX7_layReading 90 = .ok (.iconst 1, 1) := by decide +kernel
theorem dX7_layReading_91 : decode cX7_layReading 91 = .ok (.isub, 1) := by decide +kernel
theorem dX7_layReading_92 : decode cX7_layReading 92 = .ok (.putfield 287, 3) := by decide +kernel
theorem dX7_layReading_95 : decode cX7_layReading 95 = .ok (.aload_n 0, 1) := by decide +kernel
theorem dX7_layReading_96 : decode cX7_layReading 96 = .ok (.getfield 81, 3) := by decide +kernel
theorem dX7_layReading_99 : decode cX7_layReading 99 = .ok (.aload_n 0, 1) := by decide +kernel
theorem dX7_layReading_100 : decode cX7_layReading 100 = .ok (.getfield 287, 3) := by decide +kernel
theorem dX7_layReading_103 : decode cX7_layReading 103 = .ok (.iaload, 1) := by decide +kernel
theorem dX7_layReading_104 : decode cX7_layReading 104 = .ok (.sipush 2000, 3) := by decide +kernel
theorem dX7_layReading_107 : decode cX7_layReading 107 = .ok (.if_icmp .lt 23, 3) := by decide +kernel
theorem dX7_layReading_110 : decode cX7_layReading 110 = .ok (.aload_n 0, 1) := by decide +kernel
theorem dX7_layReading_111 : decode cX7_layReading 111 = .ok (.aload_n 0, 1) := by decide +kernel
theorem dX7_layReading_112 : decode cX7_layReading 112 = .ok (.getfield 81, 3) := by decide +kernel
theorem dX7_layReading_115 : decode cX7_layReading 115 = .ok (.aload_n 0, 1) := by decide +kernel
theorem dX7_layReading_116 : decode cX7_layReading 116 = .ok (.getfield 287, 3) := by decide +kernel
theorem dX7_layReading_119 : decode cX7_layReading 119 = .ok (.iaload, 1) := by decide +kernel
theorem dX7_layReading_120 : decode cX7_layReading 120 = .ok (.sipush 2000, 3) := by decide +kernel
theorem dX7_layReading_123 : decode cX7_layReading 123 = .ok (.isub, 1) := by decide +kernel
theorem dX7_layReading_124 : decode cX7_layReading 124 = .ok (.invokevirtual 284, 3) := by decide +kernel
theorem dX7_layReading_127 : decode cX7_layReading 127 = .ok (.goto (-49), 3) := by decide +kernel
theorem dX7_layReading_130 : decode cX7_layReading 130 = .ok (.aload_n 0, 1) := by decide +kernel
theorem dX7_layReading_131 : decode cX7_layReading 131 = .ok (.aload_n 0, 1) := by decide +kernel
theorem dX7_layReading_132 : decode cX7_layReading 132 = .ok (.getfield 81, 3) := by decide +kernel
theorem dX7_layReading_135 : decode cX7_layReading 135 = .ok (.aload_n 0, 1) := by decide +kernel
theorem dX7_layReading_136 : decode cX7_layReading 136 = .ok (.getfield 287, 3) := by decide +kernel
theorem dX7_layReading_139 : decode cX7_layReading 139 = .ok (.iaload, 1) := by decide +kernel
theorem dX7_layReading_140 : decode cX7_layReading 140 = .ok (.invokevirtual 293, 3) := by decide +kernel
theorem dX7_layReading_143 : decode cX7_layReading 143 = .ok (.goto (-65), 3) := by decide +kernel
theorem dX7_layReading_146 : decode cX7_layReading 146 = .ok (.iinc 2 1, 3) := by decide +kernel
theorem dX7_layReading_149 : decode cX7_layReading 149 = .ok (.goto (-110), 3) := by decide +kernel
theorem dX7_layReading_152 : decode cX7_layReading 152 = .ok (.aload_n 0, 1) := by decide +kernel
theorem dX7_layReading_153 : decode cX7_layReading 153 = .ok (.iconst 0, 1) := by decide +kernel
theorem dX7_layReading_154 : decode cX7_layReading 154 = .ok (.putfield 105, 3) := by decide +kernel
theorem dX7_layReading_157 : decode cX7_layReading 157 = .ok (.return_, 1) := by decide +kernel
theorem dX7_signAt_0 : decode cX7_signAt 0 = .ok (.iload_n 1, 1) := by decide +kernel
theorem dX7_signAt_1 : decode cX7_signAt 1 = .ok (.aload_n 0, 1) := by decide +kernel
theorem dX7_signAt_2 : decode cX7_signAt 2 = .ok (.getfield 281, 3) := by decide +kernel
theorem dX7_signAt_5 : decode cX7_signAt 5 = .ok (.if_icmp .ge 12, 3) := by decide +kernel
theorem dX7_signAt_8 : decode cX7_signAt 8 = .ok (.aload_n 0, 1) := by decide +kernel
theorem dX7_signAt_9 : decode cX7_signAt 9 = .ok (.getfield 78, 3) := by decide +kernel
theorem dX7_signAt_12 : decode cX7_signAt 12 = .ok (.iload_n 1, 1) := by decide +kernel
theorem dX7_signAt_13 : decode cX7_signAt 13 = .ok (.iaload, 1) := by decide +kernel
theorem dX7_signAt_14 : decode cX7_signAt 14 = .ok (.goto 4, 3) := by decide +kernel
theorem dX7_signAt_17 : decode cX7_signAt 17 = .ok (.iconst (-1), 1) := by decide +kernel
theorem dX7_signAt_18 : decode cX7_signAt 18 = .ok (.ireturn, 1) := by decide +kernel
theorem dX7_reading_0 : decode cX7_reading 0 = .ok (.iload_n 1, 1) := by decide +kernel
theorem dX7_reading_1 : decode cX7_reading 1 = .ok (.iconst 0, 1) := by decide +kernel
theorem dX7_reading_2 : decode cX7_reading 2 = .ok (.sipush 999, 3) := by decide +kernel
theorem dX7_reading_5 : decode cX7_reading 5 = .ok (.invokestatic 112, 3) := by decide +kernel
theorem dX7_reading_8 : decode cX7_reading 8 = .ok (.ifCond .ne 6, 3) := by decide +kernel
theorem dX7_reading_11 : decode cX7_reading 11 = .ok (.bipush (-102), 2) := by decide +kernel
theorem dX7_reading_13 : decode cX7_reading 13 = .ok (.ireturn, 1) := by decide +kernel
theorem dX7_reading_14 : decode cX7_reading 14 = .ok (.aload_n 0, 1) := by decide +kernel
theorem dX7_reading_15 : decode cX7_reading 15 = .ok (.invokevirtual 244, 3) := by decide +kernel
theorem dX7_reading_18 : decode cX7_reading 18 = .ok (.ifCond .ne 6, 3) := by decide +kernel
theorem dX7_reading_21 : decode cX7_reading 21 = .ok (.bipush (-103), 2) := by decide +kernel
theorem dX7_reading_23 : decode cX7_reading 23 = .ok (.ireturn, 1) := by decide +kernel
theorem dX7_reading_24 : decode cX7_reading 24 = .ok (.aload_n 0, 1) := by decide +kernel
theorem dX7_reading_25 : decode cX7_reading 25 = .ok (.iconst 0, 1) := by decide +kernel
theorem dX7_reading_26 : decode cX7_reading 26 = .ok (.invokevirtual 296, 3) := by decide +kernel
theorem dX7_reading_29 : decode cX7_reading 29 = .ok (.aload_n 0, 1) := by decide +kernel
theorem dX7_reading_30 : decode cX7_reading 30 = .ok (.iload_n 1, 1) := by decide +kernel
theorem dX7_reading_31 : decode cX7_reading 31 = .ok (.invokevirtual 299, 3) := by decide +kernel
theorem dX7_reading_34 : decode cX7_reading 34 = .ok (.ireturn, 1) := by decide +kernel
theorem dX7_endReading_0 : decode cX7_endReading 0 = .ok (.iload_n 1, 1) := by decide +kernel
theorem dX7_endReading_1 : decode cX7_endReading 1 = .ok (.iconst 0, 1) := by decide +kernel
theorem dX7_endReading_2 : decode cX7_endReading 2 = .ok (.sipush 999, 3) := by decide +kernel
theorem dX7_endReading_5 : decode cX7_endReading 5 = .ok (.invokestatic 112, 3) := by decide +kernel
theorem dX7_endReading_8 : decode cX7_endReading 8 = .ok (.ifCond .ne 6, 3) := by decide +kernel
theorem dX7_endReading_11 : decode cX7_endReading 11 = .ok (.bipush (-102), 2) := by decide +kernel
theorem dX7_endReading_13 : decode cX7_endReading 13 = .ok (.ireturn, 1) := by decide +kernel
theorem dX7_endReading_14 : decode cX7_endReading 14 = .ok (.aload_n 0, 1) := by decide +kernel
theorem dX7_endReading_15 : decode cX7_endReading 15 = .ok (.invokevirtual 244, 3) := by decide +kernel
theorem dX7_endReading_18 : decode cX7_endReading 18 = .ok (.ifCond .ne 6, 3) := by decide +kernel
theorem dX7_endReading_21 : decode cX7_endReading 21 = .ok (.bipush (-103), 2) := by decide +kernel
theorem dX7_endReading_23 : decode cX7_endReading 23 = .ok (.ireturn, 1) := by decide +kernel
theorem dX7_endReading_24 : decode cX7_endReading 24 = .ok (.aload_n 0, 1) := by decide +kernel
theorem dX7_endReading_25 : decode cX7_endReading 25 = .ok (.iconst 0, 1) := by decide +kernel
theorem dX7_endReading_26 : decode cX7_endReading 26 = .ok (.invokevirtual 272, 3) := by decide +kernel
theorem dX7_endReading_29 : decode cX7_endReading 29 = .ok (.ifCond .ne 6, 3) := by decide +kernel
theorem dX7_endReading_32 : decode cX7_endReading 32 = .ok (.bipush (-2), 2) := by decide +kernel
theorem dX7_endReading_34 : decode cX7_endReading 34 = .ok (.ireturn, 1) := by decide +kernel
theorem dX7_endReading_35 : decode cX7_endReading 35 = .ok (.aload_n 0, 1) := by decide +kernel
theorem dX7_endReading_36 : decode cX7_endReading 36 = .ok (.iconst 2, 1) := by decide +kernel
theorem dX7_endReading_37 : decode cX7_endReading 37 = .ok (.invokevirtual 296, 3) := by decide +kernel
theorem dX7_endReading_40 : decode cX7_endReading 40 = .ok (.aload_n 0, 1) := by decide +kernel
theorem dX7_endReading_41 : decode cX7_endReading 41 = .ok (.iload_n 1, 1) := by decide +kernel
theorem dX7_endReading_42 : decode cX7_endReading 42 = .ok (.invokevirtual 299, 3) := by decide +kernel
theorem dX7_endReading_45 : decode cX7_endReading 45 = .ok (.ireturn, 1) := by decide +kernel
theorem dX7_same_0 : decode cX7_same 0 = .ok (.aload_n 0, 1) := by decide +kernel
theorem dX7_same_1 : decode cX7_same 1 = .ok (.getfield 302, 3) := by decide +kernel
theorem dX7_same_4 : decode cX7_same 4 = .ok (.ifCond .eq 14, 3) := by decide +kernel
theorem dX7_same_7 : decode cX7_same 7 = .ok (.aload_n 0, 1) := by decide +kernel
theorem dX7_same_8 : decode cX7_same 8 = .ok (.getfield 305, 3) := by decide +kernel
theorem dX7_same_11 : decode cX7_same 11 = .ok (.aload_n 0, 1) := by decide +kernel
theorem dX7_same_12 : decode cX7_same 12 = .ok (.getfield 222, 3) := by decide +kernel
theorem dX7_same_15 : decode cX7_same 15 = .ok (.if_icmp .eq 6, 3) := by decide +kernel
theorem dX7_same_18 : decode cX7_same 18 = .ok (.bipush (-103), 2) := by decide +kernel
theorem dX7_same_20 : decode cX7_same 20 = .ok (.ireturn, 1) := by decide +kernel
theorem dX7_same_21 : decode cX7_same 21 = .ok (.aload_n 0, 1) := by decide +kernel
theorem dX7_same_22 : decode cX7_same 22 = .ok (.iconst 0, 1) := by decide +kernel
theorem dX7_same_23 : decode cX7_same 23 = .ok (.invokevirtual 272, 3) := by decide +kernel
theorem dX7_same_26 : decode cX7_same 26 = .ok (.ifCond .ne 6, 3) := by decide +kernel
theorem dX7_same_29 : decode cX7_same 29 = .ok (.bipush (-2), 2) := by decide +kernel
theorem dX7_same_31 : decode cX7_same 31 = .ok (.ireturn, 1) := by decide +kernel
theorem dX7_same_32 : decode cX7_same 32 = .ok (.aload_n 0, 1) := by decide +kernel
theorem dX7_same_33 : decode cX7_same 33 = .ok (.iconst 2, 1) := by decide +kernel
theorem dX7_same_34 : decode cX7_same 34 = .ok (.invokevirtual 296, 3) := by decide +kernel
theorem dX7_same_37 : decode cX7_same 37 = .ok (.aload_n 0, 1) := by decide +kernel
theorem dX7_same_38 : decode cX7_same 38 = .ok (.getfield 281, 3) := by decide +kernel
theorem dX7_same_41 : decode cX7_same 41 = .ok (.istore_n 1, 1) := by decide +kernel
theorem dX7_same_42 : decode cX7_same 42 = .ok (.aload_n 0, 1) := by decide +kernel
theorem dX7_same_43 : decode cX7_same 43 = .ok (.getfield 19, 3) := by decide +kernel
theorem dX7_same_46 : decode cX7_same 46 = .ok (.iconst 2, 1) := by decide +kernel
theorem dX7_same_47 : decode cX7_same 47 = .ok (.iaload, 1) := by decide +kernel
theorem dX7_same_48 : decode cX7_same 48 = .ok (.istore_n 2, 1) := by decide +kernel
theorem dX7_same_49 : decode cX7_same 49 = .ok (.iconst 0, 1) := by decide +kernel
theorem dX7_same_50 : decode cX7_same 50 = .ok (.istore_n 3, 1) := by decide +kernel
theorem dX7_same_51 : decode cX7_same 51 = .ok (.iload_n 3, 1) := by decide +kernel
theorem dX7_same_52 : decode cX7_same 52 = .ok (.iload_n 1, 1) := by decide +kernel
theorem dX7_same_53 : decode cX7_same 53 = .ok (.if_icmp .ge 28, 3) := by decide +kernel
theorem dX7_same_56 : decode cX7_same 56 = .ok (.iload_n 3, 1) := by decide +kernel
theorem dX7_same_57 : decode cX7_same 57 = .ok (.sipush 1000, 3) := by decide +kernel
theorem dX7_same_60 : decode cX7_same 60 = .ok (.if_icmp .ge 21, 3) := by decide +kernel
theorem dX7_same_63 : decode cX7_same 63 = .ok (.aload_n 0, 1) := by decide +kernel
theorem dX7_same_64 : decode cX7_same 64 = .ok (.getfield 87, 3) := by decide +kernel
theorem dX7_same_67 : decode cX7_same 67 = .ok (.iload_n 3, 1) := by decide +kernel
theorem dX7_same_68 : decode cX7_same 68 = .ok (.aload_n 0, 1) := by decide +kernel
theorem dX7_same_69 : decode cX7_same 69 = .ok (.getfield 78, 3) := by decide +kernel
theorem dX7_same_72 : decode cX7_same 72 = .ok (.iload_n 3, 1) := by decide +kernel
theorem dX7_same_73 : decode cX7_same 73 = .ok (.iaload, 1) := by decide +kernel
theorem dX7_same_74 : decode cX7_same 74 = .ok (.iastore, 1) := by decide +kernel
theorem dX7_same_75 : decode cX7_same 75 = .ok (.iinc 3 1, 3) := by decide +kernel
theorem dX7_same_78 : decode cX7_same 78 = .ok (.goto (-27), 3) := by decide +kernel
theorem dX7_same_81 : decode cX7_same 81 = .ok (.aload_n 0, 1) := by decide +kernel
theorem dX7_same_82 : decode cX7_same 82 = .ok (.iconst 1, 1) := by decide +kernel
theorem dX7_same_83 : decode cX7_same 83 = .ok (.invokevirtual 272, 3) := by decide +kernel
theorem dX7_same_86 : decode cX7_same 86 = .ok (.ifCond .ne 6, 3) := by decide +kernel
theorem dX7_same_89 : decode cX7_same 89 = .ok (.bipush (-2), 2) := by decide +kernel
theorem dX7_same_91 : decode cX7_same 91 = .ok (.ireturn, 1) := by decide +kernel
theorem dX7_same_92 : decode cX7_same 92 = .ok (.aload_n 0, 1) := by decide +kernel
theorem dX7_same_93 : decode cX7_same 93 = .ok (.iconst 2, 1) := by decide +kernel
theorem dX7_same_94 : decode cX7_same 94 = .ok (.invokevirtual 296, 3) := by decide +kernel
theorem dX7_same_97 : decode cX7_same 97 = .ok (.iload_n 1, 1) := by decide +kernel
theorem dX7_same_98 : decode cX7_same 98 = .ok (.aload_n 0, 1) := by decide +kernel
theorem dX7_same_99 : decode cX7_same 99 = .ok (.getfield 281, 3) := by decide +kernel
theorem dX7_same_102 : decode cX7_same 102 = .ok (.if_icmp .ne 17, 3) := by decide +kernel
theorem dX7_same_105 : decode cX7_same 105 = .ok (.iload_n 2, 1) := by decide +kernel
theorem dX7_same_106 : decode cX7_same 106 = .ok (.aload_n 0, 1) := by decide +kernel
theorem dX7_same_107 : decode cX7_same 107 = .ok (.getfield 19, 3) := by decide +kernel
theorem dX7_same_110 : decode cX7_same 110 = .ok (.iconst 2, 1) := by decide +kernel
theorem dX7_same_111 : decode cX7_same 111 = .ok (.iaload, 1) := by decide +kernel
theorem dX7_same_112 : decode cX7_same 112 = .ok (.if_icmp .ne 7, 3) := by decide +kernel
theorem dX7_same_115 : decode cX7_same 115 = .ok (.iconst 1, 1) := by decide +kernel
theorem dX7_same_116 : decode cX7_same 116 = .ok (.goto 4, 3) := by decide +kernel
theorem dX7_same_119 : decode cX7_same 119 = .ok (.iconst 0, 1) := by decide +kernel
theorem dX7_same_120 : decode cX7_same 120 = .ok (.istore_n 3, 1) := by decide +kernel
theorem dX7_same_121 : decode cX7_same 121 = .ok (.iconst 0, 1) := by decide +kernel
theorem dX7_same_122 : decode cX7_same 122 = .ok (.istore 4, 2) := by decide +kernel
theorem dX7_same_124 : decode cX7_same 124 = .ok (.iload 4, 2) := by decide +kernel
theorem dX7_same_126 : decode cX7_same 126 = .ok (.iload_n 1, 1) := by decide +kernel
theorem dX7_same_127 : decode cX7_same 127 = .ok (.if_icmp .ge 36, 3) := by decide +kernel
theorem dX7_same_130 : decode cX7_same 130 = .ok (.iload_n 3, 1) := by decide +kernel
theorem dX7_same_131 : decode cX7_same 131 = .ok (.ifCond .eq 32, 3) := by decide +kernel
theorem dX7_same_134 : decode cX7_same 134 = .ok (.aload_n 0, 1) := by decide +kernel
theorem dX7_same_135 : decode cX7_same 135 = .ok (.getfield 78, 3) := by decide +kernel
theorem dX7_same_138 : decode cX7_same 138 = .ok (.iload 4, 2) := by decide +kernel
theorem dX7_same_140 : decode cX7_same 140 = .ok (.iaload, 1) := by decide +kernel
theorem dX7_same_141 : decode cX7_same 141 = .ok (.aload_n 0, 1) := by decide +kernel
theorem dX7_same_142 : decode cX7_same 142 = .ok (.getfield 87, 3) := by decide +kernel
theorem dX7_same_145 : decode cX7_same 145 = .ok (.iload 4, 2) := by decide +kernel
theorem dX7_same_147 : decode cX7_same 147 = .ok (.iaload, 1) := by decide +kernel
theorem dX7_same_148 : decode cX7_same 148 = .ok (.if_icmp .ne 7, 3) := by decide +kernel
theorem dX7_same_151 : decode cX7_same 151 = .ok (.iconst 1, 1) := by decide +kernel
theorem dX7_same_152 : decode cX7_same 152 = .ok (.goto 4, 3) := by decide +kernel
theorem dX7_same_155 : decode cX7_same 155 = .ok (.iconst 0, 1) := by decide +kernel
theorem dX7_same_156 : decode cX7_same 156 = .ok (.istore_n 3, 1) := by decide +kernel
theorem dX7_same_157 : decode cX7_same 157 = .ok (.iinc 4 1, 3) := by decide +kernel
theorem dX7_same_160 : decode cX7_same 160 = .ok (.goto (-36), 3) := by decide +kernel
theorem dX7_same_163 : decode cX7_same 163 = .ok (.iconst 0, 1) := by decide +kernel
theorem dX7_same_164 : decode cX7_same 164 = .ok (.istore 4, 2) := by decide +kernel
theorem dX7_same_166 : decode cX7_same 166 = .ok (.iload 4, 2) := by decide +kernel
theorem dX7_same_168 : decode cX7_same 168 = .ok (.bipush 8, 2) := by decide +kernel
theorem dX7_same_170 : decode cX7_same 170 = .ok (.if_icmp .ge 57, 3) := by decide +kernel
theorem dX7_same_173 : decode cX7_same 173 = .ok (.iload_n 3, 1) := by decide +kernel
theorem dX7_same_174 : decode cX7_same 174 = .ok (.ifCond .eq 45, 3) := by decide +kernel
theorem dX7_same_177 : decode cX7_same 177 = .ok (.aload_n 0, 1) := by decide +kernel
theorem dX7_same_178 : decode cX7_same 178 = .ok (.getfield 16, 3) := by decide +kernel
theorem dX7_same_181 : decode cX7_same 181 = .ok (.iload 4, 2) := by decide +kernel
theorem dX7_same_183 : decode cX7_same 183 = .ok (.iaload, 1) := by decide +kernel
theorem dX7_same_184 : decode cX7_same 184 = .ok (.iconst (-1), 1) := by decide +kernel
theorem dX7_same_185 : decode cX7_same 185 = .ok (.if_icmp .ne 7, 3) := by decide +kernel
theorem dX7_same_188 : decode cX7_same 188 = .ok (.iconst 1, 1) := by decide +kernel
theorem dX7_same_189 : decode cX7_same 189 = .ok (.goto 4, 3) := by decide +kernel
theorem dX7_same_192 : decode cX7_same 192 = .ok (.iconst 0, 1) := by decide +kernel
theorem dX7_same_193 : decode cX7_same 193 = .ok (.aload_n 0, 1) := by decide +kernel
theorem dX7_same_194 : decode cX7_same 194 = .ok (.getfield 16, 3) := by decide +kernel
theorem dX7_same_197 : decode cX7_same 197 = .ok (.bipush 8, 2) := by decide +kernel
theorem dX7_same_199 : decode cX7_same 199 = .ok (.iload 4, 2) := by decide +kernel
theorem dX7_same_201 : decode cX7_same 201 = .ok (.iadd, 1) := by decide +kernel
theorem dX7_same_202 : decode cX7_same 202 = .ok (.iaload, 1) := by decide +kernel
theorem dX7_same_203 : decode cX7_same 203 = .ok (.iconst (-1), 1) := by decide +kernel
theorem dX7_same_204 : decode cX7_same 204 = .ok (.if_icmp .ne 7, 3) := by decide +kernel
theorem dX7_same_207 : decode cX7_same 207 = .ok (.iconst 1, 1) := by decide +kernel
theorem dX7_same_208 : decode cX7_same 208 = .ok (.goto 4, 3) := by decide +kernel
theorem dX7_same_211 : decode cX7_same 211 = .ok (.iconst 0, 1) := by decide +kernel
theorem dX7_same_212 : decode cX7_same 212 = .ok (.if_icmp .ne 7, 3) := by decide +kernel
theorem dX7_same_215 : decode cX7_same 215 = .ok (.iconst 1, 1) := by decide +kernel
theorem dX7_same_216 : decode cX7_same 216 = .ok (.goto 4, 3) := by decide +kernel
theorem dX7_same_219 : decode cX7_same 219 = .ok (.iconst 0, 1) := by decide +kernel
theorem dX7_same_220 : decode cX7_same 220 = .ok (.istore_n 3, 1) := by decide +kernel
theorem dX7_same_221 : decode cX7_same 221 = .ok (.iinc 4 1, 3) := by decide +kernel
theorem dX7_same_224 : decode cX7_same 224 = .ok (.goto (-58), 3) := by decide +kernel
theorem dX7_same_227 : decode cX7_same 227 = .ok (.iload_n 3, 1) := by decide +kernel
theorem dX7_same_228 : decode cX7_same 228 = .ok (.ifCond .eq 7, 3) := by decide +kernel
theorem dX7_same_231 : decode cX7_same 231 = .ok (.iconst 1, 1) := by decide +kernel
theorem dX7_same_232 : decode cX7_same 232 = .ok (.goto 4, 3) := by decide +kernel
theorem dX7_same_235 : decode cX7_same 235 = .ok (.iconst 0, 1) := by decide +kernel
theorem dX7_same_236 : decode cX7_same 236 = .ok (.ireturn, 1) := by decide +kernel
theorem dX7_see_0 : decode cX7_see 0 = .ok (.aload_n 0, 1) := by decide +kernel
theorem dX7_see_1 : decode cX7_see 1 = .ok (.iconst 0, 1) := by decide +kernel
theorem dX7_see_2 : decode cX7_see 2 = .ok (.putfield 105, 3) := by decide +kernel
theorem dX7_see_5 : decode cX7_see 5 = .ok (.aload_n 0, 1) := by decide +kernel
theorem dX7_see_6 : decode cX7_see 6 = .ok (.iload_n 1, 1) := by decide +kernel
theorem dX7_see_7 : decode cX7_see 7 = .ok (.invokevirtual 263, 3) := by decide +kernel
theorem dX7_see_10 : decode cX7_see 10 = .ok (.ifCond .ne 6, 3) := by decide +kernel
theorem dX7_see_13 : decode cX7_see 13 = .ok (.bipush (-101), 2) := by decide +kernel
theorem dX7_see_15 : decode cX7_see 15 = .ok (.ireturn, 1) := by decide +kernel
theorem dX7_see_16 : decode cX7_see 16 = .ok (.iload_n 2, 1) := by decide +kernel
theorem dX7_see_17 : decode cX7_see 17 = .ok (.iconst 0, 1) := by decide +kernel
theorem dX7_see_18 : decode cX7_see 18 = .ok (.iconst 3, 1) := by decide +kernel
theorem dX7_see_19 : decode cX7_see 19 = .ok (.invokestatic 112, 3) := by decide +kernel
theorem dX7_see_22 : decode cX7_see 22 = .ok (.ifCond .eq 13, 3) := by decide +kernel
theorem dX7_see_25 : decode cX7_see 25 = .ok (.iload_n 3, 1) := by decide +kernel
theorem dX7_see_26 : decode cX7_see 26 = .ok (.iconst (-1), 1) := by decide +kernel
theorem dX7_see_27 : decode cX7_see 27 = .ok (.bipush 60, 2) := by decide +kernel
theorem dX7_see_29 : decode cX7_see 29 = .ok (.invokestatic 112, 3) := by decide +kernel
theorem dX7_see_32 : decode cX7_see 32 = .ok (.ifCond .ne 6, 3) := by decide +kernel
theorem dX7_see_35 : decode cX7_see 35 = .ok (.bipush (-102), 2) := by decide +kernel
theorem dX7_see_37 : decode cX7_see 37 = .ok (.ireturn, 1) := by decide +kernel
theorem dX7_see_38 : decode cX7_see 38 = .ok (.aload_n 0, 1) := by decide +kernel
theorem dX7_see_39 : decode cX7_see 39 = .ok (.getfield 225, 3) := by decide +kernel
theorem dX7_see_42 : decode cX7_see 42 = .ok (.bipush 6, 2) := by decide +kernel
theorem dX7_see_44 : decode cX7_see 44 = .ok (.if_icmp .ne 6, 3) := by decide +kernel
theorem dX7_see_47 : decode cX7_see 47 = .ok (.bipush (-104), 2) := by decide +kernel
theorem dX7_see_49 : decode cX7_see 49 = .ok (.ireturn, 1) := by decide +kernel
theorem dX7_see_50 : decode cX7_see 50 = .ok (.aload_n 0, 1) := by decide +kernel
theorem dX7_see_51 : decode cX7_see 51 = .ok (.getfield 25, 3) := by decide +kernel
theorem dX7_see_54 : decode cX7_see 54 = .ok (.aload_n 0, 1) := by decide +kernel
theorem dX7_see_55 : decode cX7_see 55 = .ok (.getfield 225, 3) := by decide +kernel
theorem dX7_see_58 : decode cX7_see 58 = .ok (.iload_n 1, 1) := by decide +kernel
theorem dX7_see_59 : decode cX7_see 59 = .ok (.iastore, 1) := by decide +kernel
theorem dX7_see_60 : decode cX7_see 60 = .ok (.aload_n 0, 1) := by decide +kernel
theorem dX7_see_61 : decode cX7_see 61 = .ok (.getfield 28, 3) := by decide +kernel
theorem dX7_see_64 : decode cX7_see 64 = .ok (.aload_n 0, 1) := by decide +kernel
theorem dX7_see_65 : decode cX7_see 65 = .ok (.getfield 225, 3) := by decide +kernel
theorem dX7_see_68 : decode cX7_see 68 = .ok (.iload_n 2, 1) := by decide +kernel
theorem dX7_see_69 : decode cX7_see 69 = .ok (.iastore, 1) := by decide +kernel
theorem dX7_see_70 : decode cX7_see 70 = .ok (.aload_n 0, 1) := by decide +kernel
theorem dX7_see_71 : decode cX7_see 71 = .ok (.getfield 31, 3) := by decide +kernel
theorem dX7_see_74 : decode cX7_see 74 = .ok (.aload_n 0, 1) := by decide +kernel
theorem dX7_see_75 : decode cX7_see 75 = .ok (.getfield 225, 3) := by decide +kernel
theorem dX7_see_78 : decode cX7_see 78 = .ok (.iload_n 3, 1) := by decide +kernel
theorem dX7_see_79 : decode cX7_see 79 = .ok (.iastore, 1) := by decide +kernel
theorem dX7_see_80 : decode cX7_see 80 = .ok (.aload_n 0, 1) := by decide +kernel
theorem dX7_see_81 : decode cX7_see 81 = .ok (.dup, 1) := by decide +kernel
theorem dX7_see_82 : decode cX7_see 82 = .ok (.getfield 225, 3) := by decide +kernel
theorem dX7_see_85 : decode cX7_see 85 = .ok (.iconst 1, 1) := by decide +kernel
theorem dX7_see_86 : decode cX7_see 86 = .ok (.iadd, 1) := by decide +kernel
theorem dX7_see_87 : decode cX7_see 87 = .ok (.putfield 225, 3) := by decide +kernel
theorem dX7_see_90 : decode cX7_see 90 = .ok (.aload_n 0, 1) := by decide +kernel
theorem dX7_see_91 : decode cX7_see 91 = .ok (.getfield 225, 3) := by decide +kernel
theorem dX7_see_94 : decode cX7_see 94 = .ok (.ireturn, 1) := by decide +kernel
theorem dX7_forget_0 : decode cX7_forget 0 = .ok (.aload_n 0, 1) := by decide +kernel
theorem dX7_forget_1 : decode cX7_forget 1 = .ok (.getfield 225, 3) := by decide +kernel
theorem dX7_forget_4 : decode cX7_forget 4 = .ok (.istore_n 1, 1) := by decide +kernel
theorem dX7_forget_5 : decode cX7_forget 5 = .ok (.aload_n 0, 1) := by decide +kernel
theorem dX7_forget_6 : decode cX7_forget 6 = .ok (.iconst 0, 1) := by decide +kernel
theorem dX7_forget_7 : decode cX7_forget 7 = .ok (.putfield 225, 3) := by decide +kernel
theorem dX7_forget_10 : decode cX7_forget 10 = .ok (.iload_n 1, 1) := by decide +kernel
theorem dX7_forget_11 : decode cX7_forget 11 = .ok (.ireturn, 1) := by decide +kernel
theorem dX7_layMuch_0 : decode cX7_layMuch 0 = .ok (.aload_n 0, 1) := by decide +kernel
theorem dX7_layMuch_1 : decode cX7_layMuch 1 = .ok (.getfield 7, 3) := by decide +kernel
theorem dX7_layMuch_4 : decode cX7_layMuch 4 = .ok (.iload_n 1, 1) := by decide +kernel
theorem dX7_layMuch_5 : decode cX7_layMuch 5 = .ok (.iaload, 1) := by decide +kernel
theorem dX7_layMuch_6 : decode cX7_layMuch 6 = .ok (.istore_n 2, 1) := by decide +kernel
theorem dX7_layMuch_7 : decode cX7_layMuch 7 = .ok (.iconst 1, 1) := by decide +kernel
theorem dX7_layMuch_8 : decode cX7_layMuch 8 = .ok (.istore_n 3, 1) := by decide +kernel
theorem dX7_layMuch_9 : decode cX7_layMuch 9 = .ok (.iload_n 3, 1) := by decide +kernel
theorem dX7_layMuch_10 : decode cX7_layMuch 10 = .ok (.iconst 4, 1) := by decide +kernel
theorem dX7_layMuch_11 : decode cX7_layMuch 11 = .ok (.if_icmp .ge 65, 3) := by decide +kernel
theorem dX7_layMuch_14 : decode cX7_layMuch 14 = .ok (.aload_n 0, 1) := by decide +kernel
theorem dX7_layMuch_15 : decode cX7_layMuch 15 = .ok (.getfield 7, 3) := by decide +kernel
theorem dX7_layMuch_18 : decode cX7_layMuch 18 = .ok (.iload_n 1, 1) := by decide +kernel
theorem dX7_layMuch_19 : decode cX7_layMuch 19 = .ok (.iload_n 3, 1) := by decide +kernel
theorem dX7_layMuch_20 : decode cX7_layMuch 20 = .ok (.iastore, 1) := by decide +kernel
theorem dX7_layMuch_21 : decode cX7_layMuch 21 = .ok (.aload_n 0, 1) := by decide +kernel
theorem dX7_layMuch_22 : decode cX7_layMuch 22 = .ok (.iconst 0, 1) := by decide +kernel
theorem dX7_layMuch_23 : decode cX7_layMuch 23 = .ok (.invokevirtual 272, 3) := by decide +kernel
theorem dX7_layMuch_26 : decode cX7_layMuch 26 = .ok (.istore 4, 2) := by decide +kernel
theorem dX7_layMuch_28 : decode cX7_layMuch 28 = .ok (.iconst 0, 1) := by decide +kernel
theorem dX7_layMuch_29 : decode cX7_layMuch 29 = .ok (.istore 5, 2) := by decide +kernel
theorem dX7_layMuch_31 : decode cX7_layMuch 31 = .ok (.iload 5, 2) := by decide +kernel
theorem dX7_layMuch_33 : decode cX7_layMuch 33 = .ok (.iconst 4, 1) := by decide +kernel
theorem dX7_layMuch_34 : decode cX7_layMuch 34 = .ok (.if_icmp .ge 36, 3) := by decide +kernel
theorem dX7_layMuch_37 : decode cX7_layMuch 37 = .ok (.aload_n 0, 1) := by decide +kernel
theorem dX7_layMuch_38 : decode cX7_layMuch 38 = .ok (.getfield 90, 3) := by decide +kernel
theorem dX7_layMuch_41 : decode cX7_layMuch 41 = .ok (.iconst 4, 1) := by decide +kernel
theorem dX7_layMuch_42 : decode cX7_layMuch 42 = .ok (.iload_n 3, 1) := by decide +kernel
theorem dX7_layMuch_43 : decode cX7_layMuch 43 = .ok (.imul, 1) := by decide +kernel
theorem dX7_layMuch_44 : decode cX7_layMuch 44 = .ok (.iload 5, 2) := by decide +kernel
theorem dX7_layMuch_46 : decode cX7_layMuch 46 = .ok (.iadd, 1) := by decide +kernel
theorem dX7_layMuch_47 : decode cX7_layMuch 47 = .ok (.iload 4, 2) := by decide +kernel
theorem dX7_layMuch_49 : decode cX7_layMuch 49 = .ok (.ifCond .eq 13, 3) := by decide +kernel
theorem dX7_layMuch_52 : decode cX7_layMuch 52 = .ok (.aload_n 0, 1) := by decide +kernel
theorem dX7_layMuch_53 : decode cX7_layMuch 53 = .ok (.getfield 72, 3) := by decide +kernel
theorem dX7_layMuch_56 : decode cX7_layMuch 56 = .ok (.iload 5, 2) := by decide +kernel
theorem dX7_layMuch_58 : decode cX7_layMuch 58 = .ok (.iaload, 1) := by decide +kernel
theorem dX7_layMuch_59 : decode cX7_layMuch 59 = .ok (.goto 4, 3) := by decide +kernel
theorem dX7_layMuch_62 : decode cX7_layMuch 62 = .ok (.iconst (-1), 1) := by decide +kernel
theorem dX7_layMuch_63 : decode cX7_layMuch 63 = .ok (.iastore, 1) := by decide +kernel
theorem dX7_layMuch_64 : decode cX7_layMuch 64 = .ok (.iinc 5 1, 3) := by decide +kernel
theorem dX7_layMuch_67 : decode cX7_layMuch 67 = .ok (.goto (-36), 3) := by decide +kernel
theorem dX7_layMuch_70 : decode cX7_layMuch 70 = .ok (.iinc 3 1, 3) := by decide +kernel
theorem dX7_layMuch_73 : decode cX7_layMuch 73 = .ok (.goto (-64), 3) := by decide +kernel
theorem dX7_layMuch_76 : decode cX7_layMuch 76 = .ok (.aload_n 0, 1) := by decide +kernel
theorem dX7_layMuch_77 : decode cX7_layMuch 77 = .ok (.getfield 7, 3) := by decide +kernel
theorem dX7_layMuch_80 : decode cX7_layMuch 80 = .ok (.iload_n 1, 1) := by decide +kernel
theorem dX7_layMuch_81 : decode cX7_layMuch 81 = .ok (.iload_n 2, 1) := by decide +kernel
theorem dX7_layMuch_82 : decode cX7_layMuch 82 = .ok (.iastore, 1) := by decide +kernel
theorem dX7_layMuch_83 : decode cX7_layMuch 83 = .ok (.return_, 1) := by decide +kernel
theorem dX7_kindsBy_0 : decode cX7_kindsBy 0 = .ok (.iconst 0, 1) := by decide +kernel
theorem dX7_kindsBy_1 : decode cX7_kindsBy 1 = .ok (.istore_n 2, 1) := by decide +kernel
theorem dX7_kindsBy_2 : decode cX7_kindsBy 2 = .ok (.iconst 1, 1) := by decide +kernel
theorem dX7_kindsBy_3 : decode cX7_kindsBy 3 = .ok (.istore_n 3, 1) := by decide +kernel
theorem dX7_kindsBy_4 : decode cX7_kindsBy 4 = .ok (.iload_n 3, 1) := by decide +kernel
theorem dX7_kindsBy_5 : decode cX7_kindsBy 5 = .ok (.iconst 4, 1) := by decide +kernel
theorem dX7_kindsBy_6 : decode cX7_kindsBy 6 = .ok (.if_icmp .ge 94, 3) := by decide +kernel
theorem dX7_kindsBy_9 : decode cX7_kindsBy 9 = .ok (.iconst 1, 1) := by decide +kernel
theorem dX7_kindsBy_10 : decode cX7_kindsBy 10 = .ok (.istore 4, 2) := by decide +kernel
theorem dX7_kindsBy_12 : decode cX7_kindsBy 12 = .ok (.iconst 0, 1) := by decide +kernel
theorem dX7_kindsBy_13 : decode cX7_kindsBy 13 = .ok (.istore 5, 2) := by decide +kernel
theorem dX7_kindsBy_15 : decode cX7_kindsBy 15 = .ok (.iload 5, 2) := by decide +kernel
theorem dX7_kindsBy_17 : decode cX7_kindsBy 17 = .ok (.aload_n 0, 1) := by decide +kernel
theorem dX7_kindsBy_18 : decode cX7_kindsBy 18 = .ok (.getfield 225, 3) := by decide +kernel
theorem dX7_kindsBy_21 : decode cX7_kindsBy 21 = .ok (.if_icmp .ge 58, 3) := by decide +kernel
theorem dX7_kindsBy_24 : decode cX7_kindsBy 24 = .ok (.iload 4, 2) := by decide +kernel
theorem dX7_kindsBy_26 : decode cX7_kindsBy 26 = .ok (.ifCond .eq 44, 3) := by decide +kernel
theorem dX7_kindsBy_29 : decode cX7_kindsBy 29 = .ok (.aload_n 0, 1) := by decide +kernel
theorem dX7_kindsBy_30 : decode cX7_kindsBy 30 = .ok (.getfield 25, 3) := by decide +kernel
theorem dX7_kindsBy_33 : decode cX7_kindsBy 33 = .ok (.iload 5, 2) := by decide +kernel
theorem dX7_kindsBy_35 : decode cX7_kindsBy 35 = .ok (.iaload, 1) := by decide +kernel
theorem dX7_kindsBy_36 : decode cX7_kindsBy 36 = .ok (.iload_n 1, 1) := by decide +kernel
theorem dX7_kindsBy_37 : decode cX7_kindsBy 37 = .ok (.if_icmp .ne 29, 3) := by decide +kernel
theorem dX7_kindsBy_40 : decode cX7_kindsBy 40 = .ok (.aload_n 0, 1) := by decide +kernel
theorem dX7_kindsBy_41 : decode cX7_kindsBy 41 = .ok (.getfield 90, 3) := by decide +kernel
theorem dX7_kindsBy_44 : decode cX7_kindsBy 44 = .ok (.iconst 4, 1) := by decide +kernel
theorem dX7_kindsBy_45 : decode cX7_kindsBy 45 = .ok (.iload_n 3, 1) := by decide +kernel
theorem dX7_kindsBy_46 : decode cX7_kindsBy 46 = .ok (.imul, 1) := by decide +kernel
theorem dX7_kindsBy_47 : decode cX7_kindsBy 47 = .ok (.aload_n 0, 1) := by decide +kernel
theorem dX7_kindsBy_48 : decode cX7_kindsBy 48 = .ok (.getfield 28, 3) := by decide +kernel
theorem dX7_kindsBy_51 : decode cX7_kindsBy 51 = .ok (.iload 5, 2) := by decide +kernel
theorem dX7_kindsBy_53 : decode cX7_kindsBy 53 = .ok (.iaload, 1) := by decide +kernel
theorem dX7_kindsBy_54 : decode cX7_kindsBy 54 = .ok (.iadd, 1) := by decide +kernel
theorem dX7_kindsBy_55 : decode cX7_kindsBy 55 = .ok (.iaload, 1) := by decide +kernel
theorem dX7_kindsBy_56 : decode cX7_kindsBy 56 = .ok (.aload_n 0, 1) := by decide +kernel
theorem dX7_kindsBy_57 : decode cX7_kindsBy 57 = .ok (.getfield 31, 3) := by decide +kernel
theorem dX7_kindsBy_60 : decode cX7_kindsBy 60 = .ok (.iload 5, 2) := by decide +kernel
theorem dX7_kindsBy_62 : decode cX7_kindsBy 62 = .ok (.iaload, 1) := by decide +kernel
theorem dX7_kindsBy_63 : decode cX7_kindsBy 63 = .ok (.if_icmp .ne 7, 3) := by decide +kernel
theorem dX7_kindsBy_66 : decode cX7_kindsBy 66 = .ok (.iconst 1, 1) := by decide +kernel
theorem dX7_kindsBy_67 : decode cX7_kindsBy 67 = .ok (.goto 4, 3) := by decide +kernel
theorem dX7_kindsBy_70 : decode cX7_kindsBy 70 = .ok (.iconst 0, 1) := by decide +kernel
theorem dX7_kindsBy_71 : decode cX7_kindsBy 71 = .ok (.istore 4, 2) := by decide +kernel
theorem dX7_kindsBy_73 : decode cX7_kindsBy 73 = .ok (.iinc 5 1, 3) := by decide +kernel
theorem dX7_kindsBy_76 : decode cX7_kindsBy 76 = .ok (.goto (-61), 3) := by decide +kernel
theorem dX7_kindsBy_79 : decode cX7_kindsBy 79 = .ok (.iload_n 2, 1) := by decide +kernel
theorem dX7_kindsBy_80 : decode cX7_kindsBy 80 = .ok (.iload 4, 2) := by decide +kernel
theorem dX7_kindsBy_82 : decode cX7_kindsBy 82 = .ok (.ifCond .eq 9, 3) := by decide +kernel
theorem dX7_kindsBy_85 : decode cX7_kindsBy 85 = .ok (.iconst 1, 1) := by decide +kernel
theorem dX7_kindsBy_86 : decode cX7_kindsBy 86 = .ok (.iload_n 3, 1) := by decide +kernel
theorem dX7_kindsBy_87 : decode cX7_kindsBy 87 = .ok (.ishl, 1) := by decide +kernel
theorem dX7_kindsBy_88 : decode cX7_kindsBy 88 = .ok (.goto 4, 3) := by decide +kernel
theorem dX7_kindsBy_91 : decode cX7_kindsBy 91 = .ok (.iconst 0, 1) := by decide +kernel
theorem dX7_kindsBy_92 : decode cX7_kindsBy 92 = .ok (.ior, 1) := by decide +kernel
theorem dX7_kindsBy_93 : decode cX7_kindsBy 93 = .ok (.istore_n 2, 1) := by decide +kernel
theorem dX7_kindsBy_94 : decode cX7_kindsBy 94 = .ok (.iinc 3 1, 3) := by decide +kernel
theorem dX7_kindsBy_97 : decode cX7_kindsBy 97 = .ok (.goto (-93), 3) := by decide +kernel
theorem dX7_kindsBy_100 : decode cX7_kindsBy 100 = .ok (.iload_n 2, 1) := by decide +kernel
theorem dX7_kindsBy_101 : decode cX7_kindsBy 101 = .ok (.ireturn, 1) := by decide +kernel
theorem dX7_kindsOf_0 : decode cX7_kindsOf 0 = .ok (.aload_n 0, 1) := by decide +kernel
theorem dX7_kindsOf_1 : decode cX7_kindsOf 1 = .ok (.iload_n 1, 1) := by decide +kernel
theorem dX7_kindsOf_2 : decode cX7_kindsOf 2 = .ok (.invokevirtual 308, 3) := by decide +kernel
theorem dX7_kindsOf_5 : decode cX7_kindsOf 5 = .ok (.aload_n 0, 1) := by decide +kernel
theorem dX7_kindsOf_6 : decode cX7_kindsOf 6 = .ok (.iload_n 1, 1) := by decide +kernel
theorem dX7_kindsOf_7 : decode cX7_kindsOf 7 = .ok (.invokevirtual 311, 3) := by decide +kernel
theorem dX7_kindsOf_10 : decode cX7_kindsOf 10 = .ok (.ireturn, 1) := by decide +kernel
theorem dX7_worstBy_0 : decode cX7_worstBy 0 = .ok (.iconst 0, 1) := by decide +kernel
theorem dX7_worstBy_1 : decode cX7_worstBy 1 = .ok (.istore_n 3, 1) := by decide +kernel
theorem dX7_worstBy_2 : decode cX7_worstBy 2 = .ok (.iconst 1, 1) := by decide +kernel
theorem dX7_worstBy_3 : decode cX7_worstBy 3 = .ok (.istore 4, 2) := by decide +kernel
theorem dX7_worstBy_5 : decode cX7_worstBy 5 = .ok (.iload 4, 2) := by decide +kernel
theorem dX7_worstBy_7 : decode cX7_worstBy 7 = .ok (.iconst 4, 1) := by decide +kernel
theorem dX7_worstBy_8 : decode cX7_worstBy 8 = .ok (.if_icmp .ge 102, 3) := by decide +kernel
theorem dX7_worstBy_11 : decode cX7_worstBy 11 = .ok (.iconst 0, 1) := by decide +kernel
theorem dX7_worstBy_12 : decode cX7_worstBy 12 = .ok (.istore 5, 2) := by decide +kernel
theorem dX7_worstBy_14 : decode cX7_worstBy 14 = .ok (.iconst 1, 1) := by decide +kernel
theorem dX7_worstBy_15 : decode cX7_worstBy 15 = .ok (.istore 6, 2) := by decide +kernel
theorem dX7_worstBy_17 : decode cX7_worstBy 17 = .ok (.iload 6, 2) := by decide +kernel
theorem dX7_worstBy_19 : decode cX7_worstBy 19 = .ok (.iconst 4, 1) := by decide +kernel
theorem dX7_worstBy_20 : decode cX7_worstBy 20 = .ok (.if_icmp .ge 71, 3) := by decide +kernel
theorem dX7_worstBy_23 : decode cX7_worstBy 23 = .ok (.iload_n 1, 1) := by decide +kernel
theorem dX7_worstBy_24 : decode cX7_worstBy 24 = .ok (.iload 4, 2) := by decide +kernel
theorem dX7_worstBy_26 : decode cX7_worstBy 26 = .ok (.ishr, 1) := by decide +kernel
theorem dX7_worstBy_27 : decode cX7_worstBy 27 = .ok (.iload_n 1, 1) := by decide +kernel
theorem dX7_worstBy_28 : decode cX7_worstBy 28 = .ok (.iload 6, 2) := by decide +kernel
theorem dX7_worstBy_30 : decode cX7_worstBy 30 = .ok (.ishr, 1) := by decide +kernel
theorem dX7_worstBy_31 : decode cX7_worstBy 31 = .ok (.iand, 1) := by decide +kernel
theorem dX7_worstBy_32 : decode cX7_worstBy 32 = .ok (.iconst 1, 1) := by decide +kernel
theorem dX7_worstBy_33 : decode cX7_worstBy 33 = .ok (.iand, 1) := by decide +kernel
theorem dX7_worstBy_34 : decode cX7_worstBy 34 = .ok (.iconst 1, 1) := by decide +kernel
theorem dX7_worstBy_35 : decode cX7_worstBy 35 = .ok (.if_icmp .ne 7, 3) := by decide +kernel
theorem dX7_worstBy_38 : decode cX7_worstBy 38 = .ok (.iconst 1, 1) := by decide +kernel
theorem dX7_worstBy_39 : decode cX7_worstBy 39 = .ok (.goto 4, 3) := by decide +kernel
theorem dX7_worstBy_42 : decode cX7_worstBy 42 = .ok (.iconst 0, 1) := by decide +kernel
theorem dX7_worstBy_43 : decode cX7_worstBy 43 = .ok (.istore 7, 2) := by decide +kernel
theorem dX7_worstBy_45 : decode cX7_worstBy 45 = .ok (.iload 5, 2) := by decide +kernel
theorem dX7_worstBy_47 : decode cX7_worstBy 47 = .ok (.iload 7, 2) := by decide +kernel
theorem dX7_worstBy_49 : decode cX7_worstBy 49 = .ok (.ifCond .eq 32, 3) := by decide +kernel
theorem dX7_worstBy_52 : decode cX7_worstBy 52 = .ok (.aload_n 0, 1) := by decide +kernel
theorem dX7_worstBy_53 : decode cX7_worstBy 53 = .ok (.getfield 90, 3) := by decide +kernel
theorem dX7_worstBy_56 : decode cX7_worstBy 56 = .ok (.iconst 4, 1) := by decide +kernel
theorem dX7_worstBy_57 : decode cX7_worstBy 57 = .ok (.iload 4, 2) := by decide +kernel
theorem dX7_worstBy_59 : decode cX7_worstBy 59 = .ok (.imul, 1) := by decide +kernel
theorem dX7_worstBy_60 : decode cX7_worstBy 60 = .ok (.iload_n 2, 1) := by decide +kernel
theorem dX7_worstBy_61 : decode cX7_worstBy 61 = .ok (.iadd, 1) := by decide +kernel
theorem dX7_worstBy_62 : decode cX7_worstBy 62 = .ok (.iaload, 1) := by decide +kernel
theorem dX7_worstBy_63 : decode cX7_worstBy 63 = .ok (.aload_n 0, 1) := by decide +kernel
theorem dX7_worstBy_64 : decode cX7_worstBy 64 = .ok (.getfield 90, 3) := by decide +kernel
theorem dX7_worstBy_67 : decode cX7_worstBy 67 = .ok (.iconst 4, 1) := by decide +kernel
theorem dX7_worstBy_68 : decode cX7_worstBy 68 = .ok (.iload 6, 2) := by decide +kernel
theorem dX7_worstBy_70 : decode cX7_worstBy 70 = .ok (.imul, 1) := by decide +kernel
theorem dX7_worstBy_71 : decode cX7_worstBy 71 = .ok (.iload_n 2, 1) := by decide +kernel
theorem dX7_worstBy_72 : decode cX7_worstBy 72 = .ok (.iadd, 1) := by decide +kernel
theorem dX7_worstBy_73 : decode cX7_worstBy 73 = .ok (.iaload, 1) := by decide +kernel
theorem dX7_worstBy_74 : decode cX7_worstBy 74 = .ok (.if_icmp .ne 7, 3) := by decide +kernel
theorem dX7_worstBy_77 : decode cX7_worstBy 77 = .ok (.iconst 1, 1) := by decide +kernel
theorem dX7_worstBy_78 : decode cX7_worstBy 78 = .ok (.goto 4, 3) := by decide +kernel
theorem dX7_worstBy_81 : decode cX7_worstBy 81 = .ok (.iconst 0, 1) := by decide +kernel
theorem dX7_worstBy_82 : decode cX7_worstBy 82 = .ok (.iadd, 1) := by decide +kernel
theorem dX7_worstBy_83 : decode cX7_worstBy 83 = .ok (.istore 5, 2) := by decide +kernel
theorem dX7_worstBy_85 : decode cX7_worstBy 85 = .ok (.iinc 6 1, 3) := by decide +kernel
theorem dX7_worstBy_88 : decode cX7_worstBy 88 = .ok (.goto (-71), 3) := by decide +kernel
theorem dX7_worstBy_91 : decode cX7_worstBy 91 = .ok (.iload 5, 2) := by decide +kernel
theorem dX7_worstBy_93 : decode cX7_worstBy 93 = .ok (.iload_n 3, 1) := by decide +kernel
theorem dX7_worstBy_94 : decode cX7_worstBy 94 = .ok (.if_icmp .le 8, 3) := by decide +kernel
theorem dX7_worstBy_97 : decode cX7_worstBy 97 = .ok (.iload 5, 2) := by decide +kernel
theorem dX7_worstBy_99 : decode cX7_worstBy 99 = .ok (.goto 4, 3) := by decide +kernel
theorem dX7_worstBy_102 : decode cX7_worstBy 102 = .ok (.iload_n 3, 1) := by decide +kernel
theorem dX7_worstBy_103 : decode cX7_worstBy 103 = .ok (.istore_n 3, 1) := by decide +kernel
theorem dX7_worstBy_104 : decode cX7_worstBy 104 = .ok (.iinc 4 1, 3) := by decide +kernel
theorem dX7_worstBy_107 : decode cX7_worstBy 107 = .ok (.goto (-102), 3) := by decide +kernel
theorem dX7_worstBy_110 : decode cX7_worstBy 110 = .ok (.iload_n 3, 1) := by decide +kernel
theorem dX7_worstBy_111 : decode cX7_worstBy 111 = .ok (.ireturn, 1) := by decide +kernel
theorem dX7_askOf_0 : decode cX7_askOf 0 = .ok (.aload_n 0, 1) := by decide +kernel
theorem dX7_askOf_1 : decode cX7_askOf 1 = .ok (.iload_n 1, 1) := by decide +kernel
theorem dX7_askOf_2 : decode cX7_askOf 2 = .ok (.invokevirtual 308, 3) := by decide +kernel
theorem dX7_askOf_5 : decode cX7_askOf 5 = .ok (.aload_n 0, 1) := by decide +kernel
theorem dX7_askOf_6 : decode cX7_askOf 6 = .ok (.iload_n 1, 1) := by decide +kernel
theorem dX7_askOf_7 : decode cX7_askOf 7 = .ok (.invokevirtual 311, 3) := by decide +kernel
theorem dX7_askOf_10 : decode cX7_askOf 10 = .ok (.istore_n 2, 1) := by decide +kernel
theorem dX7_askOf_11 : decode cX7_askOf 11 = .ok (.iconst (-1), 1) := by decide +kernel
theorem dX7_askOf_12 : decode cX7_askOf 12 = .ok (.istore_n 3, 1) := by decide +kernel
theorem dX7_askOf_13 : decode cX7_askOf 13 = .ok (.ldc_w 314, 3) := by decide +kernel
theorem dX7_askOf_16 : decode cX7_askOf 16 = .ok (.istore 4, 2) := by decide +kernel
theorem dX7_askOf_18 : decode cX7_askOf 18 = .ok (.iconst 0, 1) := by decide +kernel
theorem dX7_askOf_19 : decode cX7_askOf 19 = .ok (.istore 5, 2) := by decide +kernel
theorem dX7_askOf_21 : decode cX7_askOf 21 = .ok (.iload 5, 2) := by decide +kernel
theorem dX7_askOf_23 : decode cX7_askOf 23 = .ok (.iconst 4, 1) := by decide +kernel
theorem dX7_askOf_24 : decode cX7_askOf 24 = .ok (.if_icmp .ge 52, 3) := by decide +kernel
theorem dX7_askOf_27 : decode cX7_askOf 27 = .ok (.iload_n 2, 1) := by decide +kernel
theorem dX7_askOf_28 : decode cX7_askOf 28 = .ok (.ifCond .eq 48, 3) := by decide +kernel
theorem dX7_askOf_31 : decode cX7_askOf 31 = .ok (.aload_n 0, 1) := by decide +kernel
theorem dX7_askOf_32 : decode cX7_askOf 32 = .ok (.iload_n 2, 1) := by decide +kernel
theorem dX7_askOf_33 : decode cX7_askOf 33 = .ok (.iload 5, 2) := by decide +kernel
theorem dX7_askOf_35 : decode cX7_askOf 35 = .ok (.invokevirtual 315, 3) := by decide +kernel
theorem dX7_askOf_38 : decode cX7_askOf 38 = .ok (.istore 6, 2) := by decide +kernel
theorem dX7_askOf_40 : decode cX7_askOf 40 = .ok (.iload 6, 2) := by decide +kernel
theorem dX7_askOf_42 : decode cX7_askOf 42 = .ok (.iload 4, 2) := by decide +kernel
theorem dX7_askOf_44 : decode cX7_askOf 44 = .ok (.if_icmp .ge 8, 3) := by decide +kernel
theorem dX7_askOf_47 : decode cX7_askOf 47 = .ok (.iload 5, 2) := by decide +kernel
theorem dX7_askOf_49 : decode cX7_askOf 49 = .ok (.goto 4, 3) := by decide +kernel
theorem dX7_askOf_52 : decode cX7_askOf 52 = .ok (.iload_n 3, 1) := by decide +kernel
theorem dX7_askOf_53 : decode cX7_askOf 53 = .ok (.istore_n 3, 1) := by decide +kernel
theorem dX7_askOf_54 : decode cX7_askOf 54 = .ok (.iload 6, 2) := by decide +kernel
theorem dX7_askOf_56 : decode cX7_askOf 56 = .ok (.iload 4, 2) := by decide +kernel
theorem dX7_askOf_58 : decode cX7_askOf 58 = .ok (.if_icmp .ge 8, 3) := by decide +kernel
theorem dX7_askOf_61 : decode cX7_askOf 61 = .ok (.iload 6, 2) := by decide +kernel
theorem dX7_askOf_63 : decode cX7_askOf 63 = .ok (.goto 5, 3) := by decide +kernel
theorem dX7_askOf_66 : decode cX7_askOf 66 = .ok (.iload 4, 2) := by decide +kernel
theorem dX7_askOf_68 : decode cX7_askOf 68 = .ok (.istore 4, 2) := by decide +kernel
theorem dX7_askOf_70 : decode cX7_askOf 70 = .ok (.iinc 5 1, 3) := by decide +kernel
theorem dX7_askOf_73 : decode cX7_askOf 73 = .ok (.goto (-52), 3) := by decide +kernel
theorem dX7_askOf_76 : decode cX7_askOf 76 = .ok (.iload_n 3, 1) := by decide +kernel
theorem dX7_askOf_77 : decode cX7_askOf 77 = .ok (.ireturn, 1) := by decide +kernel
theorem dX7_draw_0 : decode cX7_draw 0 = .ok (.aload_n 0, 1) := by decide +kernel
theorem dX7_draw_1 : decode cX7_draw 1 = .ok (.ldc2_w 318, 3) := by decide +kernel
theorem dX7_draw_4 : decode cX7_draw 4 = .ok (.aload_n 0, 1) := by decide +kernel
theorem dX7_draw_5 : decode cX7_draw 5 = .ok (.getfield 320, 3) := by decide +kernel
theorem dX7_draw_8 : decode cX7_draw 8 = .ok (.lmul, 1) := by decide +kernel
theorem dX7_draw_9 : decode cX7_draw 9 = .ok (.ldc2_w 324, 3) := by decide +kernel
theorem dX7_draw_12 : decode cX7_draw 12 = .ok (.ladd, 1) := by decide +kernel
theorem dX7_draw_13 : decode cX7_draw 13 = .ok (.ldc2_w 326, 3) := by decide +kernel
theorem dX7_draw_16 : decode cX7_draw 16 = .ok (.land, 1) := by decide +kernel
theorem dX7_draw_17 : decode cX7_draw 17 = .ok (.putfield 320, 3) := by decide +kernel
theorem dX7_draw_20 : decode cX7_draw 20 = .ok (.aload_n 0, 1) := by decide +kernel
theorem dX7_draw_21 : decode cX7_draw 21 = .ok (.getfield 320, 3) := by decide +kernel
theorem dX7_draw_24 : decode cX7_draw 24 = .ok (.ldc2_w 328, 3) := by decide +kernel
theorem dX7_draw_27 : decode cX7_draw 27 = .ok (.ldiv, 1) := by decide +kernel
theorem dX7_draw_28 : decode cX7_draw 28 = .ok (.iload_n 1, 1) := by decide +kernel
theorem dX7_draw_29 : decode cX7_draw 29 = .ok (.i2l, 1) := by decide +kernel
theorem dX7_draw_30 : decode cX7_draw 30 = .ok (.lrem, 1) := by decide +kernel
theorem dX7_draw_31 : decode cX7_draw 31 = .ok (.l2i, 1) := by decide +kernel
theorem dX7_draw_32 : decode cX7_draw 32 = .ok (.ireturn, 1) := by decide +kernel
theorem dX7_runsNow_0 : decode cX7_runsNow 0 = .ok (.aload_n 0, 1) := by decide +kernel
theorem dX7_runsNow_1 : decode cX7_runsNow 1 = .ok (.iconst 2, 1) := by decide +kernel
theorem dX7_runsNow_2 : decode cX7_runsNow 2 = .ok (.iconst 0, 1) := by decide +kernel
theorem dX7_runsNow_3 : decode cX7_runsNow 3 = .ok (.invokevirtual 266, 3) := by decide +kernel
theorem dX7_runsNow_6 : decode cX7_runsNow 6 = .ok (.aload_n 0, 1) := by decide +kernel
theorem dX7_runsNow_7 : decode cX7_runsNow 7 = .ok (.iconst 2, 1) := by decide +kernel
theorem dX7_runsNow_8 : decode cX7_runsNow 8 = .ok (.putfield 105, 3) := by decide +kernel
theorem dX7_runsNow_11 : decode cX7_runsNow 11 = .ok (.aload_n 0, 1) := by decide +kernel
theorem dX7_runsNow_12 : decode cX7_runsNow 12 = .ok (.iload_n 2, 1) := by decide +kernel
theorem dX7_runsNow_13 : decode cX7_runsNow 13 = .ok (.i2l, 1) := by decide +kernel
theorem dX7_runsNow_14 : decode cX7_runsNow 14 = .ok (.putfield 320, 3) := by decide +kernel
theorem dX7_runsNow_17 : decode cX7_runsNow 17 = .ok (.iconst 0, 1) := by decide +kernel
theorem dX7_runsNow_18 : decode cX7_runsNow 18 = .ok (.istore 4, 2) := by decide +kernel
theorem dX7_runsNow_20 : decode cX7_runsNow 20 = .ok (.aload_n 0, 1) := by decide +kernel
theorem dX7_runsNow_21 : decode cX7_runsNow 21 = .ok (.invokevirtual 254, 3) := by decide +kernel
theorem dX7_runsNow_24 : decode cX7_runsNow 24 = .ok (.istore 5, 2) := by decide +kernel
theorem dX7_runsNow_26 : decode cX7_runsNow 26 = .ok (.aload_n 0, 1) := by decide +kernel
theorem dX7_runsNow_27 : decode cX7_runsNow 27 = .ok (.invokevirtual 248, 3) := by decide +kernel
theorem dX7_runsNow_30 : decode cX7_runsNow 30 = .ok (.istore 6, 2) := by decide +kernel
theorem dX7_runsNow_32 : decode cX7_runsNow 32 = .ok (.iload 4, 2) := by decide +kernel
theorem dX7_runsNow_34 : decode cX7_runsNow 34 = .ok (.iload_n 1, 1) := by decide +kernel
theorem dX7_runsNow_35 : decode cX7_runsNow 35 = .ok (.if_icmp .ge 55, 3) := by decide +kernel
theorem dX7_runsNow_38 : decode cX7_runsNow 38 = .ok (.iload 6, 2) := by decide +kernel
theorem dX7_runsNow_40 : decode cX7_runsNow 40 = .ok (.ifCond .le 50, 3) := by decide +kernel
theorem dX7_runsNow_43 : decode cX7_runsNow 43 = .ok (.aload_n 0, 1) := by decide +kernel
theorem dX7_runsNow_44 : decode cX7_runsNow 44 = .ok (.aload_n 0, 1) := by decide +kernel
theorem dX7_runsNow_45 : decode cX7_runsNow 45 = .ok (.aload_n 0, 1) := by decide +kernel
theorem dX7_runsNow_46 : decode cX7_runsNow 46 = .ok (.iload 6, 2) := by decide +kernel
theorem dX7_runsNow_48 : decode cX7_runsNow 48 = .ok (.invokevirtual 330, 3) := by decide +kernel
theorem dX7_runsNow_51 : decode cX7_runsNow 51 = .ok (.invokevirtual 251, 3) := by decide +kernel
theorem dX7_runsNow_54 : decode cX7_runsNow 54 = .ok (.invokevirtual 260, 3) := by decide +kernel
theorem dX7_runsNow_57 : decode cX7_runsNow 57 = .ok (.pop, 1) := by decide +kernel
theorem dX7_runsNow_58 : decode cX7_runsNow 58 = .ok (.iinc 4 1, 3) := by decide +kernel
theorem dX7_runsNow_61 : decode cX7_runsNow 61 = .ok (.aload_n 0, 1) := by decide +kernel
theorem dX7_runsNow_62 : decode cX7_runsNow 62 = .ok (.invokevirtual 254, 3) := by decide +kernel
theorem dX7_runsNow_65 : decode cX7_runsNow 65 = .ok (.iload 5, 2) := by decide +kernel
theorem dX7_runsNow_67 : decode cX7_runsNow 67 = .ok (.if_icmp .le 10, 3) := by decide +kernel
theorem dX7_runsNow_70 : decode cX7_runsNow 70 = .ok (.aload_n 0, 1) := by decide +kernel
theorem dX7_runsNow_71 : decode cX7_runsNow 71 = .ok (.invokevirtual 254, 3) := by decide +kernel
theorem dX7_runsNow_74 : decode cX7_runsNow 74 = .ok (.goto 5, 3) := by decide +kernel
theorem dX7_runsNow_77 : decode cX7_runsNow 77 = .ok (.iload 5, 2) := by decide +kernel
theorem dX7_runsNow_79 : decode cX7_runsNow 79 = .ok (.istore 5, 2) := by decide +kernel
theorem dX7_runsNow_81 : decode cX7_runsNow 81 = .ok (.aload_n 0, 1) := by decide +kernel
theorem dX7_runsNow_82 : decode cX7_runsNow 82 = .ok (.invokevirtual 248, 3) := by decide +kernel
theorem dX7_runsNow_85 : decode cX7_runsNow 85 = .ok (.istore 6, 2) := by decide +kernel
theorem dX7_runsNow_87 : decode cX7_runsNow 87 = .ok (.goto (-55), 3) := by decide +kernel
theorem dX7_runsNow_90 : decode cX7_runsNow 90 = .ok (.aload_n 0, 1) := by decide +kernel
theorem dX7_runsNow_91 : decode cX7_runsNow 91 = .ok (.iconst 0, 1) := by decide +kernel
theorem dX7_runsNow_92 : decode cX7_runsNow 92 = .ok (.putfield 105, 3) := by decide +kernel
theorem dX7_runsNow_95 : decode cX7_runsNow 95 = .ok (.iload_n 3, 1) := by decide +kernel
theorem dX7_runsNow_96 : decode cX7_runsNow 96 = .ok (.ifCond .ne 8, 3) := by decide +kernel
theorem dX7_runsNow_99 : decode cX7_runsNow 99 = .ok (.iload 4, 2) := by decide +kernel
theorem dX7_runsNow_101 : decode cX7_runsNow 101 = .ok (.goto 18, 3) := by decide +kernel
theorem dX7_runsNow_104 : decode cX7_runsNow 104 = .ok (.iload_n 3, 1) := by decide +kernel
theorem dX7_runsNow_105 : decode cX7_runsNow 105 = .ok (.iconst 1, 1) := by decide +kernel
theorem dX7_runsNow_106 : decode cX7_runsNow 106 = .ok (.if_icmp .ne 8, 3) := by decide +kernel
theorem dX7_runsNow_109 : decode cX7_runsNow 109 = .ok (.iload 5, 2) := by decide +kernel
theorem dX7_runsNow_111 : decode cX7_runsNow 111 = .ok (.goto 8, 3) := by decide +kernel
theorem dX7_runsNow_114 : decode cX7_runsNow 114 = .ok (.aload_n 0, 1) := by decide +kernel
theorem dX7_runsNow_115 : decode cX7_runsNow 115 = .ok (.getfield 320, 3) := by decide +kernel
theorem dX7_runsNow_118 : decode cX7_runsNow 118 = .ok (.l2i, 1) := by decide +kernel
theorem dX7_runsNow_119 : decode cX7_runsNow 119 = .ok (.ireturn, 1) := by decide +kernel
theorem dX7_runs_0 : decode cX7_runs 0 = .ok (.iload_n 1, 1) := by decide +kernel
theorem dX7_runs_1 : decode cX7_runs 1 = .ok (.iconst 1, 1) := by decide +kernel
theorem dX7_runs_2 : decode cX7_runs 2 = .ok (.bipush 60, 2) := by decide +kernel
theorem dX7_runs_4 : decode cX7_runs 4 = .ok (.invokestatic 112, 3) := by decide +kernel
theorem dX7_runs_7 : decode cX7_runs 7 = .ok (.ifCond .eq 16, 3) := by decide +kernel
theorem dX7_runs_10 : decode cX7_runs 10 = .ok (.iload_n 2, 1) := by decide +kernel
theorem dX7_runs_11 : decode cX7_runs 11 = .ok (.ifCond .lt 12, 3) := by decide +kernel
theorem dX7_runs_14 : decode cX7_runs 14 = .ok (.iload_n 3, 1) := by decide +kernel
theorem dX7_runs_15 : decode cX7_runs 15 = .ok (.iconst 0, 1) := by decide +kernel
theorem dX7_runs_16 : decode cX7_runs 16 = .ok (.iconst 2, 1) := by decide +kernel
theorem dX7_runs_17 : decode cX7_runs 17 = .ok (.invokestatic 112, 3) := by decide +kernel
theorem dX7_runs_20 : decode cX7_runs 20 = .ok (.ifCond .ne 6, 3) := by decide +kernel
theorem dX7_runs_23 : decode cX7_runs 23 = .ok (.bipush (-102), 2) := by decide +kernel
theorem dX7_runs_25 : decode cX7_runs 25 = .ok (.ireturn, 1) := by decide +kernel
theorem dX7_runs_26 : decode cX7_runs 26 = .ok (.aload_n 0, 1) := by decide +kernel
theorem dX7_runs_27 : decode cX7_runs 27 = .ok (.invokevirtual 244, 3) := by decide +kernel
theorem dX7_runs_30 : decode cX7_runs 30 = .ok (.ifCond .eq 13, 3) := by decide +kernel
theorem dX7_runs_33 : decode cX7_runs 33 = .ok (.aload_n 0, 1) := by decide +kernel
theorem dX7_runs_34 : decode cX7_runs 34 = .ok (.iload_n 1, 1) := by decide +kernel
theorem dX7_runs_35 : decode cX7_runs 35 = .ok (.iload_n 2, 1) := by decide +kernel
theorem dX7_runs_36 : decode cX7_runs 36 = .ok (.iload_n 3, 1) := by decide +kernel
theorem dX7_runs_37 : decode cX7_runs 37 = .ok (.invokevirtual 333, 3) := by decide +kernel
theorem dX7_runs_40 : decode cX7_runs 40 = .ok (.goto 5, 3) := by decide +kernel
theorem dX7_runs_43 : decode cX7_runs 43 = .ok (.bipush (-103), 2) := by decide +kernel
theorem dX7_runs_45 : decode cX7_runs 45 = .ok (.ireturn, 1) := by decide +kernel
theorem dX7_doneAll_0 : decode cX7_doneAll 0 = .ok (.aload_n 0, 1) := by decide +kernel
theorem dX7_doneAll_1 : decode cX7_doneAll 1 = .ok (.getfield 22, 3) := by decide +kernel
theorem dX7_doneAll_4 : decode cX7_doneAll 4 = .ok (.iconst 1, 1) := by decide +kernel
theorem dX7_doneAll_5 : decode cX7_doneAll 5 = .ok (.iaload, 1) := by decide +kernel
theorem dX7_doneAll_6 : decode cX7_doneAll 6 = .ok (.aload_n 0, 1) := by decide +kernel
theorem dX7_doneAll_7 : decode cX7_doneAll 7 = .ok (.getfield 22, 3) := by decide +kernel
theorem dX7_doneAll_10 : decode cX7_doneAll 10 = .ok (.iconst 2, 1) := by decide +kernel
theorem dX7_doneAll_11 : decode cX7_doneAll 11 = .ok (.iaload, 1) := by decide +kernel
theorem dX7_doneAll_12 : decode cX7_doneAll 12 = .ok (.iadd, 1) := by decide +kernel
theorem dX7_doneAll_13 : decode cX7_doneAll 13 = .ok (.aload_n 0, 1) := by decide +kernel
theorem dX7_doneAll_14 : decode cX7_doneAll 14 = .ok (.getfield 22, 3) := by decide +kernel
theorem dX7_doneAll_17 : decode cX7_doneAll 17 = .ok (.iconst 3, 1) := by decide +kernel
theorem dX7_doneAll_18 : decode cX7_doneAll 18 = .ok (.iaload, 1) := by decide +kernel
theorem dX7_doneAll_19 : decode cX7_doneAll 19 = .ok (.iadd, 1) := by decide +kernel
theorem dX7_doneAll_20 : decode cX7_doneAll 20 = .ok (.ireturn, 1) := by decide +kernel
theorem dX7_image_0 : decode cX7_image 0 = .ok (.aload_n 0, 1) := by decide +kernel
theorem dX7_image_1 : decode cX7_image 1 = .ok (.invokevirtual 244, 3) := by decide +kernel
theorem dX7_image_4 : decode cX7_image 4 = .ok (.ifCond .ne 6, 3) := by decide +kernel
theorem dX7_image_7 : decode cX7_image 7 = .ok (.bipush (-103), 2) := by decide +kernel
theorem dX7_image_9 : decode cX7_image 9 = .ok (.ireturn, 1) := by decide +kernel
theorem dX7_image_10 : decode cX7_image 10 = .ok (.aload_n 0, 1) := by decide +kernel
theorem dX7_image_11 : decode cX7_image 11 = .ok (.iconst 1, 1) := by decide +kernel
theorem dX7_image_12 : decode cX7_image 12 = .ok (.putfield 302, 3) := by decide +kernel
theorem dX7_image_15 : decode cX7_image 15 = .ok (.aload_n 0, 1) := by decide +kernel
theorem dX7_image_16 : decode cX7_image 16 = .ok (.aload_n 0, 1) := by decide +kernel
theorem dX7_image_17 : decode cX7_image 17 = .ok (.getfield 222, 3) := by decide +kernel
theorem dX7_image_20 : decode cX7_image 20 = .ok (.putfield 305, 3) := by decide +kernel
theorem dX7_image_23 : decode cX7_image 23 = .ok (.aload_n 0, 1) := by decide +kernel
theorem dX7_image_24 : decode cX7_image 24 = .ok (.iconst 1, 1) := by decide +kernel
theorem dX7_image_25 : decode cX7_image 25 = .ok (.iconst 0, 1) := by decide +kernel
theorem dX7_image_26 : decode cX7_image 26 = .ok (.invokevirtual 266, 3) := by decide +kernel
theorem dX7_image_29 : decode cX7_image 29 = .ok (.iconst 0, 1) := by decide +kernel
theorem dX7_image_30 : decode cX7_image 30 = .ok (.istore_n 1, 1) := by decide +kernel
theorem dX7_image_31 : decode cX7_image 31 = .ok (.iload_n 1, 1) := by decide +kernel
theorem dX7_image_32 : decode cX7_image 32 = .ok (.iconst 4, 1) := by decide +kernel
theorem dX7_image_33 : decode cX7_image 33 = .ok (.if_icmp .ge 21, 3) := by decide +kernel
theorem dX7_image_36 : decode cX7_image 36 = .ok (.aload_n 0, 1) := by decide +kernel
theorem dX7_image_37 : decode cX7_image 37 = .ok (.getfield 93, 3) := by decide +kernel
theorem dX7_image_40 : decode cX7_image 40 = .ok (.iload_n 1, 1) := by decide +kernel
theorem dX7_image_41 : decode cX7_image 41 = .ok (.aload_n 0, 1) := by decide +kernel
theorem dX7_image_42 : decode cX7_image 42 = .ok (.getfield 22, 3) := by decide +kernel
theorem dX7_image_45 : decode cX7_image 45 = .ok (.iload_n 1, 1) := by decide +kernel
theorem dX7_image_46 : decode cX7_image 46 = .ok (.iaload, 1) := by decide +kernel
theorem dX7_image_47 : decode cX7_image 47 = .ok (.iastore, 1) := by decide +kernel
theorem dX7_image_48 : decode cX7_image 48 = .ok (.iinc 1 1, 3) := by decide +kernel
theorem dX7_image_51 : decode cX7_image 51 = .ok (.goto (-20), 3) := by decide +kernel
theorem dX7_image_54 : decode cX7_image 54 = .ok (.aload_n 0, 1) := by decide +kernel
theorem dX7_image_55 : decode cX7_image 55 = .ok (.aload_n 0, 1) := by decide +kernel
theorem dX7_image_56 : decode cX7_image 56 = .ok (.getfield 225, 3) := by decide +kernel
theorem dX7_image_59 : decode cX7_image 59 = .ok (.putfield 337, 3) := by decide +kernel
theorem dX7_image_62 : decode cX7_image 62 = .ok (.iconst 0, 1) := by decide +kernel
theorem dX7_image_63 : decode cX7_image 63 = .ok (.istore_n 1, 1) := by decide +kernel
theorem dX7_image_64 : decode cX7_image 64 = .ok (.iload_n 1, 1) := by decide +kernel
theorem dX7_image_65 : decode cX7_image 65 = .ok (.bipush 6, 2) := by decide +kernel
theorem dX7_image_67 : decode cX7_image 67 = .ok (.if_icmp .ge 45, 3) := by decide +kernel
theorem dX7_image_70 : decode cX7_image 70 = .ok (.aload_n 0, 1) := by decide +kernel
theorem dX7_image_71 : decode cX7_image 71 = .ok (.getfield 96, 3) := by decide +kernel
theorem dX7_image_74 : decode cX7_image 74 = .ok (.iload_n 1, 1) := by decide +kernel
theorem dX7_image_75 : decode cX7_image 75 = .ok (.aload_n 0, 1) := by decide +kernel
theorem dX7_image_76 : decode cX7_image 76 = .ok (.getfield 25, 3) := by decide +kernel
theorem dX7_image_79 : decode cX7_image 79 = .ok (.iload_n 1, 1) := by decide +kernel
theorem dX7_image_80 : decode cX7_image 80 = .ok (.iaload, 1) := by decide +kernel
theorem dX7_image_81 : decode cX7_image 81 = .ok (.iastore, 1) := by decide +kernel
theorem dX7_image_82 : decode cX7_image 82 = .ok (.aload_n 0, 1) := by decide +kernel
theorem dX7_image_83 : decode cX7_image 83 = .ok (.getfield 99, 3) := by decide +kernel
theorem dX7_image_86 : decode cX7_image 86 = .ok (.iload_n 1, 1) := by decide +kernel
theorem dX7_image_87 : decode cX7_image 87 = .ok (.aload_n 0, 1) := by decide +kernel
theorem dX7_image_88 : decode cX7_image 88 = .ok (.getfield 28, 3) := by decide +kernel
theorem dX7_image_91 : decode cX7_image 91 = .ok (.iload_n 1, 1) := by decide +kernel
theorem dX7_image_92 : decode cX7_image 92 = .ok (.iaload, 1) := by decide +kernel
theorem dX7_image_93 : decode cX7_image 93 = .ok (.iastore, 1) := by decide +kernel
theorem dX7_image_94 : decode cX7_image 94 = .ok (.aload_n 0, 1) := by decide +kernel
theorem dX7_image_95 : decode cX7_image 95 = .ok (.getfield 102, 3) := by decide +kernel
theorem dX7_image_98 : decode cX7_image 98 = .ok (.iload_n 1, 1) := by decide +kernel
theorem dX7_image_99 : decode cX7_image 99 = .ok (.aload_n 0, 1) := by decide +kernel
theorem dX7_image_100 : decode cX7_image 100 = .ok (.getfield 31, 3) := by decide +kernel
theorem dX7_image_103 : decode cX7_image 103 = .ok (.iload_n 1, 1) := by decide +kernel
theorem dX7_image_104 : decode cX7_image 104 = .ok (.iaload, 1) := by decide +kernel
theorem dX7_image_105 : decode cX7_image 105 = .ok (.iastore, 1) := by decide +kernel
theorem dX7_image_106 : decode cX7_image 106 = .ok (.iinc 1 1, 3) := by decide +kernel
theorem dX7_image_109 : decode cX7_image 109 = .ok (.goto (-45), 3) := by decide +kernel
theorem dX7_image_112 : decode cX7_image 112 = .ok (.aload_n 0, 1) := by decide +kernel
theorem dX7_image_113 : decode cX7_image 113 = .ok (.invokevirtual 340, 3) := by decide +kernel
theorem dX7_image_116 : decode cX7_image 116 = .ok (.ireturn, 1) := by decide +kernel
theorem dX7_restore_0 : decode cX7_restore 0 = .ok (.aload_n 0, 1) := by decide +kernel
theorem dX7_restore_1 : decode cX7_restore 1 = .ok (.getfield 302, 3) := by decide +kernel
theorem dX7_restore_4 : decode cX7_restore 4 = .ok (.ifCond .eq 14, 3) := by decide +kernel
theorem dX7_restore_7 : decode cX7_restore 7 = .ok (.aload_n 0, 1) := by decide +kernel
theorem dX7_restore_8 : decode cX7_restore 8 = .ok (.getfield 305, 3) := by decide +kernel
theorem dX7_restore_11 : decode cX7_restore 11 = .ok (.aload_n 0, 1) := by decide +kernel
theorem dX7_restore_12 : decode cX7_restore 12 = .ok (.getfield 222, 3) := by decide +kernel
theorem dX7_restore_15 : decode cX7_restore 15 = .ok (.if_icmp .eq 6, 3) := by decide +kernel
theorem dX7_restore_18 : decode cX7_restore 18 = .ok (.bipush (-103), 2) := by decide +kernel
theorem dX7_restore_20 : decode cX7_restore 20 = .ok (.ireturn, 1) := by decide +kernel
theorem dX7_restore_21 : decode cX7_restore 21 = .ok (.aload_n 0, 1) := by decide +kernel
theorem dX7_restore_22 : decode cX7_restore 22 = .ok (.iconst 0, 1) := by decide +kernel
theorem dX7_restore_23 : decode cX7_restore 23 = .ok (.iconst 1, 1) := by decide +kernel
theorem dX7_restore_24 : decode cX7_restore 24 = .ok (.invokevirtual 266, 3) := by decide +kernel
theorem dX7_restore_27 : decode cX7_restore 27 = .ok (.iconst 0, 1) := by decide +kernel
theorem dX7_restore_28 : decode cX7_restore 28 = .ok (.istore_n 1, 1) := by decide +kernel
theorem dX7_restore_29 : decode cX7_restore 29 = .ok (.iload_n 1, 1) := by decide +kernel
theorem dX7_restore_30 : decode cX7_restore 30 = .ok (.iconst 4, 1) := by decide +kernel
theorem dX7_restore_31 : decode cX7_restore 31 = .ok (.if_icmp .ge 21, 3) := by decide +kernel
theorem dX7_restore_34 : decode cX7_restore 34 = .ok (.aload_n 0, 1) := by decide +kernel
theorem dX7_restore_35 : decode cX7_restore 35 = .ok (.getfield 22, 3) := by decide +kernel
theorem dX7_restore_38 : decode cX7_restore 38 = .ok (.iload_n 1, 1) := by decide +kernel
theorem dX7_restore_39 : decode cX7_restore 39 = .ok (.aload_n 0, 1) := by decide +kernel
theorem dX7_restore_40 : decode cX7_restore 40 = .ok (.getfield 93, 3) := by decide +kernel
theorem dX7_restore_43 : decode cX7_restore 43 = .ok (.iload_n 1, 1) := by decide +kernel
theorem dX7_restore_44 : decode cX7_restore 44 = .ok (.iaload, 1) := by decide +kernel
theorem dX7_restore_45 : decode cX7_restore 45 = .ok (.iastore, 1) := by decide +kernel
theorem dX7_restore_46 : decode cX7_restore 46 = .ok (.iinc 1 1, 3) := by decide +kernel
theorem dX7_restore_49 : decode cX7_restore 49 = .ok (.goto (-20), 3) := by decide +kernel
theorem dX7_restore_52 : decode cX7_restore 52 = .ok (.aload_n 0, 1) := by decide +kernel
theorem dX7_restore_53 : decode cX7_restore 53 = .ok (.aload_n 0, 1) := by decide +kernel
theorem dX7_restore_54 : decode cX7_restore 54 = .ok (.getfield 337, 3) := by decide +kernel
theorem dX7_restore_57 : decode cX7_restore 57 = .ok (.putfield 225, 3) := by decide +kernel
theorem dX7_restore_60 : decode cX7_restore 60 = .ok (.iconst 0, 1) := by decide +kernel
theorem dX7_restore_61 : decode cX7_restore 61 = .ok (.istore_n 1, 1) := by decide +kernel
theorem dX7_restore_62 : decode cX7_restore 62 = .ok (.iload_n 1, 1) := by decide +kernel
theorem dX7_restore_63 : decode cX7_restore 63 = .ok (.bipush 6, 2) := by decide +kernel
theorem dX7_restore_65 : decode cX7_restore 65 = .ok (.if_icmp .ge 45, 3) := by decide +kernel
theorem dX7_restore_68 : decode cX7_restore 68 = .ok (.aload_n 0, 1) := by decide +kernel
theorem dX7_restore_69 : decode cX7_restore 69 = .ok (.getfield 25, 3) := by decide +kernel
theorem dX7_restore_72 : decode cX7_restore 72 = .ok (.iload_n 1, 1) := by decide +kernel
theorem dX7_restore_73 : decode cX7_restore 73 = .ok (.aload_n 0, 1) := by decide +kernel
theorem dX7_restore_74 : decode cX7_restore 74 = .ok (.getfield 96, 3) := by decide +kernel
theorem dX7_restore_77 : decode cX7_restore 77 = .ok (.iload_n 1, 1) := by decide +kernel
theorem dX7_restore_78 : decode cX7_restore 78 = .ok (.iaload, 1) := by decide +kernel
theorem dX7_restore_79 : decode cX7_restore 79 = .ok (.iastore, 1) := by decide +kernel
theorem dX7_restore_80 : decode cX7_restore 80 = .ok (.aload_n 0, 1) := by decide +kernel
theorem dX7_restore_81 : decode cX7_restore 81 = .ok (.getfield 28, 3) := by decide +kernel
theorem dX7_restore_84 : decode cX7_restore 84 = .ok (.iload_n 1, 1) := by decide +kernel
theorem dX7_restore_85 : decode cX7_restore 85 = .ok (.aload_n 0, 1) := by decide +kernel
theorem dX7_restore_86 : decode cX7_restore 86 = .ok (.getfield 99, 3) := by decide +kernel
theorem dX7_restore_89 : decode cX7_restore 89 = .ok (.iload_n 1, 1) := by decide +kernel
theorem dX7_restore_90 : decode cX7_restore 90 = .ok (.iaload, 1) := by decide +kernel
theorem dX7_restore_91 : decode cX7_restore 91 = .ok (.iastore, 1) := by decide +kernel
theorem dX7_restore_92 : decode cX7_restore 92 = .ok (.aload_n 0, 1) := by decide +kernel
theorem dX7_restore_93 : decode cX7_restore 93 = .ok (.getfield 31, 3) := by decide +kernel
theorem dX7_restore_96 : decode cX7_restore 96 = .ok (.iload_n 1, 1) := by decide +kernel
theorem dX7_restore_97 : decode cX7_restore 97 = .ok (.aload_n 0, 1) := by decide +kernel
theorem dX7_restore_98 : decode cX7_restore 98 = .ok (.getfield 102, 3) := by decide +kernel
theorem dX7_restore_101 : decode cX7_restore 101 = .ok (.iload_n 1, 1) := by decide +kernel
theorem dX7_restore_102 : decode cX7_restore 102 = .ok (.iaload, 1) := by decide +kernel
theorem dX7_restore_103 : decode cX7_restore 103 = .ok (.iastore, 1) := by decide +kernel
theorem dX7_restore_104 : decode cX7_restore 104 = .ok (.iinc 1 1, 3) := by decide +kernel
theorem dX7_restore_107 : decode cX7_restore 107 = .ok (.goto (-45), 3) := by decide +kernel
theorem dX7_restore_110 : decode cX7_restore 110 = .ok (.aload_n 0, 1) := by decide +kernel
theorem dX7_restore_111 : decode cX7_restore 111 = .ok (.invokevirtual 340, 3) := by decide +kernel
theorem dX7_restore_114 : decode cX7_restore 114 = .ok (.ireturn, 1) := by decide +kernel
theorem dX7_opens_0 : decode cX7_opens 0 = .ok (.iconst 0, 1) := by decide +kernel
theorem dX7_opens_1 : decode cX7_opens 1 = .ok (.istore_n 1, 1) := by decide +kernel
theorem dX7_opens_2 : decode cX7_opens 2 = .ok (.iconst 0, 1) := by decide +kernel
theorem dX7_opens_3 : decode cX7_opens 3 = .ok (.istore_n 2, 1) := by decide +kernel
theorem dX7_opens_4 : decode cX7_opens 4 = .ok (.iload_n 2, 1) := by decide +kernel
theorem dX7_opens_5 : decode cX7_opens 5 = .ok (.bipush 8, 2) := by decide +kernel
theorem dX7_opens_7 : decode cX7_opens 7 = .ok (.if_icmp .ge 25, 3) := by decide +kernel
theorem dX7_opens_10 : decode cX7_opens 10 = .ok (.iload_n 1, 1) := by decide +kernel
theorem dX7_opens_11 : decode cX7_opens 11 = .ok (.aload_n 0, 1) := by decide +kernel
theorem dX7_opens_12 : decode cX7_opens 12 = .ok (.iload_n 2, 1) := by decide +kernel
theorem dX7_opens_13 : decode cX7_opens 13 = .ok (.invokevirtual 241, 3) := by decide +kernel
theorem dX7_opens_16 : decode cX7_opens 16 = .ok (.ifCond .eq 7, 3) := by decide +kernel
theorem dX7_opens_19 : decode cX7_opens 19 = .ok (.iconst 1, 1) := by decide +kernel
theorem dX7_opens_20 : decode cX7_opens 20 = .ok (.goto 4, 3) := by decide +kernel
theorem dX7_opens_23 : decode cX7_opens 23 = .ok (.iconst 0, 1) := by decide +kernel
theorem dX7_opens_24 : decode cX7_opens 24 = .ok (.iadd, 1) := by decide +kernel
theorem dX7_opens_25 : decode cX7_opens 25 = .ok (.istore_n 1, 1) := by decide +kernel
theorem dX7_opens_26 : decode cX7_opens 26 = .ok (.iinc 2 1, 3) := by decide +kernel
theorem dX7_opens_29 : decode cX7_opens 29 = .ok (.goto (-25), 3) := by decide +kernel
theorem dX7_opens_32 : decode cX7_opens 32 = .ok (.iload_n 1, 1) := by decide +kernel
theorem dX7_opens_33 : decode cX7_opens 33 = .ok (.ireturn, 1) := by decide +kernel
theorem dX7_howMany_0 : decode cX7_howMany 0 = .ok (.aload_n 0, 1) := by decide +kernel
theorem dX7_howMany_1 : decode cX7_howMany 1 = .ok (.iconst 0, 1) := by decide +kernel
theorem dX7_howMany_2 : decode cX7_howMany 2 = .ok (.putfield 105, 3) := by decide +kernel
theorem dX7_howMany_5 : decode cX7_howMany 5 = .ok (.iload_n 1, 1) := by decide +kernel
theorem dX7_howMany_6 : decode cX7_howMany 6 = .ok (.tableswitch 134 0 14 #[74, 79, 79, 79, 79, 87, 92, 99, 104, 109, 109, 109, 119, 124, 129], 74) := by decide +kernel
theorem dX7_howMany_80 : decode cX7_howMany 80 = .ok (.aload_n 0, 1) := by decide +kernel
theorem dX7_howMany_81 : decode cX7_howMany 81 = .ok (.invokevirtual 254, 3) := by decide +kernel
theorem dX7_howMany_84 : decode cX7_howMany 84 = .ok (.ireturn, 1) := by decide +kernel
theorem dX7_howMany_85 : decode cX7_howMany 85 = .ok (.aload_n 0, 1) := by decide +kernel
theorem dX7_howMany_86 : decode cX7_howMany 86 = .ok (.iload_n 1, 1) := by decide +kernel
theorem dX7_howMany_87 : decode cX7_howMany 87 = .ok (.iconst 1, 1) := by decide +kernel
theorem dX7_howMany_88 : decode cX7_howMany 88 = .ok (.isub, 1) := by decide +kernel
theorem dX7_howMany_89 : decode cX7_howMany 89 = .ok (.invokevirtual 343, 3) := by decide +kernel
theorem dX7_howMany_92 : decode cX7_howMany 92 = .ok (.ireturn, 1) := by decide +kernel
theorem dX7_howMany_93 : decode cX7_howMany 93 = .ok (.aload_n 0, 1) := by decide +kernel
theorem dX7_howMany_94 : decode cX7_howMany 94 = .ok (.invokevirtual 346, 3) := by decide +kernel
theorem dX7_howMany_97 : decode cX7_howMany 97 = .ok (.ireturn, 1) := by decide +kernel
theorem dX7_howMany_98 : decode cX7_howMany 98 = .ok (.aload_n 0, 1) := by decide +kernel
theorem dX7_howMany_99 : decode cX7_howMany 99 = .ok (.getfield 19, 3) := by decide +kernel
theorem dX7_howMany_102 : decode cX7_howMany 102 = .ok (.iconst 0, 1) := by decide +kernel
theorem dX7_howMany_103 : decode cX7_howMany 103 = .ok (.iaload, 1) := by decide +kernel
theorem dX7_howMany_104 : decode cX7_howMany 104 = .ok (.ireturn, 1) := by decide +kernel
theorem dX7_howMany_105 : decode cX7_howMany 105 = .ok (.aload_n 0, 1) := by decide +kernel
theorem dX7_howMany_106 : decode cX7_howMany 106 = .ok (.invokevirtual 248, 3) := by decide +kernel
theorem dX7_howMany_109 : decode cX7_howMany 109 = .ok (.ireturn, 1) := by decide +kernel
theorem dX7_howMany_110 : decode cX7_howMany 110 = .ok (.aload_n 0, 1) := by decide +kernel
theorem dX7_howMany_111 : decode cX7_howMany 111 = .ok (.invokevirtual 340, 3) := by decide +kernel
theorem dX7_howMany_114 : decode cX7_howMany 114 = .ok (.ireturn, 1) := by decide +kernel
theorem dX7_howMany_115 : decode cX7_howMany 115 = .ok (.aload_n 0, 1) := by decide +kernel
theorem dX7_howMany_116 : decode cX7_howMany 116 = .ok (.getfield 22, 3) := by decide +kernel
theorem dX7_howMany_119 : decode cX7_howMany 119 = .ok (.iload_n 1, 1) := by decide +kernel
theorem dX7_howMany_120 : decode cX7_howMany 120 = .ok (.bipush 8, 2) := by decide +kernel
theorem dX7_howMany_122 : decode cX7_howMany 122 = .ok (.isub, 1) := by decide +kernel
theorem dX7_howMany_123 : decode cX7_howMany 123 = .ok (.iaload, 1) := by decide +kernel
theorem dX7_howMany_124 : decode cX7_howMany 124 = .ok (.ireturn, 1) := by decide +kernel
theorem dX7_howMany_125 : decode cX7_howMany 125 = .ok (.aload_n 0, 1) := by decide +kernel
theorem dX7_howMany_126 : decode cX7_howMany 126 = .ok (.getfield 225, 3) := by decide +kernel
theorem dX7_howMany_129 : decode cX7_howMany 129 = .ok (.ireturn, 1) := by decide +kernel
theorem dX7_howMany_130 : decode cX7_howMany 130 = .ok (.aload_n 0, 1) := by decide +kernel
theorem dX7_howMany_131 : decode cX7_howMany 131 = .ok (.getfield 169, 3) := by decide +kernel
theorem dX7_howMany_134 : decode cX7_howMany 134 = .ok (.ireturn, 1) := by decide +kernel
theorem dX7_howMany_135 : decode cX7_howMany 135 = .ok (.aload_n 0, 1) := by decide +kernel
theorem dX7_howMany_136 : decode cX7_howMany 136 = .ok (.getfield 222, 3) := by decide +kernel
theorem dX7_howMany_139 : decode cX7_howMany 139 = .ok (.ireturn, 1) := by decide +kernel
theorem dX7_howMany_140 : decode cX7_howMany 140 = .ok (.bipush (-102), 2) := by decide +kernel
theorem dX7_howMany_142 : decode cX7_howMany 142 = .ok (.ireturn, 1) := by decide +kernel
theorem dX7_count_0 : decode cX7_count 0 = .ok (.aload_n 0, 1) := by decide +kernel
theorem dX7_count_1 : decode cX7_count 1 = .ok (.iload_n 1, 1) := by decide +kernel
theorem dX7_count_2 : decode cX7_count 2 = .ok (.invokevirtual 349, 3) := by decide +kernel
theorem dX7_count_5 : decode cX7_count 5 = .ok (.ireturn, 1) := by decide +kernel
theorem dX7_mix_0 : decode cX7_mix 0 = .ok (.aload_n 0, 1) := by decide +kernel
theorem dX7_mix_1 : decode cX7_mix 1 = .ok (.ldc2_w 352, 3) := by decide +kernel
theorem dX7_mix_4 : decode cX7_mix 4 = .ok (.aload_n 0, 1) := by decide +kernel
theorem dX7_mix_5 : decode cX7_mix 5 = .ok (.getfield 354, 3) := by decide +kernel
theorem dX7_mix_8 : decode cX7_mix 8 = .ok (.lmul, 1) := by decide +kernel
theorem dX7_mix_9 : decode cX7_mix 9 = .ok (.lload_n 1, 1) := by decide +kernel
theorem dX7_mix_10 : decode cX7_mix 10 = .ok (.ladd, 1) := by decide +kernel
theorem dX7_mix_11 : decode cX7_mix 11 = .ok (.putfield 354, 3) := by decide +kernel
theorem dX7_mix_14 : decode cX7_mix 14 = .ok (.return_, 1) := by decide +kernel
theorem dX7_mixSigns_0 : decode cX7_mixSigns 0 = .ok (.iconst 0, 1) := by decide +kernel
theorem dX7_mixSigns_1 : decode cX7_mixSigns 1 = .ok (.istore_n 1, 1) := by decide +kernel
theorem dX7_mixSigns_2 : decode cX7_mixSigns 2 = .ok (.iload_n 1, 1) := by decide +kernel
theorem dX7_mixSigns_3 : decode cX7_mixSigns 3 = .ok (.aload_n 0, 1) := by decide +kernel
theorem dX7_mixSigns_4 : decode cX7_mixSigns 4 = .ok (.getfield 281, 3) := by decide +kernel
theorem dX7_mixSigns_7 : decode cX7_mixSigns 7 = .ok (.if_icmp .ge 27, 3) := by decide +kernel
theorem dX7_mixSigns_10 : decode cX7_mixSigns 10 = .ok (.iload_n 1, 1) := by decide +kernel
theorem dX7_mixSigns_11 : decode cX7_mixSigns 11 = .ok (.sipush 1000, 3) := by decide +kernel
theorem dX7_mixSigns_14 : decode cX7_mixSigns 14 = .ok (.if_icmp .ge 20, 3) := by decide +kernel
theorem dX7_mixSigns_17 : decode cX7_mixSigns 17 = .ok (.aload_n 0, 1) := by decide +kernel
theorem dX7_mixSigns_18 : decode cX7_mixSigns 18 = .ok (.aload_n 0, 1) := by decide +kernel
theorem dX7_mixSigns_19 : decode cX7_mixSigns 19 = .ok (.getfield 78, 3) := by decide +kernel
theorem dX7_mixSigns_22 : decode cX7_mixSigns 22 = .ok (.iload_n 1, 1) := by decide +kernel
theorem dX7_mixSigns_23 : decode cX7_mixSigns 23 = .ok (.iaload, 1) := by decide +kernel
theorem dX7_mixSigns_24 : decode cX7_mixSigns 24 = .ok (.i2l, 1) := by decide +kernel
theorem dX7_mixSigns_25 : decode cX7_mixSigns 25 = .ok (.invokevirtual 357, 3) := by decide +kernel
theorem dX7_mixSigns_28 : decode cX7_mixSigns 28 = .ok (.iinc 1 1, 3) := by decide +kernel
theorem dX7_mixSigns_31 : decode cX7_mixSigns 31 = .ok (.goto (-29), 3) := by decide +kernel
theorem dX7_mixSigns_34 : decode cX7_mixSigns 34 = .ok (.return_, 1) := by decide +kernel
theorem dX7_mixNet_0 : decode cX7_mixNet 0 = .ok (.aload_n 0, 1) := by decide +kernel
theorem dX7_mixNet_1 : decode cX7_mixNet 1 = .ok (.iconst 0, 1) := by decide +kernel
theorem dX7_mixNet_2 : decode cX7_mixNet 2 = .ok (.invokevirtual 296, 3) := by decide +kernel
theorem dX7_mixNet_5 : decode cX7_mixNet 5 = .ok (.aload_n 0, 1) := by decide +kernel
theorem dX7_mixNet_6 : decode cX7_mixNet 6 = .ok (.invokevirtual 361, 3) := by decide +kernel
theorem dX7_mixNet_9 : decode cX7_mixNet 9 = .ok (.iconst 0, 1) := by decide +kernel
theorem dX7_mixNet_10 : decode cX7_mixNet 10 = .ok (.istore_n 1, 1) := by decide +kernel
theorem dX7_mixNet_11 : decode cX7_mixNet 11 = .ok (.iload_n 1, 1) := by decide +kernel
theorem dX7_mixNet_12 : decode cX7_mixNet 12 = .ok (.bipush 7, 2) := by decide +kernel
theorem dX7_mixNet_14 : decode cX7_mixNet 14 = .ok (.if_icmp .ge 19, 3) := by decide +kernel
theorem dX7_mixNet_17 : decode cX7_mixNet 17 = .ok (.aload_n 0, 1) := by decide +kernel
theorem dX7_mixNet_18 : decode cX7_mixNet 18 = .ok (.aload_n 0, 1) := by decide +kernel
theorem dX7_mixNet_19 : decode cX7_mixNet 19 = .ok (.iload_n 1, 1) := by decide +kernel
theorem dX7_mixNet_20 : decode cX7_mixNet 20 = .ok (.invokevirtual 278, 3) := by decide +kernel
theorem dX7_mixNet_23 : decode cX7_mixNet 23 = .ok (.i2l, 1) := by decide +kernel
theorem dX7_mixNet_24 : decode cX7_mixNet 24 = .ok (.invokevirtual 357, 3) := by decide +kernel
theorem dX7_mixNet_27 : decode cX7_mixNet 27 = .ok (.iinc 1 1, 3) := by decide +kernel
theorem dX7_mixNet_30 : decode cX7_mixNet 30 = .ok (.goto (-19), 3) := by decide +kernel
theorem dX7_mixNet_33 : decode cX7_mixNet 33 = .ok (.aload_n 0, 1) := by decide +kernel
theorem dX7_mixNet_34 : decode cX7_mixNet 34 = .ok (.iconst 0, 1) := by decide +kernel
theorem dX7_mixNet_35 : decode cX7_mixNet 35 = .ok (.invokevirtual 272, 3) := by decide +kernel
theorem dX7_mixNet_38 : decode cX7_mixNet 38 = .ok (.ifCond .eq 12, 3) := by decide +kernel
theorem dX7_mixNet_41 : decode cX7_mixNet 41 = .ok (.aload_n 0, 1) := by decide +kernel
theorem dX7_mixNet_42 : decode cX7_mixNet 42 = .ok (.iconst 2, 1) := by decide +kernel
theorem dX7_mixNet_43 : decode cX7_mixNet 43 = .ok (.invokevirtual 296, 3) := by decide +kernel
theorem dX7_mixNet_46 : decode cX7_mixNet 46 = .ok (.aload_n 0, 1) := by decide +kernel
theorem dX7_mixNet_47 : decode cX7_mixNet 47 = .ok (.invokevirtual 361, 3) := by decide +kernel
theorem dX7_mixNet_50 : decode cX7_mixNet 50 = .ok (.return_, 1) := by decide +kernel
theorem dX7_digest_0 : decode cX7_digest 0 = .ok (.aload_n 0, 1) := by decide +kernel
theorem dX7_digest_1 : decode cX7_digest 1 = .ok (.iconst 0, 1) := by decide +kernel
theorem dX7_digest_2 : decode cX7_digest 2 = .ok (.putfield 105, 3) := by decide +kernel
theorem dX7_digest_5 : decode cX7_digest 5 = .ok (.aload_n 0, 1) := by decide +kernel
theorem dX7_digest_6 : decode cX7_digest 6 = .ok (.ldc2_w 364, 3) := by decide +kernel
theorem dX7_digest_9 : decode cX7_digest 9 = .ok (.putfield 354, 3) := by decide +kernel
theorem dX7_digest_12 : decode cX7_digest 12 = .ok (.iconst 0, 1) := by decide +kernel
theorem dX7_digest_13 : decode cX7_digest 13 = .ok (.istore_n 1, 1) := by decide +kernel
theorem dX7_digest_14 : decode cX7_digest 14 = .ok (.iload_n 1, 1) := by decide +kernel
theorem dX7_digest_15 : decode cX7_digest 15 = .ok (.sipush 180, 3) := by decide +kernel
theorem dX7_digest_18 : decode cX7_digest 18 = .ok (.if_icmp .ge 48, 3) := by decide +kernel
theorem dX7_digest_21 : decode cX7_digest 21 = .ok (.aload_n 0, 1) := by decide +kernel
theorem dX7_digest_22 : decode cX7_digest 22 = .ok (.iload_n 1, 1) := by decide +kernel
theorem dX7_digest_23 : decode cX7_digest 23 = .ok (.invokevirtual 116, 3) := by decide +kernel
theorem dX7_digest_26 : decode cX7_digest 26 = .ok (.iconst (-1), 1) := by decide +kernel
theorem dX7_digest_27 : decode cX7_digest 27 = .ok (.if_icmp .eq 33, 3) := by decide +kernel
theorem dX7_digest_30 : decode cX7_digest 30 = .ok (.aload_n 0, 1) := by decide +kernel
theorem dX7_digest_31 : decode cX7_digest 31 = .ok (.iload_n 1, 1) := by decide +kernel
theorem dX7_digest_32 : decode cX7_digest 32 = .ok (.i2l, 1) := by decide +kernel
theorem dX7_digest_33 : decode cX7_digest 33 = .ok (.invokevirtual 357, 3) := by decide +kernel
theorem dX7_digest_36 : decode cX7_digest 36 = .ok (.iconst 0, 1) := by decide +kernel
theorem dX7_digest_37 : decode cX7_digest 37 = .ok (.istore_n 2, 1) := by decide +kernel
theorem dX7_digest_38 : decode cX7_digest 38 = .ok (.iload_n 2, 1) := by decide +kernel
theorem dX7_digest_39 : decode cX7_digest 39 = .ok (.iconst 5, 1) := by decide +kernel
theorem dX7_digest_40 : decode cX7_digest 40 = .ok (.if_icmp .ge 20, 3) := by decide +kernel
theorem dX7_digest_43 : decode cX7_digest 43 = .ok (.aload_n 0, 1) := by decide +kernel
theorem dX7_digest_44 : decode cX7_digest 44 = .ok (.aload_n 0, 1) := by decide +kernel
theorem dX7_digest_45 : decode cX7_digest 45 = .ok (.iload_n 1, 1) := by decide +kernel
theorem dX7_digest_46 : decode cX7_digest 46 = .ok (.iload_n 2, 1) := by decide +kernel
theorem dX7_digest_47 : decode cX7_digest 47 = .ok (.invokevirtual 238, 3) := by decide +kernel
theorem dX7_digest_50 : decode cX7_digest 50 = .ok (.i2l, 1) := by decide +kernel
theorem dX7_digest_51 : decode cX7_digest 51 = .ok (.invokevirtual 357, 3) := by decide +kernel
theorem dX7_digest_54 : decode cX7_digest 54 = .ok (.iinc 2 1, 3) := by decide +kernel
theorem dX7_digest_57 : decode cX7_digest 57 = .ok (.goto (-19), 3) := by decide +kernel
theorem dX7_digest_60 : decode cX7_digest 60 = .ok (.iinc 1 1, 3) := by decide +kernel
theorem dX7_digest_63 : decode cX7_digest 63 = .ok (.goto (-49), 3) := by decide +kernel
theorem dX7_digest_66 : decode cX7_digest 66 = .ok (.iconst 0, 1) := by decide +kernel
theorem dX7_digest_67 : decode cX7_digest 67 = .ok (.istore_n 1, 1) := by decide +kernel
theorem dX7_digest_68 : decode cX7_digest 68 = .ok (.iload_n 1, 1) := by decide +kernel
theorem dX7_digest_69 : decode cX7_digest 69 = .ok (.bipush 8, 2) := by decide +kernel
theorem dX7_digest_71 : decode cX7_digest 71 = .ok (.if_icmp .ge 37, 3) := by decide +kernel
theorem dX7_digest_74 : decode cX7_digest 74 = .ok (.aload_n 0, 1) := by decide +kernel
theorem dX7_digest_75 : decode cX7_digest 75 = .ok (.iload_n 1, 1) := by decide +kernel
theorem dX7_digest_76 : decode cX7_digest 76 = .ok (.invokevirtual 241, 3) := by decide +kernel
theorem dX7_digest_79 : decode cX7_digest 79 = .ok (.ifCond .eq 23, 3) := by decide +kernel
theorem dX7_digest_82 : decode cX7_digest 82 = .ok (.aload_n 0, 1) := by decide +kernel
theorem dX7_digest_83 : decode cX7_digest 83 = .ok (.iload_n 1, 1) := by decide +kernel
theorem dX7_digest_84 : decode cX7_digest 84 = .ok (.i2l, 1) := by decide +kernel
theorem dX7_digest_85 : decode cX7_digest 85 = .ok (.invokevirtual 357, 3) := by decide +kernel
theorem dX7_digest_88 : decode cX7_digest 88 = .ok (.aload_n 0, 1) := by decide +kernel
theorem dX7_digest_89 : decode cX7_digest 89 = .ok (.aload_n 0, 1) := by decide +kernel
theorem dX7_digest_90 : decode cX7_digest 90 = .ok (.sipush 900, 3) := by decide +kernel
theorem dX7_digest_93 : decode cX7_digest 93 = .ok (.iload_n 1, 1) := by decide +kernel
theorem dX7_digest_94 : decode cX7_digest 94 = .ok (.iadd, 1) := by decide +kernel
theorem dX7_digest_95 : decode cX7_digest 95 = .ok (.invokevirtual 128, 3) := by decide +kernel
theorem dX7_digest_98 : decode cX7_digest 98 = .ok (.i2l, 1) := by decide +kernel
theorem dX7_digest_99 : decode cX7_digest 99 = .ok (.invokevirtual 357, 3) := by decide +kernel
theorem dX7_digest_102 : decode cX7_digest 102 = .ok (.iinc 1 1, 3) := by decide +kernel
theorem dX7_digest_105 : decode cX7_digest 105 = .ok (.goto (-37), 3) := by decide +kernel
theorem dX7_digest_108 : decode cX7_digest 108 = .ok (.aload_n 0, 1) := by decide +kernel
theorem dX7_digest_109 : decode cX7_digest 109 = .ok (.invokevirtual 244, 3) := by decide +kernel
theorem dX7_digest_112 : decode cX7_digest 112 = .ok (.ifCond .eq 7, 3) := by decide +kernel
theorem dX7_digest_115 : decode cX7_digest 115 = .ok (.aload_n 0, 1) := by decide +kernel
theorem dX7_digest_116 : decode cX7_digest 116 = .ok (.invokevirtual 366, 3) := by decide +kernel
theorem dX7_digest_119 : decode cX7_digest 119 = .ok (.iconst 0, 1) := by decide +kernel
theorem dX7_digest_120 : decode cX7_digest 120 = .ok (.istore_n 1, 1) := by decide +kernel
theorem dX7_digest_121 : decode cX7_digest 121 = .ok (.iload_n 1, 1) := by decide +kernel
theorem dX7_digest_122 : decode cX7_digest 122 = .ok (.aload_n 0, 1) := by decide +kernel
theorem dX7_digest_123 : decode cX7_digest 123 = .ok (.getfield 169, 3) := by decide +kernel
theorem dX7_digest_126 : decode cX7_digest 126 = .ok (.if_icmp .ge 20, 3) := by decide +kernel
theorem dX7_digest_129 : decode cX7_digest 129 = .ok (.aload_n 0, 1) := by decide +kernel
theorem dX7_digest_130 : decode cX7_digest 130 = .ok (.aload_n 0, 1) := by decide +kernel
theorem dX7_digest_131 : decode cX7_digest 131 = .ok (.getfield 34, 3) := by decide +kernel
theorem dX7_digest_134 : decode cX7_digest 134 = .ok (.iload_n 1, 1) := by decide +kernel
theorem dX7_digest_135 : decode cX7_digest 135 = .ok (.baload, 1) := by decide +kernel
theorem dX7_digest_136 : decode cX7_digest 136 = .ok (.i2l, 1) := by decide +kernel
theorem dX7_digest_137 : decode cX7_digest 137 = .ok (.invokevirtual 357, 3) := by decide +kernel
theorem dX7_digest_140 : decode cX7_digest 140 = .ok (.iinc 1 1, 3) := by decide +kernel
theorem dX7_digest_143 : decode cX7_digest 143 = .ok (.goto (-22), 3) := by decide +kernel
theorem dX7_digest_146 : decode cX7_digest 146 = .ok (.iconst 0, 1) := by decide +kernel
theorem dX7_digest_147 : decode cX7_digest 147 = .ok (.istore_n 1, 1) := by decide +kernel
theorem dX7_digest_148 : decode cX7_digest 148 = .ok (.iload_n 1, 1) := by decide +kernel
theorem dX7_digest_149 : decode cX7_digest 149 = .ok (.bipush 15, 2) := by decide +kernel
theorem dX7_digest_151 : decode cX7_digest 151 = .ok (.if_icmp .ge 19, 3) := by decide +kernel
theorem dX7_digest_154 : decode cX7_digest 154 = .ok (.aload_n 0, 1) := by decide +kernel
theorem dX7_digest_155 : decode cX7_digest 155 = .ok (.aload_n 0, 1) := by decide +kernel
theorem dX7_digest_156 : decode cX7_digest 156 = .ok (.iload_n 1, 1) := by decide +kernel
theorem dX7_digest_157 : decode cX7_digest 157 = .ok (.invokevirtual 349, 3) := by decide +kernel
theorem dX7_digest_160 : decode cX7_digest 160 = .ok (.i2l, 1) := by decide +kernel
theorem dX7_digest_161 : decode cX7_digest 161 = .ok (.invokevirtual 357, 3) := by decide +kernel
theorem dX7_digest_164 : decode cX7_digest 164 = .ok (.iinc 1 1, 3) := by decide +kernel
theorem dX7_digest_167 : decode cX7_digest 167 = .ok (.goto (-19), 3) := by decide +kernel
theorem dX7_digest_170 : decode cX7_digest 170 = .ok (.aload_n 0, 1) := by decide +kernel
theorem dX7_digest_171 : decode cX7_digest 171 = .ok (.getfield 354, 3) := by decide +kernel
theorem dX7_digest_174 : decode cX7_digest 174 = .ok (.lreturn, 1) := by decide +kernel
