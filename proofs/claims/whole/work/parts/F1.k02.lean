/-! CONSTRUCTORS: instructions -/
theorem mj_d10_66 : decode prog_8_method_1_code 66 = .ok (.aload_n 0, 1) := by decide +kernel
theorem mj_d10_67 : decode prog_8_method_1_code 67 = .ok (.aload_n 1, 1) := by decide +kernel
theorem mj_d10_68 : decode prog_8_method_1_code 68 = .ok (.putfield 36, 3) := by decide +kernel
theorem mj_d10_71 : decode prog_8_method_1_code 71 = .ok (.aload_n 0, 1) := by decide +kernel
theorem mj_d10_72 : decode prog_8_method_1_code 72 = .ok (.aload_n 2, 1) := by decide +kernel
theorem mj_d10_73 : decode prog_8_method_1_code 73 = .ok (.putfield 40, 3) := by decide +kernel
theorem mj_d10_76 : decode prog_8_method_1_code 76 = .ok (.aload_n 0, 1) := by decide +kernel
theorem mj_d10_77 : decode prog_8_method_1_code 77 = .ok (.aload_n 3, 1) := by decide +kernel
theorem mj_d10_78 : decode prog_8_method_1_code 78 = .ok (.putfield 44, 3) := by decide +kernel
theorem mj_d10_81 : decode prog_8_method_1_code 81 = .ok (.aload_n 0, 1) := by decide +kernel
theorem mj_d10_82 : decode prog_8_method_1_code 82 = .ok (.aload 4, 2) := by decide +kernel
theorem mj_d10_84 : decode prog_8_method_1_code 84 = .ok (.putfield 48, 3) := by decide +kernel
theorem mj_d10_87 : decode prog_8_method_1_code 87 = .ok (.iconst 0, 1) := by decide +kernel
theorem mj_d10_88 : decode prog_8_method_1_code 88 = .ok (.istore 5, 2) := by decide +kernel
theorem mj_d10_90 : decode prog_8_method_1_code 90 = .ok (.iload 5, 2) := by decide +kernel
theorem mj_d10_92 : decode prog_8_method_1_code 92 = .ok (.bipush 6, 2) := by decide +kernel
theorem mj_d10_94 : decode prog_8_method_1_code 94 = .ok (.if_icmp .ge (26), 3) := by decide +kernel
theorem mj_d10_97 : decode prog_8_method_1_code 97 = .ok (.aload_n 0, 1) := by decide +kernel
theorem mj_d10_98 : decode prog_8_method_1_code 98 = .ok (.getfield 13, 3) := by decide +kernel
theorem mj_d10_101 : decode prog_8_method_1_code 101 = .ok (.iload 5, 2) := by decide +kernel
theorem mj_d10_103 : decode prog_8_method_1_code 103 = .ok (.new 11, 3) := by decide +kernel
theorem mj_d10_106 : decode prog_8_method_1_code 106 = .ok (.dup, 1) := by decide +kernel
theorem mj_d10_107 : decode prog_8_method_1_code 107 = .ok (.sipush 258, 3) := by decide +kernel
theorem mj_d10_110 : decode prog_8_method_1_code 110 = .ok (.invokespecial 52, 3) := by decide +kernel
theorem mj_d10_113 : decode prog_8_method_1_code 113 = .ok (.aastore, 1) := by decide +kernel
theorem mj_d10_114 : decode prog_8_method_1_code 114 = .ok (.iinc 5 1, 3) := by decide +kernel
theorem mj_d10_117 : decode prog_8_method_1_code 117 = .ok (.goto (-27), 3) := by decide +kernel
theorem mj_d10_120 : decode prog_8_method_1_code 120 = .ok (.return_, 1) := by decide +kernel
theorem mj_d11_0 : decode prog_3_method_1_code 0 = .ok (.aload_n 0, 1) := by decide +kernel
theorem mj_d11_1 : decode prog_3_method_1_code 1 = .ok (.invokespecial 5, 3) := by decide +kernel
theorem mj_d11_4 : decode prog_3_method_1_code 4 = .ok (.aload_n 0, 1) := by decide +kernel
theorem mj_d11_5 : decode prog_3_method_1_code 5 = .ok (.sipush 14340, 3) := by decide +kernel
theorem mj_d11_8 : decode prog_3_method_1_code 8 = .ok (.newarray .int, 2) := by decide +kernel
theorem mj_d11_10 : decode prog_3_method_1_code 10 = .ok (.putfield 11, 3) := by decide +kernel
theorem mj_d11_13 : decode prog_3_method_1_code 13 = .ok (.aload_n 0, 1) := by decide +kernel
theorem mj_d11_14 : decode prog_3_method_1_code 14 = .ok (.aload_n 1, 1) := by decide +kernel
theorem mj_d11_15 : decode prog_3_method_1_code 15 = .ok (.putfield 15, 3) := by decide +kernel
theorem mj_d11_18 : decode prog_3_method_1_code 18 = .ok (.aload_n 0, 1) := by decide +kernel
theorem mj_d11_19 : decode prog_3_method_1_code 19 = .ok (.aload_n 2, 1) := by decide +kernel
theorem mj_d11_20 : decode prog_3_method_1_code 20 = .ok (.putfield 19, 3) := by decide +kernel
theorem mj_d11_23 : decode prog_3_method_1_code 23 = .ok (.aload_n 0, 1) := by decide +kernel
theorem mj_d11_24 : decode prog_3_method_1_code 24 = .ok (.aload_n 3, 1) := by decide +kernel
theorem mj_d11_25 : decode prog_3_method_1_code 25 = .ok (.putfield 23, 3) := by decide +kernel
theorem mj_d11_28 : decode prog_3_method_1_code 28 = .ok (.return_, 1) := by decide +kernel
theorem mj_d12_0 : decode prog_14_method_1_code 0 = .ok (.aload_n 0, 1) := by decide +kernel
theorem mj_d12_1 : decode prog_14_method_1_code 1 = .ok (.invokespecial 1, 3) := by decide +kernel
theorem mj_d12_4 : decode prog_14_method_1_code 4 = .ok (.aload_n 0, 1) := by decide +kernel
theorem mj_d12_5 : decode prog_14_method_1_code 5 = .ok (.sipush 10000, 3) := by decide +kernel
theorem mj_d12_8 : decode prog_14_method_1_code 8 = .ok (.newarray .int, 2) := by decide +kernel
theorem mj_d12_10 : decode prog_14_method_1_code 10 = .ok (.putfield 7, 3) := by decide +kernel
theorem mj_d12_13 : decode prog_14_method_1_code 13 = .ok (.aload_n 0, 1) := by decide +kernel
theorem mj_d12_14 : decode prog_14_method_1_code 14 = .ok (.sipush 16384, 3) := by decide +kernel
theorem mj_d12_17 : decode prog_14_method_1_code 17 = .ok (.newarray .int, 2) := by decide +kernel
theorem mj_d12_19 : decode prog_14_method_1_code 19 = .ok (.putfield 13, 3) := by decide +kernel
theorem mj_d12_22 : decode prog_14_method_1_code 22 = .ok (.aload_n 0, 1) := by decide +kernel
theorem mj_d12_23 : decode prog_14_method_1_code 23 = .ok (.sipush 2100, 3) := by decide +kernel
theorem mj_d12_26 : decode prog_14_method_1_code 26 = .ok (.newarray .int, 2) := by decide +kernel
theorem mj_d12_28 : decode prog_14_method_1_code 28 = .ok (.putfield 16, 3) := by decide +kernel
theorem mj_d12_31 : decode prog_14_method_1_code 31 = .ok (.aload_n 0, 1) := by decide +kernel
theorem mj_d12_32 : decode prog_14_method_1_code 32 = .ok (.sipush 2100, 3) := by decide +kernel
theorem mj_d12_35 : decode prog_14_method_1_code 35 = .ok (.newarray .int, 2) := by decide +kernel
theorem mj_d12_37 : decode prog_14_method_1_code 37 = .ok (.putfield 19, 3) := by decide +kernel
theorem mj_d12_40 : decode prog_14_method_1_code 40 = .ok (.aload_n 0, 1) := by decide +kernel
theorem mj_d12_41 : decode prog_14_method_1_code 41 = .ok (.bipush 19, 2) := by decide +kernel
theorem mj_d12_43 : decode prog_14_method_1_code 43 = .ok (.newarray .int, 2) := by decide +kernel
theorem mj_d12_45 : decode prog_14_method_1_code 45 = .ok (.dup, 1) := by decide +kernel
theorem mj_d12_46 : decode prog_14_method_1_code 46 = .ok (.iconst 0, 1) := by decide +kernel
theorem mj_d12_47 : decode prog_14_method_1_code 47 = .ok (.bipush 16, 2) := by decide +kernel
theorem mj_d12_49 : decode prog_14_method_1_code 49 = .ok (.iastore, 1) := by decide +kernel
theorem mj_d12_50 : decode prog_14_method_1_code 50 = .ok (.dup, 1) := by decide +kernel
theorem mj_d12_51 : decode prog_14_method_1_code 51 = .ok (.iconst 1, 1) := by decide +kernel
theorem mj_d12_52 : decode prog_14_method_1_code 52 = .ok (.bipush 17, 2) := by decide +kernel
theorem mj_d12_54 : decode prog_14_method_1_code 54 = .ok (.iastore, 1) := by decide +kernel
theorem mj_d12_55 : decode prog_14_method_1_code 55 = .ok (.dup, 1) := by decide +kernel
theorem mj_d12_56 : decode prog_14_method_1_code 56 = .ok (.iconst 2, 1) := by decide +kernel
theorem mj_d12_57 : decode prog_14_method_1_code 57 = .ok (.bipush 18, 2) := by decide +kernel
theorem mj_d12_59 : decode prog_14_method_1_code 59 = .ok (.iastore, 1) := by decide +kernel
theorem mj_d12_60 : decode prog_14_method_1_code 60 = .ok (.dup, 1) := by decide +kernel
theorem mj_d12_61 : decode prog_14_method_1_code 61 = .ok (.iconst 3, 1) := by decide +kernel
theorem mj_d12_62 : decode prog_14_method_1_code 62 = .ok (.iconst 0, 1) := by decide +kernel
theorem mj_d12_63 : decode prog_14_method_1_code 63 = .ok (.iastore, 1) := by decide +kernel
theorem mj_d12_64 : decode prog_14_method_1_code 64 = .ok (.dup, 1) := by decide +kernel
theorem mj_d12_65 : decode prog_14_method_1_code 65 = .ok (.iconst 4, 1) := by decide +kernel
theorem mj_d12_66 : decode prog_14_method_1_code 66 = .ok (.bipush 8, 2) := by decide +kernel
theorem mj_d12_68 : decode prog_14_method_1_code 68 = .ok (.iastore, 1) := by decide +kernel
theorem mj_d12_69 : decode prog_14_method_1_code 69 = .ok (.dup, 1) := by decide +kernel
theorem mj_d12_70 : decode prog_14_method_1_code 70 = .ok (.iconst 5, 1) := by decide +kernel
theorem mj_d12_71 : decode prog_14_method_1_code 71 = .ok (.bipush 7, 2) := by decide +kernel
theorem mj_d12_73 : decode prog_14_method_1_code 73 = .ok (.iastore, 1) := by decide +kernel
theorem mj_d12_74 : decode prog_14_method_1_code 74 = .ok (.dup, 1) := by decide +kernel
theorem mj_d12_75 : decode prog_14_method_1_code 75 = .ok (.bipush 6, 2) := by decide +kernel
theorem mj_d12_77 : decode prog_14_method_1_code 77 = .ok (.bipush 9, 2) := by decide +kernel
theorem mj_d12_79 : decode prog_14_method_1_code 79 = .ok (.iastore, 1) := by decide +kernel
theorem mj_d12_80 : decode prog_14_method_1_code 80 = .ok (.dup, 1) := by decide +kernel
theorem mj_d12_81 : decode prog_14_method_1_code 81 = .ok (.bipush 7, 2) := by decide +kernel
theorem mj_d12_83 : decode prog_14_method_1_code 83 = .ok (.bipush 6, 2) := by decide +kernel
theorem mj_d12_85 : decode prog_14_method_1_code 85 = .ok (.iastore, 1) := by decide +kernel
theorem mj_d12_86 : decode prog_14_method_1_code 86 = .ok (.dup, 1) := by decide +kernel
theorem mj_d12_87 : decode prog_14_method_1_code 87 = .ok (.bipush 8, 2) := by decide +kernel
theorem mj_d12_89 : decode prog_14_method_1_code 89 = .ok (.bipush 10, 2) := by decide +kernel
theorem mj_d12_91 : decode prog_14_method_1_code 91 = .ok (.iastore, 1) := by decide +kernel
theorem mj_d12_92 : decode prog_14_method_1_code 92 = .ok (.dup, 1) := by decide +kernel
theorem mj_d12_93 : decode prog_14_method_1_code 93 = .ok (.bipush 9, 2) := by decide +kernel
theorem mj_d12_95 : decode prog_14_method_1_code 95 = .ok (.iconst 5, 1) := by decide +kernel
theorem mj_d12_96 : decode prog_14_method_1_code 96 = .ok (.iastore, 1) := by decide +kernel
theorem mj_d12_97 : decode prog_14_method_1_code 97 = .ok (.dup, 1) := by decide +kernel
theorem mj_d12_98 : decode prog_14_method_1_code 98 = .ok (.bipush 10, 2) := by decide +kernel
theorem mj_d12_100 : decode prog_14_method_1_code 100 = .ok (.bipush 11, 2) := by decide +kernel
theorem mj_d12_102 : decode prog_14_method_1_code 102 = .ok (.iastore, 1) := by decide +kernel
theorem mj_d12_103 : decode prog_14_method_1_code 103 = .ok (.dup, 1) := by decide +kernel
theorem mj_d12_104 : decode prog_14_method_1_code 104 = .ok (.bipush 11, 2) := by decide +kernel
theorem mj_d12_106 : decode prog_14_method_1_code 106 = .ok (.iconst 4, 1) := by decide +kernel
theorem mj_d12_107 : decode prog_14_method_1_code 107 = .ok (.iastore, 1) := by decide +kernel
theorem mj_d12_108 : decode prog_14_method_1_code 108 = .ok (.dup, 1) := by decide +kernel
theorem mj_d12_109 : decode prog_14_method_1_code 109 = .ok (.bipush 12, 2) := by decide +kernel
theorem mj_d12_111 : decode prog_14_method_1_code 111 = .ok (.bipush 12, 2) := by decide +kernel
theorem mj_d12_113 : decode prog_14_method_1_code 113 = .ok (.iastore, 1) := by decide +kernel
theorem mj_d12_114 : decode prog_14_method_1_code 114 = .ok (.dup, 1) := by decide +kernel
theorem mj_d12_115 : decode prog_14_method_1_code 115 = .ok (.bipush 13, 2) := by decide +kernel
theorem mj_d12_117 : decode prog_14_method_1_code 117 = .ok (.iconst 3, 1) := by decide +kernel
theorem mj_d12_118 : decode prog_14_method_1_code 118 = .ok (.iastore, 1) := by decide +kernel
theorem mj_d12_119 : decode prog_14_method_1_code 119 = .ok (.dup, 1) := by decide +kernel
theorem mj_d12_120 : decode prog_14_method_1_code 120 = .ok (.bipush 14, 2) := by decide +kernel
theorem mj_d12_122 : decode prog_14_method_1_code 122 = .ok (.bipush 13, 2) := by decide +kernel
theorem mj_d12_124 : decode prog_14_method_1_code 124 = .ok (.iastore, 1) := by decide +kernel
theorem mj_d12_125 : decode prog_14_method_1_code 125 = .ok (.dup, 1) := by decide +kernel
theorem mj_d12_126 : decode prog_14_method_1_code 126 = .ok (.bipush 15, 2) := by decide +kernel
theorem mj_d12_128 : decode prog_14_method_1_code 128 = .ok (.iconst 2, 1) := by decide +kernel
theorem mj_d12_129 : decode prog_14_method_1_code 129 = .ok (.iastore, 1) := by decide +kernel
theorem mj_d12_130 : decode prog_14_method_1_code 130 = .ok (.dup, 1) := by decide +kernel
theorem mj_d12_131 : decode prog_14_method_1_code 131 = .ok (.bipush 16, 2) := by decide +kernel
theorem mj_d12_133 : decode prog_14_method_1_code 133 = .ok (.bipush 14, 2) := by decide +kernel
theorem mj_d12_135 : decode prog_14_method_1_code 135 = .ok (.iastore, 1) := by decide +kernel
theorem mj_d12_136 : decode prog_14_method_1_code 136 = .ok (.dup, 1) := by decide +kernel
theorem mj_d12_137 : decode prog_14_method_1_code 137 = .ok (.bipush 17, 2) := by decide +kernel
theorem mj_d12_139 : decode prog_14_method_1_code 139 = .ok (.iconst 1, 1) := by decide +kernel
theorem mj_d12_140 : decode prog_14_method_1_code 140 = .ok (.iastore, 1) := by decide +kernel
theorem mj_d12_141 : decode prog_14_method_1_code 141 = .ok (.dup, 1) := by decide +kernel
theorem mj_d12_142 : decode prog_14_method_1_code 142 = .ok (.bipush 18, 2) := by decide +kernel
theorem mj_d12_144 : decode prog_14_method_1_code 144 = .ok (.bipush 15, 2) := by decide +kernel
theorem mj_d12_146 : decode prog_14_method_1_code 146 = .ok (.iastore, 1) := by decide +kernel
theorem mj_d12_147 : decode prog_14_method_1_code 147 = .ok (.putfield 22, 3) := by decide +kernel
theorem mj_d12_150 : decode prog_14_method_1_code 150 = .ok (.aload_n 0, 1) := by decide +kernel
theorem mj_d12_151 : decode prog_14_method_1_code 151 = .ok (.sipush 640, 3) := by decide +kernel
theorem mj_d12_154 : decode prog_14_method_1_code 154 = .ok (.newarray .int, 2) := by decide +kernel
theorem mj_d12_156 : decode prog_14_method_1_code 156 = .ok (.putfield 25, 3) := by decide +kernel
theorem mj_d12_159 : decode prog_14_method_1_code 159 = .ok (.aload_n 0, 1) := by decide +kernel
theorem mj_d12_160 : decode prog_14_method_1_code 160 = .ok (.sipush 4096, 3) := by decide +kernel
theorem mj_d12_163 : decode prog_14_method_1_code 163 = .ok (.newarray .int, 2) := by decide +kernel
theorem mj_d12_165 : decode prog_14_method_1_code 165 = .ok (.putfield 28, 3) := by decide +kernel
theorem mj_d12_168 : decode prog_14_method_1_code 168 = .ok (.aload_n 0, 1) := by decide +kernel
theorem mj_d12_169 : decode prog_14_method_1_code 169 = .ok (.sipush 4096, 3) := by decide +kernel
theorem mj_d12_172 : decode prog_14_method_1_code 172 = .ok (.newarray .int, 2) := by decide +kernel
theorem mj_d12_174 : decode prog_14_method_1_code 174 = .ok (.putfield 31, 3) := by decide +kernel
theorem mj_d12_177 : decode prog_14_method_1_code 177 = .ok (.aload_n 0, 1) := by decide +kernel
theorem mj_d12_178 : decode prog_14_method_1_code 178 = .ok (.ldc 34, 2) := by decide +kernel
theorem mj_d12_180 : decode prog_14_method_1_code 180 = .ok (.newarray .int, 2) := by decide +kernel
theorem mj_d12_182 : decode prog_14_method_1_code 182 = .ok (.putfield 35, 3) := by decide +kernel
theorem mj_d12_185 : decode prog_14_method_1_code 185 = .ok (.aload_n 0, 1) := by decide +kernel
theorem mj_d12_186 : decode prog_14_method_1_code 186 = .ok (.sipush 256, 3) := by decide +kernel
theorem mj_d12_189 : decode prog_14_method_1_code 189 = .ok (.newarray .int, 2) := by decide +kernel
theorem mj_d12_191 : decode prog_14_method_1_code 191 = .ok (.putfield 38, 3) := by decide +kernel
theorem mj_d12_194 : decode prog_14_method_1_code 194 = .ok (.aload_n 0, 1) := by decide +kernel
theorem mj_d12_195 : decode prog_14_method_1_code 195 = .ok (.sipush 16384, 3) := by decide +kernel
theorem mj_d12_198 : decode prog_14_method_1_code 198 = .ok (.newarray .int, 2) := by decide +kernel
theorem mj_d12_200 : decode prog_14_method_1_code 200 = .ok (.putfield 41, 3) := by decide +kernel
theorem mj_d12_203 : decode prog_14_method_1_code 203 = .ok (.aload_n 0, 1) := by decide +kernel
theorem mj_d12_204 : decode prog_14_method_1_code 204 = .ok (.sipush 16384, 3) := by decide +kernel
theorem mj_d12_207 : decode prog_14_method_1_code 207 = .ok (.newarray .int, 2) := by decide +kernel
theorem mj_d12_209 : decode prog_14_method_1_code 209 = .ok (.putfield 44, 3) := by decide +kernel
theorem mj_d12_212 : decode prog_14_method_1_code 212 = .ok (.aload_n 0, 1) := by decide +kernel
theorem mj_d12_213 : decode prog_14_method_1_code 213 = .ok (.bipush 6, 2) := by decide +kernel
theorem mj_d12_215 : decode prog_14_method_1_code 215 = .ok (.newarray .int, 2) := by decide +kernel
theorem mj_d12_217 : decode prog_14_method_1_code 217 = .ok (.putfield 47, 3) := by decide +kernel
theorem mj_d12_220 : decode prog_14_method_1_code 220 = .ok (.aload_n 0, 1) := by decide +kernel
theorem mj_d12_221 : decode prog_14_method_1_code 221 = .ok (.sipush 14540, 3) := by decide +kernel
theorem mj_d12_224 : decode prog_14_method_1_code 224 = .ok (.newarray .int, 2) := by decide +kernel
theorem mj_d12_226 : decode prog_14_method_1_code 226 = .ok (.putfield 50, 3) := by decide +kernel
theorem mj_d12_229 : decode prog_14_method_1_code 229 = .ok (.aload_n 0, 1) := by decide +kernel
theorem mj_d12_230 : decode prog_14_method_1_code 230 = .ok (.iconst 4, 1) := by decide +kernel
theorem mj_d12_231 : decode prog_14_method_1_code 231 = .ok (.newarray .long, 2) := by decide +kernel
theorem mj_d12_233 : decode prog_14_method_1_code 233 = .ok (.putfield 53, 3) := by decide +kernel
theorem mj_d12_236 : decode prog_14_method_1_code 236 = .ok (.aload_n 0, 1) := by decide +kernel
theorem mj_d12_237 : decode prog_14_method_1_code 237 = .ok (.sipush 16384, 3) := by decide +kernel
theorem mj_d12_240 : decode prog_14_method_1_code 240 = .ok (.newarray .int, 2) := by decide +kernel
theorem mj_d12_242 : decode prog_14_method_1_code 242 = .ok (.putfield 57, 3) := by decide +kernel
theorem mj_d12_245 : decode prog_14_method_1_code 245 = .ok (.aload_n 0, 1) := by decide +kernel
theorem mj_d12_246 : decode prog_14_method_1_code 246 = .ok (.iconst 2, 1) := by decide +kernel
theorem mj_d12_247 : decode prog_14_method_1_code 247 = .ok (.newarray .int, 2) := by decide +kernel
theorem mj_d12_249 : decode prog_14_method_1_code 249 = .ok (.dup, 1) := by decide +kernel
theorem mj_d12_250 : decode prog_14_method_1_code 250 = .ok (.iconst 0, 1) := by decide +kernel
theorem mj_d12_251 : decode prog_14_method_1_code 251 = .ok (.bipush 100, 2) := by decide +kernel
theorem mj_d12_253 : decode prog_14_method_1_code 253 = .ok (.iastore, 1) := by decide +kernel
theorem mj_d12_254 : decode prog_14_method_1_code 254 = .ok (.dup, 1) := by decide +kernel
theorem mj_d12_255 : decode prog_14_method_1_code 255 = .ok (.iconst 1, 1) := by decide +kernel
theorem mj_d12_256 : decode prog_14_method_1_code 256 = .ok (.bipush 64, 2) := by decide +kernel
theorem mj_d12_258 : decode prog_14_method_1_code 258 = .ok (.iastore, 1) := by decide +kernel
theorem mj_d12_259 : decode prog_14_method_1_code 259 = .ok (.putfield 60, 3) := by decide +kernel
theorem mj_d12_262 : decode prog_14_method_1_code 262 = .ok (.aload_n 0, 1) := by decide +kernel
theorem mj_d12_263 : decode prog_14_method_1_code 263 = .ok (.sipush 12600, 3) := by decide +kernel
theorem mj_d12_266 : decode prog_14_method_1_code 266 = .ok (.newarray .int, 2) := by decide +kernel
theorem mj_d12_268 : decode prog_14_method_1_code 268 = .ok (.putfield 63, 3) := by decide +kernel
theorem mj_d12_271 : decode prog_14_method_1_code 271 = .ok (.aload_n 0, 1) := by decide +kernel
theorem mj_d12_272 : decode prog_14_method_1_code 272 = .ok (.sipush 12600, 3) := by decide +kernel
theorem mj_d12_275 : decode prog_14_method_1_code 275 = .ok (.newarray .int, 2) := by decide +kernel
theorem mj_d12_277 : decode prog_14_method_1_code 277 = .ok (.putfield 66, 3) := by decide +kernel
theorem mj_d12_280 : decode prog_14_method_1_code 280 = .ok (.aload_n 0, 1) := by decide +kernel
theorem mj_d12_281 : decode prog_14_method_1_code 281 = .ok (.sipush 12600, 3) := by decide +kernel
theorem mj_d12_284 : decode prog_14_method_1_code 284 = .ok (.newarray .int, 2) := by decide +kernel
theorem mj_d12_286 : decode prog_14_method_1_code 286 = .ok (.putfield 69, 3) := by decide +kernel
theorem mj_d12_289 : decode prog_14_method_1_code 289 = .ok (.aload_n 0, 1) := by decide +kernel
theorem mj_d12_290 : decode prog_14_method_1_code 290 = .ok (.sipush 12600, 3) := by decide +kernel
theorem mj_d12_293 : decode prog_14_method_1_code 293 = .ok (.newarray .int, 2) := by decide +kernel
theorem mj_d12_295 : decode prog_14_method_1_code 295 = .ok (.putfield 72, 3) := by decide +kernel
theorem mj_d12_298 : decode prog_14_method_1_code 298 = .ok (.aload_n 0, 1) := by decide +kernel
theorem mj_d12_299 : decode prog_14_method_1_code 299 = .ok (.sipush 12600, 3) := by decide +kernel
theorem mj_d12_302 : decode prog_14_method_1_code 302 = .ok (.newarray .int, 2) := by decide +kernel
theorem mj_d12_304 : decode prog_14_method_1_code 304 = .ok (.putfield 75, 3) := by decide +kernel
theorem mj_d12_307 : decode prog_14_method_1_code 307 = .ok (.aload_n 0, 1) := by decide +kernel
theorem mj_d12_308 : decode prog_14_method_1_code 308 = .ok (.sipush 301, 3) := by decide +kernel
theorem mj_d12_311 : decode prog_14_method_1_code 311 = .ok (.newarray .int, 2) := by decide +kernel
theorem mj_d12_313 : decode prog_14_method_1_code 313 = .ok (.putfield 78, 3) := by decide +kernel
theorem mj_d12_316 : decode prog_14_method_1_code 316 = .ok (.aload_n 0, 1) := by decide +kernel
theorem mj_d12_317 : decode prog_14_method_1_code 317 = .ok (.sipush 512, 3) := by decide +kernel
theorem mj_d12_320 : decode prog_14_method_1_code 320 = .ok (.newarray .int, 2) := by decide +kernel
theorem mj_d12_322 : decode prog_14_method_1_code 322 = .ok (.putfield 81, 3) := by decide +kernel
theorem mj_d12_325 : decode prog_14_method_1_code 325 = .ok (.aload_n 0, 1) := by decide +kernel
theorem mj_d12_326 : decode prog_14_method_1_code 326 = .ok (.sipush 512, 3) := by decide +kernel
theorem mj_d12_329 : decode prog_14_method_1_code 329 = .ok (.newarray .int, 2) := by decide +kernel
theorem mj_d12_331 : decode prog_14_method_1_code 331 = .ok (.putfield 84, 3) := by decide +kernel
theorem mj_d12_334 : decode prog_14_method_1_code 334 = .ok (.return_, 1) := by decide +kernel
