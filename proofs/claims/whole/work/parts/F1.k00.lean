/-! CONSTRUCTORS: fields at birth, instructions -/
theorem mj_z0 : ∀ j, j < 11 → defaultValue (mm_ty 0 j) = vp_V [.null, .null, .null, .null, .null, .null, .null, .null, .null, .null, .null] j := by decide +kernel
theorem mj_z1 : ∀ j, j < 7 → defaultValue (mm_ty 1 j) = vp_V [.null, .int 0, .int 0, .int 0, .int 0, .int 0, .int 0] j := by decide +kernel
theorem mj_z2 : ∀ j, j < 7 → defaultValue (mm_ty 2 j) = vp_V [.null, .int 0, .int 0, .int 0, .int 0, .int 0, .int 0] j := by decide +kernel
theorem mj_z3 : ∀ j, j < 6 → defaultValue (mm_ty 3 j) = vp_V [.null, .int 0, .int 0, .int 0, .int 0, .int 0] j := by decide +kernel
theorem mj_z4 : ∀ j, j < 7 → defaultValue (mm_ty 4 j) = vp_V [.null, .null, .null, .null, .null, .int 0, .int 0] j := by decide +kernel
theorem mj_z5 : ∀ j, j < 8 → defaultValue (mm_ty 5 j) = vp_V [.int 0, .int 0, .null, .null, .null, .null, .int 0, .int 0] j := by decide +kernel
theorem mj_z6 : ∀ j, j < 12 → defaultValue (mm_ty 6 j) = vp_V [.null, .null, .null, .null, .null, .null, .null, .null, .int 0, .int 0, .null, .null] j := by decide +kernel
theorem mj_z7 : ∀ j, j < 6 → defaultValue (mm_ty 7 j) = vp_V [.null, .null, .null, .null, .int 0, .int 0] j := by decide +kernel
theorem mj_z8 : ∀ j, j < 15 → defaultValue (mm_ty 8 j) = vp_V [.null, .null, .null, .null, .null, .null, .null, .null, .int 0, .int 0, .int 0, .int 0, .int 0, .int 0, .int 0] j := by decide +kernel
theorem mj_z9 : ∀ j, j < 6 → defaultValue (mm_ty 9 j) = vp_V [.null, .null, .null, .null, .int 0, .long 0] j := by decide +kernel
theorem mj_z10 : ∀ j, j < 17 → defaultValue (mm_ty 10 j) = vp_V [.null, .null, .null, .null, .null, .null, .null, .int 0, .null, .int 0, .int 0, .null, .int 0, .null, .null, .int 0, .int 0] j := by decide +kernel
theorem mj_z11 : ∀ j, j < 16 → defaultValue (mm_ty 11 j) = vp_V [.null, .null, .null, .null, .long 0, .long 0, .int 0, .int 0, .int 0, .int 0, .int 0, .int 0, .int 0, .int 0, .long 0, .long 0] j := by decide +kernel
theorem mj_z12 : ∀ j, j < 58 → defaultValue (mm_ty 12 j) = vp_V (.int 0 :: .null :: .int 0 :: .null :: .int 0 :: .int 0 :: .int 0 :: .int 0 :: .int 0 :: .int 0 :: .int 0 :: .int 0 :: .int 0 :: .int 0 :: .int 0 :: .int 0 :: .null :: .null :: .null :: .null :: .int 0 :: .int 0 :: .null :: .null :: .null :: .null :: .null :: .null :: .int 0 :: .int 0 :: .int 0 :: .null :: .null :: .long 0 :: .long 0 :: .int 0 :: .null :: .int 0 :: .int 0 :: .int 0 :: .null :: .int 0 :: .int 0 :: .int 0 :: .int 0 :: .int 0 :: .null :: .null :: .null :: .null :: .null :: .null :: .int 0 :: .long 0 :: .int 0 :: .null :: .null :: .null :: []) j := by decide +kernel
theorem mj_d0_0 : decode prog_1_method_1_code 0 = .ok (.aload_n 0, 1) := by decide +kernel
theorem mj_d0_1 : decode prog_1_method_1_code 1 = .ok (.invokespecial 3, 3) := by decide +kernel
theorem mj_d0_4 : decode prog_1_method_1_code 4 = .ok (.aload_n 0, 1) := by decide +kernel
theorem mj_d0_5 : decode prog_1_method_1_code 5 = .ok (.new 9, 3) := by decide +kernel
theorem mj_d0_8 : decode prog_1_method_1_code 8 = .ok (.dup, 1) := by decide +kernel
theorem mj_d0_9 : decode prog_1_method_1_code 9 = .ok (.invokespecial 11, 3) := by decide +kernel
theorem mj_d0_12 : decode prog_1_method_1_code 12 = .ok (.putfield 12, 3) := by decide +kernel
theorem mj_d0_15 : decode prog_1_method_1_code 15 = .ok (.aload_n 0, 1) := by decide +kernel
theorem mj_d0_16 : decode prog_1_method_1_code 16 = .ok (.new 16, 3) := by decide +kernel
theorem mj_d0_19 : decode prog_1_method_1_code 19 = .ok (.dup, 1) := by decide +kernel
theorem mj_d0_20 : decode prog_1_method_1_code 20 = .ok (.invokespecial 18, 3) := by decide +kernel
theorem mj_d0_23 : decode prog_1_method_1_code 23 = .ok (.putfield 19, 3) := by decide +kernel
theorem mj_d0_26 : decode prog_1_method_1_code 26 = .ok (.aload_n 0, 1) := by decide +kernel
theorem mj_d0_27 : decode prog_1_method_1_code 27 = .ok (.new 23, 3) := by decide +kernel
theorem mj_d0_30 : decode prog_1_method_1_code 30 = .ok (.dup, 1) := by decide +kernel
theorem mj_d0_31 : decode prog_1_method_1_code 31 = .ok (.invokespecial 25, 3) := by decide +kernel
theorem mj_d0_34 : decode prog_1_method_1_code 34 = .ok (.putfield 26, 3) := by decide +kernel
theorem mj_d0_37 : decode prog_1_method_1_code 37 = .ok (.aload_n 0, 1) := by decide +kernel
theorem mj_d0_38 : decode prog_1_method_1_code 38 = .ok (.new 30, 3) := by decide +kernel
theorem mj_d0_41 : decode prog_1_method_1_code 41 = .ok (.dup, 1) := by decide +kernel
theorem mj_d0_42 : decode prog_1_method_1_code 42 = .ok (.invokespecial 32, 3) := by decide +kernel
theorem mj_d0_45 : decode prog_1_method_1_code 45 = .ok (.putfield 33, 3) := by decide +kernel
theorem mj_d0_48 : decode prog_1_method_1_code 48 = .ok (.new 37, 3) := by decide +kernel
theorem mj_d0_51 : decode prog_1_method_1_code 51 = .ok (.dup, 1) := by decide +kernel
theorem mj_d0_52 : decode prog_1_method_1_code 52 = .ok (.aload_n 0, 1) := by decide +kernel
theorem mj_d0_53 : decode prog_1_method_1_code 53 = .ok (.getfield 12, 3) := by decide +kernel
theorem mj_d0_56 : decode prog_1_method_1_code 56 = .ok (.invokespecial 39, 3) := by decide +kernel
theorem mj_d0_59 : decode prog_1_method_1_code 59 = .ok (.astore_n 1, 1) := by decide +kernel
theorem mj_d0_60 : decode prog_1_method_1_code 60 = .ok (.aload_n 0, 1) := by decide +kernel
theorem mj_d0_61 : decode prog_1_method_1_code 61 = .ok (.new 42, 3) := by decide +kernel
theorem mj_d0_64 : decode prog_1_method_1_code 64 = .ok (.dup, 1) := by decide +kernel
theorem mj_d0_65 : decode prog_1_method_1_code 65 = .ok (.aload_n 0, 1) := by decide +kernel
theorem mj_d0_66 : decode prog_1_method_1_code 66 = .ok (.getfield 12, 3) := by decide +kernel
theorem mj_d0_69 : decode prog_1_method_1_code 69 = .ok (.aload_n 0, 1) := by decide +kernel
theorem mj_d0_70 : decode prog_1_method_1_code 70 = .ok (.getfield 19, 3) := by decide +kernel
theorem mj_d0_73 : decode prog_1_method_1_code 73 = .ok (.aload_n 0, 1) := by decide +kernel
theorem mj_d0_74 : decode prog_1_method_1_code 74 = .ok (.getfield 26, 3) := by decide +kernel
theorem mj_d0_77 : decode prog_1_method_1_code 77 = .ok (.aload_n 1, 1) := by decide +kernel
theorem mj_d0_78 : decode prog_1_method_1_code 78 = .ok (.invokespecial 44, 3) := by decide +kernel
theorem mj_d0_81 : decode prog_1_method_1_code 81 = .ok (.putfield 47, 3) := by decide +kernel
theorem mj_d0_84 : decode prog_1_method_1_code 84 = .ok (.aload_n 0, 1) := by decide +kernel
theorem mj_d0_85 : decode prog_1_method_1_code 85 = .ok (.new 51, 3) := by decide +kernel
theorem mj_d0_88 : decode prog_1_method_1_code 88 = .ok (.dup, 1) := by decide +kernel
theorem mj_d0_89 : decode prog_1_method_1_code 89 = .ok (.aload_n 0, 1) := by decide +kernel
theorem mj_d0_90 : decode prog_1_method_1_code 90 = .ok (.getfield 12, 3) := by decide +kernel
theorem mj_d0_93 : decode prog_1_method_1_code 93 = .ok (.aload_n 0, 1) := by decide +kernel
theorem mj_d0_94 : decode prog_1_method_1_code 94 = .ok (.getfield 19, 3) := by decide +kernel
theorem mj_d0_97 : decode prog_1_method_1_code 97 = .ok (.aload_n 0, 1) := by decide +kernel
theorem mj_d0_98 : decode prog_1_method_1_code 98 = .ok (.getfield 26, 3) := by decide +kernel
theorem mj_d0_101 : decode prog_1_method_1_code 101 = .ok (.invokespecial 53, 3) := by decide +kernel
theorem mj_d0_104 : decode prog_1_method_1_code 104 = .ok (.putfield 56, 3) := by decide +kernel
theorem mj_d0_107 : decode prog_1_method_1_code 107 = .ok (.aload_n 0, 1) := by decide +kernel
theorem mj_d0_108 : decode prog_1_method_1_code 108 = .ok (.new 60, 3) := by decide +kernel
theorem mj_d0_111 : decode prog_1_method_1_code 111 = .ok (.dup, 1) := by decide +kernel
theorem mj_d0_112 : decode prog_1_method_1_code 112 = .ok (.aload_n 0, 1) := by decide +kernel
theorem mj_d0_113 : decode prog_1_method_1_code 113 = .ok (.getfield 12, 3) := by decide +kernel
theorem mj_d0_116 : decode prog_1_method_1_code 116 = .ok (.aload_n 0, 1) := by decide +kernel
theorem mj_d0_117 : decode prog_1_method_1_code 117 = .ok (.getfield 19, 3) := by decide +kernel
theorem mj_d0_120 : decode prog_1_method_1_code 120 = .ok (.aload_n 0, 1) := by decide +kernel
theorem mj_d0_121 : decode prog_1_method_1_code 121 = .ok (.getfield 26, 3) := by decide +kernel
theorem mj_d0_124 : decode prog_1_method_1_code 124 = .ok (.aload_n 1, 1) := by decide +kernel
theorem mj_d0_125 : decode prog_1_method_1_code 125 = .ok (.invokespecial 62, 3) := by decide +kernel
theorem mj_d0_128 : decode prog_1_method_1_code 128 = .ok (.putfield 63, 3) := by decide +kernel
theorem mj_d0_131 : decode prog_1_method_1_code 131 = .ok (.aload_n 0, 1) := by decide +kernel
theorem mj_d0_132 : decode prog_1_method_1_code 132 = .ok (.new 67, 3) := by decide +kernel
theorem mj_d0_135 : decode prog_1_method_1_code 135 = .ok (.dup, 1) := by decide +kernel
theorem mj_d0_136 : decode prog_1_method_1_code 136 = .ok (.aload_n 0, 1) := by decide +kernel
theorem mj_d0_137 : decode prog_1_method_1_code 137 = .ok (.getfield 12, 3) := by decide +kernel
theorem mj_d0_140 : decode prog_1_method_1_code 140 = .ok (.aload_n 0, 1) := by decide +kernel
theorem mj_d0_141 : decode prog_1_method_1_code 141 = .ok (.getfield 19, 3) := by decide +kernel
theorem mj_d0_144 : decode prog_1_method_1_code 144 = .ok (.aload_n 0, 1) := by decide +kernel
theorem mj_d0_145 : decode prog_1_method_1_code 145 = .ok (.getfield 26, 3) := by decide +kernel
theorem mj_d0_148 : decode prog_1_method_1_code 148 = .ok (.aload_n 0, 1) := by decide +kernel
theorem mj_d0_149 : decode prog_1_method_1_code 149 = .ok (.getfield 33, 3) := by decide +kernel
theorem mj_d0_152 : decode prog_1_method_1_code 152 = .ok (.invokespecial 69, 3) := by decide +kernel
theorem mj_d0_155 : decode prog_1_method_1_code 155 = .ok (.putfield 72, 3) := by decide +kernel
theorem mj_d0_158 : decode prog_1_method_1_code 158 = .ok (.aload_n 0, 1) := by decide +kernel
theorem mj_d0_159 : decode prog_1_method_1_code 159 = .ok (.new 76, 3) := by decide +kernel
theorem mj_d0_162 : decode prog_1_method_1_code 162 = .ok (.dup, 1) := by decide +kernel
theorem mj_d0_163 : decode prog_1_method_1_code 163 = .ok (.aload_n 0, 1) := by decide +kernel
theorem mj_d0_164 : decode prog_1_method_1_code 164 = .ok (.getfield 12, 3) := by decide +kernel
theorem mj_d0_167 : decode prog_1_method_1_code 167 = .ok (.aload_n 0, 1) := by decide +kernel
theorem mj_d0_168 : decode prog_1_method_1_code 168 = .ok (.getfield 19, 3) := by decide +kernel
theorem mj_d0_171 : decode prog_1_method_1_code 171 = .ok (.aload_n 0, 1) := by decide +kernel
theorem mj_d0_172 : decode prog_1_method_1_code 172 = .ok (.getfield 26, 3) := by decide +kernel
theorem mj_d0_175 : decode prog_1_method_1_code 175 = .ok (.invokespecial 78, 3) := by decide +kernel
theorem mj_d0_178 : decode prog_1_method_1_code 178 = .ok (.putfield 79, 3) := by decide +kernel
theorem mj_d0_181 : decode prog_1_method_1_code 181 = .ok (.aload_n 0, 1) := by decide +kernel
theorem mj_d0_182 : decode prog_1_method_1_code 182 = .ok (.sipush 511, 3) := by decide +kernel
theorem mj_d0_185 : decode prog_1_method_1_code 185 = .ok (.newarray .int, 2) := by decide +kernel
theorem mj_d0_187 : decode prog_1_method_1_code 187 = .ok (.putfield 83, 3) := by decide +kernel
theorem mj_d0_190 : decode prog_1_method_1_code 190 = .ok (.aload_n 0, 1) := by decide +kernel
theorem mj_d0_191 : decode prog_1_method_1_code 191 = .ok (.sipush 511, 3) := by decide +kernel
theorem mj_d0_194 : decode prog_1_method_1_code 194 = .ok (.newarray .int, 2) := by decide +kernel
theorem mj_d0_196 : decode prog_1_method_1_code 196 = .ok (.putfield 87, 3) := by decide +kernel
theorem mj_d0_199 : decode prog_1_method_1_code 199 = .ok (.return_, 1) := by decide +kernel
theorem mj_d1_0 : decode prog_9_method_1_code 0 = .ok (.aload_n 0, 1) := by decide +kernel
theorem mj_d1_1 : decode prog_9_method_1_code 1 = .ok (.invokespecial 3, 3) := by decide +kernel
theorem mj_d1_4 : decode prog_9_method_1_code 4 = .ok (.aload_n 0, 1) := by decide +kernel
theorem mj_d1_5 : decode prog_9_method_1_code 5 = .ok (.sipush 10000, 3) := by decide +kernel
theorem mj_d1_8 : decode prog_9_method_1_code 8 = .ok (.newarray .int, 2) := by decide +kernel
theorem mj_d1_10 : decode prog_9_method_1_code 10 = .ok (.putfield 9, 3) := by decide +kernel
theorem mj_d1_13 : decode prog_9_method_1_code 13 = .ok (.return_, 1) := by decide +kernel
theorem mj_d2_0 : decode prog_7_method_1_code 0 = .ok (.aload_n 0, 1) := by decide +kernel
theorem mj_d2_1 : decode prog_7_method_1_code 1 = .ok (.invokespecial 3, 3) := by decide +kernel
theorem mj_d2_4 : decode prog_7_method_1_code 4 = .ok (.aload_n 0, 1) := by decide +kernel
theorem mj_d2_5 : decode prog_7_method_1_code 5 = .ok (.sipush 16384, 3) := by decide +kernel
theorem mj_d2_8 : decode prog_7_method_1_code 8 = .ok (.newarray .int, 2) := by decide +kernel
theorem mj_d2_10 : decode prog_7_method_1_code 10 = .ok (.putfield 9, 3) := by decide +kernel
theorem mj_d2_13 : decode prog_7_method_1_code 13 = .ok (.return_, 1) := by decide +kernel
theorem mj_d3_0 : decode prog_12_method_1_code 0 = .ok (.aload_n 0, 1) := by decide +kernel
theorem mj_d3_1 : decode prog_12_method_1_code 1 = .ok (.invokespecial 3, 3) := by decide +kernel
theorem mj_d3_4 : decode prog_12_method_1_code 4 = .ok (.aload_n 0, 1) := by decide +kernel
theorem mj_d3_5 : decode prog_12_method_1_code 5 = .ok (.sipush 16384, 3) := by decide +kernel
theorem mj_d3_8 : decode prog_12_method_1_code 8 = .ok (.newarray .int, 2) := by decide +kernel
theorem mj_d3_10 : decode prog_12_method_1_code 10 = .ok (.putfield 9, 3) := by decide +kernel
theorem mj_d3_13 : decode prog_12_method_1_code 13 = .ok (.return_, 1) := by decide +kernel
theorem mj_d4_0 : decode prog_10_method_1_code 0 = .ok (.aload_n 0, 1) := by decide +kernel
theorem mj_d4_1 : decode prog_10_method_1_code 1 = .ok (.invokespecial 3, 3) := by decide +kernel
theorem mj_d4_4 : decode prog_10_method_1_code 4 = .ok (.aload_n 0, 1) := by decide +kernel
theorem mj_d4_5 : decode prog_10_method_1_code 5 = .ok (.sipush 12500, 3) := by decide +kernel
theorem mj_d4_8 : decode prog_10_method_1_code 8 = .ok (.newarray .int, 2) := by decide +kernel
theorem mj_d4_10 : decode prog_10_method_1_code 10 = .ok (.putfield 9, 3) := by decide +kernel
theorem mj_d4_13 : decode prog_10_method_1_code 13 = .ok (.aload_n 0, 1) := by decide +kernel
theorem mj_d4_14 : decode prog_10_method_1_code 14 = .ok (.sipush 12500, 3) := by decide +kernel
theorem mj_d4_17 : decode prog_10_method_1_code 17 = .ok (.newarray .int, 2) := by decide +kernel
theorem mj_d4_19 : decode prog_10_method_1_code 19 = .ok (.putfield 15, 3) := by decide +kernel
theorem mj_d4_22 : decode prog_10_method_1_code 22 = .ok (.aload_n 0, 1) := by decide +kernel
theorem mj_d4_23 : decode prog_10_method_1_code 23 = .ok (.sipush 12500, 3) := by decide +kernel
theorem mj_d4_26 : decode prog_10_method_1_code 26 = .ok (.newarray .int, 2) := by decide +kernel
theorem mj_d4_28 : decode prog_10_method_1_code 28 = .ok (.putfield 18, 3) := by decide +kernel
theorem mj_d4_31 : decode prog_10_method_1_code 31 = .ok (.aload_n 0, 1) := by decide +kernel
theorem mj_d4_32 : decode prog_10_method_1_code 32 = .ok (.sipush 12500, 3) := by decide +kernel
theorem mj_d4_35 : decode prog_10_method_1_code 35 = .ok (.newarray .int, 2) := by decide +kernel
theorem mj_d4_37 : decode prog_10_method_1_code 37 = .ok (.putfield 21, 3) := by decide +kernel
theorem mj_d4_40 : decode prog_10_method_1_code 40 = .ok (.aload_n 0, 1) := by decide +kernel
theorem mj_d4_41 : decode prog_10_method_1_code 41 = .ok (.sipush 12501, 3) := by decide +kernel
theorem mj_d4_44 : decode prog_10_method_1_code 44 = .ok (.newarray .int, 2) := by decide +kernel
theorem mj_d4_46 : decode prog_10_method_1_code 46 = .ok (.putfield 24, 3) := by decide +kernel
theorem mj_d4_49 : decode prog_10_method_1_code 49 = .ok (.return_, 1) := by decide +kernel
theorem mj_d5_0 : decode prog_5_method_1_code 0 = .ok (.aload_n 0, 1) := by decide +kernel
theorem mj_d5_1 : decode prog_5_method_1_code 1 = .ok (.invokespecial 3, 3) := by decide +kernel
theorem mj_d5_4 : decode prog_5_method_1_code 4 = .ok (.aload_n 0, 1) := by decide +kernel
theorem mj_d5_5 : decode prog_5_method_1_code 5 = .ok (.sipush 4096, 3) := by decide +kernel
theorem mj_d5_8 : decode prog_5_method_1_code 8 = .ok (.newarray .int, 2) := by decide +kernel
theorem mj_d5_10 : decode prog_5_method_1_code 10 = .ok (.putfield 11, 3) := by decide +kernel
theorem mj_d5_13 : decode prog_5_method_1_code 13 = .ok (.aload_n 0, 1) := by decide +kernel
theorem mj_d5_14 : decode prog_5_method_1_code 14 = .ok (.sipush 10000, 3) := by decide +kernel
theorem mj_d5_17 : decode prog_5_method_1_code 17 = .ok (.newarray .int, 2) := by decide +kernel
theorem mj_d5_19 : decode prog_5_method_1_code 19 = .ok (.putfield 15, 3) := by decide +kernel
