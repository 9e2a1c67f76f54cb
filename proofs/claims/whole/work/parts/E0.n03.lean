/-! HOW MANY THROWS 3 -/
-- 60: PlainPacks$Writer.high
theorem mn_60_b5 {v1 : Int64} {v4 : Int32} {M : mm_M} : mq_N M.2.2 (mf_60_b5 v1 v4 M) := by
  unfold mf_60_b5
  exact mq_N_ite (mq_N_ret rfl) (mq_N_B (mq_N_call mn_57 rfl) (fun _ M1 hM1 => mq_N_ret hM1))
theorem mn_60_L5 {v1 : Int64} {s : Int32} {M : mm_M} : mq_N M.2.2 (mf_60_L5 v1 s M) := by
  unfold mf_60_L5
  exact mq_N_L (fun s M h => mq_N_call mn_60_b5 h) rfl
theorem mn_60 {v1 : Int64} {v3 : Int32} {M : mm_M} : mq_N M.2.2 (mf_60 v1 v3 M) := by
  unfold mf_60
  exact mq_N_B (mq_N_call mn_60_L5 rfl) (fun _ M1 hM1 => mq_N_ret hM1)
-- 89: PlainPacks$Blocks.writeWrapped
theorem mn_89 {M : mm_M} : mq_N M.2.2 (mf_89 M) := by
  unfold mf_89
  exact mq_N_B (mq_N_call mn_57 rfl) (fun _ M1 hM1 => mq_N_B (mq_N_call mn_57 hM1) (fun _ M2 hM2 => mq_N_B (mq_N_call mn_91 hM2) (fun _ M3 hM3 => mq_N_B (mq_N_call mn_30 hM3) (fun _ M5 hM5 => mq_N_B (mq_N_call mn_60 hM5) (fun _ M6 hM6 => mq_N_ret hM6)))))
-- 59: PlainPacks$Writer.low
theorem mn_59_b3 {v1 : Int64} {v3 : Int32} {v4 : Int32} {M : mm_M} : mq_N M.2.2 (mf_59_b3 v1 v3 v4 M) := by
  unfold mf_59_b3
  exact mq_N_ite (mq_N_B (mq_N_call mn_57 rfl) (fun _ M1 hM1 => mq_N_ret hM1)) (mq_N_ret rfl)
theorem mn_59_L3 {v1 : Int64} {v3 : Int32} {s : Int32} {M : mm_M} : mq_N M.2.2 (mf_59_L3 v1 v3 s M) := by
  unfold mf_59_L3
  exact mq_N_L (fun s M h => mq_N_call mn_59_b3 h) rfl
theorem mn_59 {v1 : Int64} {v3 : Int32} {M : mm_M} : mq_N M.2.2 (mf_59 v1 v3 M) := by
  unfold mf_59
  exact mq_N_B (mq_N_call mn_59_L3 rfl) (fun _ M1 hM1 => mq_N_ret hM1)
-- 90: PlainPacks$Blocks.writeFile
theorem mn_90 {M : mm_M} : mq_N M.2.2 (mf_90 M) := by
  unfold mf_90
  exact mq_N_B (mq_N_call mn_57 rfl) (fun _ M1 hM1 => mq_N_B (mq_N_call mn_57 hM1) (fun _ M2 hM2 => mq_N_B (mq_N_call mn_57 hM2) (fun _ M3 hM3 => mq_N_B (mq_N_call mn_59 hM3) (fun _ M4 hM4 => mq_N_B (mq_N_call mn_57 hM4) (fun _ M5 hM5 => mq_N_B (mq_N_call mn_91 hM5) (fun _ M6 hM6 => mq_N_B (mq_N_call mn_28 hM6) (fun _ M8 hM8 => mq_N_B (mq_N_call mn_59 hM8) (fun _ M9 hM9 => mq_N_B (mq_N_call mn_59 hM9) (fun _ M10 hM10 => mq_N_ret hM10)))))))))
-- 115: PlainPacks$Words.longerWord
theorem mn_115_b10 {v2 : Int32} {v3 : Int32} {v4 : Int32} {M : mm_M} : mq_N M.2.2 (mf_115_b10 v2 v3 v4 M) := by
  unfold mf_115_b10
  exact mq_N_ite (mq_N_ite (mq_N_ite (mq_N_ite (mq_N_ret rfl) (mq_N_ite (mq_N_ret rfl) (mq_N_none))) (mq_N_none)) (mq_N_ret rfl)) (mq_N_ret rfl)
theorem mn_115_L10 {v2 : Int32} {s : Int32 × Int32} {M : mm_M} : mq_N M.2.2 (mf_115_L10 v2 s M) := by
  unfold mf_115_L10
  exact mq_N_L (fun s M h => mq_N_call mn_115_b10 h) rfl
theorem mn_115 {v1 : Int32} {v2 : Int32} {M : mm_M} : mq_N M.2.2 (mf_115 v1 v2 M) := by
  unfold mf_115
  exact mq_N_ite (mq_N_B (mq_N_call mn_115_L10 rfl) (fun _ M1 hM1 => mq_N_ret hM1)) (mq_N_none)
-- 116: PlainPacks$Words.addWord
theorem mn_116 {v1 : Int32} {v2 : Int32} {M : mm_M} : mq_N M.2.2 (mf_116 v1 v2 M) := by
  unfold mf_116
  exact mq_N_ite (mq_N_ite (mq_N_ite (mq_N_ite (mq_N_ret rfl) (mq_N_none)) (mq_N_none)) (mq_N_none)) (mq_N_none)
-- 114: PlainPacks$Words.writeCodes
theorem mn_114_b80 {v1 : Int32} {v2 : Int32} {v3 : Int32} {M : mm_M} : mq_N M.2.2 (mf_114_b80 v1 v2 v3 M) := by
  unfold mf_114_b80
  exact mq_N_ite (mq_N_ite (mq_N_ite (mq_N_ite (mq_N_B (mq_N_call mn_115 rfl) (fun _ M2 hM2 => mq_N_ret hM2)) (mq_N_none)) (mq_N_ret rfl)) (mq_N_ret rfl)) (mq_N_ret rfl)
theorem mn_114_L80 {s : Int32 × Int32 × Int32} {M : mm_M} : mq_N M.2.2 (mf_114_L80 s M) := by
  unfold mf_114_L80
  exact mq_N_L (fun s M h => mq_N_call mn_114_b80 h) rfl
theorem mn_114_j173 {v1 : Int32} {v2 : Int32} {M : mm_M} : mq_N M.2.2 (mf_114_j173 v1 v2 M) := by
  unfold mf_114_j173
  exact mq_N_B (mq_N_call mn_106 rfl) (fun _ M1 hM1 => mq_N_ite (mq_N_ite (mq_N_ite (mq_N_B (mq_N_call mn_116 hM1) (fun _ M2 hM2 => mq_N_ret hM2)) (mq_N_none)) (mq_N_ret hM1)) (mq_N_ret hM1))
theorem mn_114_j133 {v1 : Int32} {v2 : Int32} {M : mm_M} : mq_N M.2.2 (mf_114_j133 v1 v2 M) := by
  unfold mf_114_j133
  exact mq_N_B (mq_N_call mn_62 rfl) (fun _ M1 hM1 => mq_N_ite (mq_N_ite (mq_N_call mn_114_j173 hM1) (mq_N_call mn_114_j173 hM1)) (mq_N_call mn_114_j173 hM1))
theorem mn_114_b26 {v1 : Int32} {M : mm_M} : mq_N M.2.2 (mf_114_b26 v1 M) := by
  unfold mf_114_b26
  exact mq_N_ite (mq_N_ite (mq_N_ite (mq_N_ite (mq_N_B (mq_N_call mn_115 rfl) (fun _ M2 hM2 => mq_N_B (mq_N_call mn_114_L80 hM2) (fun _ M3 hM3 => mq_N_call mn_114_j133 hM3))) (mq_N_none)) (mq_N_B (mq_N_call mn_114_L80 rfl) (fun _ M6 hM6 => mq_N_call mn_114_j133 hM6))) (mq_N_none)) (mq_N_ret rfl)
theorem mn_114_L26 {s : Int32} {M : mm_M} : mq_N M.2.2 (mf_114_L26 s M) := by
  unfold mf_114_L26
  exact mq_N_L (fun s M h => mq_N_call mn_114_b26 h) rfl
theorem mn_114_j220 {M : mm_M} : mq_N M.2.2 (mf_114_j220 M) := by
  unfold mf_114_j220
  exact mq_N_B (mq_N_call mn_62 rfl) (fun _ M1 hM1 => mq_N_B (mq_N_call mn_64 hM1) (fun _ M2 hM2 => mq_N_ret hM2))
theorem mn_114 {M : mm_M} : mq_N M.2.2 (mf_114 M) := by
  unfold mf_114
  exact mq_N_B (mq_N_call mn_290 rfl) (fun _ M1 hM1 => mq_N_B (mq_N_call mn_62 hM1) (fun _ M2 hM2 => mq_N_B (mq_N_call mn_114_L26 hM2) (fun _ M3 hM3 => mq_N_call mn_114_j220 hM3)))
-- 112: PlainPacks$Words.writeLow
theorem mn_112 {M : mm_M} : mq_N M.2.2 (mf_112 M) := by
  unfold mf_112
  exact mq_N_B (mq_N_call mn_57 rfl) (fun _ M1 hM1 => mq_N_B (mq_N_call mn_104 hM1) (fun _ M2 hM2 => mq_N_B (mq_N_call mn_114 hM2) (fun _ M3 hM3 => mq_N_ret hM3)))
-- 113: PlainPacks$Words.writeHigh
theorem mn_113 {M : mm_M} : mq_N M.2.2 (mf_113 M) := by
  unfold mf_113
  exact mq_N_B (mq_N_call mn_104 rfl) (fun _ M1 hM1 => mq_N_B (mq_N_call mn_114 hM1) (fun _ M2 hM2 => mq_N_ret hM2))
-- 132: PlainPacks$Pieces.writeMore
theorem mn_132_b9 {v1 : Int32} {v2 : Int32} {M : mm_M} : mq_N M.2.2 (mf_132_b9 v1 v2 M) := by
  unfold mf_132_b9
  exact mq_N_ite (mq_N_B (mq_N_call mn_57 rfl) (fun _ M1 hM1 => mq_N_ret hM1)) (mq_N_ret rfl)
theorem mn_132_L9 {v1 : Int32} {s : Int32} {M : mm_M} : mq_N M.2.2 (mf_132_L9 v1 s M) := by
  unfold mf_132_L9
  exact mq_N_L (fun s M h => mq_N_call mn_132_b9 h) rfl
theorem mn_132_j37 {v1 : Int32} {M : mm_M} : mq_N M.2.2 (mf_132_j37 v1 M) := by
  unfold mf_132_j37
  exact mq_N_B (mq_N_call mn_57 rfl) (fun _ M1 hM1 => mq_N_ret hM1)
theorem mn_132 {v1 : Int32} {M : mm_M} : mq_N M.2.2 (mf_132 v1 M) := by
  unfold mf_132
  exact mq_N_ite (mq_N_ret rfl) (mq_N_B (mq_N_call mn_132_L9 rfl) (fun _ M1 hM1 => mq_N_call mn_132_j37 hM1))
-- 131: PlainPacks$Pieces.writePlainPart
theorem mn_131 {v1 : Int32} {v2 : Int32} {v3 : Int32} {M : mm_M} : mq_N M.2.2 (mf_131 v1 v2 v3 M) := by
  unfold mf_131
  exact mq_N_B (mq_N_call mn_57 rfl) (fun _ M1 hM1 => mq_N_B (mq_N_call mn_132 hM1) (fun _ M2 hM2 => mq_N_B (mq_N_call mn_58 hM2) (fun _ M3 hM3 => mq_N_ret hM3)))
-- 130: PlainPacks$Pieces.writePiece
theorem mn_130 {v1 : Int32} {v2 : Int32} {v3 : Int32} {M : mm_M} : mq_N M.2.2 (mf_130 v1 v2 v3 M) := by
  unfold mf_130
  exact mq_N_B (mq_N_call mn_131 rfl) (fun _ M1 hM1 => mq_N_B (mq_N_call mn_59 hM1) (fun _ M2 hM2 => mq_N_B (mq_N_call mn_132 hM2) (fun _ M3 hM3 => mq_N_ret hM3)))
-- 129: PlainPacks$Pieces.writePieces
theorem mn_129_b19 {v1 : Int32} {v2 : Int32} {v3 : Int32} {M : mm_M} : mq_N M.2.2 (mf_129_b19 v1 v2 v3 M) := by
  unfold mf_129_b19
  exact mq_N_ite (mq_N_ret rfl) (mq_N_B (mq_N_call mn_71 rfl) (fun _ M1 hM1 => mq_N_ite (mq_N_ret hM1) (mq_N_ite (mq_N_ret hM1) (mq_N_B (mq_N_call mn_130 hM1) (fun _ M2 hM2 => mq_N_ret hM2)))))
theorem mn_129_L19 {v1 : Int32} {s : Int32 × Int32} {M : mm_M} : mq_N M.2.2 (mf_129_L19 v1 s M) := by
  unfold mf_129_L19
  exact mq_N_L (fun s M h => mq_N_call mn_129_b19 h) rfl
theorem mn_129_j99 {v1 : Int32} {v2 : Int32} {M : mm_M} : mq_N M.2.2 (mf_129_j99 v1 v2 M) := by
  unfold mf_129_j99
  exact mq_N_B (mq_N_call mn_131 rfl) (fun _ M1 hM1 => mq_N_ret hM1)
theorem mn_129 {M : mm_M} : mq_N M.2.2 (mf_129 M) := by
  unfold mf_129
  exact mq_N_B (mq_N_call mn_70 rfl) (fun _ M1 hM1 => mq_N_B (mq_N_call mn_129_L19 hM1) (fun _ M2 hM2 => mq_N_call mn_129_j99 hM2))
-- 134: PlainPacks$Pieces.writeFrameBlock
theorem mn_134_j51 {v1 : Int32} {v2 : Int32} {v3 : Int32} {s0 : Int32} {M : mm_M} : mq_N M.2.2 (mf_134_j51 v1 v2 v3 s0 M) := by
  unfold mf_134_j51
  exact mq_N_B (mq_N_call mn_56 rfl) (fun _ M1 hM1 => mq_N_ite (mq_N_B (mq_N_call mn_59 hM1) (fun _ M2 hM2 => mq_N_B (mq_N_call mn_58 hM2) (fun _ M3 hM3 => mq_N_ret hM3))) (mq_N_B (mq_N_call mn_59 hM1) (fun _ M4 hM4 => mq_N_B (mq_N_call mn_56 hM4) (fun _ M5 hM5 => mq_N_ret hM5))))
theorem mn_134 {M : mm_M} : mq_N M.2.2 (mf_134 M) := by
  unfold mf_134
  exact mq_N_B (mq_N_call mn_59 rfl) (fun _ M1 hM1 => mq_N_B (mq_N_call mn_129 hM1) (fun _ M2 hM2 => mq_N_ite (mq_N_call mn_134_j51 hM2) (mq_N_call mn_134_j51 hM2)))
-- 133: PlainPacks$Pieces.writeFrame
theorem mn_133_j90 {M : mm_M} : mq_N M.2.2 (mf_133_j90 M) := by
  unfold mf_133_j90
  exact mq_N_B (mq_N_call mn_59 rfl) (fun _ M1 hM1 => mq_N_B (mq_N_call mn_31 hM1) (fun _ M3 hM3 => mq_N_B (mq_N_call mn_59 hM3) (fun _ M4 hM4 => mq_N_ret hM4)))
theorem mn_133 {M : mm_M} : mq_N M.2.2 (mf_133 M) := by
  unfold mf_133
  exact mq_N_B (mq_N_call mn_57 rfl) (fun _ M1 hM1 => mq_N_B (mq_N_call mn_57 hM1) (fun _ M2 hM2 => mq_N_B (mq_N_call mn_57 hM2) (fun _ M3 hM3 => mq_N_B (mq_N_call mn_57 hM3) (fun _ M4 hM4 => mq_N_B (mq_N_call mn_57 hM4) (fun _ M5 hM5 => mq_N_B (mq_N_call mn_57 hM5) (fun _ M6 hM6 => mq_N_B (mq_N_call mn_31 hM6) (fun _ M8 hM8 => mq_N_B (mq_N_call mn_57 hM8) (fun _ M9 hM9 => mq_N_ite (mq_N_B (mq_N_call mn_134 hM9) (fun _ M10 hM10 => mq_N_call mn_133_j90 hM10)) (mq_N_call mn_133_j90 hM9)))))))))
-- 136: PlainPacks$Pieces.writePlainTag
theorem mn_136_j78 {v1 : Int32} {v2 : Int32} {M : mm_M} : mq_N M.2.2 (mf_136_j78 v1 v2 M) := by
  unfold mf_136_j78
  exact mq_N_B (mq_N_call mn_58 rfl) (fun _ M1 hM1 => mq_N_ret hM1)
theorem mn_136 {v1 : Int32} {v2 : Int32} {M : mm_M} : mq_N M.2.2 (mf_136 v1 v2 M) := by
  unfold mf_136
  exact mq_N_ite (mq_N_ret rfl) (mq_N_ite (mq_N_B (mq_N_call mn_57 rfl) (fun _ M1 hM1 => mq_N_call mn_136_j78 hM1)) (mq_N_ite (mq_N_B (mq_N_call mn_57 rfl) (fun _ M2 hM2 => mq_N_B (mq_N_call mn_57 hM2) (fun _ M3 hM3 => mq_N_call mn_136_j78 hM3))) (mq_N_B (mq_N_call mn_57 rfl) (fun _ M4 hM4 => mq_N_B (mq_N_call mn_59 hM4) (fun _ M5 hM5 => mq_N_call mn_136_j78 hM5)))))
-- 135: PlainPacks$Pieces.writeTags
theorem mn_135_b12 {v1 : Int32} {v2 : Int32} {v3 : Int32} {M : mm_M} : mq_N M.2.2 (mf_135_b12 v1 v2 v3 M) := by
  unfold mf_135_b12
  exact mq_N_ite (mq_N_ite (mq_N_ret rfl) (mq_N_B (mq_N_call mn_57 rfl) (fun _ M1 hM1 => mq_N_ret hM1))) (mq_N_ret rfl)
theorem mn_135_L12 {v1 : Int32} {s : Int32 × Int32} {M : mm_M} : mq_N M.2.2 (mf_135_L12 v1 s M) := by
  unfold mf_135_L12
  exact mq_N_L (fun s M h => mq_N_call mn_135_b12 h) rfl
theorem mn_135_b70 {v1 : Int32} {v3 : Int32} {v4 : Int32} {M : mm_M} : mq_N M.2.2 (mf_135_b70 v1 v3 v4 M) := by
  unfold mf_135_b70
  exact mq_N_ite (mq_N_B (mq_N_call mn_71 rfl) (fun _ M1 hM1 => mq_N_ite (mq_N_ret hM1) (mq_N_ite (mq_N_ret hM1) (mq_N_B (mq_N_call mn_136 hM1) (fun _ M2 hM2 => mq_N_B (mq_N_call mn_57 hM2) (fun _ M3 hM3 => mq_N_B (mq_N_call mn_59 hM3) (fun _ M4 hM4 => mq_N_ret hM4))))))) (mq_N_ret rfl)
theorem mn_135_L70 {v1 : Int32} {s : Int32 × Int32} {M : mm_M} : mq_N M.2.2 (mf_135_L70 v1 s M) := by
  unfold mf_135_L70
  exact mq_N_L (fun s M h => mq_N_call mn_135_b70 h) rfl
theorem mn_135_j177 {v1 : Int32} {v3 : Int32} {M : mm_M} : mq_N M.2.2 (mf_135_j177 v1 v3 M) := by
  unfold mf_135_j177
  exact mq_N_B (mq_N_call mn_136 rfl) (fun _ M1 hM1 => mq_N_ret hM1)
theorem mn_135_j50 {v1 : Int32} {v2 : Int32} {M : mm_M} : mq_N M.2.2 (mf_135_j50 v1 v2 M) := by
  unfold mf_135_j50
  exact mq_N_B (mq_N_call mn_57 rfl) (fun _ M1 hM1 => mq_N_B (mq_N_call mn_70 hM1) (fun _ M2 hM2 => mq_N_B (mq_N_call mn_135_L70 hM2) (fun _ M3 hM3 => mq_N_call mn_135_j177 hM3)))
theorem mn_135 {M : mm_M} : mq_N M.2.2 (mf_135 M) := by
  unfold mf_135
  exact mq_N_B (mq_N_call mn_135_L12 rfl) (fun _ M1 hM1 => mq_N_call mn_135_j50 hM1)
-- 149: PlainPacks$Sorted.addText
theorem mn_149_b2 {v1 : Int32} {v2 : Int32} {v3 : Int32} {M : mm_M} : mq_N M.2.2 (mf_149_b2 v1 v2 v3 M) := by
  unfold mf_149_b2
  exact mq_N_ite (mq_N_ite (mq_N_ite (mq_N_ret rfl) (mq_N_none)) (mq_N_ret rfl)) (mq_N_ret rfl)
theorem mn_149_L2 {v1 : Int32} {v2 : Int32} {s : Int32} {M : mm_M} : mq_N M.2.2 (mf_149_L2 v1 v2 s M) := by
  unfold mf_149_L2
  exact mq_N_L (fun s M h => mq_N_call mn_149_b2 h) rfl
theorem mn_149 {v1 : Int32} {v2 : Int32} {M : mm_M} : mq_N M.2.2 (mf_149 v1 v2 M) := by
  unfold mf_149
  exact mq_N_B (mq_N_call mn_149_L2 rfl) (fun _ M1 hM1 => mq_N_ret hM1)
-- 148: PlainPacks$Sorted.makeText
theorem mn_148_b30 {v1 : Int32} {v2 : Int32} {v3 : Int32} {M : mm_M} : mq_N M.2.2 (mf_148_b30 v1 v2 v3 M) := by
  unfold mf_148_b30
  exact mq_N_ite (mq_N_ite (mq_N_ite (mq_N_ite (mq_N_ret rfl) (mq_N_ret rfl)) (mq_N_none)) (mq_N_ret rfl)) (mq_N_ret rfl)
theorem mn_148_L30 {v1 : Int32} {v2 : Int32} {s : Int32} {M : mm_M} : mq_N M.2.2 (mf_148_L30 v1 v2 s M) := by
  unfold mf_148_L30
  exact mq_N_L (fun s M h => mq_N_call mn_148_b30 h) rfl
theorem mn_148_j83 {v1 : Int32} {v3 : Int32} {s1 : Int32} {s2 : Int32} {M : mm_M} : mq_N M.2.2 (mf_148_j83 v1 v3 s1 s2 M) := by
  unfold mf_148_j83
  exact mq_N_B (mq_N_call mn_149 rfl) (fun _ M1 hM1 => mq_N_ite (mq_N_ret hM1) (mq_N_B (mq_N_call mn_149 hM1) (fun _ M2 hM2 => mq_N_ret hM2)))
theorem mn_148_j71 {v1 : Int32} {v2 : Int32} {v3 : Int32} {M : mm_M} : mq_N M.2.2 (mf_148_j71 v1 v2 v3 M) := by
  unfold mf_148_j71
  exact mq_N_ite (mq_N_call mn_148_j83 rfl) (mq_N_call mn_148_j83 rfl)
theorem mn_148_b7 {v1 : Int32} {M : mm_M} : mq_N M.2.2 (mf_148_b7 v1 M) := by
  unfold mf_148_b7
  exact mq_N_ite (mq_N_ite (mq_N_B (mq_N_call mn_148_L30 rfl) (fun _ M1 hM1 => mq_N_call mn_148_j71 hM1)) (mq_N_none)) (mq_N_ret rfl)
theorem mn_148_L7 {s : Int32} {M : mm_M} : mq_N M.2.2 (mf_148_L7 s M) := by
  unfold mf_148_L7
  exact mq_N_L (fun s M h => mq_N_call mn_148_b7 h) rfl
theorem mn_148 {M : mm_M} : mq_N M.2.2 (mf_148 M) := by
  unfold mf_148
  exact mq_N_B (mq_N_call mn_148_L7 rfl) (fun _ M1 hM1 => mq_N_ret hM1)
-- 67: PlainPacks$Turnings.orderByRank
theorem mn_67_b2 {v1 : Int32} {v2 : Int32} {M : mm_M} : mq_N M.2.2 (mf_67_b2 v1 v2 M) := by
  unfold mf_67_b2
  exact mq_N_ite (mq_N_ret rfl) (mq_N_ite (mq_N_ite (mq_N_ret rfl) (mq_N_none)) (mq_N_ret rfl))
theorem mn_67_L2 {v1 : Int32} {s : Int32} {M : mm_M} : mq_N M.2.2 (mf_67_L2 v1 s M) := by
  unfold mf_67_L2
  exact mq_N_L (fun s M h => mq_N_call mn_67_b2 h) rfl
theorem mn_67_b31 {v1 : Int32} {v2 : Int32} {M : mm_M} : mq_N M.2.2 (mf_67_b31 v1 v2 M) := by
  unfold mf_67_b31
  exact mq_N_ite (mq_N_ite (mq_N_ite (mq_N_ite (mq_N_ret rfl) (mq_N_none)) (mq_N_none)) (mq_N_none)) (mq_N_ret rfl)
theorem mn_67_L31 {v1 : Int32} {s : Int32} {M : mm_M} : mq_N M.2.2 (mf_67_L31 v1 s M) := by
  unfold mf_67_L31
  exact mq_N_L (fun s M h => mq_N_call mn_67_b31 h) rfl
theorem mn_67_b64 {v1 : Int32} {v2 : Int32} {M : mm_M} : mq_N M.2.2 (mf_67_b64 v1 v2 M) := by
  unfold mf_67_b64
  exact mq_N_ite (mq_N_ret rfl) (mq_N_ite (mq_N_ite (mq_N_ite (mq_N_ite (mq_N_ret rfl) (mq_N_none)) (mq_N_none)) (mq_N_none)) (mq_N_ret rfl))
theorem mn_67_L64 {v1 : Int32} {s : Int32} {M : mm_M} : mq_N M.2.2 (mf_67_L64 v1 s M) := by
  unfold mf_67_L64
  exact mq_N_L (fun s M h => mq_N_call mn_67_b64 h) rfl
theorem mn_67_b103 {v2 : Int32} {M : mm_M} : mq_N M.2.2 (mf_67_b103 v2 M) := by
  unfold mf_67_b103
  exact mq_N_ite (mq_N_ite (mq_N_ite (mq_N_ite (mq_N_ite (mq_N_ite (mq_N_ite (mq_N_ite (mq_N_ret rfl) (mq_N_none)) (mq_N_none)) (mq_N_none)) (mq_N_none)) (mq_N_none)) (mq_N_none)) (mq_N_none)) (mq_N_ret rfl)
theorem mn_67_L103 {s : Int32} {M : mm_M} : mq_N M.2.2 (mf_67_L103 s M) := by
  unfold mf_67_L103
  exact mq_N_L (fun s M h => mq_N_call mn_67_b103 h) rfl
theorem mn_67 {v1 : Int32} {M : mm_M} : mq_N M.2.2 (mf_67 v1 M) := by
  unfold mf_67
  exact mq_N_B (mq_N_call mn_67_L2 rfl) (fun _ M1 hM1 => mq_N_B (mq_N_call mn_67_L31 hM1) (fun _ M5 hM5 => mq_N_B (mq_N_call mn_67_L64 hM5) (fun _ M9 hM9 => mq_N_B (mq_N_call mn_67_L103 hM9) (fun _ M14 hM14 => mq_N_ret hM14))))
-- 69: PlainPacks$Turnings.differ
theorem mn_69_j50 {v1 : Int32} {v2 : Int32} {v4 : Int32} {s0 : Int32} {M : mm_M} : mq_N M.2.2 (mf_69_j50 v1 v2 v4 s0 M) := by
  unfold mf_69_j50
  exact mq_N_ite (mq_N_ite (mq_N_ite (mq_N_ite (mq_N_ite (mq_N_ite (mq_N_ret rfl) (mq_N_ret rfl)) (mq_N_none)) (mq_N_none)) (mq_N_ret rfl)) (mq_N_none)) (mq_N_none)
theorem mn_69_j24 {v1 : Int32} {v2 : Int32} {v3 : Int32} {s0 : Int32} {M : mm_M} : mq_N M.2.2 (mf_69_j24 v1 v2 v3 s0 M) := by
  unfold mf_69_j24
  exact mq_N_ite (mq_N_call mn_69_j50 rfl) (mq_N_call mn_69_j50 rfl)
theorem mn_69 {v1 : Int32} {v2 : Int32} {v3 : Int32} {M : mm_M} : mq_N M.2.2 (mf_69 v1 v2 v3 M) := by
  unfold mf_69
  exact mq_N_ite (mq_N_call mn_69_j24 rfl) (mq_N_call mn_69_j24 rfl)
-- 68: PlainPacks$Turnings.rankAgain
theorem mn_68_j51 {v1 : Int32} {v2 : Int32} {M : mm_M} : mq_N M.2.2 (mf_68_j51 v1 v2 M) := by
  unfold mf_68_j51
  exact mq_N_ite (mq_N_ite (mq_N_ret rfl) (mq_N_none)) (mq_N_none)
theorem mn_68_j41 {v1 : Int32} {v2 : Int32} {M : mm_M} : mq_N M.2.2 (mf_68_j41 v1 v2 M) := by
  unfold mf_68_j41
  exact mq_N_call mn_68_j51 rfl
theorem mn_68_b7 {v1 : Int32} {v2 : Int32} {M : mm_M} : mq_N M.2.2 (mf_68_b7 v1 v2 M) := by
  unfold mf_68_b7
  exact mq_N_ite (mq_N_ite (mq_N_call mn_68_j41 rfl) (mq_N_ite (mq_N_ite (mq_N_B (mq_N_call mn_69 rfl) (fun _ M2 hM2 => mq_N_ite (mq_N_call mn_68_j51 hM2) (mq_N_call mn_68_j41 hM2))) (mq_N_none)) (mq_N_none))) (mq_N_ret rfl)
theorem mn_68_L7 {v1 : Int32} {s : Int32} {M : mm_M} : mq_N M.2.2 (mf_68_L7 v1 s M) := by
  unfold mf_68_L7
  exact mq_N_L (fun s M h => mq_N_call mn_68_b7 h) rfl
theorem mn_68_j74 {M : mm_M} : mq_N M.2.2 (mf_68_j74 M) := by
  unfold mf_68_j74
  exact mq_N_ite (mq_N_ret rfl) (mq_N_none)
theorem mn_68 {v1 : Int32} {M : mm_M} : mq_N M.2.2 (mf_68 v1 M) := by
  unfold mf_68
  exact mq_N_B (mq_N_call mn_68_L7 rfl) (fun _ M1 hM1 => mq_N_call mn_68_j74 hM1)
-- 66: PlainPacks$Turnings.sort
theorem mn_66_b18 {p : Nat} {n : Nat} {v3 : Int32} {M : mm_M} : mq_N M.2.2 (mf_66_b18 p n v3 M) := by
  unfold mf_66_b18
  exact mq_N_ite (mq_N_ite (mq_N_ite (mq_N_ite (mq_N_ret rfl) (mq_N_none)) (mq_N_none)) (mq_N_none)) (mq_N_ret rfl)
theorem mn_66_L18 {p : Nat} {n : Nat} {s : Int32} {M : mm_M} : mq_N M.2.2 (mf_66_L18 p n s M) := by
  unfold mf_66_L18
  exact mq_N_L (fun s M h => mq_N_call mn_66_b18 h) rfl
theorem mn_66_j127 {p : Nat} {n : Nat} {v3 : Int32} {v4 : Int32} {s1 : Int32} {s2 : Int32} {M : mm_M} : mq_N M.2.2 (mf_66_j127 p n v3 v4 s1 s2 M) := by
  unfold mf_66_j127
  exact mq_N_ite (mq_N_ret rfl) (mq_N_none)
theorem mn_66_b84 {p : Nat} {n : Nat} {v3 : Int32} {v4 : Int32} {M : mm_M} : mq_N M.2.2 (mf_66_b84 p n v3 v4 M) := by
  unfold mf_66_b84
  exact mq_N_ite (mq_N_ite (mq_N_ite (mq_N_call mn_66_j127 rfl) (mq_N_call mn_66_j127 rfl)) (mq_N_none)) (mq_N_ret rfl)
theorem mn_66_L84 {p : Nat} {n : Nat} {v3 : Int32} {s : Int32} {M : mm_M} : mq_N M.2.2 (mf_66_L84 p n v3 s M) := by
  unfold mf_66_L84
  exact mq_N_L (fun s M h => mq_N_call mn_66_b84 h) rfl
theorem mn_66_j134 {p : Nat} {n : Nat} {v3 : Int32} {M : mm_M} : mq_N M.2.2 (mf_66_j134 p n v3 M) := by
  unfold mf_66_j134
  exact mq_N_B (mq_N_call mn_67 rfl) (fun _ M1 hM1 => mq_N_B (mq_N_call mn_68 hM1) (fun _ M2 hM2 => mq_N_ret hM2))
theorem mn_66_b62 {p : Nat} {n : Nat} {v3 : Int32} {M : mm_M} : mq_N M.2.2 (mf_66_b62 p n v3 M) := by
  unfold mf_66_b62
  exact mq_N_ite (mq_N_ite (mq_N_B (mq_N_call mn_66_L84 rfl) (fun _ M1 hM1 => mq_N_call mn_66_j134 hM1)) (mq_N_ret rfl)) (mq_N_ret rfl)
theorem mn_66_L62 {p : Nat} {n : Nat} {s : Int32} {M : mm_M} : mq_N M.2.2 (mf_66_L62 p n s M) := by
  unfold mf_66_L62
  exact mq_N_L (fun s M h => mq_N_call mn_66_b62 h) rfl
theorem mn_66_b156 {p : Nat} {n : Nat} {v3 : Int32} {M : mm_M} : mq_N M.2.2 (mf_66_b156 p n v3 M) := by
  unfold mf_66_b156
  exact mq_N_ite (mq_N_ite (mq_N_ret rfl) (mq_N_none)) (mq_N_ret rfl)
theorem mn_66_L156 {p : Nat} {n : Nat} {s : Int32} {M : mm_M} : mq_N M.2.2 (mf_66_L156 p n s M) := by
  unfold mf_66_L156
  exact mq_N_L (fun s M h => mq_N_call mn_66_b156 h) rfl
theorem mn_66_j177 {p : Nat} {n : Nat} {M : mm_M} : mq_N M.2.2 (mf_66_j177 p n M) := by
  unfold mf_66_j177
  exact mq_N_B (mq_N_call mn_67 rfl) (fun _ M1 hM1 => mq_N_ret hM1)
theorem mn_66_j48 {p : Nat} {n : Nat} {M : mm_M} : mq_N M.2.2 (mf_66_j48 p n M) := by
  unfold mf_66_j48
  exact mq_N_B (mq_N_call mn_67 rfl) (fun _ M1 hM1 => mq_N_B (mq_N_call mn_68 hM1) (fun _ M2 hM2 => mq_N_B (mq_N_call mn_66_L62 hM2) (fun _ M3 hM3 => mq_N_B (mq_N_call mn_66_L156 hM3) (fun _ M10 hM10 => mq_N_call mn_66_j177 hM10))))
theorem mn_66 {p : Nat} {n : Nat} {v2 : Int32} {M : mm_M} : mq_N M.2.2 (mf_66 p n v2 M) := by
  unfold mf_66
  exact mq_N_B (mq_N_call mn_66_L18 rfl) (fun _ M1 hM1 => mq_N_call mn_66_j48 hM1)
-- 151: PlainPacks$Sorted.listOccurring
theorem mn_151_b10 {v1 : Int32} {M : mm_M} : mq_N M.2.2 (mf_151_b10 v1 M) := by
  unfold mf_151_b10
  exact mq_N_ite (mq_N_ite (mq_N_ite (mq_N_ite (mq_N_ret rfl) (mq_N_none)) (mq_N_none)) (mq_N_none)) (mq_N_ret rfl)
theorem mn_151_L10 {s : Int32} {M : mm_M} : mq_N M.2.2 (mf_151_L10 s M) := by
  unfold mf_151_L10
  exact mq_N_L (fun s M h => mq_N_call mn_151_b10 h) rfl
theorem mn_151_b46 {v1 : Int32} {M : mm_M} : mq_N M.2.2 (mf_151_b46 v1 M) := by
  unfold mf_151_b46
  exact mq_N_ite (mq_N_ite (mq_N_ite (mq_N_ite (mq_N_ret rfl) (mq_N_none)) (mq_N_ret rfl)) (mq_N_none)) (mq_N_ret rfl)
theorem mn_151_L46 {s : Int32} {M : mm_M} : mq_N M.2.2 (mf_151_L46 s M) := by
  unfold mf_151_L46
  exact mq_N_L (fun s M h => mq_N_call mn_151_b46 h) rfl
theorem mn_151 {M : mm_M} : mq_N M.2.2 (mf_151 M) := by
  unfold mf_151
  exact mq_N_B (mq_N_call mn_290 rfl) (fun _ M1 hM1 => mq_N_B (mq_N_call mn_151_L10 hM1) (fun _ M2 hM2 => mq_N_B (mq_N_call mn_151_L46 hM2) (fun _ M5 hM5 => mq_N_ret hM5)))
-- 153: PlainPacks$Sorted.addLetter
theorem mn_153 {v1 : Int32} {M : mm_M} : mq_N M.2.2 (mf_153 v1 M) := by
  unfold mf_153
  exact mq_N_ite (mq_N_ite (mq_N_ret rfl) (mq_N_none)) (mq_N_ret rfl)
-- 154: PlainPacks$Sorted.closeRun
theorem mn_154_j22 {s0 : Int32} {M : mm_M} : mq_N M.2.2 (mf_154_j22 s0 M) := by
  unfold mf_154_j22
  exact mq_N_B (mq_N_call mn_153 rfl) (fun _ M1 hM1 => mq_N_ret hM1)
theorem mn_154_b0 {M : mm_M} : mq_N M.2.2 (mf_154_b0 M) := by
  unfold mf_154_b0
  exact mq_N_ite (mq_N_ite (mq_N_call mn_154_j22 rfl) (mq_N_call mn_154_j22 rfl)) (mq_N_ret rfl)
theorem mn_154_L0 {s : Unit} {M : mm_M} : mq_N M.2.2 (mf_154_L0 s M) := by
  unfold mf_154_L0
  exact mq_N_L (fun s M h => mq_N_call mn_154_b0 h) rfl
theorem mn_154 {M : mm_M} : mq_N M.2.2 (mf_154 M) := by
  unfold mf_154
  exact mq_N_B (mq_N_call mn_154_L0 rfl) (fun _ M1 hM1 => mq_N_ret hM1)
-- 152: PlainPacks$Sorted.placeInRow
theorem mn_152_b2 {v1 : Int32} {v2 : Int32} {M : mm_M} : mq_N M.2.2 (mf_152_b2 v1 v2 M) := by
  unfold mf_152_b2
  exact mq_N_ite (mq_N_ite (mq_N_ite (mq_N_ret rfl) (mq_N_ret rfl)) (mq_N_none)) (mq_N_ret rfl)
theorem mn_152_L2 {v1 : Int32} {s : Int32} {M : mm_M} : mq_N M.2.2 (mf_152_L2 v1 s M) := by
  unfold mf_152_L2
  exact mq_N_L (fun s M h => mq_N_call mn_152_b2 h) rfl
theorem mn_152 {v1 : Int32} {M : mm_M} : mq_N M.2.2 (mf_152 v1 M) := by
  unfold mf_152
  exact mq_N_B (mq_N_call mn_152_L2 rfl) (fun _ M1 hM1 => mq_N_ret hM1)
-- 150: PlainPacks$Sorted.makeLetters
theorem mn_150_j78 {v1 : Int32} {s1 : Int32} {M : mm_M} : mq_N M.2.2 (mf_150_j78 v1 s1 M) := by
  unfold mf_150_j78
  exact mq_N_ite (mq_N_ite (mq_N_ite (mq_N_ret rfl) (mq_N_B (mq_N_call mn_154 rfl) (fun _ M1 hM1 => mq_N_B (mq_N_call mn_152 hM1) (fun _ M3 hM3 => mq_N_B (mq_N_call mn_141 hM3) (fun _ M4 hM4 => mq_N_B (mq_N_call mn_153 hM4) (fun _ M5 hM5 => mq_N_ret hM5)))))) (mq_N_none)) (mq_N_none)
theorem mn_150_j58 {v1 : Int32} {v2 : Int32} {M : mm_M} : mq_N M.2.2 (mf_150_j58 v1 v2 M) := by
  unfold mf_150_j58
  exact mq_N_ite (mq_N_call mn_150_j78 rfl) (mq_N_call mn_150_j78 rfl)
theorem mn_150_b31 {v1 : Int32} {M : mm_M} : mq_N M.2.2 (mf_150_b31 v1 M) := by
  unfold mf_150_b31
  exact mq_N_ite (mq_N_ite (mq_N_ite (mq_N_call mn_150_j58 rfl) (mq_N_call mn_150_j58 rfl)) (mq_N_none)) (mq_N_ret rfl)
theorem mn_150_L31 {s : Int32} {M : mm_M} : mq_N M.2.2 (mf_150_L31 s M) := by
  unfold mf_150_L31
  exact mq_N_L (fun s M h => mq_N_call mn_150_b31 h) rfl
theorem mn_150_j137 {M : mm_M} : mq_N M.2.2 (mf_150_j137 M) := by
  unfold mf_150_j137
  exact mq_N_B (mq_N_call mn_154 rfl) (fun _ M1 hM1 => mq_N_B (mq_N_call mn_153 hM1) (fun _ M2 hM2 => mq_N_ret hM2))
theorem mn_150 {M : mm_M} : mq_N M.2.2 (mf_150 M) := by
  unfold mf_150
  exact mq_N_B (mq_N_call mn_66 rfl) (fun _ M1 hM1 => mq_N_B (mq_N_call mn_151 hM1) (fun _ M2 hM2 => mq_N_B (mq_N_call mn_150_L31 hM2) (fun _ M3 hM3 => mq_N_call mn_150_j137 hM3)))
-- 157: PlainPacks$Sorted.anyOfSixteen
theorem mn_157_b4 {v1 : Int32} {v2 : Int32} {v3 : Int32} {M : mm_M} : mq_N M.2.2 (mf_157_b4 v1 v2 v3 M) := by
  unfold mf_157_b4
  exact mq_N_ite (mq_N_ite (mq_N_ite (mq_N_ret rfl) (mq_N_ret rfl)) (mq_N_none)) (mq_N_ret rfl)
theorem mn_157_L4 {v1 : Int32} {s : Int32 × Int32} {M : mm_M} : mq_N M.2.2 (mf_157_L4 v1 s M) := by
  unfold mf_157_L4
  exact mq_N_L (fun s M h => mq_N_call mn_157_b4 h) rfl
theorem mn_157 {v1 : Int32} {M : mm_M} : mq_N M.2.2 (mf_157 v1 M) := by
  unfold mf_157
  exact mq_N_B (mq_N_call mn_157_L4 rfl) (fun _ M1 hM1 => mq_N_ite (mq_N_ret hM1) (mq_N_none))
-- 156: PlainPacks$Sorted.writeOccurring
theorem mn_156_j25 {v1 : Int32} {s1 : Int32} {M : mm_M} : mq_N M.2.2 (mf_156_j25 v1 s1 M) := by
  unfold mf_156_j25
  exact mq_N_B (mq_N_call mn_61 rfl) (fun _ M1 hM1 => mq_N_ret hM1)
theorem mn_156_b2 {v1 : Int32} {M : mm_M} : mq_N M.2.2 (mf_156_b2 v1 M) := by
  unfold mf_156_b2
  exact mq_N_ite (mq_N_B (mq_N_call mn_157 rfl) (fun _ M2 hM2 => mq_N_ite (mq_N_call mn_156_j25 hM2) (mq_N_call mn_156_j25 hM2))) (mq_N_ret rfl)
theorem mn_156_L2 {s : Int32} {M : mm_M} : mq_N M.2.2 (mf_156_L2 s M) := by
  unfold mf_156_L2
  exact mq_N_L (fun s M h => mq_N_call mn_156_b2 h) rfl
theorem mn_156_j81 {v1 : Int32} {v2 : Int32} {s1 : Int32} {M : mm_M} : mq_N M.2.2 (mf_156_j81 v1 v2 s1 M) := by
  unfold mf_156_j81
  exact mq_N_B (mq_N_call mn_61 rfl) (fun _ M1 hM1 => mq_N_ret hM1)
theorem mn_156_b44 {v1 : Int32} {v2 : Int32} {M : mm_M} : mq_N M.2.2 (mf_156_b44 v1 v2 M) := by
  unfold mf_156_b44
  exact mq_N_ite (mq_N_B (mq_N_call mn_157 rfl) (fun _ M2 hM2 => mq_N_ite (mq_N_ret hM2) (mq_N_ite (mq_N_ite (mq_N_call mn_156_j81 hM2) (mq_N_call mn_156_j81 hM2)) (mq_N_none)))) (mq_N_ret rfl)
theorem mn_156_L44 {v1 : Int32} {s : Int32} {M : mm_M} : mq_N M.2.2 (mf_156_L44 v1 s M) := by
  unfold mf_156_L44
  exact mq_N_L (fun s M h => mq_N_call mn_156_b44 h) rfl
theorem mn_156_b36 {v1 : Int32} {M : mm_M} : mq_N M.2.2 (mf_156_b36 v1 M) := by
  unfold mf_156_b36
  exact mq_N_ite (mq_N_B (mq_N_call mn_156_L44 rfl) (fun _ M1 hM1 => mq_N_ret hM1)) (mq_N_ret rfl)
theorem mn_156_L36 {s : Int32} {M : mm_M} : mq_N M.2.2 (mf_156_L36 s M) := by
  unfold mf_156_L36
  exact mq_N_L (fun s M h => mq_N_call mn_156_b36 h) rfl
theorem mn_156 {M : mm_M} : mq_N M.2.2 (mf_156 M) := by
  unfold mf_156
  exact mq_N_B (mq_N_call mn_156_L2 rfl) (fun _ M1 hM1 => mq_N_B (mq_N_call mn_156_L36 hM1) (fun _ M5 hM5 => mq_N_ret hM5))
-- 155: PlainPacks$Sorted.writeBlock
theorem mn_155_b86 {v2 : Int32} {v3 : Int32} {M : mm_M} : mq_N M.2.2 (mf_155_b86 v2 v3 M) := by
  unfold mf_155_b86
  exact mq_N_ite (mq_N_B (mq_N_call mn_61 rfl) (fun _ M1 hM1 => mq_N_ret hM1)) (mq_N_ret rfl)
theorem mn_155_L86 {v2 : Int32} {s : Int32} {M : mm_M} : mq_N M.2.2 (mf_155_L86 v2 s M) := by
  unfold mf_155_L86
  exact mq_N_L (fun s M h => mq_N_call mn_155_b86 h) rfl
theorem mn_155_b107 {v3 : Int32} {M : mm_M} : mq_N M.2.2 (mf_155_b107 v3 M) := by
  unfold mf_155_b107
  exact mq_N_ite (mq_N_ite (mq_N_ret rfl) (mq_N_ret rfl)) (mq_N_ret rfl)
theorem mn_155_L107 {s : Int32} {M : mm_M} : mq_N M.2.2 (mf_155_L107 s M) := by
  unfold mf_155_L107
  exact mq_N_L (fun s M h => mq_N_call mn_155_b107 h) rfl
theorem mn_155_b153 {v3 : Int32} {v4 : Int32} {v5 : Int32} {M : mm_M} : mq_N M.2.2 (mf_155_b153 v3 v4 v5 M) := by
  unfold mf_155_b153
  exact mq_N_ite (mq_N_B (mq_N_call mn_61 rfl) (fun _ M1 hM1 => mq_N_ret hM1)) (mq_N_ret rfl)
theorem mn_155_L153 {v3 : Int32} {v4 : Int32} {s : Int32} {M : mm_M} : mq_N M.2.2 (mf_155_L153 v3 v4 s M) := by
  unfold mf_155_L153
  exact mq_N_L (fun s M h => mq_N_call mn_155_b153 h) rfl
theorem mn_155_b134 {v3 : Int32} {v4 : Int32} {M : mm_M} : mq_N M.2.2 (mf_155_b134 v3 v4 M) := by
  unfold mf_155_b134
  exact mq_N_ite (mq_N_B (mq_N_call mn_62 rfl) (fun _ M1 hM1 => mq_N_B (mq_N_call mn_155_L153 hM1) (fun _ M2 hM2 => mq_N_ret hM2))) (mq_N_ret rfl)
theorem mn_155_L134 {v3 : Int32} {s : Int32} {M : mm_M} : mq_N M.2.2 (mf_155_L134 v3 s M) := by
  unfold mf_155_L134
  exact mq_N_L (fun s M h => mq_N_call mn_155_b134 h) rfl
theorem mn_155_b187 {v3 : Int32} {v4 : Int32} {M : mm_M} : mq_N M.2.2 (mf_155_b187 v3 v4 M) := by
  unfold mf_155_b187
  exact mq_N_ite (mq_N_ite (mq_N_B (mq_N_call mn_62 rfl) (fun _ M1 hM1 => mq_N_ret hM1)) (mq_N_none)) (mq_N_ret rfl)
theorem mn_155_L187 {v3 : Int32} {s : Int32} {M : mm_M} : mq_N M.2.2 (mf_155_L187 v3 s M) := by
  unfold mf_155_L187
  exact mq_N_L (fun s M h => mq_N_call mn_155_b187 h) rfl
theorem mn_155 {v1 : Int32} {M : mm_M} : mq_N M.2.2 (mf_155 v1 M) := by
  unfold mf_155
  exact mq_N_B (mq_N_call mn_62 rfl) (fun _ M1 hM1 => mq_N_B (mq_N_call mn_62 hM1) (fun _ M2 hM2 => mq_N_B (mq_N_call mn_61 hM2) (fun _ M3 hM3 => mq_N_B (mq_N_call mn_62 hM3) (fun _ M4 hM4 => mq_N_B (mq_N_call mn_156 hM4) (fun _ M5 hM5 => mq_N_B (mq_N_call mn_62 hM5) (fun _ M6 hM6 => mq_N_B (mq_N_call mn_62 hM6) (fun _ M7 hM7 => mq_N_B (mq_N_call mn_155_L86 hM7) (fun _ M8 hM8 => mq_N_B (mq_N_call mn_155_L107 hM8) (fun _ M15 hM15 => mq_N_B (mq_N_call mn_155_L134 hM15) (fun _ M21 hM21 => mq_N_B (mq_N_call mn_155_L187 hM21) (fun _ M27 hM27 => mq_N_ret hM27)))))))))))
-- 147: PlainPacks$Sorted.writeSorted
theorem mn_147_j88 {v1 : Int32} {M : mm_M} : mq_N M.2.2 (mf_147_j88 v1 M) := by
  unfold mf_147_j88
  exact mq_N_B (mq_N_call mn_62 rfl) (fun _ M1 hM1 => mq_N_B (mq_N_call mn_62 hM1) (fun _ M2 hM2 => mq_N_B (mq_N_call mn_64 hM2) (fun _ M3 hM3 => mq_N_ret hM3)))
theorem mn_147 {M : mm_M} : mq_N M.2.2 (mf_147 M) := by
  unfold mf_147
  exact mq_N_B (mq_N_call mn_57 rfl) (fun _ M1 hM1 => mq_N_B (mq_N_call mn_57 hM1) (fun _ M2 hM2 => mq_N_B (mq_N_call mn_57 hM2) (fun _ M3 hM3 => mq_N_B (mq_N_call mn_57 hM3) (fun _ M4 hM4 => mq_N_ite (mq_N_B (mq_N_call mn_29 hM4) (fun _ M6 hM6 => mq_N_B (mq_N_call mn_148 hM6) (fun _ M7 hM7 => mq_N_B (mq_N_call mn_150 hM7) (fun _ M8 hM8 => mq_N_B (mq_N_call mn_155 hM8) (fun _ M9 hM9 => mq_N_call mn_147_j88 hM9))))) (mq_N_call mn_147_j88 hM4)))))
-- 65: PlainPacks$Writer.carry
theorem mn_65_j34 {v2 : Int32} {s0 : Int32} {M : mm_M} : mq_N M.2.2 (mf_65_j34 v2 s0 M) := by
  unfold mf_65_j34
  exact mq_N_ite (mq_N_ite (mq_N_ret rfl) (mq_N_none)) (mq_N_none)
theorem mn_65_b9 {v1 : Int32} {v2 : Int32} {M : mm_M} : mq_N M.2.2 (mf_65_b9 v1 v2 M) := by
  unfold mf_65_b9
  exact mq_N_ite (mq_N_ret rfl) (mq_N_ite (mq_N_ret rfl) (mq_N_ite (mq_N_ite (mq_N_call mn_65_j34 rfl) (mq_N_call mn_65_j34 rfl)) (mq_N_none)))
theorem mn_65_L9 {s : Int32 × Int32} {M : mm_M} : mq_N M.2.2 (mf_65_L9 s M) := by
  unfold mf_65_L9
  exact mq_N_L (fun s M h => mq_N_call mn_65_b9 h) rfl
theorem mn_65 {M : mm_M} : mq_N M.2.2 (mf_65 M) := by
  unfold mf_65
  exact mq_N_B (mq_N_call mn_65_L9 rfl) (fun _ M1 hM1 => mq_N_ret hM1)
-- 172: PlainPacks$Chances.writeBit
theorem mn_172_j113 {M : mm_M} : mq_N M.2.2 (mf_172_j113 M) := by
  unfold mf_172_j113
  exact mq_N_ite (mq_N_B (mq_N_call mn_57 rfl) (fun _ M1 hM1 => mq_N_ret hM1)) (mq_N_ret rfl)
theorem mn_172 {v1 : Int32} {v2 : Int32} {M : mm_M} : mq_N M.2.2 (mf_172 v1 v2 M) := by
  unfold mf_172
  exact mq_N_ite (mq_N_ite (mq_N_ite (mq_N_call mn_172_j113 rfl) (mq_N_none)) (mq_N_ite (mq_N_ite (mq_N_B (mq_N_call mn_65 rfl) (fun _ M1 hM1 => mq_N_call mn_172_j113 hM1)) (mq_N_call mn_172_j113 rfl)) (mq_N_none))) (mq_N_none)
-- 171: PlainPacks$Chances.writeChances
theorem mn_171_b108 {v1 : Int32} {v2 : Int32} {v3 : Int32} {v4 : Int32} {v5 : Int32} {M : mm_M} : mq_N M.2.2 (mf_171_b108 v1 v2 v3 v4 v5 M) := by
  unfold mf_171_b108
  exact mq_N_ite (mq_N_ret rfl) (mq_N_B (mq_N_call mn_172 rfl) (fun _ M1 hM1 => mq_N_ret hM1))
theorem mn_171_L108 {v1 : Int32} {v2 : Int32} {v3 : Int32} {s : Int32 × Int32} {M : mm_M} : mq_N M.2.2 (mf_171_L108 v1 v2 v3 s M) := by
  unfold mf_171_L108
  exact mq_N_L (fun s M h => mq_N_call mn_171_b108 h) rfl
theorem mn_171_b58 {v1 : Int32} {v2 : Int32} {M : mm_M} : mq_N M.2.2 (mf_171_b58 v1 v2 M) := by
  unfold mf_171_b58
  exact mq_N_ite (mq_N_B (mq_N_call mn_172 rfl) (fun _ M1 hM1 => mq_N_ite (mq_N_B (mq_N_call mn_171_L108 hM1) (fun _ M2 hM2 => mq_N_ret hM2)) (mq_N_none))) (mq_N_ret rfl)
theorem mn_171_L58 {s : Int32 × Int32} {M : mm_M} : mq_N M.2.2 (mf_171_L58 s M) := by
  unfold mf_171_L58
  exact mq_N_L (fun s M h => mq_N_call mn_171_b58 h) rfl
theorem mn_171_j152 {M : mm_M} : mq_N M.2.2 (mf_171_j152 M) := by
  unfold mf_171_j152
  exact mq_N_B (mq_N_call mn_60 rfl) (fun _ M1 hM1 => mq_N_ret hM1)
theorem mn_171 {M : mm_M} : mq_N M.2.2 (mf_171 M) := by
  unfold mf_171
  exact mq_N_B (mq_N_call mn_57 rfl) (fun _ M1 hM1 => mq_N_B (mq_N_call mn_59 hM1) (fun _ M2 hM2 => mq_N_B (mq_N_call mn_59 hM2) (fun _ M3 hM3 => mq_N_B (mq_N_call mn_57 hM3) (fun _ M4 hM4 => mq_N_B (mq_N_call mn_158 hM4) (fun _ M5 hM5 => mq_N_B (mq_N_call mn_171_L58 hM5) (fun _ M6 hM6 => mq_N_call mn_171_j152 hM6))))))
-- 50: PlainPacks$Sink.become
theorem mn_50 {v2 : Int32} {M : mm_M} : mq_N M.2.2 (mf_50 v2 M) := by
  unfold mf_50
  exact mq_N_ite (mq_N_ret rfl) (mq_N_ite (mq_N_ret rfl) (mq_N_ite (mq_N_ret rfl) (mq_N_ite (mq_N_ret rfl) (mq_N_none))))
-- 20: PlainPacks.pack
theorem mn_20_j175 {M : mm_M} : mq_N M.2.2 (mf_20_j175 M) := by
  unfold mf_20_j175
  exact mq_N_ite (mq_N_B (mq_N_call mn_50 rfl) (fun _ M1 hM1 => mq_N_ret hM1)) (mq_N_ret rfl)
theorem mn_20 {v1 : Int32} {M : mm_M} : mq_N M.2.2 (mf_20 v1 M) := by
  unfold mf_20
  exact mq_N_B (mq_N_call mn_26 rfl) (fun _ M1 hM1 => mq_N_B (mq_N_call mn_55 hM1) (fun _ M2 hM2 => mq_N_ite (mq_N_B (mq_N_call mn_127 hM2) (fun _ M3 hM3 => mq_N_call mn_20_j175 hM3)) (mq_N_ite (mq_N_B (mq_N_call mn_91 hM2) (fun _ M4 hM4 => mq_N_call mn_20_j175 hM4)) (mq_N_ite (mq_N_B (mq_N_call mn_89 hM2) (fun _ M5 hM5 => mq_N_call mn_20_j175 hM5)) (mq_N_ite (mq_N_B (mq_N_call mn_90 hM2) (fun _ M6 hM6 => mq_N_call mn_20_j175 hM6)) (mq_N_ite (mq_N_B (mq_N_call mn_112 hM2) (fun _ M7 hM7 => mq_N_call mn_20_j175 hM7)) (mq_N_ite (mq_N_B (mq_N_call mn_113 hM2) (fun _ M8 hM8 => mq_N_call mn_20_j175 hM8)) (mq_N_ite (mq_N_B (mq_N_call mn_129 hM2) (fun _ M9 hM9 => mq_N_call mn_20_j175 hM9)) (mq_N_ite (mq_N_B (mq_N_call mn_133 hM2) (fun _ M10 hM10 => mq_N_call mn_20_j175 hM10)) (mq_N_ite (mq_N_B (mq_N_call mn_135 hM2) (fun _ M11 hM11 => mq_N_call mn_20_j175 hM11)) (mq_N_ite (mq_N_B (mq_N_call mn_147 hM2) (fun _ M12 hM12 => mq_N_call mn_20_j175 hM12)) (mq_N_B (mq_N_call mn_171 hM2) (fun _ M13 hM13 => mq_N_call mn_20_j175 hM13)))))))))))))
-- 251: PlainPacksModel.alikeAt
theorem mn_251_b2 {v1 : Int32} {v2 : Int32} {v3 : Int32} {M : mm_M} : mq_N M.2.2 (mf_251_b2 v1 v2 v3 M) := by
  unfold mf_251_b2
  exact mq_N_ite (mq_N_ite (mq_N_ite (mq_N_ite (mq_N_ite (mq_N_ret rfl) (mq_N_ret rfl)) (mq_N_none)) (mq_N_none)) (mq_N_ret rfl)) (mq_N_ret rfl)
theorem mn_251_L2 {v1 : Int32} {v2 : Int32} {s : Int32} {M : mm_M} : mq_N M.2.2 (mf_251_L2 v1 v2 s M) := by
  unfold mf_251_L2
  exact mq_N_L (fun s M h => mq_N_call mn_251_b2 h) rfl
theorem mn_251 {v1 : Int32} {v2 : Int32} {M : mm_M} : mq_N M.2.2 (mf_251 v1 v2 M) := by
  unfold mf_251
  exact mq_N_B (mq_N_call mn_251_L2 rfl) (fun _ M1 hM1 => mq_N_ret hM1)
-- 245: PlainPacksModel.write
theorem mn_245 {v1 : Int32} {M : mm_M} : mq_N M.2.2 (mf_245 v1 M) := by
  unfold mf_245
  exact mq_N_ite (mq_N_ite (mq_N_ret rfl) (mq_N_none)) (mq_N_ret rfl)
-- 252: PlainPacksModel.packRuns
theorem mn_252_b52 {v1 : Int32} {v3 : Int32} {M : mm_M} : mq_N M.2.2 (mf_252_b52 v1 v3 M) := by
  unfold mf_252_b52
  exact mq_N_ite (mq_N_ite (mq_N_B (mq_N_call mn_251 rfl) (fun _ M2 hM2 => mq_N_ite (mq_N_ret hM2) (mq_N_ret hM2))) (mq_N_ret rfl)) (mq_N_ret rfl)
theorem mn_252_L52 {v1 : Int32} {s : Int32} {M : mm_M} : mq_N M.2.2 (mf_252_L52 v1 s M) := by
  unfold mf_252_L52
  exact mq_N_L (fun s M h => mq_N_call mn_252_b52 h) rfl
theorem mn_252_b94 {v1 : Int32} {v3 : Int32} {M : mm_M} : mq_N M.2.2 (mf_252_b94 v1 v3 M) := by
  unfold mf_252_b94
  exact mq_N_ite (mq_N_ite (mq_N_B (mq_N_call mn_245 rfl) (fun _ M1 hM1 => mq_N_ret hM1)) (mq_N_none)) (mq_N_ret rfl)
theorem mn_252_L94 {v3 : Int32} {s : Int32} {M : mm_M} : mq_N M.2.2 (mf_252_L94 v3 s M) := by
  unfold mf_252_L94
  exact mq_N_L (fun s M h => mq_N_call mn_252_b94 h) rfl
theorem mn_252_j85 {v1 : Int32} {v3 : Int32} {M : mm_M} : mq_N M.2.2 (mf_252_j85 v1 v3 M) := by
  unfold mf_252_j85
  exact mq_N_B (mq_N_call mn_245 rfl) (fun _ M1 hM1 => mq_N_B (mq_N_call mn_252_L94 hM1) (fun _ M2 hM2 => mq_N_ret hM2))
theorem mn_252_b2 {v1 : Int32} {M : mm_M} : mq_N M.2.2 (mf_252_b2 v1 M) := by
  unfold mf_252_b2
  exact mq_N_ite (mq_N_B (mq_N_call mn_251 rfl) (fun _ M2 hM2 => mq_N_ite (mq_N_B (mq_N_call mn_245 hM2) (fun _ M3 hM3 => mq_N_ite (mq_N_B (mq_N_call mn_245 hM3) (fun _ M4 hM4 => mq_N_ret hM4)) (mq_N_none))) (mq_N_B (mq_N_call mn_252_L52 hM2) (fun _ M5 hM5 => mq_N_call mn_252_j85 hM5)))) (mq_N_ret rfl)
theorem mn_252_L2 {s : Int32} {M : mm_M} : mq_N M.2.2 (mf_252_L2 s M) := by
  unfold mf_252_L2
  exact mq_N_L (fun s M h => mq_N_call mn_252_b2 h) rfl
theorem mn_252 {M : mm_M} : mq_N M.2.2 (mf_252 M) := by
  unfold mf_252
  exact mq_N_B (mq_N_call mn_252_L2 rfl) (fun _ M1 hM1 => mq_N_ret hM1)
-- 248: PlainPacksModel.writeRest
theorem mn_248 {M : mm_M} : mq_N M.2.2 (mf_248 M) := by
  unfold mf_248
  exact mq_N_ite (mq_N_B (mq_N_call mn_245 rfl) (fun _ M1 hM1 => mq_N_ret hM1)) (mq_N_ret rfl)
-- 247: PlainPacksModel.writeBit
theorem mn_247_j30 {s1 : Int32} {s2 : Int32} {M : mm_M} : mq_N M.2.2 (mf_247_j30 s1 s2 M) := by
  unfold mf_247_j30
  exact mq_N_ite (mq_N_B (mq_N_call mn_248 rfl) (fun _ M1 hM1 => mq_N_ret hM1)) (mq_N_ret rfl)
theorem mn_247 {v1 : Int32} {M : mm_M} : mq_N M.2.2 (mf_247 v1 M) := by
  unfold mf_247
  exact mq_N_ite (mq_N_call mn_247_j30 rfl) (mq_N_call mn_247_j30 rfl)
-- 249: PlainPacksModel.writeBits
theorem mn_249_j27 {v1 : Int64} {v3 : Int32} {v4 : Int32} {v5 : Int32} {s1 : Int64} {s2 : Int32} {M : mm_M} : mq_N M.2.2 (mf_249_j27 v1 v3 v4 v5 s1 s2 M) := by
  unfold mf_249_j27
  exact mq_N_B (mq_N_call mn_247 rfl) (fun _ M1 hM1 => mq_N_ret hM1)
theorem mn_249_b3 {v1 : Int64} {v3 : Int32} {v4 : Int32} {v5 : Int32} {M : mm_M} : mq_N M.2.2 (mf_249_b3 v1 v3 v4 v5 M) := by
  unfold mf_249_b3
  exact mq_N_ite (mq_N_ite (mq_N_call mn_249_j27 rfl) (mq_N_call mn_249_j27 rfl)) (mq_N_ret rfl)
theorem mn_249_L3 {v1 : Int64} {v3 : Int32} {v4 : Int32} {s : Int32} {M : mm_M} : mq_N M.2.2 (mf_249_L3 v1 v3 v4 s M) := by
  unfold mf_249_L3
  exact mq_N_L (fun s M h => mq_N_call mn_249_b3 h) rfl
theorem mn_249 {v1 : Int64} {v3 : Int32} {v4 : Int32} {M : mm_M} : mq_N M.2.2 (mf_249 v1 v3 v4 M) := by
  unfold mf_249
  exact mq_N_B (mq_N_call mn_249_L3 rfl) (fun _ M1 hM1 => mq_N_ret hM1)
-- 250: PlainPacksModel.look
theorem mn_250_b55 {v1 : Int32} {v3 : Int32} {v5 : Int32} {v6 : Int32} {v7 : Int32} {M : mm_M} : mq_N M.2.2 (mf_250_b55 v1 v3 v5 v6 v7 M) := by
  unfold mf_250_b55
  exact mq_N_ite (mq_N_ite (mq_N_ite (mq_N_ite (mq_N_ret rfl) (mq_N_ret rfl)) (mq_N_none)) (mq_N_none)) (mq_N_ret rfl)
theorem mn_250_L55 {v1 : Int32} {v3 : Int32} {v5 : Int32} {v6 : Int32} {s : Int32} {M : mm_M} : mq_N M.2.2 (mf_250_L55 v1 v3 v5 v6 s M) := by
  unfold mf_250_L55
  exact mq_N_L (fun s M h => mq_N_call mn_250_b55 h) rfl
theorem mn_250_j92 {v1 : Int32} {v3 : Int32} {v5 : Int32} {v6 : Int32} {v7 : Int32} {M : mm_M} : mq_N M.2.2 (mf_250_j92 v1 v3 v5 v6 v7 M) := by
  unfold mf_250_j92
  exact mq_N_ite (mq_N_ret rfl) (mq_N_ret rfl)
theorem mn_250_b31 {v1 : Int32} {v3 : Int32} {v5 : Int32} {v6 : Int32} {M : mm_M} : mq_N M.2.2 (mf_250_b31 v1 v3 v5 v6 M) := by
  unfold mf_250_b31
  exact mq_N_ite (mq_N_ret rfl) (mq_N_ite (mq_N_ret rfl) (mq_N_ite (mq_N_B (mq_N_call mn_250_L55 rfl) (fun _ M1 hM1 => mq_N_call mn_250_j92 hM1)) (mq_N_ret rfl)))
theorem mn_250_L31 {v1 : Int32} {v3 : Int32} {v5 : Int32} {s : Int32} {M : mm_M} : mq_N M.2.2 (mf_250_L31 v1 v3 v5 s M) := by
  unfold mf_250_L31
  exact mq_N_L (fun s M h => mq_N_call mn_250_b31 h) rfl
theorem mn_250 {v1 : Int32} {v2 : Int32} {v3 : Int32} {v4 : Int32} {M : mm_M} : mq_N M.2.2 (mf_250 v1 v2 v3 v4 M) := by
  unfold mf_250
  exact mq_N_ite (mq_N_B (mq_N_call mn_250_L31 rfl) (fun _ M1 hM1 => mq_N_ret hM1)) (mq_N_B (mq_N_call mn_250_L31 rfl) (fun _ M11 hM11 => mq_N_ret hM11))
-- 253: PlainPacksModel.writeLetter
theorem mn_253 {v1 : Int32} {M : mm_M} : mq_N M.2.2 (mf_253 v1 M) := by
  unfold mf_253
  exact mq_N_ite (mq_N_ite (mq_N_B (mq_N_call mn_249 rfl) (fun _ M1 hM1 => mq_N_ret hM1)) (mq_N_none)) (mq_N_none)
-- 255: PlainPacksModel.leastLength
theorem mn_255 {v0 : Int32} {M : mm_M} : mq_N M.2.2 (mf_255 v0 M) := by
  unfold mf_255
  exact mq_N_ite (mq_N_ret rfl) (mq_N_ret rfl)
-- 254: PlainPacksModel.letterOf
theorem mn_254_b15 {v0 : Int32} {v1 : Int32} {M : mm_M} : mq_N M.2.2 (mf_254_b15 v0 v1 M) := by
  unfold mf_254_b15
  exact mq_N_ite (mq_N_B (mq_N_call mn_255 rfl) (fun _ M2 hM2 => mq_N_ite (mq_N_ret hM2) (mq_N_ret hM2))) (mq_N_ret rfl)
theorem mn_254_L15 {v0 : Int32} {s : Int32} {M : mm_M} : mq_N M.2.2 (mf_254_L15 v0 s M) := by
  unfold mf_254_L15
  exact mq_N_L (fun s M h => mq_N_call mn_254_b15 h) rfl
theorem mn_254 {v0 : Int32} {M : mm_M} : mq_N M.2.2 (mf_254 v0 M) := by
  unfold mf_254
  exact mq_N_ite (mq_N_ret rfl) (mq_N_B (mq_N_call mn_254_L15 rfl) (fun _ M1 hM1 => mq_N_ret hM1))
-- 258: PlainPacksModel.moreBits
theorem mn_258 {v0 : Int32} {M : mm_M} : mq_N M.2.2 (mf_258 v0 M) := by
  unfold mf_258
  exact mq_N_ite (mq_N_ret rfl) (mq_N_ite (mq_N_ret rfl) (mq_N_ret rfl))
-- 256: PlainPacksModel.leastDistance
theorem mn_256 {v0 : Int32} {M : mm_M} : mq_N M.2.2 (mf_256 v0 M) := by
  unfold mf_256
  exact mq_N_ite (mq_N_ret rfl) (mq_N_ret rfl)
-- 257: PlainPacksModel.distanceLetter
theorem mn_257_b2 {v0 : Int32} {v1 : Int32} {M : mm_M} : mq_N M.2.2 (mf_257_b2 v0 v1 M) := by
  unfold mf_257_b2
  exact mq_N_ite (mq_N_B (mq_N_call mn_256 rfl) (fun _ M2 hM2 => mq_N_ite (mq_N_ret hM2) (mq_N_ret hM2))) (mq_N_ret rfl)
theorem mn_257_L2 {v0 : Int32} {s : Int32} {M : mm_M} : mq_N M.2.2 (mf_257_L2 v0 s M) := by
  unfold mf_257_L2
  exact mq_N_L (fun s M h => mq_N_call mn_257_b2 h) rfl
theorem mn_257 {v0 : Int32} {M : mm_M} : mq_N M.2.2 (mf_257 v0 M) := by
  unfold mf_257
  exact mq_N_B (mq_N_call mn_257_L2 rfl) (fun _ M1 hM1 => mq_N_ret hM1)
-- 259: PlainPacksModel.moreFar
theorem mn_259 {v0 : Int32} {M : mm_M} : mq_N M.2.2 (mf_259 v0 M) := by
  unfold mf_259
  exact mq_N_ite (mq_N_ret rfl) (mq_N_ret rfl)
-- 260: PlainPacksModel.packBlock
theorem mn_260_j106 {v1 : Int32} {v2 : Int32} {s1 : Int64} {M : mm_M} : mq_N M.2.2 (mf_260_j106 v1 v2 s1 M) := by
  unfold mf_260_j106
  exact mq_N_B (mq_N_call mn_258 rfl) (fun _ M2 hM2 => mq_N_B (mq_N_call mn_249 hM2) (fun _ M3 hM3 => mq_N_B (mq_N_call mn_257 hM3) (fun _ M5 hM5 => mq_N_B (mq_N_call mn_249 hM5) (fun _ M6 hM6 => mq_N_B (mq_N_call mn_256 hM6) (fun _ M8 hM8 => mq_N_B (mq_N_call mn_259 hM8) (fun _ M10 hM10 => mq_N_B (mq_N_call mn_249 hM10) (fun _ M11 hM11 => mq_N_ret hM11)))))))
theorem mn_260_b25 {v1 : Int32} {M : mm_M} : mq_N M.2.2 (mf_260_b25 v1 M) := by
  unfold mf_260_b25
  exact mq_N_ite (mq_N_B (mq_N_call mn_250 rfl) (fun _ M1 hM1 => mq_N_ite (mq_N_ite (mq_N_B (mq_N_call mn_253 hM1) (fun _ M2 hM2 => mq_N_ret hM2)) (mq_N_none)) (mq_N_B (mq_N_call mn_254 hM1) (fun _ M4 hM4 => mq_N_B (mq_N_call mn_253 hM4) (fun _ M5 hM5 => mq_N_ite (mq_N_call mn_260_j106 hM5) (mq_N_B (mq_N_call mn_255 hM5) (fun _ M7 hM7 => mq_N_call mn_260_j106 hM7))))))) (mq_N_ret rfl)
theorem mn_260_L25 {s : Int32} {M : mm_M} : mq_N M.2.2 (mf_260_L25 s M) := by
  unfold mf_260_L25
  exact mq_N_L (fun s M h => mq_N_call mn_260_b25 h) rfl
theorem mn_260_j159 {M : mm_M} : mq_N M.2.2 (mf_260_j159 M) := by
  unfold mf_260_j159
  exact mq_N_B (mq_N_call mn_253 rfl) (fun _ M1 hM1 => mq_N_B (mq_N_call mn_248 hM1) (fun _ M2 hM2 => mq_N_ret hM2))
theorem mn_260 {M : mm_M} : mq_N M.2.2 (mf_260 M) := by
  unfold mf_260
  exact mq_N_B (mq_N_call mn_205 rfl) (fun _ M1 hM1 => mq_N_B (mq_N_call mn_249 hM1) (fun _ M2 hM2 => mq_N_B (mq_N_call mn_249 hM2) (fun _ M3 hM3 => mq_N_B (mq_N_call mn_260_L25 hM3) (fun _ M4 hM4 => mq_N_call mn_260_j159 hM4))))
-- 246: PlainPacksModel.writeLow
theorem mn_246_b3 {v1 : Int64} {v3 : Int32} {v4 : Int32} {M : mm_M} : mq_N M.2.2 (mf_246_b3 v1 v3 v4 M) := by
  unfold mf_246_b3
  exact mq_N_ite (mq_N_B (mq_N_call mn_245 rfl) (fun _ M1 hM1 => mq_N_ret hM1)) (mq_N_ret rfl)
theorem mn_246_L3 {v1 : Int64} {v3 : Int32} {s : Int32} {M : mm_M} : mq_N M.2.2 (mf_246_L3 v1 v3 s M) := by
  unfold mf_246_L3
  exact mq_N_L (fun s M h => mq_N_call mn_246_b3 h) rfl
theorem mn_246 {v1 : Int64} {v3 : Int32} {M : mm_M} : mq_N M.2.2 (mf_246 v1 v3 M) := by
  unfold mf_246
  exact mq_N_B (mq_N_call mn_246_L3 rfl) (fun _ M1 hM1 => mq_N_ret hM1)
-- 285: PlainPacksModel.packBlocks
theorem mn_285_b42 {v1 : Int32} {v2 : Int32} {M : mm_M} : mq_N M.2.2 (mf_285_b42 v1 v2 M) := by
  unfold mf_285_b42
  exact mq_N_ite (mq_N_B (mq_N_call mn_245 rfl) (fun _ M1 hM1 => mq_N_ret hM1)) (mq_N_ret rfl)
theorem mn_285_L42 {v1 : Int32} {s : Int32} {M : mm_M} : mq_N M.2.2 (mf_285_L42 v1 s M) := by
  unfold mf_285_L42
  exact mq_N_L (fun s M h => mq_N_call mn_285_b42 h) rfl
theorem mn_285_b91 {v1 : Int32} {v2 : Int32} {v3 : Int32} {M : mm_M} : mq_N M.2.2 (mf_285_b91 v1 v2 v3 M) := by
  unfold mf_285_b91
  exact mq_N_ite (mq_N_ret rfl) (mq_N_B (mq_N_call mn_245 rfl) (fun _ M1 hM1 => mq_N_ret hM1))
theorem mn_285_L91 {v1 : Int32} {v2 : Int32} {s : Int32} {M : mm_M} : mq_N M.2.2 (mf_285_L91 v1 v2 s M) := by
  unfold mf_285_L91
  exact mq_N_L (fun s M h => mq_N_call mn_285_b91 h) rfl
theorem mn_285_j112 {v1 : Int32} {M : mm_M} : mq_N M.2.2 (mf_285_j112 v1 M) := by
  unfold mf_285_j112
  exact mq_N_ite (mq_N_B (mq_N_call mn_182 rfl) (fun _ M2 hM2 => mq_N_B (mq_N_call mn_246 hM2) (fun _ M3 hM3 => mq_N_B (mq_N_call mn_246 hM3) (fun _ M4 hM4 => mq_N_ret hM4)))) (mq_N_ret rfl)
theorem mn_285_j66 {v1 : Int32} {M : mm_M} : mq_N M.2.2 (mf_285_j66 v1 M) := by
  unfold mf_285_j66
  exact mq_N_B (mq_N_call mn_260 rfl) (fun _ M1 hM1 => mq_N_ite (mq_N_B (mq_N_call mn_184 hM1) (fun _ M3 hM3 => mq_N_B (mq_N_call mn_285_L91 hM3) (fun _ M4 hM4 => mq_N_call mn_285_j112 hM4))) (mq_N_call mn_285_j112 hM1))
theorem mn_285_j59 {v1 : Int32} {M : mm_M} : mq_N M.2.2 (mf_285_j59 v1 M) := by
  unfold mf_285_j59
  exact mq_N_B (mq_N_call mn_245 rfl) (fun _ M1 hM1 => mq_N_call mn_285_j66 hM1)
theorem mn_285_j16 {v1 : Int32} {M : mm_M} : mq_N M.2.2 (mf_285_j16 v1 M) := by
  unfold mf_285_j16
  exact mq_N_ite (mq_N_B (mq_N_call mn_245 rfl) (fun _ M1 hM1 => mq_N_B (mq_N_call mn_245 hM1) (fun _ M2 hM2 => mq_N_B (mq_N_call mn_245 hM2) (fun _ M3 hM3 => mq_N_B (mq_N_call mn_285_L42 hM3) (fun _ M4 hM4 => mq_N_call mn_285_j59 hM4))))) (mq_N_call mn_285_j66 rfl)
theorem mn_285 {v1 : Int32} {M : mm_M} : mq_N M.2.2 (mf_285 v1 M) := by
  unfold mf_285
  exact mq_N_ite (mq_N_B (mq_N_call mn_245 rfl) (fun _ M1 hM1 => mq_N_B (mq_N_call mn_245 hM1) (fun _ M2 hM2 => mq_N_call mn_285_j16 hM2))) (mq_N_call mn_285_j16 rfl)
-- 262: PlainPacksModel.stands
theorem mn_262_b20 {v1 : Int32} {v2 : Int32} {v3 : Int32} {v4 : Int32} {v5 : Int32} {M : mm_M} : mq_N M.2.2 (mf_262_b20 v1 v2 v3 v4 v5 M) := by
  unfold mf_262_b20
  exact mq_N_ite (mq_N_ite (mq_N_ret rfl) (mq_N_ite (mq_N_ite (mq_N_ite (mq_N_ret rfl) (mq_N_ret rfl)) (mq_N_none)) (mq_N_none))) (mq_N_ret rfl)
theorem mn_262_L20 {v1 : Int32} {v2 : Int32} {v3 : Int32} {s : Int32 × Int32} {M : mm_M} : mq_N M.2.2 (mf_262_L20 v1 v2 v3 s M) := by
  unfold mf_262_L20
  exact mq_N_L (fun s M h => mq_N_call mn_262_b20 h) rfl
theorem mn_262 {v1 : Int32} {v2 : Int32} {v3 : Int32} {M : mm_M} : mq_N M.2.2 (mf_262 v1 v2 v3 M) := by
  unfold mf_262
  exact mq_N_ite (mq_N_B (mq_N_call mn_262_L20 rfl) (fun _ M1 hM1 => mq_N_ite (mq_N_ret hM1) (mq_N_none))) (mq_N_B (mq_N_call mn_262_L20 rfl) (fun _ M8 hM8 => mq_N_ite (mq_N_ret hM8) (mq_N_none)))
-- 261: PlainPacksModel.packWords
theorem mn_261_b94 {v2 : Int32} {v3 : Int32} {v4 : Int32} {v5 : Int32} {v8 : Int32} {v9 : Int32} {v10 : Int32} {v11 : Int32} {M : mm_M} : mq_N M.2.2 (mf_261_b94 v2 v3 v4 v5 v8 v9 v10 v11 M) := by
  unfold mf_261_b94
  exact mq_N_ite (mq_N_ite (mq_N_ite (mq_N_ite (mq_N_ite (mq_N_B (mq_N_call mn_262 rfl) (fun _ M2 hM2 => mq_N_ite (mq_N_ret hM2) (mq_N_ite (mq_N_ret hM2) (mq_N_none)))) (mq_N_none)) (mq_N_none)) (mq_N_ret rfl)) (mq_N_none)) (mq_N_ret rfl)
theorem mn_261_L94 {v2 : Int32} {v3 : Int32} {v4 : Int32} {v5 : Int32} {v8 : Int32} {s : Int32 × Int32 × Int32} {M : mm_M} : mq_N M.2.2 (mf_261_L94 v2 v3 v4 v5 v8 s M) := by
  unfold mf_261_L94
  exact mq_N_L (fun s M h => mq_N_call mn_261_b94 h) rfl
theorem mn_261_j200 {v2 : Int32} {v3 : Int32} {v4 : Int32} {v5 : Int32} {v6 : Int32} {v7 : Int32} {v8 : Int32} {s0 : Int32} {s1 : Int32} {s2 : Int32} {M : mm_M} : mq_N M.2.2 (mf_261_j200 v2 v3 v4 v5 v6 v7 v8 s0 s1 s2 M) := by
  unfold mf_261_j200
  exact mq_N_ite (mq_N_ret rfl) (mq_N_ret rfl)
theorem mn_261_j155 {v2 : Int32} {v3 : Int32} {v4 : Int32} {v5 : Int32} {v8 : Int32} {v9 : Int32} {v10 : Int32} {M : mm_M} : mq_N M.2.2 (mf_261_j155 v2 v3 v4 v5 v8 v9 v10 M) := by
  unfold mf_261_j155
  exact mq_N_B (mq_N_call mn_249 rfl) (fun _ M1 hM1 => mq_N_ite (mq_N_ite (mq_N_call mn_261_j200 hM1) (mq_N_call mn_261_j200 hM1)) (mq_N_ret hM1))
theorem mn_261_j77 {v2 : Int32} {v3 : Int32} {v4 : Int32} {v5 : Int32} {v8 : Int32} {M : mm_M} : mq_N M.2.2 (mf_261_j77 v2 v3 v4 v5 v8 M) := by
  unfold mf_261_j77
  exact mq_N_ite (mq_N_B (mq_N_call mn_261_L94 rfl) (fun _ M1 hM1 => mq_N_call mn_261_j155 hM1)) (mq_N_none)
theorem mn_261_b32 {v2 : Int32} {v3 : Int32} {v4 : Int32} {v5 : Int32} {v6 : Int32} {v7 : Int32} {v8 : Int32} {M : mm_M} : mq_N M.2.2 (mf_261_b32 v2 v3 v4 v5 v6 v7 v8 M) := by
  unfold mf_261_b32
  exact mq_N_ite (mq_N_ite (mq_N_ite (mq_N_ite (mq_N_ite (mq_N_call mn_261_j77 rfl) (mq_N_none)) (mq_N_none)) (mq_N_call mn_261_j77 rfl)) (mq_N_call mn_261_j77 rfl)) (mq_N_ret rfl)
theorem mn_261_L32 {v2 : Int32} {v3 : Int32} {s : Int32 × Int32 × Int32 × Int32 × Int32} {M : mm_M} : mq_N M.2.2 (mf_261_L32 v2 v3 s M) := by
  unfold mf_261_L32
  exact mq_N_L (fun s M h => mq_N_call mn_261_b32 h) rfl
theorem mn_261_j219 {v2 : Int32} {v3 : Int32} {v4 : Int32} {M : mm_M} : mq_N M.2.2 (mf_261_j219 v2 v3 v4 M) := by
  unfold mf_261_j219
  exact mq_N_B (mq_N_call mn_249 rfl) (fun _ M1 hM1 => mq_N_B (mq_N_call mn_248 hM1) (fun _ M2 hM2 => mq_N_ret hM2))
theorem mn_261 {v1 : Int32} {v2 : Int32} {M : mm_M} : mq_N M.2.2 (mf_261 v1 v2 M) := by
  unfold mf_261
  exact mq_N_B (mq_N_call mn_249 rfl) (fun _ M1 hM1 => mq_N_B (mq_N_call mn_261_L32 hM1) (fun _ M2 hM2 => mq_N_call mn_261_j219 hM2))
-- 263: PlainPacksModel.writeGrown
theorem mn_263_b5 {v2 : Int32} {M : mm_M} : mq_N M.2.2 (mf_263_b5 v2 M) := by
  unfold mf_263_b5
  exact mq_N_ite (mq_N_ret rfl) (mq_N_B (mq_N_call mn_245 rfl) (fun _ M1 hM1 => mq_N_ret hM1))
theorem mn_263_L5 {s : Int32} {M : mm_M} : mq_N M.2.2 (mf_263_L5 s M) := by
  unfold mf_263_L5
  exact mq_N_L (fun s M h => mq_N_call mn_263_b5 h) rfl
theorem mn_263_j28 {v2 : Int32} {M : mm_M} : mq_N M.2.2 (mf_263_j28 v2 M) := by
  unfold mf_263_j28
  exact mq_N_ite (mq_N_ret rfl) (mq_N_B (mq_N_call mn_245 rfl) (fun _ M1 hM1 => mq_N_ret hM1))
theorem mn_263 {v1 : Int32} {M : mm_M} : mq_N M.2.2 (mf_263 v1 M) := by
  unfold mf_263
  exact mq_N_B (mq_N_call mn_263_L5 rfl) (fun _ M1 hM1 => mq_N_call mn_263_j28 hM1)
-- 264: PlainPacksModel.writePiece
theorem mn_264_b62 {v2 : Int32} {v3 : Int32} {v4 : Int32} {v6 : Int32} {v7 : Int32} {M : mm_M} : mq_N M.2.2 (mf_264_b62 v2 v3 v4 v6 v7 M) := by
  unfold mf_264_b62
  exact mq_N_ite (mq_N_ite (mq_N_B (mq_N_call mn_245 rfl) (fun _ M1 hM1 => mq_N_ret hM1)) (mq_N_none)) (mq_N_ret rfl)
theorem mn_264_L62 {v2 : Int32} {v3 : Int32} {v4 : Int32} {v6 : Int32} {s : Int32} {M : mm_M} : mq_N M.2.2 (mf_264_L62 v2 v3 v4 v6 s M) := by
  unfold mf_264_L62
  exact mq_N_L (fun s M h => mq_N_call mn_264_b62 h) rfl
theorem mn_264_j85 {v3 : Int32} {v4 : Int32} {v6 : Int32} {M : mm_M} : mq_N M.2.2 (mf_264_j85 v3 v4 v6 M) := by
  unfold mf_264_j85
  exact mq_N_ite (mq_N_B (mq_N_call mn_246 rfl) (fun _ M1 hM1 => mq_N_B (mq_N_call mn_263 hM1) (fun _ M2 hM2 => mq_N_ret hM2))) (mq_N_ret rfl)
theorem mn_264_j49 {v1 : Int32} {v2 : Int32} {v3 : Int32} {v4 : Int32} {v5 : Int32} {v6 : Int32} {s1 : Int32} {s2 : Int32} {M : mm_M} : mq_N M.2.2 (mf_264_j49 v1 v2 v3 v4 v5 v6 s1 s2 M) := by
  unfold mf_264_j49
  exact mq_N_B (mq_N_call mn_245 rfl) (fun _ M1 hM1 => mq_N_B (mq_N_call mn_263 hM1) (fun _ M2 hM2 => mq_N_B (mq_N_call mn_264_L62 hM2) (fun _ M3 hM3 => mq_N_call mn_264_j85 hM3)))
theorem mn_264_j25 {v1 : Int32} {v2 : Int32} {v3 : Int32} {v4 : Int32} {v5 : Int32} {v6 : Int32} {s1 : Int32} {M : mm_M} : mq_N M.2.2 (mf_264_j25 v1 v2 v3 v4 v5 v6 s1 M) := by
  unfold mf_264_j25
  exact mq_N_ite (mq_N_call mn_264_j49 rfl) (mq_N_ite (mq_N_call mn_264_j49 rfl) (mq_N_call mn_264_j49 rfl))
theorem mn_264 {v1 : Int32} {v2 : Int32} {v3 : Int32} {v4 : Int32} {M : mm_M} : mq_N M.2.2 (mf_264 v1 v2 v3 v4 M) := by
  unfold mf_264
  exact mq_N_ite (mq_N_call mn_264_j25 rfl) (mq_N_call mn_264_j25 rfl)
-- 265: PlainPacksModel.packPieces
theorem mn_265_b4 {v1 : Int32} {v2 : Int32} {M : mm_M} : mq_N M.2.2 (mf_265_b4 v1 v2 M) := by
  unfold mf_265_b4
  exact mq_N_ite (mq_N_ret rfl) (mq_N_B (mq_N_call mn_250 rfl) (fun _ M1 hM1 => mq_N_ite (mq_N_ret hM1) (mq_N_B (mq_N_call mn_264 hM1) (fun _ M2 hM2 => mq_N_ret hM2))))
theorem mn_265_L4 {s : Int32 × Int32} {M : mm_M} : mq_N M.2.2 (mf_265_L4 s M) := by
  unfold mf_265_L4
  exact mq_N_L (fun s M h => mq_N_call mn_265_b4 h) rfl
theorem mn_265_j71 {v1 : Int32} {M : mm_M} : mq_N M.2.2 (mf_265_j71 v1 M) := by
  unfold mf_265_j71
  exact mq_N_B (mq_N_call mn_264 rfl) (fun _ M1 hM1 => mq_N_ret hM1)
theorem mn_265 {M : mm_M} : mq_N M.2.2 (mf_265 M) := by
  unfold mf_265
  exact mq_N_B (mq_N_call mn_265_L4 rfl) (fun _ M1 hM1 => mq_N_call mn_265_j71 hM1)
-- 267: PlainPacksModel.writeTape
theorem mn_267_b2 {v2 : Int32} {v3 : Int32} {M : mm_M} : mq_N M.2.2 (mf_267_b2 v2 v3 M) := by
  unfold mf_267_b2
  exact mq_N_ite (mq_N_ite (mq_N_B (mq_N_call mn_245 rfl) (fun _ M1 hM1 => mq_N_ret hM1)) (mq_N_none)) (mq_N_ret rfl)
theorem mn_267_L2 {v2 : Int32} {s : Int32} {M : mm_M} : mq_N M.2.2 (mf_267_L2 v2 s M) := by
  unfold mf_267_L2
  exact mq_N_L (fun s M h => mq_N_call mn_267_b2 h) rfl
theorem mn_267 {v1 : Int32} {v2 : Int32} {M : mm_M} : mq_N M.2.2 (mf_267 v1 v2 M) := by
  unfold mf_267
  exact mq_N_B (mq_N_call mn_267_L2 rfl) (fun _ M1 hM1 => mq_N_ret hM1)
-- 266: PlainPacksModel.packFrame
theorem mn_266_j154 {M : mm_M} : mq_N M.2.2 (mf_266_j154 M) := by
  unfold mf_266_j154
  exact mq_N_B (mq_N_call mn_246 rfl) (fun _ M1 hM1 => mq_N_B (mq_N_call mn_188 hM1) (fun _ M3 hM3 => mq_N_B (mq_N_call mn_246 hM3) (fun _ M4 hM4 => mq_N_ret hM4)))
theorem mn_266_j124 {v2 : Int32} {v3 : Int32} {s1 : Int64} {M : mm_M} : mq_N M.2.2 (mf_266_j124 v2 v3 s1 M) := by
  unfold mf_266_j124
  exact mq_N_B (mq_N_call mn_246 rfl) (fun _ M1 hM1 => mq_N_ite (mq_N_call mn_266_j154 hM1) (mq_N_B (mq_N_call mn_267 hM1) (fun _ M2 hM2 => mq_N_call mn_266_j154 hM2)))
theorem mn_266_j99 {v1 : Int32} {v2 : Int32} {s0 : Int32} {M : mm_M} : mq_N M.2.2 (mf_266_j99 v1 v2 s0 M) := by
  unfold mf_266_j99
  exact mq_N_ite (mq_N_call mn_266_j124 rfl) (mq_N_call mn_266_j124 rfl)
theorem mn_266 {M : mm_M} : mq_N M.2.2 (mf_266 M) := by
  unfold mf_266
  exact mq_N_B (mq_N_call mn_245 rfl) (fun _ M1 hM1 => mq_N_B (mq_N_call mn_245 hM1) (fun _ M2 hM2 => mq_N_B (mq_N_call mn_245 hM2) (fun _ M3 hM3 => mq_N_B (mq_N_call mn_245 hM3) (fun _ M4 hM4 => mq_N_B (mq_N_call mn_245 hM4) (fun _ M5 hM5 => mq_N_B (mq_N_call mn_245 hM5) (fun _ M6 hM6 => mq_N_B (mq_N_call mn_188 hM6) (fun _ M8 hM8 => mq_N_B (mq_N_call mn_245 hM8) (fun _ M9 hM9 => mq_N_ite (mq_N_B (mq_N_call mn_246 hM9) (fun _ M10 hM10 => mq_N_B (mq_N_call mn_265 hM10) (fun _ M11 hM11 => mq_N_ite (mq_N_call mn_266_j99 hM11) (mq_N_call mn_266_j99 hM11)))) (mq_N_call mn_266_j154 hM9)))))))))
-- 268: PlainPacksModel.writeTag
theorem mn_268_j63 {v1 : Int32} {v2 : Int32} {M : mm_M} : mq_N M.2.2 (mf_268_j63 v1 v2 M) := by
  unfold mf_268_j63
  exact mq_N_B (mq_N_call mn_267 rfl) (fun _ M1 hM1 => mq_N_ret hM1)
theorem mn_268 {v1 : Int32} {v2 : Int32} {M : mm_M} : mq_N M.2.2 (mf_268 v1 v2 M) := by
  unfold mf_268
  exact mq_N_ite (mq_N_ret rfl) (mq_N_ite (mq_N_B (mq_N_call mn_245 rfl) (fun _ M1 hM1 => mq_N_call mn_268_j63 hM1)) (mq_N_ite (mq_N_B (mq_N_call mn_245 rfl) (fun _ M2 hM2 => mq_N_B (mq_N_call mn_245 hM2) (fun _ M3 hM3 => mq_N_call mn_268_j63 hM3))) (mq_N_B (mq_N_call mn_245 rfl) (fun _ M4 hM4 => mq_N_B (mq_N_call mn_246 hM4) (fun _ M5 hM5 => mq_N_call mn_268_j63 hM5)))))
-- 269: PlainPacksModel.packTags
theorem mn_269_b5 {v1 : Int32} {M : mm_M} : mq_N M.2.2 (mf_269_b5 v1 M) := by
  unfold mf_269_b5
  exact mq_N_ite (mq_N_B (mq_N_call mn_245 rfl) (fun _ M1 hM1 => mq_N_ret hM1)) (mq_N_ret rfl)
theorem mn_269_L5 {s : Int32} {M : mm_M} : mq_N M.2.2 (mf_269_L5 s M) := by
  unfold mf_269_L5
  exact mq_N_L (fun s M h => mq_N_call mn_269_b5 h) rfl
theorem mn_269_b40 {v2 : Int32} {v3 : Int32} {M : mm_M} : mq_N M.2.2 (mf_269_b40 v2 v3 M) := by
  unfold mf_269_b40
  exact mq_N_ite (mq_N_B (mq_N_call mn_250 rfl) (fun _ M1 hM1 => mq_N_ite (mq_N_ret hM1) (mq_N_B (mq_N_call mn_268 hM1) (fun _ M2 hM2 => mq_N_B (mq_N_call mn_245 hM2) (fun _ M3 hM3 => mq_N_B (mq_N_call mn_246 hM3) (fun _ M4 hM4 => mq_N_ret hM4)))))) (mq_N_ret rfl)
theorem mn_269_L40 {s : Int32 × Int32} {M : mm_M} : mq_N M.2.2 (mf_269_L40 s M) := by
  unfold mf_269_L40
  exact mq_N_L (fun s M h => mq_N_call mn_269_b40 h) rfl
theorem mn_269_j117 {v2 : Int32} {M : mm_M} : mq_N M.2.2 (mf_269_j117 v2 M) := by
  unfold mf_269_j117
  exact mq_N_B (mq_N_call mn_268 rfl) (fun _ M1 hM1 => mq_N_ret hM1)
theorem mn_269_j31 {v1 : Int32} {M : mm_M} : mq_N M.2.2 (mf_269_j31 v1 M) := by
  unfold mf_269_j31
  exact mq_N_B (mq_N_call mn_245 rfl) (fun _ M1 hM1 => mq_N_B (mq_N_call mn_269_L40 hM1) (fun _ M2 hM2 => mq_N_call mn_269_j117 hM2))
theorem mn_269 {M : mm_M} : mq_N M.2.2 (mf_269 M) := by
  unfold mf_269
  exact mq_N_B (mq_N_call mn_269_L5 rfl) (fun _ M1 hM1 => mq_N_call mn_269_j31 hM1)
-- 275: PlainPacksModel.counted
theorem mn_275_b24 {v1 : Int32} {v2 : Int32} {v3 : Int32} {v4 : Int32} {M : mm_M} : mq_N M.2.2 (mf_275_b24 v1 v2 v3 v4 M) := by
  unfold mf_275_b24
  exact mq_N_ite (mq_N_ite (mq_N_ite (mq_N_ite (mq_N_ret rfl) (mq_N_none)) (mq_N_none)) (mq_N_ret rfl)) (mq_N_ret rfl)
theorem mn_275_L24 {v2 : Int32} {v3 : Int32} {s : Int32 × Int32} {M : mm_M} : mq_N M.2.2 (mf_275_L24 v2 v3 s M) := by
  unfold mf_275_L24
  exact mq_N_L (fun s M h => mq_N_call mn_275_b24 h) rfl
theorem mn_275_j57 {v1 : Int32} {v2 : Int32} {v3 : Int32} {M : mm_M} : mq_N M.2.2 (mf_275_j57 v1 v2 v3 M) := by
  unfold mf_275_j57
  exact mq_N_ite (mq_N_ite (mq_N_ret rfl) (mq_N_none)) (mq_N_ret rfl)
theorem mn_275_b4 {v1 : Int32} {v2 : Int32} {M : mm_M} : mq_N M.2.2 (mf_275_b4 v1 v2 M) := by
  unfold mf_275_b4
  exact mq_N_ite (mq_N_B (mq_N_call mn_251 rfl) (fun _ M2 hM2 => mq_N_B (mq_N_call mn_275_L24 hM2) (fun _ M3 hM3 => mq_N_call mn_275_j57 hM3))) (mq_N_ret rfl)
theorem mn_275_L4 {s : Int32 × Int32} {M : mm_M} : mq_N M.2.2 (mf_275_L4 s M) := by
  unfold mf_275_L4
  exact mq_N_L (fun s M h => mq_N_call mn_275_b4 h) rfl
theorem mn_275 {M : mm_M} : mq_N M.2.2 (mf_275 M) := by
  unfold mf_275
  exact mq_N_B (mq_N_call mn_275_L4 rfl) (fun _ M1 hM1 => mq_N_ret hM1)
-- 270: PlainPacksModel.compare
theorem mn_270 {v1 : Int32} {v2 : Int32} {v3 : Int32} {v4 : Int32} {M : mm_M} : mq_N M.2.2 (mf_270 v1 v2 v3 v4 M) := by
  unfold mf_270
  exact mq_N_ite (mq_N_ite (mq_N_ite (mq_N_ite (mq_N_ite (mq_N_ite (mq_N_ite (mq_N_ret rfl) (mq_N_none)) (mq_N_none)) (mq_N_none)) (mq_N_none)) (mq_N_ret rfl)) (mq_N_none)) (mq_N_none)
-- 272: PlainPacksModel.mergeBy
theorem mn_272_j100 {v2 : Int32} {v3 : Int32} {v4 : Int32} {v5 : Int32} {v7 : Int32} {v8 : Int32} {v9 : Int32} {s0 : Int32} {s1 : Int32} {M : mm_M} : mq_N M.2.2 (mf_272_j100 v2 v3 v4 v5 v7 v8 v9 s0 s1 M) := by
  unfold mf_272_j100
  exact mq_N_ite (mq_N_ret rfl) (mq_N_ret rfl)
theorem mn_272_j87 {v2 : Int32} {v3 : Int32} {v4 : Int32} {v5 : Int32} {v6 : Int32} {v7 : Int32} {v8 : Int32} {v9 : Int32} {s1 : Int32} {s2 : Int32} {M : mm_M} : mq_N M.2.2 (mf_272_j87 v2 v3 v4 v5 v6 v7 v8 v9 s1 s2 M) := by
  unfold mf_272_j87
  exact mq_N_ite (mq_N_ite (mq_N_call mn_272_j100 rfl) (mq_N_call mn_272_j100 rfl)) (mq_N_none)
theorem mn_272_j57 {v2 : Int32} {v3 : Int32} {v4 : Int32} {v5 : Int32} {v6 : Int32} {v7 : Int32} {v8 : Int32} {s0 : Int32} {M : mm_M} : mq_N M.2.2 (mf_272_j57 v2 v3 v4 v5 v6 v7 v8 s0 M) := by
  unfold mf_272_j57
  exact mq_N_ite (mq_N_ite (mq_N_call mn_272_j87 rfl) (mq_N_none)) (mq_N_ite (mq_N_call mn_272_j87 rfl) (mq_N_none))
theorem mn_272_j56 {v2 : Int32} {v3 : Int32} {v4 : Int32} {v5 : Int32} {v6 : Int32} {v7 : Int32} {v8 : Int32} {M : mm_M} : mq_N M.2.2 (mf_272_j56 v2 v3 v4 v5 v6 v7 v8 M) := by
  unfold mf_272_j56
  exact mq_N_call mn_272_j57 rfl
theorem mn_272_b9 {v2 : Int32} {v3 : Int32} {v4 : Int32} {v5 : Int32} {v6 : Int32} {v7 : Int32} {v8 : Int32} {M : mm_M} : mq_N M.2.2 (mf_272_b9 v2 v3 v4 v5 v6 v7 v8 M) := by
  unfold mf_272_b9
  exact mq_N_ite (mq_N_ite (mq_N_call mn_272_j57 rfl) (mq_N_ite (mq_N_ite (mq_N_ite (mq_N_B (mq_N_call mn_270 rfl) (fun _ M2 hM2 => mq_N_ite (mq_N_call mn_272_j56 hM2) (mq_N_call mn_272_j57 hM2))) (mq_N_none)) (mq_N_none)) (mq_N_call mn_272_j56 rfl))) (mq_N_ret rfl)
theorem mn_272_L9 {v2 : Int32} {v3 : Int32} {v4 : Int32} {v5 : Int32} {s : Int32 × Int32 × Int32} {M : mm_M} : mq_N M.2.2 (mf_272_L9 v2 v3 v4 v5 s M) := by
  unfold mf_272_L9
  exact mq_N_L (fun s M h => mq_N_call mn_272_b9 h) rfl
theorem mn_272 {v1 : Int32} {v2 : Int32} {v3 : Int32} {v4 : Int32} {v5 : Int32} {M : mm_M} : mq_N M.2.2 (mf_272 v1 v2 v3 v4 v5 M) := by
  unfold mf_272
  exact mq_N_B (mq_N_call mn_272_L9 rfl) (fun _ M1 hM1 => mq_N_ret hM1)
-- 271: PlainPacksModel.sortBy
theorem mn_271_j55 {v1 : Int32} {v2 : Int32} {v3 : Int32} {v4 : Int32} {s1 : Int32} {s2 : Int32} {s3 : Int32} {M : mm_M} : mq_N M.2.2 (mf_271_j55 v1 v2 v3 v4 s1 s2 s3 M) := by
  unfold mf_271_j55
  exact mq_N_B (mq_N_call mn_272 rfl) (fun _ M1 hM1 => mq_N_ret hM1)
theorem mn_271_j35 {v1 : Int32} {v2 : Int32} {v3 : Int32} {v4 : Int32} {s1 : Int32} {s2 : Int32} {M : mm_M} : mq_N M.2.2 (mf_271_j35 v1 v2 v3 v4 s1 s2 M) := by
  unfold mf_271_j35
  exact mq_N_ite (mq_N_call mn_271_j55 rfl) (mq_N_call mn_271_j55 rfl)
theorem mn_271_b10 {v1 : Int32} {v2 : Int32} {v3 : Int32} {v4 : Int32} {M : mm_M} : mq_N M.2.2 (mf_271_b10 v1 v2 v3 v4 M) := by
  unfold mf_271_b10
  exact mq_N_ite (mq_N_ite (mq_N_call mn_271_j35 rfl) (mq_N_call mn_271_j35 rfl)) (mq_N_ret rfl)
theorem mn_271_L10 {v1 : Int32} {v2 : Int32} {v3 : Int32} {s : Int32} {M : mm_M} : mq_N M.2.2 (mf_271_L10 v1 v2 v3 s M) := by
  unfold mf_271_L10
  exact mq_N_L (fun s M h => mq_N_call mn_271_b10 h) rfl
theorem mn_271_b74 {v1 : Int32} {v2 : Int32} {v3 : Int32} {v4 : Int32} {M : mm_M} : mq_N M.2.2 (mf_271_b74 v1 v2 v3 v4 M) := by
  unfold mf_271_b74
  exact mq_N_ite (mq_N_ite (mq_N_ite (mq_N_ret rfl) (mq_N_none)) (mq_N_none)) (mq_N_ret rfl)
theorem mn_271_L74 {v1 : Int32} {v2 : Int32} {v3 : Int32} {s : Int32} {M : mm_M} : mq_N M.2.2 (mf_271_L74 v1 v2 v3 s M) := by
  unfold mf_271_L74
  exact mq_N_L (fun s M h => mq_N_call mn_271_b74 h) rfl
theorem mn_271_b2 {v1 : Int32} {v2 : Int32} {v3 : Int32} {M : mm_M} : mq_N M.2.2 (mf_271_b2 v1 v2 v3 M) := by
  unfold mf_271_b2
  exact mq_N_ite (mq_N_B (mq_N_call mn_271_L10 rfl) (fun _ M1 hM1 => mq_N_B (mq_N_call mn_271_L74 hM1) (fun _ M4 hM4 => mq_N_ret hM4))) (mq_N_ret rfl)
theorem mn_271_L2 {v1 : Int32} {v2 : Int32} {s : Int32} {M : mm_M} : mq_N M.2.2 (mf_271_L2 v1 v2 s M) := by
  unfold mf_271_L2
  exact mq_N_L (fun s M h => mq_N_call mn_271_b2 h) rfl
theorem mn_271 {v1 : Int32} {v2 : Int32} {M : mm_M} : mq_N M.2.2 (mf_271 v1 v2 M) := by
  unfold mf_271
  exact mq_N_B (mq_N_call mn_271_L2 rfl) (fun _ M1 hM1 => mq_N_ret hM1)
-- 273: PlainPacksModel.turnAll
theorem mn_273_b2 {v1 : Int32} {v2 : Int32} {M : mm_M} : mq_N M.2.2 (mf_273_b2 v1 v2 M) := by
  unfold mf_273_b2
  exact mq_N_ite (mq_N_ite (mq_N_ite (mq_N_ite (mq_N_ret rfl) (mq_N_none)) (mq_N_none)) (mq_N_none)) (mq_N_ret rfl)
theorem mn_273_L2 {v1 : Int32} {s : Int32} {M : mm_M} : mq_N M.2.2 (mf_273_L2 v1 s M) := by
  unfold mf_273_L2
  exact mq_N_L (fun s M h => mq_N_call mn_273_b2 h) rfl
theorem mn_273_b47 {v1 : Int32} {v2 : Int32} {v3 : Int32} {M : mm_M} : mq_N M.2.2 (mf_273_b47 v1 v2 v3 M) := by
  unfold mf_273_b47
  exact mq_N_ite (mq_N_ite (mq_N_ret rfl) (mq_N_none)) (mq_N_ret rfl)
theorem mn_273_L47 {v1 : Int32} {v2 : Int32} {s : Int32} {M : mm_M} : mq_N M.2.2 (mf_273_L47 v1 v2 s M) := by
  unfold mf_273_L47
  exact mq_N_L (fun s M h => mq_N_call mn_273_b47 h) rfl
theorem mn_273_j118 {v1 : Int32} {v2 : Int32} {v4 : Int32} {s0 : Int32} {s1 : Int32} {M : mm_M} : mq_N M.2.2 (mf_273_j118 v1 v2 v4 s0 s1 M) := by
  unfold mf_273_j118
  exact mq_N_ite (mq_N_ite (mq_N_ret rfl) (mq_N_none)) (mq_N_none)
theorem mn_273_j117 {v1 : Int32} {v2 : Int32} {v4 : Int32} {s0 : Int32} {M : mm_M} : mq_N M.2.2 (mf_273_j117 v1 v2 v4 s0 M) := by
  unfold mf_273_j117
  exact mq_N_call mn_273_j118 rfl
theorem mn_273_b76 {v1 : Int32} {v2 : Int32} {v3 : Int32} {v4 : Int32} {M : mm_M} : mq_N M.2.2 (mf_273_b76 v1 v2 v3 v4 M) := by
  unfold mf_273_b76
  exact mq_N_ite (mq_N_ite (mq_N_ite (mq_N_ite (mq_N_B (mq_N_call mn_270 rfl) (fun _ M2 hM2 => mq_N_ite (mq_N_call mn_273_j117 hM2) (mq_N_call mn_273_j118 hM2))) (mq_N_none)) (mq_N_none)) (mq_N_call mn_273_j117 rfl)) (mq_N_ret rfl)
theorem mn_273_L76 {v1 : Int32} {v2 : Int32} {s : Int32 × Int32} {M : mm_M} : mq_N M.2.2 (mf_273_L76 v1 v2 s M) := by
  unfold mf_273_L76
  exact mq_N_L (fun s M h => mq_N_call mn_273_b76 h) rfl
theorem mn_273_b142 {v1 : Int32} {v2 : Int32} {v4 : Int32} {M : mm_M} : mq_N M.2.2 (mf_273_b142 v1 v2 v4 M) := by
  unfold mf_273_b142
  exact mq_N_ite (mq_N_ite (mq_N_ite (mq_N_ret rfl) (mq_N_none)) (mq_N_none)) (mq_N_ret rfl)
theorem mn_273_L142 {v1 : Int32} {v2 : Int32} {s : Int32} {M : mm_M} : mq_N M.2.2 (mf_273_L142 v1 v2 s M) := by
  unfold mf_273_L142
  exact mq_N_L (fun s M h => mq_N_call mn_273_b142 h) rfl
theorem mn_273_j65 {v1 : Int32} {v2 : Int32} {M : mm_M} : mq_N M.2.2 (mf_273_j65 v1 v2 M) := by
  unfold mf_273_j65
  exact mq_N_B (mq_N_call mn_271 rfl) (fun _ M1 hM1 => mq_N_B (mq_N_call mn_273_L76 hM1) (fun _ M2 hM2 => mq_N_B (mq_N_call mn_273_L142 hM2) (fun _ M6 hM6 => mq_N_ret hM6)))
theorem mn_273_b40 {v1 : Int32} {v2 : Int32} {M : mm_M} : mq_N M.2.2 (mf_273_b40 v1 v2 M) := by
  unfold mf_273_b40
  exact mq_N_ite (mq_N_B (mq_N_call mn_273_L47 rfl) (fun _ M1 hM1 => mq_N_call mn_273_j65 hM1)) (mq_N_ret rfl)
theorem mn_273_L40 {v1 : Int32} {s : Int32} {M : mm_M} : mq_N M.2.2 (mf_273_L40 v1 s M) := by
  unfold mf_273_L40
  exact mq_N_L (fun s M h => mq_N_call mn_273_b40 h) rfl
theorem mn_273_j32 {v1 : Int32} {M : mm_M} : mq_N M.2.2 (mf_273_j32 v1 M) := by
  unfold mf_273_j32
  exact mq_N_B (mq_N_call mn_271 rfl) (fun _ M1 hM1 => mq_N_B (mq_N_call mn_273_L40 hM1) (fun _ M2 hM2 => mq_N_ret hM2))
theorem mn_273 {v1 : Int32} {M : mm_M} : mq_N M.2.2 (mf_273 v1 M) := by
  unfold mf_273
  exact mq_N_B (mq_N_call mn_273_L2 rfl) (fun _ M1 hM1 => mq_N_call mn_273_j32 hM1)
-- 277: PlainPacksModel.writeOccurring
theorem mn_277_b2 {v1 : Int32} {v2 : Int32} {M : mm_M} : mq_N M.2.2 (mf_277_b2 v1 v2 M) := by
  unfold mf_277_b2
  exact mq_N_ite (mq_N_ite (mq_N_ret rfl) (mq_N_none)) (mq_N_ret rfl)
theorem mn_277_L2 {v1 : Int32} {s : Int32} {M : mm_M} : mq_N M.2.2 (mf_277_L2 v1 s M) := by
  unfold mf_277_L2
  exact mq_N_L (fun s M h => mq_N_call mn_277_b2 h) rfl
theorem mn_277_b24 {v1 : Int32} {v2 : Int32} {M : mm_M} : mq_N M.2.2 (mf_277_b24 v1 v2 M) := by
  unfold mf_277_b24
  exact mq_N_ite (mq_N_ite (mq_N_ite (mq_N_ret rfl) (mq_N_none)) (mq_N_none)) (mq_N_ret rfl)
theorem mn_277_L24 {v1 : Int32} {s : Int32} {M : mm_M} : mq_N M.2.2 (mf_277_L24 v1 s M) := by
  unfold mf_277_L24
  exact mq_N_L (fun s M h => mq_N_call mn_277_b24 h) rfl
theorem mn_277_b54 {v2 : Int32} {M : mm_M} : mq_N M.2.2 (mf_277_b54 v2 M) := by
  unfold mf_277_b54
  exact mq_N_ite (mq_N_ite (mq_N_ite (mq_N_ite (mq_N_ret rfl) (mq_N_none)) (mq_N_ret rfl)) (mq_N_none)) (mq_N_ret rfl)
theorem mn_277_L54 {s : Int32} {M : mm_M} : mq_N M.2.2 (mf_277_L54 s M) := by
  unfold mf_277_L54
  exact mq_N_L (fun s M h => mq_N_call mn_277_b54 h) rfl
theorem mn_277_b110 {v2 : Int32} {v3 : Int32} {v4 : Int32} {M : mm_M} : mq_N M.2.2 (mf_277_b110 v2 v3 v4 M) := by
  unfold mf_277_b110
  exact mq_N_ite (mq_N_ite (mq_N_ret rfl) (mq_N_none)) (mq_N_ret rfl)
theorem mn_277_L110 {v2 : Int32} {s : Int32 × Int32} {M : mm_M} : mq_N M.2.2 (mf_277_L110 v2 s M) := by
  unfold mf_277_L110
  exact mq_N_L (fun s M h => mq_N_call mn_277_b110 h) rfl
theorem mn_277_j138 {v2 : Int32} {v3 : Int32} {M : mm_M} : mq_N M.2.2 (mf_277_j138 v2 v3 M) := by
  unfold mf_277_j138
  exact mq_N_B (mq_N_call mn_247 rfl) (fun _ M1 hM1 => mq_N_ite (mq_N_ret hM1) (mq_N_none))
theorem mn_277_b99 {v2 : Int32} {M : mm_M} : mq_N M.2.2 (mf_277_b99 v2 M) := by
  unfold mf_277_b99
  exact mq_N_ite (mq_N_B (mq_N_call mn_277_L110 rfl) (fun _ M1 hM1 => mq_N_call mn_277_j138 hM1)) (mq_N_ret rfl)
theorem mn_277_L99 {s : Int32} {M : mm_M} : mq_N M.2.2 (mf_277_L99 s M) := by
  unfold mf_277_L99
  exact mq_N_L (fun s M h => mq_N_call mn_277_b99 h) rfl
theorem mn_277_b158 {v2 : Int32} {M : mm_M} : mq_N M.2.2 (mf_277_b158 v2 M) := by
  unfold mf_277_b158
  exact mq_N_ite (mq_N_ite (mq_N_ite (mq_N_ite (mq_N_B (mq_N_call mn_247 rfl) (fun _ M1 hM1 => mq_N_ret hM1)) (mq_N_none)) (mq_N_ret rfl)) (mq_N_none)) (mq_N_ret rfl)
theorem mn_277_L158 {s : Int32} {M : mm_M} : mq_N M.2.2 (mf_277_L158 s M) := by
  unfold mf_277_L158
  exact mq_N_L (fun s M h => mq_N_call mn_277_b158 h) rfl
theorem mn_277 {v1 : Int32} {M : mm_M} : mq_N M.2.2 (mf_277 v1 M) := by
  unfold mf_277
  exact mq_N_B (mq_N_call mn_277_L2 rfl) (fun _ M1 hM1 => mq_N_B (mq_N_call mn_277_L24 hM1) (fun _ M6 hM6 => mq_N_B (mq_N_call mn_277_L54 hM6) (fun _ M12 hM12 => mq_N_B (mq_N_call mn_277_L99 hM12) (fun _ M18 hM18 => mq_N_B (mq_N_call mn_277_L158 hM18) (fun _ M24 hM24 => mq_N_ret hM24)))))
-- 278: PlainPacksModel.letter
theorem mn_278 {v1 : Int32} {M : mm_M} : mq_N M.2.2 (mf_278 v1 M) := by
  unfold mf_278
  exact mq_N_ite (mq_N_ret rfl) (mq_N_none)
-- 279: PlainPacksModel.runLetters
theorem mn_279_b2 {v2 : Int32} {M : mm_M} : mq_N M.2.2 (mf_279_b2 v2 M) := by
  unfold mf_279_b2
  exact mq_N_ite (mq_N_B (mq_N_call mn_278 rfl) (fun _ M1 hM1 => mq_N_ret hM1)) (mq_N_ret rfl)
theorem mn_279_L2 {s : Int32} {M : mm_M} : mq_N M.2.2 (mf_279_L2 s M) := by
  unfold mf_279_L2
  exact mq_N_L (fun s M h => mq_N_call mn_279_b2 h) rfl
theorem mn_279 {v1 : Int32} {M : mm_M} : mq_N M.2.2 (mf_279 v1 M) := by
  unfold mf_279
  exact mq_N_B (mq_N_call mn_279_L2 rfl) (fun _ M1 hM1 => mq_N_ret hM1)
-- 280: PlainPacksModel.writeSorted
theorem mn_280_b46 {v1 : Int32} {v2 : Int32} {v3 : Int32} {v4 : Int32} {v5 : Int32} {v6 : Int32} {M : mm_M} : mq_N M.2.2 (mf_280_b46 v1 v2 v3 v4 v5 v6 M) := by
  unfold mf_280_b46
  exact mq_N_ite (mq_N_ite (mq_N_ret rfl) (mq_N_ret rfl)) (mq_N_none)
theorem mn_280_L46 {v1 : Int32} {v2 : Int32} {v3 : Int32} {v4 : Int32} {v5 : Int32} {s : Int32} {M : mm_M} : mq_N M.2.2 (mf_280_L46 v1 v2 v3 v4 v5 s M) := by
  unfold mf_280_L46
  exact mq_N_L (fun s M h => mq_N_call mn_280_b46 h) rfl
theorem mn_280_b94 {v1 : Int32} {v2 : Int32} {v3 : Int32} {v4 : Int32} {v5 : Int32} {v7 : Int32} {M : mm_M} : mq_N M.2.2 (mf_280_b94 v1 v2 v3 v4 v5 v7 M) := by
  unfold mf_280_b94
  exact mq_N_ite (mq_N_ite (mq_N_ite (mq_N_ret rfl) (mq_N_none)) (mq_N_none)) (mq_N_ret rfl)
theorem mn_280_L94 {v1 : Int32} {v2 : Int32} {v3 : Int32} {v4 : Int32} {v5 : Int32} {s : Int32} {M : mm_M} : mq_N M.2.2 (mf_280_L94 v1 v2 v3 v4 v5 s M) := by
  unfold mf_280_L94
  exact mq_N_L (fun s M h => mq_N_call mn_280_b94 h) rfl
theorem mn_280_j121 {v1 : Int32} {v2 : Int32} {v3 : Int32} {v4 : Int32} {v5 : Int32} {M : mm_M} : mq_N M.2.2 (mf_280_j121 v1 v2 v3 v4 v5 M) := by
  unfold mf_280_j121
  exact mq_N_ite (mq_N_ret rfl) (mq_N_none)
theorem mn_280_j64 {v1 : Int32} {v2 : Int32} {v3 : Int32} {v4 : Int32} {v5 : Int32} {v6 : Int32} {M : mm_M} : mq_N M.2.2 (mf_280_j64 v1 v2 v3 v4 v5 v6 M) := by
  unfold mf_280_j64
  exact mq_N_ite (mq_N_ret rfl) (mq_N_B (mq_N_call mn_279 rfl) (fun _ M1 hM1 => mq_N_B (mq_N_call mn_278 hM1) (fun _ M2 hM2 => mq_N_B (mq_N_call mn_280_L94 hM2) (fun _ M3 hM3 => mq_N_call mn_280_j121 hM3))))
theorem mn_280_b17 {v1 : Int32} {v2 : Int32} {v3 : Int32} {v4 : Int32} {M : mm_M} : mq_N M.2.2 (mf_280_b17 v1 v2 v3 v4 M) := by
  unfold mf_280_b17
  exact mq_N_ite (mq_N_ite (mq_N_ite (mq_N_ite (mq_N_B (mq_N_call mn_280_L46 rfl) (fun _ M1 hM1 => mq_N_call mn_280_j64 hM1)) (mq_N_none)) (mq_N_none)) (mq_N_none)) (mq_N_ret rfl)
theorem mn_280_L17 {v1 : Int32} {v2 : Int32} {s : Int32 × Int32} {M : mm_M} : mq_N M.2.2 (mf_280_L17 v1 v2 s M) := by
  unfold mf_280_L17
  exact mq_N_L (fun s M h => mq_N_call mn_280_b17 h) rfl
theorem mn_280_b150 {v2 : Int32} {v4 : Int32} {M : mm_M} : mq_N M.2.2 (mf_280_b150 v2 v4 M) := by
  unfold mf_280_b150
  exact mq_N_ite (mq_N_ret rfl) (mq_N_ret rfl)
theorem mn_280_L150 {v2 : Int32} {s : Int32} {M : mm_M} : mq_N M.2.2 (mf_280_L150 v2 s M) := by
  unfold mf_280_L150
  exact mq_N_L (fun s M h => mq_N_call mn_280_b150 h) rfl
theorem mn_280_b206 {v2 : Int32} {v4 : Int32} {v6 : Int32} {M : mm_M} : mq_N M.2.2 (mf_280_b206 v2 v4 v6 M) := by
  unfold mf_280_b206
  exact mq_N_ite (mq_N_B (mq_N_call mn_249 rfl) (fun _ M1 hM1 => mq_N_B (mq_N_call mn_249 hM1) (fun _ M2 hM2 => mq_N_ret hM2))) (mq_N_ret rfl)
theorem mn_280_L206 {v2 : Int32} {v4 : Int32} {s : Int32} {M : mm_M} : mq_N M.2.2 (mf_280_L206 v2 v4 s M) := by
  unfold mf_280_L206
  exact mq_N_L (fun s M h => mq_N_call mn_280_b206 h) rfl
theorem mn_280_b237 {v4 : Int32} {v6 : Int32} {M : mm_M} : mq_N M.2.2 (mf_280_b237 v4 v6 M) := by
  unfold mf_280_b237
  exact mq_N_ite (mq_N_ite (mq_N_B (mq_N_call mn_249 rfl) (fun _ M1 hM1 => mq_N_ret hM1)) (mq_N_none)) (mq_N_ret rfl)
theorem mn_280_L237 {v4 : Int32} {s : Int32} {M : mm_M} : mq_N M.2.2 (mf_280_L237 v4 s M) := by
  unfold mf_280_L237
  exact mq_N_L (fun s M h => mq_N_call mn_280_b237 h) rfl
theorem mn_280_j164 {v2 : Int32} {v4 : Int32} {M : mm_M} : mq_N M.2.2 (mf_280_j164 v2 v4 M) := by
  unfold mf_280_j164
  exact mq_N_B (mq_N_call mn_249 rfl) (fun _ M1 hM1 => mq_N_B (mq_N_call mn_249 hM1) (fun _ M2 hM2 => mq_N_B (mq_N_call mn_249 hM2) (fun _ M3 hM3 => mq_N_B (mq_N_call mn_280_L206 hM3) (fun _ M4 hM4 => mq_N_B (mq_N_call mn_280_L237 hM4) (fun _ M12 hM12 => mq_N_ret hM12)))))
theorem mn_280_j135 {v2 : Int32} {v3 : Int32} {M : mm_M} : mq_N M.2.2 (mf_280_j135 v2 v3 M) := by
  unfold mf_280_j135
  exact mq_N_B (mq_N_call mn_279 rfl) (fun _ M1 hM1 => mq_N_B (mq_N_call mn_278 hM1) (fun _ M2 hM2 => mq_N_B (mq_N_call mn_280_L150 hM2) (fun _ M3 hM3 => mq_N_call mn_280_j164 hM3)))
theorem mn_280 {v1 : Int32} {M : mm_M} : mq_N M.2.2 (mf_280 v1 M) := by
  unfold mf_280
  exact mq_N_B (mq_N_call mn_280_L17 rfl) (fun _ M1 hM1 => mq_N_call mn_280_j135 hM1)
-- 276: PlainPacksModel.packSorted
theorem mn_276_b87 {v1 : Int32} {v2 : Int32} {v3 : Int32} {M : mm_M} : mq_N M.2.2 (mf_276_b87 v1 v2 v3 M) := by
  unfold mf_276_b87
  exact mq_N_ite (mq_N_ite (mq_N_ite (mq_N_ite (mq_N_ret rfl) (mq_N_ret rfl)) (mq_N_none)) (mq_N_none)) (mq_N_none)
theorem mn_276_L87 {v1 : Int32} {v2 : Int32} {s : Int32} {M : mm_M} : mq_N M.2.2 (mf_276_L87 v1 v2 s M) := by
  unfold mf_276_L87
  exact mq_N_L (fun s M h => mq_N_call mn_276_b87 h) rfl
theorem mn_276_j156 {s1 : Int64} {M : mm_M} : mq_N M.2.2 (mf_276_j156 s1 M) := by
  unfold mf_276_j156
  exact mq_N_B (mq_N_call mn_249 rfl) (fun _ M1 hM1 => mq_N_B (mq_N_call mn_248 hM1) (fun _ M2 hM2 => mq_N_ret hM2))
theorem mn_276_j132 {v1 : Int32} {M : mm_M} : mq_N M.2.2 (mf_276_j132 v1 M) := by
  unfold mf_276_j132
  exact mq_N_B (mq_N_call mn_249 rfl) (fun _ M1 hM1 => mq_N_ite (mq_N_call mn_276_j156 hM1) (mq_N_call mn_276_j156 hM1))
theorem mn_276_j113 {v1 : Int32} {v2 : Int32} {v3 : Int32} {M : mm_M} : mq_N M.2.2 (mf_276_j113 v1 v2 v3 M) := by
  unfold mf_276_j113
  exact mq_N_B (mq_N_call mn_249 rfl) (fun _ M1 hM1 => mq_N_B (mq_N_call mn_277 hM1) (fun _ M2 hM2 => mq_N_B (mq_N_call mn_280 hM2) (fun _ M3 hM3 => mq_N_call mn_276_j132 hM3)))
theorem mn_276 {M : mm_M} : mq_N M.2.2 (mf_276 M) := by
  unfold mf_276
  exact mq_N_B (mq_N_call mn_245 rfl) (fun _ M1 hM1 => mq_N_B (mq_N_call mn_245 hM1) (fun _ M2 hM2 => mq_N_B (mq_N_call mn_245 hM2) (fun _ M3 hM3 => mq_N_B (mq_N_call mn_245 hM3) (fun _ M4 hM4 => mq_N_B (mq_N_call mn_183 hM4) (fun _ M6 hM6 => mq_N_ite (mq_N_B (mq_N_call mn_275 hM6) (fun _ M8 hM8 => mq_N_B (mq_N_call mn_273 hM8) (fun _ M9 hM9 => mq_N_B (mq_N_call mn_249 hM9) (fun _ M10 hM10 => mq_N_B (mq_N_call mn_249 hM10) (fun _ M11 hM11 => mq_N_B (mq_N_call mn_249 hM11) (fun _ M12 hM12 => mq_N_B (mq_N_call mn_276_L87 hM12) (fun _ M13 hM13 => mq_N_call mn_276_j113 hM13))))))) (mq_N_call mn_276_j132 hM6))))))
-- 281: PlainPacksModel.carry
theorem mn_281_b30 {v1 : Int32} {M : mm_M} : mq_N M.2.2 (mf_281_b30 v1 M) := by
  unfold mf_281_b30
  exact mq_N_ite (mq_N_ret rfl) (mq_N_ite (mq_N_ite (mq_N_ite (mq_N_ret rfl) (mq_N_none)) (mq_N_ret rfl)) (mq_N_none))
theorem mn_281_L30 {s : Int32} {M : mm_M} : mq_N M.2.2 (mf_281_L30 s M) := by
  unfold mf_281_L30
  exact mq_N_L (fun s M h => mq_N_call mn_281_b30 h) rfl
theorem mn_281_j59 {v1 : Int32} {M : mm_M} : mq_N M.2.2 (mf_281_j59 v1 M) := by
  unfold mf_281_j59
  exact mq_N_ite (mq_N_ite (mq_N_ret rfl) (mq_N_none)) (mq_N_none)
theorem mn_281 {M : mm_M} : mq_N M.2.2 (mf_281 M) := by
  unfold mf_281
  exact mq_N_ite (mq_N_B (mq_N_call mn_281_L30 rfl) (fun _ M1 hM1 => mq_N_call mn_281_j59 hM1)) (mq_N_ret rfl)
-- 282: PlainPacksModel.tell
theorem mn_282_j93 {M : mm_M} : mq_N M.2.2 (mf_282_j93 M) := by
  unfold mf_282_j93
  exact mq_N_ite (mq_N_ite (mq_N_ret rfl) (mq_N_none)) (mq_N_ret rfl)
theorem mn_282 {v1 : Int32} {v2 : Int32} {M : mm_M} : mq_N M.2.2 (mf_282 v1 v2 M) := by
  unfold mf_282
  exact mq_N_ite (mq_N_ite (mq_N_ite (mq_N_ite (mq_N_ite (mq_N_call mn_282_j93 rfl) (mq_N_none)) (mq_N_none)) (mq_N_none)) (mq_N_ite (mq_N_ite (mq_N_ite (mq_N_B (mq_N_call mn_281 rfl) (fun _ M1 hM1 => mq_N_call mn_282_j93 hM1)) (mq_N_none)) (mq_N_none)) (mq_N_none))) (mq_N_none)
-- 283: PlainPacksModel.packChances
theorem mn_283_b27 {v1 : Int32} {M : mm_M} : mq_N M.2.2 (mf_283_b27 v1 M) := by
  unfold mf_283_b27
  exact mq_N_ite (mq_N_ite (mq_N_ret rfl) (mq_N_none)) (mq_N_ret rfl)
theorem mn_283_L27 {s : Int32} {M : mm_M} : mq_N M.2.2 (mf_283_L27 s M) := by
  unfold mf_283_L27
  exact mq_N_L (fun s M h => mq_N_call mn_283_b27 h) rfl
theorem mn_283_b114 {v2 : Int32} {v3 : Int32} {v4 : Int32} {v5 : Int32} {M : mm_M} : mq_N M.2.2 (mf_283_b114 v2 v3 v4 v5 M) := by
  unfold mf_283_b114
  exact mq_N_ite (mq_N_ret rfl) (mq_N_ite (mq_N_B (mq_N_call mn_282 rfl) (fun _ M1 hM1 => mq_N_ret hM1)) (mq_N_none))
theorem mn_283_L114 {v2 : Int32} {v3 : Int32} {s : Int32 × Int32} {M : mm_M} : mq_N M.2.2 (mf_283_L114 v2 v3 s M) := by
  unfold mf_283_L114
  exact mq_N_L (fun s M h => mq_N_call mn_283_b114 h) rfl
theorem mn_283_j157 {v2 : Int32} {M : mm_M} : mq_N M.2.2 (mf_283_j157 v2 M) := by
  unfold mf_283_j157
  exact mq_N_ite (mq_N_ret rfl) (mq_N_none)
theorem mn_283_b77 {v1 : Int32} {v2 : Int32} {M : mm_M} : mq_N M.2.2 (mf_283_b77 v1 v2 M) := by
  unfold mf_283_b77
  exact mq_N_ite (mq_N_B (mq_N_call mn_282 rfl) (fun _ M1 hM1 => mq_N_B (mq_N_call mn_283_L114 hM1) (fun _ M2 hM2 => mq_N_call mn_283_j157 hM2))) (mq_N_ret rfl)
theorem mn_283_L77 {s : Int32 × Int32} {M : mm_M} : mq_N M.2.2 (mf_283_L77 s M) := by
  unfold mf_283_L77
  exact mq_N_L (fun s M h => mq_N_call mn_283_b77 h) rfl
theorem mn_283_b172 {v2 : Int32} {M : mm_M} : mq_N M.2.2 (mf_283_b172 v2 M) := by
  unfold mf_283_b172
  exact mq_N_ite (mq_N_ite (mq_N_B (mq_N_call mn_245 rfl) (fun _ M1 hM1 => mq_N_ret hM1)) (mq_N_none)) (mq_N_ret rfl)
theorem mn_283_L172 {s : Int32} {M : mm_M} : mq_N M.2.2 (mf_283_L172 s M) := by
  unfold mf_283_L172
  exact mq_N_L (fun s M h => mq_N_call mn_283_b172 h) rfl
theorem mn_283_b198 {v2 : Int32} {M : mm_M} : mq_N M.2.2 (mf_283_b198 v2 M) := by
  unfold mf_283_b198
  exact mq_N_ite (mq_N_ret rfl) (mq_N_B (mq_N_call mn_245 rfl) (fun _ M1 hM1 => mq_N_ret hM1))
theorem mn_283_L198 {s : Int32} {M : mm_M} : mq_N M.2.2 (mf_283_L198 s M) := by
  unfold mf_283_L198
  exact mq_N_L (fun s M h => mq_N_call mn_283_b198 h) rfl
theorem mn_283_j49 {M : mm_M} : mq_N M.2.2 (mf_283_j49 M) := by
  unfold mf_283_j49
  exact mq_N_ite (mq_N_B (mq_N_call mn_283_L77 rfl) (fun _ M1 hM1 => mq_N_B (mq_N_call mn_283_L172 hM1) (fun _ M9 hM9 => mq_N_B (mq_N_call mn_283_L198 hM9) (fun _ M17 hM17 => mq_N_ret hM17)))) (mq_N_none)
theorem mn_283 {M : mm_M} : mq_N M.2.2 (mf_283 M) := by
  unfold mf_283
  exact mq_N_B (mq_N_call mn_245 rfl) (fun _ M1 hM1 => mq_N_B (mq_N_call mn_246 hM1) (fun _ M2 hM2 => mq_N_B (mq_N_call mn_246 hM2) (fun _ M3 hM3 => mq_N_B (mq_N_call mn_283_L27 hM3) (fun _ M4 hM4 => mq_N_call mn_283_j49 hM4))))
-- 284: PlainPacksModel.pack
theorem mn_284_b193 {v2 : Int32} {M : mm_M} : mq_N M.2.2 (mf_284_b193 v2 M) := by
  unfold mf_284_b193
  exact mq_N_ite (mq_N_ite (mq_N_ite (mq_N_ret rfl) (mq_N_none)) (mq_N_none)) (mq_N_ret rfl)
theorem mn_284_L193 {s : Int32} {M : mm_M} : mq_N M.2.2 (mf_284_L193 s M) := by
  unfold mf_284_L193
  exact mq_N_L (fun s M h => mq_N_call mn_284_b193 h) rfl
theorem mn_284_j179 {M : mm_M} : mq_N M.2.2 (mf_284_j179 M) := by
  unfold mf_284_j179
  exact mq_N_ite (mq_N_ret rfl) (mq_N_B (mq_N_call mn_284_L193 rfl) (fun _ M1 hM1 => mq_N_ret hM1))
theorem mn_284_j16 {v1 : Int32} {s1 : Int32} {M : mm_M} : mq_N M.2.2 (mf_284_j16 v1 s1 M) := by
  unfold mf_284_j16
  exact mq_N_B (mq_N_call mn_174 rfl) (fun _ M2 hM2 => mq_N_ite (mq_N_ret hM2) (mq_N_ite (mq_N_B (mq_N_call mn_252 hM2) (fun _ M3 hM3 => mq_N_call mn_284_j179 hM3)) (mq_N_ite (mq_N_B (mq_N_call mn_285 hM2) (fun _ M4 hM4 => mq_N_call mn_284_j179 hM4)) (mq_N_ite (mq_N_B (mq_N_call mn_285 hM2) (fun _ M5 hM5 => mq_N_call mn_284_j179 hM5)) (mq_N_ite (mq_N_B (mq_N_call mn_285 hM2) (fun _ M6 hM6 => mq_N_call mn_284_j179 hM6)) (mq_N_ite (mq_N_B (mq_N_call mn_245 hM2) (fun _ M7 hM7 => mq_N_B (mq_N_call mn_261 hM7) (fun _ M8 hM8 => mq_N_call mn_284_j179 hM8))) (mq_N_ite (mq_N_B (mq_N_call mn_261 hM2) (fun _ M9 hM9 => mq_N_call mn_284_j179 hM9)) (mq_N_ite (mq_N_B (mq_N_call mn_265 hM2) (fun _ M10 hM10 => mq_N_call mn_284_j179 hM10)) (mq_N_ite (mq_N_B (mq_N_call mn_266 hM2) (fun _ M11 hM11 => mq_N_call mn_284_j179 hM11)) (mq_N_ite (mq_N_B (mq_N_call mn_269 hM2) (fun _ M12 hM12 => mq_N_call mn_284_j179 hM12)) (mq_N_ite (mq_N_B (mq_N_call mn_276 hM2) (fun _ M13 hM13 => mq_N_call mn_284_j179 hM13)) (mq_N_B (mq_N_call mn_283 hM2) (fun _ M14 hM14 => mq_N_call mn_284_j179 hM14)))))))))))))
theorem mn_284_j15 {v1 : Int32} {M : mm_M} : mq_N M.2.2 (mf_284_j15 v1 M) := by
  unfold mf_284_j15
  exact mq_N_call mn_284_j16 rfl
theorem mn_284 {v1 : Int32} {M : mm_M} : mq_N M.2.2 (mf_284 v1 M) := by
  unfold mf_284
  exact mq_N_ite (mq_N_call mn_284_j15 rfl) (mq_N_ite (mq_N_call mn_284_j15 rfl) (mq_N_call mn_284_j16 rfl))
-- 21: PlainPacks.sum
theorem mn_21 {v1 : Int32} {M : mm_M} : mq_N M.2.2 (mf_21 v1 M) := by
  unfold mf_21
  exact mq_N_ite (mq_N_B (mq_N_call mn_28 rfl) (fun _ M2 hM2 => mq_N_ret hM2)) (mq_N_ite (mq_N_B (mq_N_call mn_29 rfl) (fun _ M4 hM4 => mq_N_ret hM4)) (mq_N_ite (mq_N_B (mq_N_call mn_30 rfl) (fun _ M6 hM6 => mq_N_ret hM6)) (mq_N_ite (mq_N_B (mq_N_call mn_31 rfl) (fun _ M8 hM8 => mq_N_ret hM8)) (mq_N_thr rfl))))
-- 189: PlainPacksModel.sum
theorem mn_189_j15 {v1 : Int32} {s1 : Int32} {M : mm_M} : mq_N M.2.2 (mf_189_j15 v1 s1 M) := by
  unfold mf_189_j15
  exact mq_N_B (mq_N_call mn_174 rfl) (fun _ M2 hM2 => mq_N_ite (mq_N_ret hM2) (mq_N_ite (mq_N_B (mq_N_call mn_182 hM2) (fun _ M4 hM4 => mq_N_ret hM4)) (mq_N_ite (mq_N_B (mq_N_call mn_183 hM2) (fun _ M6 hM6 => mq_N_ret hM6)) (mq_N_ite (mq_N_B (mq_N_call mn_184 hM2) (fun _ M8 hM8 => mq_N_ret hM8)) (mq_N_B (mq_N_call mn_188 hM2) (fun _ M10 hM10 => mq_N_ret hM10))))))
theorem mn_189_j14 {v1 : Int32} {M : mm_M} : mq_N M.2.2 (mf_189_j14 v1 M) := by
  unfold mf_189_j14
  exact mq_N_call mn_189_j15 rfl
theorem mn_189 {v1 : Int32} {M : mm_M} : mq_N M.2.2 (mf_189 v1 M) := by
  unfold mf_189
  exact mq_N_ite (mq_N_call mn_189_j14 rfl) (mq_N_ite (mq_N_call mn_189_j14 rfl) (mq_N_call mn_189_j15 rfl))
-- 98: PlainPacks$Blocks.copyBits
theorem mn_98 {v0 : Int32} {v1 : Int32} {M : mm_M} : mq_N M.2.2 (mf_98 v0 v1 M) := by
  unfold mf_98
  exact mq_N_B (mq_N_call mn_94 rfl) (fun _ M2 hM2 => mq_N_B (mq_N_call mn_82 hM2) (fun _ M4 hM4 => mq_N_B (mq_N_call mn_95 hM4) (fun _ M6 hM6 => mq_N_B (mq_N_call mn_96 hM6) (fun _ M8 hM8 => mq_N_ret hM8))))
-- 97: PlainPacks$Blocks.leastBits
theorem mn_97_b156 {v2 : Int32} {v3 : Int32} {v4 : Int32} {v6 : Int32} {v7 : Int32} {M : mm_M} : mq_N M.2.2 (mf_97_b156 v2 v3 v4 v6 v7 M) := by
  unfold mf_97_b156
  exact mq_N_ite (mq_N_ret rfl) (mq_N_ite (mq_N_B (mq_N_call mn_98 rfl) (fun _ M2 hM2 => mq_N_ite (mq_N_ite (mq_N_ret hM2) (mq_N_none)) (mq_N_none))) (mq_N_none))
theorem mn_97_L156 {v2 : Int32} {v3 : Int32} {v4 : Int32} {v6 : Int32} {s : Int32} {M : mm_M} : mq_N M.2.2 (mf_97_L156 v2 v3 v4 v6 s M) := by
  unfold mf_97_L156
  exact mq_N_L (fun s M h => mq_N_call mn_97_b156 h) rfl
theorem mn_97_j201 {v2 : Int32} {v3 : Int32} {v4 : Int32} {v6 : Int32} {M : mm_M} : mq_N M.2.2 (mf_97_j201 v2 v3 v4 v6 M) := by
  unfold mf_97_j201
  exact mq_N_ret rfl
theorem mn_97_j135 {v2 : Int32} {v3 : Int32} {v4 : Int32} {s1 : Int32} {s2 : Int32} {M : mm_M} : mq_N M.2.2 (mf_97_j135 v2 v3 v4 s1 s2 M) := by
  unfold mf_97_j135
  exact mq_N_ite (mq_N_ite (mq_N_B (mq_N_call mn_97_L156 rfl) (fun _ M1 hM1 => mq_N_call mn_97_j201 hM1)) (mq_N_none)) (mq_N_none)
theorem mn_97_j109 {v2 : Int32} {v3 : Int32} {v4 : Int32} {s0 : Int32} {M : mm_M} : mq_N M.2.2 (mf_97_j109 v2 v3 v4 s0 M) := by
  unfold mf_97_j109
  exact mq_N_ite (mq_N_call mn_97_j135 rfl) (mq_N_ite (mq_N_call mn_97_j135 rfl) (mq_N_none))
theorem mn_97_b74 {v2 : Int32} {v3 : Int32} {v4 : Int32} {M : mm_M} : mq_N M.2.2 (mf_97_b74 v2 v3 v4 M) := by
  unfold mf_97_b74
  exact mq_N_ite (mq_N_ret rfl) (mq_N_ite (mq_N_ite (mq_N_ite (mq_N_call mn_97_j109 rfl) (mq_N_call mn_97_j109 rfl)) (mq_N_none)) (mq_N_none))
theorem mn_97_L74 {v2 : Int32} {s : Int32 × Int32} {M : mm_M} : mq_N M.2.2 (mf_97_L74 v2 s M) := by
  unfold mf_97_L74
  exact mq_N_L (fun s M h => mq_N_call mn_97_b74 h) rfl
theorem mn_97_b38 {v2 : Int32} {M : mm_M} : mq_N M.2.2 (mf_97_b38 v2 M) := by
  unfold mf_97_b38
  exact mq_N_ite (mq_N_ret rfl) (mq_N_ite (mq_N_B (mq_N_call mn_82 rfl) (fun _ M2 hM2 => mq_N_ite (mq_N_ite (mq_N_B (mq_N_call mn_97_L74 hM2) (fun _ M3 hM3 => mq_N_ret hM3)) (mq_N_none)) (mq_N_none))) (mq_N_none))
theorem mn_97_L38 {s : Int32} {M : mm_M} : mq_N M.2.2 (mf_97_L38 s M) := by
  unfold mf_97_L38
  exact mq_N_L (fun s M h => mq_N_call mn_97_b38 h) rfl
theorem mn_97_j220 {M : mm_M} : mq_N M.2.2 (mf_97_j220 M) := by
  unfold mf_97_j220
  exact mq_N_ite (mq_N_ret rfl) (mq_N_none)
theorem mn_97 {M : mm_M} : mq_N M.2.2 (mf_97 M) := by
  unfold mf_97
  exact mq_N_B (mq_N_call mn_290 rfl) (fun _ M1 hM1 => mq_N_B (mq_N_call mn_82 hM1) (fun _ M3 hM3 => mq_N_ite (mq_N_B (mq_N_call mn_97_L38 hM3) (fun _ M4 hM4 => mq_N_call mn_97_j220 hM4)) (mq_N_none)))
-- 22: PlainPacks.least
theorem mn_22 {M : mm_M} : mq_N M.2.2 (mf_22 M) := by
  unfold mf_22
  exact mq_N_ite (mq_N_ret rfl) (mq_N_B (mq_N_call mn_97 rfl) (fun _ M2 hM2 => mq_N_ret hM2))
-- 286: PlainPacksModel.lettersBits
theorem mn_286 {v0 : Int32} {M : mm_M} : mq_N M.2.2 (mf_286 v0 M) := by
  unfold mf_286
  exact mq_N_ite (mq_N_ret rfl) (mq_N_ite (mq_N_ret rfl) (mq_N_ite (mq_N_ret rfl) (mq_N_ret rfl)))
-- 287: PlainPacksModel.least
theorem mn_287_b79 {v1 : Int32} {v2 : Int32} {v3 : Int32} {v4 : Int32} {v5 : Int32} {M : mm_M} : mq_N M.2.2 (mf_287_b79 v1 v2 v3 v4 v5 M) := by
  unfold mf_287_b79
  exact mq_N_ite (mq_N_ite (mq_N_ite (mq_N_ite (mq_N_ite (mq_N_ite (mq_N_ret rfl) (mq_N_B (mq_N_call mn_254 rfl) (fun _ M2 hM2 => mq_N_B (mq_N_call mn_286 hM2) (fun _ M4 hM4 => mq_N_B (mq_N_call mn_258 hM4) (fun _ M6 hM6 => mq_N_ite (mq_N_ite (mq_N_ret hM6) (mq_N_ret hM6)) (mq_N_none)))))) (mq_N_ret rfl)) (mq_N_none)) (mq_N_none)) (mq_N_ret rfl)) (mq_N_ret rfl)
theorem mn_287_L79 {v1 : Int32} {v3 : Int32} {v4 : Int32} {s : Int32 × Int32} {M : mm_M} : mq_N M.2.2 (mf_287_L79 v1 v3 v4 s M) := by
  unfold mf_287_L79
  exact mq_N_L (fun s M h => mq_N_call mn_287_b79 h) rfl
theorem mn_287_b60 {v1 : Int32} {v2 : Int32} {v3 : Int32} {M : mm_M} : mq_N M.2.2 (mf_287_b60 v1 v2 v3 M) := by
  unfold mf_287_b60
  exact mq_N_ite (mq_N_ret rfl) (mq_N_B (mq_N_call mn_257 rfl) (fun _ M2 hM2 => mq_N_B (mq_N_call mn_259 hM2) (fun _ M4 hM4 => mq_N_B (mq_N_call mn_287_L79 hM4) (fun _ M5 hM5 => mq_N_ret hM5))))
theorem mn_287_L60 {v1 : Int32} {s : Int32 × Int32} {M : mm_M} : mq_N M.2.2 (mf_287_L60 v1 s M) := by
  unfold mf_287_L60
  exact mq_N_L (fun s M h => mq_N_call mn_287_b60 h) rfl
theorem mn_287_j185 {v1 : Int32} {v2 : Int32} {M : mm_M} : mq_N M.2.2 (mf_287_j185 v1 v2 M) := by
  unfold mf_287_j185
  exact mq_N_ite (mq_N_ret rfl) (mq_N_none)
theorem mn_287_b35 {v1 : Int32} {M : mm_M} : mq_N M.2.2 (mf_287_b35 v1 M) := by
  unfold mf_287_b35
  exact mq_N_ite (mq_N_ret rfl) (mq_N_ite (mq_N_B (mq_N_call mn_286 rfl) (fun _ M2 hM2 => mq_N_ite (mq_N_B (mq_N_call mn_287_L60 hM2) (fun _ M3 hM3 => mq_N_call mn_287_j185 hM3)) (mq_N_none))) (mq_N_none))
theorem mn_287_L35 {s : Int32} {M : mm_M} : mq_N M.2.2 (mf_287_L35 s M) := by
  unfold mf_287_L35
  exact mq_N_L (fun s M h => mq_N_call mn_287_b35 h) rfl
theorem mn_287_j198 {M : mm_M} : mq_N M.2.2 (mf_287_j198 M) := by
  unfold mf_287_j198
  exact mq_N_ite (mq_N_ret rfl) (mq_N_none)
theorem mn_287 {M : mm_M} : mq_N M.2.2 (mf_287 M) := by
  unfold mf_287
  exact mq_N_ite (mq_N_ret rfl) (mq_N_ite (mq_N_B (mq_N_call mn_287_L35 rfl) (fun _ M1 hM1 => mq_N_call mn_287_j198 hM1)) (mq_N_none))
