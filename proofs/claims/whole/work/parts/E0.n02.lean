/-! HOW MANY THROWS 2 -/
-- 205: PlainPacksModel.fixed
theorem mn_205_j65 {v1 : Int32} {s1 : Int32} {s2 : Int32} {M : mm_M} : mq_N M.2.2 (mf_205_j65 v1 s1 s2 M) := by
  unfold mf_205_j65
  exact mq_N_ite (mq_N_ret rfl) (mq_N_none)
theorem mn_205_b15 {v1 : Int32} {M : mm_M} : mq_N M.2.2 (mf_205_b15 v1 M) := by
  unfold mf_205_b15
  exact mq_N_ite (mq_N_ite (mq_N_call mn_205_j65 rfl) (mq_N_ite (mq_N_call mn_205_j65 rfl) (mq_N_ite (mq_N_call mn_205_j65 rfl) (mq_N_call mn_205_j65 rfl)))) (mq_N_ret rfl)
theorem mn_205_L15 {s : Int32} {M : mm_M} : mq_N M.2.2 (mf_205_L15 s M) := by
  unfold mf_205_L15
  exact mq_N_L (fun s M h => mq_N_call mn_205_b15 h) rfl
theorem mn_205_b74 {v1 : Int32} {M : mm_M} : mq_N M.2.2 (mf_205_b74 v1 M) := by
  unfold mf_205_b74
  exact mq_N_ite (mq_N_ite (mq_N_ret rfl) (mq_N_none)) (mq_N_ret rfl)
theorem mn_205_L74 {s : Int32} {M : mm_M} : mq_N M.2.2 (mf_205_L74 s M) := by
  unfold mf_205_L74
  exact mq_N_L (fun s M h => mq_N_call mn_205_b74 h) rfl
theorem mn_205_j97 {M : mm_M} : mq_N M.2.2 (mf_205_j97 M) := by
  unfold mf_205_j97
  exact mq_N_B (mq_N_call mn_199 rfl) (fun _ M1 hM1 => mq_N_B (mq_N_call mn_199 hM1) (fun _ M2 hM2 => mq_N_ret hM2))
theorem mn_205 {M : mm_M} : mq_N M.2.2 (mf_205 M) := by
  unfold mf_205
  exact mq_N_B (mq_N_call mn_205_L15 rfl) (fun _ M1 hM1 => mq_N_B (mq_N_call mn_205_L74 hM1) (fun _ M4 hM4 => mq_N_call mn_205_j97 hM4))
-- 200: PlainPacksModel.taken
theorem mn_200_b9 {v1 : Int32} {v2 : Int32} {v3 : Int64} {v5 : Int32} {M : mm_M} : mq_N M.2.2 (mf_200_b9 v1 v2 v3 v5 M) := by
  unfold mf_200_b9
  exact mq_N_ite (mq_N_ite (mq_N_ite (mq_N_ret rfl) (mq_N_ite (mq_N_ret rfl) (mq_N_none))) (mq_N_none)) (mq_N_ret rfl)
theorem mn_200_L9 {v1 : Int32} {v2 : Int32} {s : Int64 × Int32} {M : mm_M} : mq_N M.2.2 (mf_200_L9 v1 v2 s M) := by
  unfold mf_200_L9
  exact mq_N_L (fun s M h => mq_N_call mn_200_b9 h) rfl
theorem mn_200 {v1 : Int32} {v2 : Int32} {M : mm_M} : mq_N M.2.2 (mf_200 v1 v2 M) := by
  unfold mf_200
  exact mq_N_B (mq_N_call mn_200_L9 rfl) (fun _ M1 hM1 => mq_N_ret hM1)
-- 201: PlainPacksModel.isFit
theorem mn_201_j42 {v1 : Int32} {v2 : Int32} {v3 : Int32} {v5 : Int32} {v6 : Int32} {s0 : Int32} {s1 : Int32} {M : mm_M} : mq_N M.2.2 (mf_201_j42 v1 v2 v3 v5 v6 s0 s1 M) := by
  unfold mf_201_j42
  exact mq_N_ite (mq_N_ite (mq_N_ret rfl) (mq_N_ret rfl)) (mq_N_none)
theorem mn_201_b13 {v1 : Int32} {v2 : Int32} {v3 : Int32} {v4 : Int32} {v5 : Int32} {v6 : Int32} {M : mm_M} : mq_N M.2.2 (mf_201_b13 v1 v2 v3 v4 v5 v6 M) := by
  unfold mf_201_b13
  exact mq_N_ite (mq_N_ite (mq_N_ite (mq_N_call mn_201_j42 rfl) (mq_N_call mn_201_j42 rfl)) (mq_N_none)) (mq_N_ret rfl)
theorem mn_201_L13 {v1 : Int32} {v2 : Int32} {v3 : Int32} {s : Int32 × Int32 × Int32} {M : mm_M} : mq_N M.2.2 (mf_201_L13 v1 v2 v3 s M) := by
  unfold mf_201_L13
  exact mq_N_L (fun s M h => mq_N_call mn_201_b13 h) rfl
theorem mn_201_j97 {v3 : Int32} {v4 : Int32} {M : mm_M} : mq_N M.2.2 (mf_201_j97 v3 v4 M) := by
  unfold mf_201_j97
  exact mq_N_ite (mq_N_ret rfl) (mq_N_ite (mq_N_ret rfl) (mq_N_ret rfl))
theorem mn_201_j72 {v1 : Int32} {v2 : Int32} {v3 : Int32} {v4 : Int32} {v5 : Int32} {M : mm_M} : mq_N M.2.2 (mf_201_j72 v1 v2 v3 v4 v5 M) := by
  unfold mf_201_j72
  exact mq_N_B (mq_N_call mn_200 rfl) (fun _ M2 hM2 => mq_N_ite (mq_N_ret hM2) (mq_N_ite (mq_N_ite (mq_N_ret hM2) (mq_N_call mn_201_j97 hM2)) (mq_N_call mn_201_j97 hM2)))
theorem mn_201 {v1 : Int32} {v2 : Int32} {v3 : Int32} {M : mm_M} : mq_N M.2.2 (mf_201 v1 v2 v3 M) := by
  unfold mf_201
  exact mq_N_B (mq_N_call mn_201_L13 rfl) (fun _ M1 hM1 => mq_N_call mn_201_j72 hM1)
-- 202: PlainPacksModel.decode
theorem mn_202_b25 {v2 : Int32} {v3 : Int32} {v4 : Int32} {v5 : Int32} {v6 : Int32} {v7 : Int32} {M : mm_M} : mq_N M.2.2 (mf_202_b25 v2 v3 v4 v5 v6 v7 M) := by
  unfold mf_202_b25
  exact mq_N_ite (mq_N_ite (mq_N_ite (mq_N_ite (mq_N_ite (mq_N_ite (mq_N_ite (mq_N_ret rfl) (mq_N_ret rfl)) (mq_N_none)) (mq_N_none)) (mq_N_ret rfl)) (mq_N_none)) (mq_N_ret rfl)) (mq_N_ret rfl)
theorem mn_202_L25 {v2 : Int32} {v3 : Int32} {v4 : Int32} {v5 : Int32} {s : Int32 × Int32} {M : mm_M} : mq_N M.2.2 (mf_202_L25 v2 v3 v4 v5 s M) := by
  unfold mf_202_L25
  exact mq_N_L (fun s M h => mq_N_call mn_202_b25 h) rfl
theorem mn_202_b114 {v2 : Int32} {v3 : Int32} {v4 : Int32} {v5 : Int32} {v7 : Int32} {M : mm_M} : mq_N M.2.2 (mf_202_b114 v2 v3 v4 v5 v7 M) := by
  unfold mf_202_b114
  exact mq_N_ite (mq_N_ite (mq_N_ite (mq_N_ite (mq_N_ite (mq_N_ite (mq_N_ret rfl) (mq_N_ret rfl)) (mq_N_none)) (mq_N_ret rfl)) (mq_N_none)) (mq_N_ret rfl)) (mq_N_ret rfl)
theorem mn_202_L114 {v2 : Int32} {v3 : Int32} {v4 : Int32} {v5 : Int32} {s : Int32} {M : mm_M} : mq_N M.2.2 (mf_202_L114 v2 v3 v4 v5 s M) := by
  unfold mf_202_L114
  exact mq_N_L (fun s M h => mq_N_call mn_202_b114 h) rfl
theorem mn_202_j86 {v2 : Int32} {v3 : Int32} {v4 : Int32} {v5 : Int32} {v6 : Int32} {M : mm_M} : mq_N M.2.2 (mf_202_j86 v2 v3 v4 v5 v6 M) := by
  unfold mf_202_j86
  exact mq_N_ite (mq_N_ret rfl) (mq_N_B (mq_N_call mn_197 rfl) (fun _ M2 hM2 => mq_N_B (mq_N_call mn_202_L114 hM2) (fun _ M3 hM3 => mq_N_sm (fun _ => mq_N_ret hM3) (fun _ => mq_N_ret hM3))))
theorem mn_202_b12 {v2 : Int32} {v3 : Int32} {v4 : Int32} {v5 : Int32} {M : mm_M} : mq_N M.2.2 (mf_202_b12 v2 v3 v4 v5 M) := by
  unfold mf_202_b12
  exact mq_N_ite (mq_N_B (mq_N_call mn_202_L25 rfl) (fun _ M1 hM1 => mq_N_call mn_202_j86 hM1)) (mq_N_ret rfl)
theorem mn_202_L12 {v2 : Int32} {v3 : Int32} {s : Int32 × Int32} {M : mm_M} : mq_N M.2.2 (mf_202_L12 v2 v3 s M) := by
  unfold mf_202_L12
  exact mq_N_L (fun s M h => mq_N_call mn_202_b12 h) rfl
theorem mn_202_j91 {M : mm_M} : mq_N M.2.2 (mf_202_j91 M) := by
  unfold mf_202_j91
  exact mq_N_B (mq_N_call mn_190 rfl) (fun _ M1 hM1 => mq_N_ret hM1)
theorem mn_202 {v1 : Int32} {v2 : Int32} {M : mm_M} : mq_N M.2.2 (mf_202 v1 v2 M) := by
  unfold mf_202
  exact mq_N_B (mq_N_call mn_202_L12 rfl) (fun _ M1 hM1 => mq_N_sm (fun _ => mq_N_call mn_202_j91 hM1) (fun _ => mq_N_sm (fun _ => mq_N_ret hM1) (fun _ => mq_N_ret hM1)))
-- 207: PlainPacksModel.rowOf
theorem mn_207_b150 {v1 : Int32} {v2 : Int32} {v4 : Int32} {v5 : Int32} {v6 : Int32} {M : mm_M} : mq_N M.2.2 (mf_207_b150 v1 v2 v4 v5 v6 M) := by
  unfold mf_207_b150
  exact mq_N_ite (mq_N_ite (mq_N_ite (mq_N_ret rfl) (mq_N_none)) (mq_N_ret rfl)) (mq_N_ret rfl)
theorem mn_207_L150 {v1 : Int32} {v4 : Int32} {v5 : Int32} {s : Int32 × Int32} {M : mm_M} : mq_N M.2.2 (mf_207_L150 v1 v4 v5 s M) := by
  unfold mf_207_L150
  exact mq_N_L (fun s M h => mq_N_call mn_207_b150 h) rfl
theorem mn_207_j128 {v1 : Int32} {v2 : Int32} {v4 : Int32} {v5 : Int32} {M : mm_M} : mq_N M.2.2 (mf_207_j128 v1 v2 v4 v5 M) := by
  unfold mf_207_j128
  exact mq_N_ite (mq_N_ite (mq_N_B (mq_N_call mn_190 rfl) (fun _ M1 hM1 => mq_N_B (mq_N_call mn_207_L150 hM1) (fun _ M2 hM2 => mq_N_ret hM2))) (mq_N_B (mq_N_call mn_207_L150 rfl) (fun _ M8 hM8 => mq_N_ret hM8))) (mq_N_B (mq_N_call mn_207_L150 rfl) (fun _ M14 hM14 => mq_N_ret hM14))
theorem mn_207_j126 {v1 : Int32} {v2 : Int32} {v5 : Int32} {s0 : Int32} {M : mm_M} : mq_N M.2.2 (mf_207_j126 v1 v2 v5 s0 M) := by
  unfold mf_207_j126
  exact mq_N_call mn_207_j128 rfl
theorem mn_207_j80 {v1 : Int32} {v2 : Int32} {v3 : Int32} {s0 : Int32} {M : mm_M} : mq_N M.2.2 (mf_207_j80 v1 v2 v3 s0 M) := by
  unfold mf_207_j80
  exact mq_N_ite (mq_N_B (mq_N_call mn_198 rfl) (fun _ M2 hM2 => mq_N_call mn_207_j126 hM2)) (mq_N_ite (mq_N_B (mq_N_call mn_198 rfl) (fun _ M4 hM4 => mq_N_call mn_207_j126 hM4)) (mq_N_B (mq_N_call mn_198 rfl) (fun _ M6 hM6 => mq_N_call mn_207_j126 hM6)))
theorem mn_207_j49 {v1 : Int32} {v2 : Int32} {v3 : Int32} {v4 : Int32} {v5 : Int32} {M : mm_M} : mq_N M.2.2 (mf_207_j49 v1 v2 v3 v4 v5 M) := by
  unfold mf_207_j49
  exact mq_N_ite (mq_N_ite (mq_N_ite (mq_N_ite (mq_N_call mn_207_j80 rfl) (mq_N_none)) (mq_N_call mn_207_j80 rfl)) (mq_N_call mn_207_j128 rfl)) (mq_N_call mn_207_j128 rfl)
theorem mn_207_b2 {v1 : Int32} {v2 : Int32} {M : mm_M} : mq_N M.2.2 (mf_207_b2 v1 v2 M) := by
  unfold mf_207_b2
  exact mq_N_ite (mq_N_ite (mq_N_B (mq_N_call mn_202 rfl) (fun _ M2 hM2 => mq_N_ite (mq_N_ite (mq_N_ite (mq_N_B (mq_N_call mn_190 hM2) (fun _ M3 hM3 => mq_N_call mn_207_j49 hM3)) (mq_N_call mn_207_j49 hM2)) (mq_N_call mn_207_j49 hM2)) (mq_N_call mn_207_j49 hM2))) (mq_N_ret rfl)) (mq_N_ret rfl)
theorem mn_207_L2 {v1 : Int32} {s : Int32} {M : mm_M} : mq_N M.2.2 (mf_207_L2 v1 s M) := by
  unfold mf_207_L2
  exact mq_N_L (fun s M h => mq_N_call mn_207_b2 h) rfl
theorem mn_207 {v1 : Int32} {M : mm_M} : mq_N M.2.2 (mf_207 v1 M) := by
  unfold mf_207
  exact mq_N_B (mq_N_call mn_207_L2 rfl) (fun _ M1 hM1 => mq_N_ret hM1)
-- 206: PlainPacksModel.dynamic
theorem mn_206_j113 {v1 : Int32} {v2 : Int32} {s1 : Int32} {s2 : Int32} {M : mm_M} : mq_N M.2.2 (mf_206_j113 v1 v2 s1 s2 M) := by
  unfold mf_206_j113
  exact mq_N_ite (mq_N_ret rfl) (mq_N_none)
theorem mn_206_b78 {v1 : Int32} {v2 : Int32} {M : mm_M} : mq_N M.2.2 (mf_206_b78 v1 v2 M) := by
  unfold mf_206_b78
  exact mq_N_ite (mq_N_ite (mq_N_ite (mq_N_B (mq_N_call mn_198 rfl) (fun _ M2 hM2 => mq_N_call mn_206_j113 hM2)) (mq_N_call mn_206_j113 rfl)) (mq_N_none)) (mq_N_ret rfl)
theorem mn_206_L78 {v1 : Int32} {s : Int32} {M : mm_M} : mq_N M.2.2 (mf_206_L78 v1 s M) := by
  unfold mf_206_L78
  exact mq_N_L (fun s M h => mq_N_call mn_206_b78 h) rfl
theorem mn_206_b172 {v2 : Int32} {M : mm_M} : mq_N M.2.2 (mf_206_b172 v2 M) := by
  unfold mf_206_b172
  exact mq_N_ite (mq_N_ite (mq_N_ite (mq_N_ret rfl) (mq_N_none)) (mq_N_none)) (mq_N_ret rfl)
theorem mn_206_L172 {s : Int32} {M : mm_M} : mq_N M.2.2 (mf_206_L172 s M) := by
  unfold mf_206_L172
  exact mq_N_L (fun s M h => mq_N_call mn_206_b172 h) rfl
theorem mn_206_b200 {v2 : Int32} {M : mm_M} : mq_N M.2.2 (mf_206_b200 v2 M) := by
  unfold mf_206_b200
  exact mq_N_ite (mq_N_ite (mq_N_ite (mq_N_ret rfl) (mq_N_none)) (mq_N_none)) (mq_N_ret rfl)
theorem mn_206_L200 {s : Int32} {M : mm_M} : mq_N M.2.2 (mf_206_L200 s M) := by
  unfold mf_206_L200
  exact mq_N_L (fun s M h => mq_N_call mn_206_b200 h) rfl
theorem mn_206_j276 {M : mm_M} : mq_N M.2.2 (mf_206_j276 M) := by
  unfold mf_206_j276
  exact mq_N_B (mq_N_call mn_199 rfl) (fun _ M1 hM1 => mq_N_B (mq_N_call mn_199 hM1) (fun _ M2 hM2 => mq_N_ret hM2))
theorem mn_206_j272 {M : mm_M} : mq_N M.2.2 (mf_206_j272 M) := by
  unfold mf_206_j272
  exact mq_N_B (mq_N_call mn_190 rfl) (fun _ M1 hM1 => mq_N_call mn_206_j276 hM1)
theorem mn_206_j235 {M : mm_M} : mq_N M.2.2 (mf_206_j235 M) := by
  unfold mf_206_j235
  exact mq_N_ite (mq_N_ite (mq_N_call mn_206_j272 rfl) (mq_N_B (mq_N_call mn_201 rfl) (fun _ M2 hM2 => mq_N_ite (mq_N_call mn_206_j272 hM2) (mq_N_B (mq_N_call mn_201 hM2) (fun _ M4 hM4 => mq_N_ite (mq_N_call mn_206_j272 hM4) (mq_N_call mn_206_j276 hM4)))))) (mq_N_none)
theorem mn_206_j142 {M : mm_M} : mq_N M.2.2 (mf_206_j142 M) := by
  unfold mf_206_j142
  exact mq_N_B (mq_N_call mn_199 rfl) (fun _ M1 hM1 => mq_N_B (mq_N_call mn_207 hM1) (fun _ M2 hM2 => mq_N_ite (mq_N_B (mq_N_call mn_206_L172 hM2) (fun _ M3 hM3 => mq_N_B (mq_N_call mn_206_L200 hM3) (fun _ M7 hM7 => mq_N_call mn_206_j235 hM7))) (mq_N_ret hM2)))
theorem mn_206_j120 {M : mm_M} : mq_N M.2.2 (mf_206_j120 M) := by
  unfold mf_206_j120
  exact mq_N_ite (mq_N_B (mq_N_call mn_201 rfl) (fun _ M2 hM2 => mq_N_ite (mq_N_B (mq_N_call mn_190 hM2) (fun _ M3 hM3 => mq_N_call mn_206_j142 hM3)) (mq_N_call mn_206_j142 hM2))) (mq_N_call mn_206_j142 rfl)
theorem mn_206_j67 {M : mm_M} : mq_N M.2.2 (mf_206_j67 M) := by
  unfold mf_206_j67
  exact mq_N_B (mq_N_call mn_198 rfl) (fun _ M2 hM2 => mq_N_B (mq_N_call mn_206_L78 hM2) (fun _ M3 hM3 => mq_N_call mn_206_j120 hM3))
theorem mn_206_j35 {M : mm_M} : mq_N M.2.2 (mf_206_j35 M) := by
  unfold mf_206_j35
  exact mq_N_B (mq_N_call mn_198 rfl) (fun _ M2 hM2 => mq_N_ite (mq_N_ite (mq_N_B (mq_N_call mn_190 hM2) (fun _ M3 hM3 => mq_N_call mn_206_j67 hM3)) (mq_N_call mn_206_j67 hM2)) (mq_N_call mn_206_j67 hM2))
theorem mn_206 {M : mm_M} : mq_N M.2.2 (mf_206 M) := by
  unfold mf_206
  exact mq_N_B (mq_N_call mn_198 rfl) (fun _ M2 hM2 => mq_N_ite (mq_N_ite (mq_N_B (mq_N_call mn_190 hM2) (fun _ M3 hM3 => mq_N_call mn_206_j35 hM3)) (mq_N_call mn_206_j35 hM2)) (mq_N_call mn_206_j35 hM2))
-- 196: PlainPacksModel.copy
theorem mn_196_b97 {v1 : Int32} {v5 : Int32} {v6 : Int32} {M : mm_M} : mq_N M.2.2 (mf_196_b97 v1 v5 v6 M) := by
  unfold mf_196_b97
  exact mq_N_ite (mq_N_ite (mq_N_ite (mq_N_B (mq_N_call mn_194 rfl) (fun _ M2 hM2 => mq_N_ret hM2)) (mq_N_none)) (mq_N_ret rfl)) (mq_N_ret rfl)
theorem mn_196_L97 {v1 : Int32} {v5 : Int32} {s : Int32} {M : mm_M} : mq_N M.2.2 (mf_196_L97 v1 v5 s M) := by
  unfold mf_196_L97
  exact mq_N_L (fun s M h => mq_N_call mn_196_b97 h) rfl
theorem mn_196_j69 {v1 : Int32} {v5 : Int32} {s1 : Int32} {M : mm_M} : mq_N M.2.2 (mf_196_j69 v1 v5 s1 M) := by
  unfold mf_196_j69
  exact mq_N_ite (mq_N_B (mq_N_call mn_196_L97 rfl) (fun _ M1 hM1 => mq_N_ret hM1)) (mq_N_B (mq_N_call mn_196_L97 rfl) (fun _ M10 hM10 => mq_N_ret hM10))
theorem mn_196_j30 {v1 : Int32} {v2 : Int64} {M : mm_M} : mq_N M.2.2 (mf_196_j30 v1 v2 M) := by
  unfold mf_196_j30
  exact mq_N_ite (mq_N_ite (mq_N_call mn_196_j69 rfl) (mq_N_call mn_196_j69 rfl)) (mq_N_ret rfl)
theorem mn_196_j26 {v1 : Int32} {v2 : Int64} {M : mm_M} : mq_N M.2.2 (mf_196_j26 v1 v2 M) := by
  unfold mf_196_j26
  exact mq_N_B (mq_N_call mn_190 rfl) (fun _ M1 hM1 => mq_N_call mn_196_j30 hM1)
theorem mn_196 {v1 : Int32} {v2 : Int64} {v4 : Int32} {M : mm_M} : mq_N M.2.2 (mf_196 v1 v2 v4 M) := by
  unfold mf_196
  exact mq_N_ite (mq_N_ite (mq_N_call mn_196_j26 rfl) (mq_N_ite (mq_N_call mn_196_j26 rfl) (mq_N_call mn_196_j30 rfl))) (mq_N_call mn_196_j30 rfl)
-- 209: PlainPacksModel.distanceTo
theorem mn_209_j103 {v1 : Int32} {v5 : Int32} {M : mm_M} : mq_N M.2.2 (mf_209_j103 v1 v5 M) := by
  unfold mf_209_j103
  exact mq_N_B (mq_N_call mn_196 rfl) (fun _ M1 hM1 => mq_N_ret hM1)
theorem mn_209_j72 {v1 : Int32} {v2 : Int32} {v4 : Int32} {s0 : Int32} {M : mm_M} : mq_N M.2.2 (mf_209_j72 v1 v2 v4 s0 M) := by
  unfold mf_209_j72
  exact mq_N_B (mq_N_call mn_198 rfl) (fun _ M2 hM2 => mq_N_ite (mq_N_ite (mq_N_B (mq_N_call mn_190 hM2) (fun _ M3 hM3 => mq_N_call mn_209_j103 hM3)) (mq_N_call mn_209_j103 hM2)) (mq_N_call mn_209_j103 hM2))
theorem mn_209_j49 {v1 : Int32} {v2 : Int32} {v3 : Int32} {s0 : Int32} {M : mm_M} : mq_N M.2.2 (mf_209_j49 v1 v2 v3 s0 M) := by
  unfold mf_209_j49
  exact mq_N_ite (mq_N_call mn_209_j72 rfl) (mq_N_call mn_209_j72 rfl)
theorem mn_209_j27 {v1 : Int32} {v2 : Int32} {v3 : Int32} {M : mm_M} : mq_N M.2.2 (mf_209_j27 v1 v2 v3 M) := by
  unfold mf_209_j27
  exact mq_N_ite (mq_N_ite (mq_N_call mn_209_j49 rfl) (mq_N_call mn_209_j49 rfl)) (mq_N_ret rfl)
theorem mn_209 {v1 : Int32} {v2 : Int32} {M : mm_M} : mq_N M.2.2 (mf_209 v1 v2 M) := by
  unfold mf_209
  exact mq_N_B (mq_N_call mn_202 rfl) (fun _ M2 hM2 => mq_N_ite (mq_N_ite (mq_N_B (mq_N_call mn_190 hM2) (fun _ M3 hM3 => mq_N_call mn_209_j27 hM3)) (mq_N_call mn_209_j27 hM2)) (mq_N_call mn_209_j27 hM2))
-- 208: PlainPacksModel.lettersTo
theorem mn_208_j158 {v1 : Int32} {v2 : Int32} {v4 : Int32} {s0 : Int32} {M : mm_M} : mq_N M.2.2 (mf_208_j158 v1 v2 v4 s0 M) := by
  unfold mf_208_j158
  exact mq_N_B (mq_N_call mn_198 rfl) (fun _ M2 hM2 => mq_N_B (mq_N_call mn_209 hM2) (fun _ M3 hM3 => mq_N_ret hM3))
theorem mn_208_j114 {v1 : Int32} {v2 : Int32} {v3 : Int32} {s0 : Int32} {M : mm_M} : mq_N M.2.2 (mf_208_j114 v1 v2 v3 s0 M) := by
  unfold mf_208_j114
  exact mq_N_ite (mq_N_call mn_208_j158 rfl) (mq_N_ite (mq_N_call mn_208_j158 rfl) (mq_N_call mn_208_j158 rfl))
theorem mn_208_b2 {v1 : Int32} {v2 : Int32} {M : mm_M} : mq_N M.2.2 (mf_208_b2 v1 v2 M) := by
  unfold mf_208_b2
  exact mq_N_ite (mq_N_ret rfl) (mq_N_ite (mq_N_B (mq_N_call mn_202 rfl) (fun _ M2 hM2 => mq_N_ite (mq_N_ite (mq_N_B (mq_N_call mn_194 hM2) (fun _ M4 hM4 => mq_N_ite (mq_N_ret hM4) (mq_N_ret hM4))) (mq_N_ite (mq_N_ret hM2) (mq_N_ite (mq_N_B (mq_N_call mn_190 hM2) (fun _ M5 hM5 => mq_N_ret hM5)) (mq_N_ite (mq_N_call mn_208_j114 hM2) (mq_N_ite (mq_N_call mn_208_j114 hM2) (mq_N_call mn_208_j114 hM2)))))) (mq_N_ret hM2))) (mq_N_ret rfl))
theorem mn_208_L2 {v1 : Int32} {s : Int32} {M : mm_M} : mq_N M.2.2 (mf_208_L2 v1 s M) := by
  unfold mf_208_L2
  exact mq_N_L (fun s M h => mq_N_call mn_208_b2 h) rfl
theorem mn_208 {v1 : Int32} {M : mm_M} : mq_N M.2.2 (mf_208 v1 M) := by
  unfold mf_208
  exact mq_N_B (mq_N_call mn_208_L2 rfl) (fun _ M1 hM1 => mq_N_sm (fun _ => mq_N_ret hM1) (fun _ => mq_N_ret hM1))
-- 203: PlainPacksModel.blocksTo
theorem mn_203_j107 {v1 : Int32} {v2 : Int32} {M : mm_M} : mq_N M.2.2 (mf_203_j107 v1 v2 M) := by
  unfold mf_203_j107
  exact mq_N_B (mq_N_call mn_208 rfl) (fun _ M1 hM1 => mq_N_ret hM1)
theorem mn_203_j62 {v1 : Int32} {v2 : Int32} {v3 : Int32} {M : mm_M} : mq_N M.2.2 (mf_203_j62 v1 v2 v3 M) := by
  unfold mf_203_j62
  exact mq_N_ite (mq_N_ite (mq_N_B (mq_N_call mn_204 rfl) (fun _ M1 hM1 => mq_N_ret hM1)) (mq_N_ite (mq_N_B (mq_N_call mn_205 rfl) (fun _ M2 hM2 => mq_N_call mn_203_j107 hM2)) (mq_N_B (mq_N_call mn_206 rfl) (fun _ M3 hM3 => mq_N_call mn_203_j107 hM3)))) (mq_N_ret rfl)
theorem mn_203_j38 {v1 : Int32} {s0 : Int32} {M : mm_M} : mq_N M.2.2 (mf_203_j38 v1 s0 M) := by
  unfold mf_203_j38
  exact mq_N_B (mq_N_call mn_198 rfl) (fun _ M2 hM2 => mq_N_ite (mq_N_ite (mq_N_B (mq_N_call mn_190 hM2) (fun _ M3 hM3 => mq_N_call mn_203_j62 hM3)) (mq_N_call mn_203_j62 hM2)) (mq_N_call mn_203_j62 hM2))
theorem mn_203_b12 {v1 : Int32} {v2 : Int32} {M : mm_M} : mq_N M.2.2 (mf_203_b12 v1 v2 M) := by
  unfold mf_203_b12
  exact mq_N_ite (mq_N_ite (mq_N_B (mq_N_call mn_198 rfl) (fun _ M2 hM2 => mq_N_ite (mq_N_call mn_203_j38 hM2) (mq_N_call mn_203_j38 hM2))) (mq_N_ret rfl)) (mq_N_ret rfl)
theorem mn_203_L12 {v1 : Int32} {s : Int32} {M : mm_M} : mq_N M.2.2 (mf_203_L12 v1 s M) := by
  unfold mf_203_L12
  exact mq_N_L (fun s M h => mq_N_call mn_203_b12 h) rfl
theorem mn_203 {v1 : Int32} {M : mm_M} : mq_N M.2.2 (mf_203 v1 M) := by
  unfold mf_203
  exact mq_N_B (mq_N_call mn_203_L12 rfl) (fun _ M1 hM1 => mq_N_sm (fun _ => mq_N_ret hM1) (fun _ => mq_N_ret hM1))
-- 184: PlainPacksModel.adler
theorem mn_184_b8 {p : Nat} {n : Nat} {v2 : Int32} {v3 : Int32} {v4 : Int32} {v5 : Int32} {M : mm_M} : mq_N M.2.2 (mf_184_b8 p n v2 v3 v4 v5 M) := by
  unfold mf_184_b8
  exact mq_N_ite (mq_N_ite (mq_N_ret rfl) (mq_N_none)) (mq_N_ret rfl)
theorem mn_184_L8 {p : Nat} {n : Nat} {v2 : Int32} {s : Int32 × Int32 × Int32} {M : mm_M} : mq_N M.2.2 (mf_184_L8 p n v2 s M) := by
  unfold mf_184_L8
  exact mq_N_L (fun s M h => mq_N_call mn_184_b8 h) rfl
theorem mn_184 {p : Nat} {n : Nat} {v1 : Int32} {v2 : Int32} {M : mm_M} : mq_N M.2.2 (mf_184 p n v1 v2 M) := by
  unfold mf_184
  exact mq_N_B (mq_N_call mn_184_L8 rfl) (fun _ M1 hM1 => mq_N_ret hM1)
-- 210: PlainPacksModel.wrapped
theorem mn_210_b77 {v3 : Int32} {v4 : Int32} {M : mm_M} : mq_N M.2.2 (mf_210_b77 v3 v4 M) := by
  unfold mf_210_b77
  exact mq_N_ite (mq_N_B (mq_N_call mn_191 rfl) (fun _ M2 hM2 => mq_N_ret hM2)) (mq_N_ret rfl)
theorem mn_210_L77 {s : Int32 × Int32} {M : mm_M} : mq_N M.2.2 (mf_210_L77 s M) := by
  unfold mf_210_L77
  exact mq_N_L (fun s M h => mq_N_call mn_210_b77 h) rfl
theorem mn_210_j99 {v3 : Int32} {M : mm_M} : mq_N M.2.2 (mf_210_j99 v3 M) := by
  unfold mf_210_j99
  exact mq_N_ite (mq_N_B (mq_N_call mn_184 rfl) (fun _ M2 hM2 => mq_N_ite (mq_N_ret hM2) (mq_N_B (mq_N_call mn_190 hM2) (fun _ M3 hM3 => mq_N_ret hM3)))) (mq_N_ret rfl)
theorem mn_210_j59 {v1 : Int32} {M : mm_M} : mq_N M.2.2 (mf_210_j59 v1 M) := by
  unfold mf_210_j59
  exact mq_N_B (mq_N_call mn_203 rfl) (fun _ M1 hM1 => mq_N_B (mq_N_call mn_210_L77 hM1) (fun _ M2 hM2 => mq_N_call mn_210_j99 hM2))
theorem mn_210_j55 {v1 : Int32} {M : mm_M} : mq_N M.2.2 (mf_210_j55 v1 M) := by
  unfold mf_210_j55
  exact mq_N_B (mq_N_call mn_190 rfl) (fun _ M1 hM1 => mq_N_call mn_210_j59 hM1)
theorem mn_210 {M : mm_M} : mq_N M.2.2 (mf_210 M) := by
  unfold mf_210
  exact mq_N_B (mq_N_call mn_191 rfl) (fun _ M2 hM2 => mq_N_B (mq_N_call mn_191 hM2) (fun _ M4 hM4 => mq_N_ite (mq_N_ite (mq_N_ite (mq_N_call mn_210_j55 hM4) (mq_N_ite (mq_N_ite (mq_N_call mn_210_j59 hM4) (mq_N_call mn_210_j55 hM4)) (mq_N_call mn_210_j55 hM4))) (mq_N_call mn_210_j55 hM4)) (mq_N_call mn_210_j59 hM4)))
-- 192: PlainPacksModel.want
theorem mn_192 {v1 : Int32} {M : mm_M} : mq_N M.2.2 (mf_192 v1 M) := by
  unfold mf_192
  exact mq_N_B (mq_N_call mn_191 rfl) (fun _ M2 hM2 => mq_N_ite (mq_N_ite (mq_N_ret hM2) (mq_N_B (mq_N_call mn_190 hM2) (fun _ M3 hM3 => mq_N_ret hM3))) (mq_N_ret hM2))
-- 211: PlainPacksModel.toZero
theorem mn_211_b2 {v1 : Int32} {M : mm_M} : mq_N M.2.2 (mf_211_b2 v1 M) := by
  unfold mf_211_b2
  exact mq_N_ite (mq_N_ret rfl) (mq_N_ite (mq_N_B (mq_N_call mn_191 rfl) (fun _ M2 hM2 => mq_N_ret hM2)) (mq_N_ret rfl))
theorem mn_211_L2 {s : Int32} {M : mm_M} : mq_N M.2.2 (mf_211_L2 s M) := by
  unfold mf_211_L2
  exact mq_N_L (fun s M h => mq_N_call mn_211_b2 h) rfl
theorem mn_211 {M : mm_M} : mq_N M.2.2 (mf_211 M) := by
  unfold mf_211
  exact mq_N_B (mq_N_call mn_211_L2 rfl) (fun _ M1 hM1 => mq_N_ret hM1)
-- 182: PlainPacksModel.crc
theorem mn_182_b21 {p : Nat} {n : Nat} {v2 : Int32} {v3 : Int32} {v4 : Int32} {v5 : Int32} {M : mm_M} : mq_N M.2.2 (mf_182_b21 p n v2 v3 v4 v5 M) := by
  unfold mf_182_b21
  exact mq_N_ite (mq_N_ite (mq_N_ret rfl) (mq_N_ret rfl)) (mq_N_ret rfl)
theorem mn_182_L21 {p : Nat} {n : Nat} {v2 : Int32} {v4 : Int32} {s : Int32 × Int32} {M : mm_M} : mq_N M.2.2 (mf_182_L21 p n v2 v4 s M) := by
  unfold mf_182_L21
  exact mq_N_L (fun s M h => mq_N_call mn_182_b21 h) rfl
theorem mn_182_b5 {p : Nat} {n : Nat} {v2 : Int32} {v3 : Int32} {v4 : Int32} {M : mm_M} : mq_N M.2.2 (mf_182_b5 p n v2 v3 v4 M) := by
  unfold mf_182_b5
  exact mq_N_ite (mq_N_ite (mq_N_B (mq_N_call mn_182_L21 rfl) (fun _ M1 hM1 => mq_N_ret hM1)) (mq_N_none)) (mq_N_ret rfl)
theorem mn_182_L5 {p : Nat} {n : Nat} {v2 : Int32} {s : Int32 × Int32} {M : mm_M} : mq_N M.2.2 (mf_182_L5 p n v2 s M) := by
  unfold mf_182_L5
  exact mq_N_L (fun s M h => mq_N_call mn_182_b5 h) rfl
theorem mn_182 {p : Nat} {n : Nat} {v1 : Int32} {v2 : Int32} {M : mm_M} : mq_N M.2.2 (mf_182 p n v1 v2 M) := by
  unfold mf_182
  exact mq_N_B (mq_N_call mn_182_L5 rfl) (fun _ M1 hM1 => mq_N_ret hM1)
-- 213: PlainPacksModel.sumIs
theorem mn_213 {v1 : Int32} {M : mm_M} : mq_N M.2.2 (mf_213 v1 M) := by
  unfold mf_213
  exact mq_N_B (mq_N_call mn_193 rfl) (fun _ M2 hM2 => mq_N_ite (mq_N_ite (mq_N_ret hM2) (mq_N_B (mq_N_call mn_190 hM2) (fun _ M3 hM3 => mq_N_ret hM3))) (mq_N_ret hM2))
-- 212: PlainPacksModel.file
theorem mn_212_b43 {v1 : Int32} {v2 : Int32} {M : mm_M} : mq_N M.2.2 (mf_212_b43 v1 v2 M) := by
  unfold mf_212_b43
  exact mq_N_ite (mq_N_B (mq_N_call mn_191 rfl) (fun _ M2 hM2 => mq_N_ret hM2)) (mq_N_ret rfl)
theorem mn_212_L43 {v1 : Int32} {s : Int32} {M : mm_M} : mq_N M.2.2 (mf_212_L43 v1 s M) := by
  unfold mf_212_L43
  exact mq_N_L (fun s M h => mq_N_call mn_212_b43 h) rfl
theorem mn_212_j165 {M : mm_M} : mq_N M.2.2 (mf_212_j165 M) := by
  unfold mf_212_j165
  exact mq_N_B (mq_N_call mn_203 rfl) (fun _ M1 hM1 => mq_N_B (mq_N_call mn_182 hM1) (fun _ M3 hM3 => mq_N_B (mq_N_call mn_213 hM3) (fun _ M4 hM4 => mq_N_B (mq_N_call mn_213 hM4) (fun _ M5 hM5 => mq_N_ret hM5))))
theorem mn_212_j120 {v1 : Int32} {M : mm_M} : mq_N M.2.2 (mf_212_j120 v1 M) := by
  unfold mf_212_j120
  exact mq_N_ite (mq_N_call mn_212_j165 rfl) (mq_N_B (mq_N_call mn_182 rfl) (fun _ M2 hM2 => mq_N_B (mq_N_call mn_193 hM2) (fun _ M4 hM4 => mq_N_ite (mq_N_ite (mq_N_call mn_212_j165 hM4) (mq_N_B (mq_N_call mn_190 hM4) (fun _ M5 hM5 => mq_N_call mn_212_j165 hM5))) (mq_N_call mn_212_j165 hM4))))
theorem mn_212_j109 {v1 : Int32} {M : mm_M} : mq_N M.2.2 (mf_212_j109 v1 M) := by
  unfold mf_212_j109
  exact mq_N_ite (mq_N_call mn_212_j120 rfl) (mq_N_B (mq_N_call mn_211 rfl) (fun _ M1 hM1 => mq_N_call mn_212_j120 hM1))
theorem mn_212_j98 {v1 : Int32} {M : mm_M} : mq_N M.2.2 (mf_212_j98 v1 M) := by
  unfold mf_212_j98
  exact mq_N_ite (mq_N_call mn_212_j109 rfl) (mq_N_B (mq_N_call mn_211 rfl) (fun _ M1 hM1 => mq_N_call mn_212_j109 hM1))
theorem mn_212_b75 {v1 : Int32} {v2 : Int32} {v3 : Int32} {M : mm_M} : mq_N M.2.2 (mf_212_b75 v1 v2 v3 M) := by
  unfold mf_212_b75
  exact mq_N_ite (mq_N_ite (mq_N_B (mq_N_call mn_191 rfl) (fun _ M2 hM2 => mq_N_ret hM2)) (mq_N_ret rfl)) (mq_N_ret rfl)
theorem mn_212_L75 {v1 : Int32} {v2 : Int32} {s : Int32} {M : mm_M} : mq_N M.2.2 (mf_212_L75 v1 v2 s M) := by
  unfold mf_212_L75
  exact mq_N_L (fun s M h => mq_N_call mn_212_b75 h) rfl
theorem mn_212_j60 {v1 : Int32} {M : mm_M} : mq_N M.2.2 (mf_212_j60 v1 M) := by
  unfold mf_212_j60
  exact mq_N_ite (mq_N_call mn_212_j98 rfl) (mq_N_B (mq_N_call mn_193 rfl) (fun _ M2 hM2 => mq_N_B (mq_N_call mn_212_L75 hM2) (fun _ M3 hM3 => mq_N_call mn_212_j98 hM3)))
theorem mn_212 {M : mm_M} : mq_N M.2.2 (mf_212 M) := by
  unfold mf_212
  exact mq_N_B (mq_N_call mn_192 rfl) (fun _ M1 hM1 => mq_N_B (mq_N_call mn_192 hM1) (fun _ M2 hM2 => mq_N_B (mq_N_call mn_192 hM2) (fun _ M3 hM3 => mq_N_B (mq_N_call mn_191 hM3) (fun _ M5 hM5 => mq_N_ite (mq_N_ite (mq_N_B (mq_N_call mn_190 hM5) (fun _ M6 hM6 => mq_N_B (mq_N_call mn_212_L43 hM6) (fun _ M7 hM7 => mq_N_call mn_212_j60 hM7))) (mq_N_B (mq_N_call mn_212_L43 hM5) (fun _ M11 hM11 => mq_N_call mn_212_j60 hM11))) (mq_N_B (mq_N_call mn_212_L43 hM5) (fun _ M15 hM15 => mq_N_call mn_212_j60 hM15))))))
-- 215: PlainPacksModel.words
theorem mn_215_j214 {v1 : Int32} {v2 : Int32} {v3 : Int32} {v4 : Int32} {v5 : Int32} {v6 : Int32} {v7 : Int32} {v8 : Int32} {v9 : Int32} {v10 : Int32} {s1 : Int32} {M : mm_M} : mq_N M.2.2 (mf_215_j214 v1 v2 v3 v4 v5 v6 v7 v8 v9 v10 s1 M) := by
  unfold mf_215_j214
  exact mq_N_B (mq_N_call mn_194 rfl) (fun _ M2 hM2 => mq_N_ret hM2)
theorem mn_215_b173 {v1 : Int32} {v2 : Int32} {v3 : Int32} {v4 : Int32} {v5 : Int32} {v6 : Int32} {v7 : Int32} {v8 : Int32} {v9 : Int32} {v10 : Int32} {M : mm_M} : mq_N M.2.2 (mf_215_b173 v1 v2 v3 v4 v5 v6 v7 v8 v9 v10 M) := by
  unfold mf_215_b173
  exact mq_N_ite (mq_N_ite (mq_N_ite (mq_N_call mn_215_j214 rfl) (mq_N_ite (mq_N_ite (mq_N_call mn_215_j214 rfl) (mq_N_none)) (mq_N_none))) (mq_N_ret rfl)) (mq_N_ret rfl)
theorem mn_215_L173 {v1 : Int32} {v2 : Int32} {v3 : Int32} {v4 : Int32} {v5 : Int32} {v6 : Int32} {v7 : Int32} {v8 : Int32} {v9 : Int32} {s : Int32} {M : mm_M} : mq_N M.2.2 (mf_215_L173 v1 v2 v3 v4 v5 v6 v7 v8 v9 s M) := by
  unfold mf_215_L173
  exact mq_N_L (fun s M h => mq_N_call mn_215_b173 h) rfl
theorem mn_215_j244 {v1 : Int32} {v2 : Int32} {v3 : Int32} {v4 : Int32} {v5 : Int32} {v6 : Int32} {v7 : Int32} {v8 : Int32} {s0 : Int32} {s1 : Int32} {s2 : Int32} {M : mm_M} : mq_N M.2.2 (mf_215_j244 v1 v2 v3 v4 v5 v6 v7 v8 s0 s1 s2 M) := by
  unfold mf_215_j244
  exact mq_N_ite (mq_N_ret rfl) (mq_N_ret rfl)
theorem mn_215_j224 {v1 : Int32} {v2 : Int32} {v3 : Int32} {v4 : Int32} {v5 : Int32} {v6 : Int32} {v7 : Int32} {v8 : Int32} {M : mm_M} : mq_N M.2.2 (mf_215_j224 v1 v2 v3 v4 v5 v6 v7 v8 M) := by
  unfold mf_215_j224
  exact mq_N_ite (mq_N_ite (mq_N_call mn_215_j244 rfl) (mq_N_call mn_215_j244 rfl)) (mq_N_ret rfl)
theorem mn_215_j134 {v1 : Int32} {v2 : Int32} {v3 : Int32} {v4 : Int32} {v5 : Int32} {v8 : Int32} {v9 : Int32} {M : mm_M} : mq_N M.2.2 (mf_215_j134 v1 v2 v3 v4 v5 v8 v9 M) := by
  unfold mf_215_j134
  exact mq_N_ite (mq_N_B (mq_N_call mn_215_L173 rfl) (fun _ M1 hM1 => mq_N_call mn_215_j224 hM1)) (mq_N_ite (mq_N_ite (mq_N_B (mq_N_call mn_215_L173 rfl) (fun _ M5 hM5 => mq_N_call mn_215_j224 hM5)) (mq_N_none)) (mq_N_B (mq_N_call mn_215_L173 rfl) (fun _ M9 hM9 => mq_N_call mn_215_j224 hM9)))
theorem mn_215_j123 {v1 : Int32} {v2 : Int32} {v3 : Int32} {v4 : Int32} {v5 : Int32} {v8 : Int32} {v9 : Int32} {M : mm_M} : mq_N M.2.2 (mf_215_j123 v1 v2 v3 v4 v5 v8 v9 M) := by
  unfold mf_215_j123
  exact mq_N_ite (mq_N_call mn_215_j134 rfl) (mq_N_B (mq_N_call mn_190 rfl) (fun _ M1 hM1 => mq_N_call mn_215_j134 hM1))
theorem mn_215_b23 {v1 : Int32} {v2 : Int32} {v3 : Int32} {v4 : Int32} {v5 : Int32} {v6 : Int32} {v7 : Int32} {v8 : Int32} {M : mm_M} : mq_N M.2.2 (mf_215_b23 v1 v2 v3 v4 v5 v6 v7 v8 M) := by
  unfold mf_215_b23
  exact mq_N_ite (mq_N_ret rfl) (mq_N_ite (mq_N_B (mq_N_call mn_198 rfl) (fun _ M2 hM2 => mq_N_ite (mq_N_ite (mq_N_ret hM2) (mq_N_ite (mq_N_ret hM2) (mq_N_ite (mq_N_ite (mq_N_ite (mq_N_ite (mq_N_call mn_215_j123 hM2) (mq_N_none)) (mq_N_none)) (mq_N_call mn_215_j123 hM2)) (mq_N_call mn_215_j123 hM2)))) (mq_N_ret hM2))) (mq_N_ret rfl))
theorem mn_215_L23 {v1 : Int32} {v2 : Int32} {v3 : Int32} {s : Int32 × Int32 × Int32 × Int32 × Int32} {M : mm_M} : mq_N M.2.2 (mf_215_L23 v1 v2 v3 s M) := by
  unfold mf_215_L23
  exact mq_N_L (fun s M h => mq_N_call mn_215_b23 h) rfl
theorem mn_215 {v1 : Int32} {v2 : Int32} {M : mm_M} : mq_N M.2.2 (mf_215 v1 v2 M) := by
  unfold mf_215
  exact mq_N_B (mq_N_call mn_215_L23 rfl) (fun _ M1 hM1 => mq_N_ret hM1)
-- 216: PlainPacksModel.wordsLow
theorem mn_216_j27 {v1 : Int32} {M : mm_M} : mq_N M.2.2 (mf_216_j27 v1 M) := by
  unfold mf_216_j27
  exact mq_N_ite (mq_N_B (mq_N_call mn_215 rfl) (fun _ M1 hM1 => mq_N_ret hM1)) (mq_N_ret rfl)
theorem mn_216_j23 {v1 : Int32} {M : mm_M} : mq_N M.2.2 (mf_216_j23 v1 M) := by
  unfold mf_216_j23
  exact mq_N_B (mq_N_call mn_190 rfl) (fun _ M1 hM1 => mq_N_call mn_216_j27 hM1)
theorem mn_216 {M : mm_M} : mq_N M.2.2 (mf_216 M) := by
  unfold mf_216
  exact mq_N_B (mq_N_call mn_191 rfl) (fun _ M2 hM2 => mq_N_ite (mq_N_ite (mq_N_call mn_216_j23 hM2) (mq_N_ite (mq_N_call mn_216_j23 hM2) (mq_N_call mn_216_j27 hM2))) (mq_N_call mn_216_j27 hM2))
-- 217: PlainPacksModel.grown
theorem mn_217_b16 {v2 : Int32} {v3 : Int32} {M : mm_M} : mq_N M.2.2 (mf_217_b16 v2 v3 M) := by
  unfold mf_217_b16
  exact mq_N_ite (mq_N_ite (mq_N_B (mq_N_call mn_191 rfl) (fun _ M2 hM2 => mq_N_ite (mq_N_B (mq_N_call mn_190 hM2) (fun _ M3 hM3 => mq_N_ret hM3)) (mq_N_ret hM2))) (mq_N_ret rfl)) (mq_N_ret rfl)
theorem mn_217_L16 {s : Int32 × Int32} {M : mm_M} : mq_N M.2.2 (mf_217_L16 s M) := by
  unfold mf_217_L16
  exact mq_N_L (fun s M h => mq_N_call mn_217_b16 h) rfl
theorem mn_217 {v1 : Int32} {M : mm_M} : mq_N M.2.2 (mf_217 v1 M) := by
  unfold mf_217
  exact mq_N_ite (mq_N_B (mq_N_call mn_217_L16 rfl) (fun _ M1 hM1 => mq_N_ret hM1)) (mq_N_B (mq_N_call mn_217_L16 rfl) (fun _ M6 hM6 => mq_N_ret hM6))
-- 218: PlainPacksModel.pieces
theorem mn_218_j109 {v1 : Int32} {v2 : Int32} {v3 : Int32} {v6 : Int64} {s0 : Int32} {M : mm_M} : mq_N M.2.2 (mf_218_j109 v1 v2 v3 v6 s0 M) := by
  unfold mf_218_j109
  exact mq_N_B (mq_N_call mn_196 rfl) (fun _ M1 hM1 => mq_N_ret hM1)
theorem mn_218_j87 {v1 : Int32} {v2 : Int32} {v3 : Int32} {v4 : Int32} {v6 : Int64} {M : mm_M} : mq_N M.2.2 (mf_218_j87 v1 v2 v3 v4 v6 M) := by
  unfold mf_218_j87
  exact mq_N_ite (mq_N_B (mq_N_call mn_217 rfl) (fun _ M2 hM2 => mq_N_call mn_218_j109 hM2)) (mq_N_call mn_218_j109 rfl)
theorem mn_218_j83 {v1 : Int32} {v2 : Int32} {v3 : Int32} {v4 : Int32} {v6 : Int64} {M : mm_M} : mq_N M.2.2 (mf_218_j83 v1 v2 v3 v4 v6 M) := by
  unfold mf_218_j83
  exact mq_N_B (mq_N_call mn_190 rfl) (fun _ M1 hM1 => mq_N_call mn_218_j87 hM1)
theorem mn_218_b2 {v1 : Int32} {v2 : Int32} {v3 : Int32} {M : mm_M} : mq_N M.2.2 (mf_218_b2 v1 v2 v3 M) := by
  unfold mf_218_b2
  exact mq_N_ite (mq_N_ret rfl) (mq_N_ite (mq_N_B (mq_N_call mn_191 rfl) (fun _ M2 hM2 => mq_N_B (mq_N_call mn_217 hM2) (fun _ M4 hM4 => mq_N_B (mq_N_call mn_195 hM4) (fun _ M5 hM5 => mq_N_ite (mq_N_ret hM5) (mq_N_B (mq_N_call mn_193 hM5) (fun _ M7 hM7 => mq_N_ite (mq_N_ite (mq_N_call mn_218_j83 hM7) (mq_N_ite (mq_N_call mn_218_j83 hM7) (mq_N_call mn_218_j87 hM7))) (mq_N_call mn_218_j87 hM7))))))) (mq_N_ret rfl))
theorem mn_218_L2 {v1 : Int32} {v2 : Int32} {s : Int32} {M : mm_M} : mq_N M.2.2 (mf_218_L2 v1 v2 s M) := by
  unfold mf_218_L2
  exact mq_N_L (fun s M h => mq_N_call mn_218_b2 h) rfl
theorem mn_218 {v1 : Int32} {v2 : Int32} {M : mm_M} : mq_N M.2.2 (mf_218 v1 v2 M) := by
  unfold mf_218
  exact mq_N_B (mq_N_call mn_218_L2 rfl) (fun _ M1 hM1 => mq_N_ret hM1)
-- 186: PlainPacksModel.word
theorem mn_186 {p : Nat} {n : Nat} {v1 : Int32} {M : mm_M} : mq_N M.2.2 (mf_186 p n v1 M) := by
  unfold mf_186
  exact mq_N_ite (mq_N_ite (mq_N_ite (mq_N_ite (mq_N_ret rfl) (mq_N_none)) (mq_N_none)) (mq_N_none)) (mq_N_none)
-- 185: PlainPacksModel.left
theorem mn_185 {v0 : Int32} {v1 : Int32} {M : mm_M} : mq_N M.2.2 (mf_185 v0 v1 M) := by
  unfold mf_185
  exact mq_N_ret rfl
-- 187: PlainPacksModel.lane
theorem mn_187 {v0 : Int32} {v1 : Int32} {M : mm_M} : mq_N M.2.2 (mf_187 v0 v1 M) := by
  unfold mf_187
  exact mq_N_B (mq_N_call mn_185 rfl) (fun _ M2 hM2 => mq_N_ret hM2)
-- 188: PlainPacksModel.xx
theorem mn_188_b145 {p : Nat} {n : Nat} {v2 : Int32} {v4 : Int32} {v5 : Int32} {M : mm_M} : mq_N M.2.2 (mf_188_b145 p n v2 v4 v5 M) := by
  unfold mf_188_b145
  exact mq_N_ite (mq_N_ret rfl) (mq_N_B (mq_N_call mn_186 rfl) (fun _ M2 hM2 => mq_N_B (mq_N_call mn_185 hM2) (fun _ M4 hM4 => mq_N_ret hM4)))
theorem mn_188_L145 {p : Nat} {n : Nat} {v2 : Int32} {s : Int32 × Int32} {M : mm_M} : mq_N M.2.2 (mf_188_L145 p n v2 s M) := by
  unfold mf_188_L145
  exact mq_N_L (fun s M h => mq_N_call mn_188_b145 h) rfl
theorem mn_188_b181 {p : Nat} {n : Nat} {v2 : Int32} {v4 : Int32} {v5 : Int32} {M : mm_M} : mq_N M.2.2 (mf_188_b181 p n v2 v4 v5 M) := by
  unfold mf_188_b181
  exact mq_N_ite (mq_N_ite (mq_N_B (mq_N_call mn_185 rfl) (fun _ M2 hM2 => mq_N_ret hM2)) (mq_N_none)) (mq_N_ret rfl)
theorem mn_188_L181 {p : Nat} {n : Nat} {v2 : Int32} {s : Int32 × Int32} {M : mm_M} : mq_N M.2.2 (mf_188_L181 p n v2 s M) := by
  unfold mf_188_L181
  exact mq_N_L (fun s M h => mq_N_call mn_188_b181 h) rfl
theorem mn_188_j213 {p : Nat} {n : Nat} {v5 : Int32} {M : mm_M} : mq_N M.2.2 (mf_188_j213 p n v5 M) := by
  unfold mf_188_j213
  exact mq_N_ret rfl
theorem mn_188_b32 {p : Nat} {n : Nat} {v2 : Int32} {v3 : Int32} {v4 : Int32} {v6 : Int32} {v7 : Int32} {v8 : Int32} {v9 : Int32} {M : mm_M} : mq_N M.2.2 (mf_188_b32 p n v2 v3 v4 v6 v7 v8 v9 M) := by
  unfold mf_188_b32
  exact mq_N_ite (mq_N_ret rfl) (mq_N_B (mq_N_call mn_186 rfl) (fun _ M2 hM2 => mq_N_B (mq_N_call mn_187 hM2) (fun _ M4 hM4 => mq_N_B (mq_N_call mn_186 hM4) (fun _ M6 hM6 => mq_N_B (mq_N_call mn_187 hM6) (fun _ M8 hM8 => mq_N_B (mq_N_call mn_186 hM8) (fun _ M10 hM10 => mq_N_B (mq_N_call mn_187 hM10) (fun _ M12 hM12 => mq_N_B (mq_N_call mn_186 hM12) (fun _ M14 hM14 => mq_N_B (mq_N_call mn_187 hM14) (fun _ M16 hM16 => mq_N_ret hM16)))))))))
theorem mn_188_L32 {p : Nat} {n : Nat} {v2 : Int32} {v3 : Int32} {s : Int32 × Int32 × Int32 × Int32 × Int32} {M : mm_M} : mq_N M.2.2 (mf_188_L32 p n v2 v3 s M) := by
  unfold mf_188_L32
  exact mq_N_L (fun s M h => mq_N_call mn_188_b32 h) rfl
theorem mn_188_j107 {p : Nat} {n : Nat} {v2 : Int32} {v3 : Int32} {v4 : Int32} {v6 : Int32} {v7 : Int32} {v8 : Int32} {v9 : Int32} {M : mm_M} : mq_N M.2.2 (mf_188_j107 p n v2 v3 v4 v6 v7 v8 v9 M) := by
  unfold mf_188_j107
  exact mq_N_B (mq_N_call mn_185 rfl) (fun _ M2 hM2 => mq_N_B (mq_N_call mn_185 hM2) (fun _ M4 hM4 => mq_N_B (mq_N_call mn_185 hM4) (fun _ M6 hM6 => mq_N_B (mq_N_call mn_185 hM6) (fun _ M8 hM8 => mq_N_B (mq_N_call mn_188_L145 hM8) (fun _ M9 hM9 => mq_N_B (mq_N_call mn_188_L181 hM9) (fun _ M17 hM17 => mq_N_call mn_188_j213 hM17))))))
theorem mn_188 {p : Nat} {n : Nat} {v1 : Int32} {v2 : Int32} {M : mm_M} : mq_N M.2.2 (mf_188 p n v1 v2 M) := by
  unfold mf_188
  exact mq_N_ite (mq_N_B (mq_N_call mn_188_L145 rfl) (fun _ M1 hM1 => mq_N_B (mq_N_call mn_188_L181 hM1) (fun _ M9 hM9 => mq_N_call mn_188_j213 hM9))) (mq_N_B (mq_N_call mn_188_L32 rfl) (fun _ M20 hM20 => mq_N_call mn_188_j107 hM20))
-- 220: PlainPacksModel.block
theorem mn_220_j97 {v5 : Int32} {v8 : Int32} {v9 : Int32} {M : mm_M} : mq_N M.2.2 (mf_220_j97 v5 v8 v9 M) := by
  unfold mf_220_j97
  exact mq_N_ite (mq_N_ret rfl) (mq_N_ite (mq_N_B (mq_N_call mn_188 rfl) (fun _ M2 hM2 => mq_N_B (mq_N_call mn_213 hM2) (fun _ M3 hM3 => mq_N_ret hM3))) (mq_N_ret rfl))
theorem mn_220_j87 {v5 : Int32} {v8 : Int32} {v9 : Int32} {s1 : Int32} {s2 : Int32} {M : mm_M} : mq_N M.2.2 (mf_220_j87 v5 v8 v9 s1 s2 M) := by
  unfold mf_220_j87
  exact mq_N_B (mq_N_call mn_218 rfl) (fun _ M1 hM1 => mq_N_call mn_220_j97 hM1)
theorem mn_220 {v1 : Int64} {v3 : Int64} {v5 : Int32} {M : mm_M} : mq_N M.2.2 (mf_220 v1 v3 v5 M) := by
  unfold mf_220
  exact mq_N_ite (mq_N_B (mq_N_call mn_190 rfl) (fun _ M1 hM1 => mq_N_ret hM1)) (mq_N_ite (mq_N_B (mq_N_call mn_195 rfl) (fun _ M2 hM2 => mq_N_call mn_220_j97 hM2)) (mq_N_ite (mq_N_call mn_220_j87 rfl) (mq_N_call mn_220_j87 rfl)))
-- 219: PlainPacksModel.frame
theorem mn_219_j187 {v2 : Int32} {v4 : Int32} {v5 : Int64} {v9 : Int64} {s0 : Int32} {M : mm_M} : mq_N M.2.2 (mf_219_j187 v2 v4 v5 v9 s0 M) := by
  unfold mf_219_j187
  exact mq_N_ite (mq_N_ret rfl) (mq_N_ite (mq_N_B (mq_N_call mn_220 rfl) (fun _ M1 hM1 => mq_N_ret hM1)) (mq_N_ret rfl))
theorem mn_219_b156 {v2 : Int32} {v4 : Int32} {v5 : Int64} {v8 : Int32} {M : mm_M} : mq_N M.2.2 (mf_219_b156 v2 v4 v5 v8 M) := by
  unfold mf_219_b156
  exact mq_N_ite (mq_N_ret rfl) (mq_N_ite (mq_N_B (mq_N_call mn_193 rfl) (fun _ M2 hM2 => mq_N_ite (mq_N_call mn_219_j187 hM2) (mq_N_call mn_219_j187 hM2))) (mq_N_ret rfl))
theorem mn_219_L156 {v2 : Int32} {v4 : Int32} {v5 : Int64} {s : Int32} {M : mm_M} : mq_N M.2.2 (mf_219_L156 v2 v4 v5 s M) := by
  unfold mf_219_L156
  exact mq_N_L (fun s M h => mq_N_call mn_219_b156 h) rfl
theorem mn_219_j249 {v2 : Int32} {M : mm_M} : mq_N M.2.2 (mf_219_j249 v2 M) := by
  unfold mf_219_j249
  exact mq_N_ite (mq_N_ret rfl) (mq_N_B (mq_N_call mn_188 rfl) (fun _ M2 hM2 => mq_N_B (mq_N_call mn_213 hM2) (fun _ M3 hM3 => mq_N_ret hM3)))
theorem mn_219_j220 {v2 : Int32} {v5 : Int64} {M : mm_M} : mq_N M.2.2 (mf_219_j220 v2 v5 M) := by
  unfold mf_219_j220
  exact mq_N_ite (mq_N_ite (mq_N_call mn_219_j249 rfl) (mq_N_ite (mq_N_call mn_219_j249 rfl) (mq_N_B (mq_N_call mn_190 rfl) (fun _ M1 hM1 => mq_N_call mn_219_j249 hM1)))) (mq_N_call mn_219_j249 rfl)
theorem mn_219_j145 {v2 : Int32} {v4 : Int32} {v5 : Int64} {s0 : Int32} {M : mm_M} : mq_N M.2.2 (mf_219_j145 v2 v4 v5 s0 M) := by
  unfold mf_219_j145
  exact mq_N_B (mq_N_call mn_192 rfl) (fun _ M1 hM1 => mq_N_B (mq_N_call mn_219_L156 hM1) (fun _ M2 hM2 => mq_N_call mn_219_j220 hM2))
theorem mn_219_j113 {v1 : Int32} {v2 : Int32} {v4 : Int32} {s0 : Int64} {M : mm_M} : mq_N M.2.2 (mf_219_j113 v1 v2 v4 s0 M) := by
  unfold mf_219_j113
  exact mq_N_ite (mq_N_B (mq_N_call mn_188 rfl) (fun _ M2 hM2 => mq_N_call mn_219_j145 hM2)) (mq_N_call mn_219_j145 rfl)
theorem mn_219_j96 {v1 : Int32} {v2 : Int32} {v4 : Int32} {M : mm_M} : mq_N M.2.2 (mf_219_j96 v1 v2 v4 M) := by
  unfold mf_219_j96
  exact mq_N_ite (mq_N_call mn_219_j113 rfl) (mq_N_B (mq_N_call mn_193 rfl) (fun _ M2 hM2 => mq_N_call mn_219_j113 hM2))
theorem mn_219_j92 {v1 : Int32} {v2 : Int32} {v4 : Int32} {M : mm_M} : mq_N M.2.2 (mf_219_j92 v1 v2 v4 M) := by
  unfold mf_219_j92
  exact mq_N_B (mq_N_call mn_190 rfl) (fun _ M1 hM1 => mq_N_call mn_219_j96 hM1)
theorem mn_219_j58 {v1 : Int32} {v2 : Int32} {M : mm_M} : mq_N M.2.2 (mf_219_j58 v1 v2 M) := by
  unfold mf_219_j58
  exact mq_N_B (mq_N_call mn_191 rfl) (fun _ M2 hM2 => mq_N_ite (mq_N_ite (mq_N_ite (mq_N_call mn_219_j92 hM2) (mq_N_call mn_219_j96 hM2)) (mq_N_call mn_219_j92 hM2)) (mq_N_call mn_219_j96 hM2))
theorem mn_219_j54 {v1 : Int32} {v2 : Int32} {M : mm_M} : mq_N M.2.2 (mf_219_j54 v1 v2 M) := by
  unfold mf_219_j54
  exact mq_N_B (mq_N_call mn_190 rfl) (fun _ M1 hM1 => mq_N_call mn_219_j58 hM1)
theorem mn_219 {M : mm_M} : mq_N M.2.2 (mf_219 M) := by
  unfold mf_219
  exact mq_N_B (mq_N_call mn_192 rfl) (fun _ M1 hM1 => mq_N_B (mq_N_call mn_192 hM1) (fun _ M2 hM2 => mq_N_B (mq_N_call mn_192 hM2) (fun _ M3 hM3 => mq_N_B (mq_N_call mn_192 hM3) (fun _ M4 hM4 => mq_N_B (mq_N_call mn_191 hM4) (fun _ M6 hM6 => mq_N_ite (mq_N_ite (mq_N_ite (mq_N_call mn_219_j58 hM6) (mq_N_call mn_219_j54 hM6)) (mq_N_call mn_219_j54 hM6)) (mq_N_call mn_219_j58 hM6))))))
-- 222: PlainPacksModel.tag
theorem mn_222_j141 {v6 : Int64} {s0 : Int64} {M : mm_M} : mq_N M.2.2 (mf_222_j141 v6 s0 M) := by
  unfold mf_222_j141
  exact mq_N_B (mq_N_call mn_196 rfl) (fun _ M1 hM1 => mq_N_ret hM1)
theorem mn_222_j77 {v1 : Int32} {v4 : Int32} {v6 : Int64} {M : mm_M} : mq_N M.2.2 (mf_222_j77 v1 v4 v6 M) := by
  unfold mf_222_j77
  exact mq_N_ite (mq_N_B (mq_N_call mn_195 rfl) (fun _ M1 hM1 => mq_N_ret hM1)) (mq_N_ite (mq_N_ite (mq_N_B (mq_N_call mn_191 rfl) (fun _ M3 hM3 => mq_N_call mn_222_j141 hM3)) (mq_N_ite (mq_N_B (mq_N_call mn_193 rfl) (fun _ M5 hM5 => mq_N_call mn_222_j141 hM5)) (mq_N_B (mq_N_call mn_193 rfl) (fun _ M7 hM7 => mq_N_call mn_222_j141 hM7)))) (mq_N_ret rfl))
theorem mn_222_j59 {v1 : Int32} {v2 : Int64} {v4 : Int32} {v6 : Int64} {M : mm_M} : mq_N M.2.2 (mf_222_j59 v1 v2 v4 v6 M) := by
  unfold mf_222_j59
  exact mq_N_ite (mq_N_ite (mq_N_B (mq_N_call mn_190 rfl) (fun _ M1 hM1 => mq_N_call mn_222_j77 hM1)) (mq_N_call mn_222_j77 rfl)) (mq_N_call mn_222_j77 rfl)
theorem mn_222_j32 {v1 : Int32} {v2 : Int64} {v4 : Int32} {v5 : Int32} {s0 : Int64} {M : mm_M} : mq_N M.2.2 (mf_222_j32 v1 v2 v4 v5 s0 M) := by
  unfold mf_222_j32
  exact mq_N_ite (mq_N_ite (mq_N_call mn_222_j59 rfl) (mq_N_B (mq_N_call mn_193 rfl) (fun _ M2 hM2 => mq_N_call mn_222_j59 hM2))) (mq_N_call mn_222_j59 rfl)
theorem mn_222 {v1 : Int32} {v2 : Int64} {M : mm_M} : mq_N M.2.2 (mf_222 v1 v2 M) := by
  unfold mf_222
  exact mq_N_ite (mq_N_call mn_222_j32 rfl) (mq_N_call mn_222_j32 rfl)
-- 221: PlainPacksModel.tags
theorem mn_221_j74 {v1 : Int64} {v3 : Int32} {v4 : Int32} {M : mm_M} : mq_N M.2.2 (mf_221_j74 v1 v3 v4 M) := by
  unfold mf_221_j74
  exact mq_N_B (mq_N_call mn_190 rfl) (fun _ M1 hM1 => mq_N_ret hM1)
theorem mn_221_j54 {v1 : Int64} {v3 : Int32} {s0 : Int32} {M : mm_M} : mq_N M.2.2 (mf_221_j54 v1 v3 s0 M) := by
  unfold mf_221_j54
  exact mq_N_ite (mq_N_call mn_221_j74 rfl) (mq_N_ite (mq_N_ret rfl) (mq_N_ite (mq_N_call mn_221_j74 rfl) (mq_N_ret rfl)))
theorem mn_221_b7 {v1 : Int64} {v3 : Int32} {v4 : Int32} {M : mm_M} : mq_N M.2.2 (mf_221_b7 v1 v3 v4 M) := by
  unfold mf_221_b7
  exact mq_N_ite (mq_N_ret rfl) (mq_N_ite (mq_N_B (mq_N_call mn_191 rfl) (fun _ M2 hM2 => mq_N_ite (mq_N_call mn_221_j54 hM2) (mq_N_call mn_221_j54 hM2))) (mq_N_ret rfl))
theorem mn_221_L7 {s : Int64 × Int32 × Int32} {M : mm_M} : mq_N M.2.2 (mf_221_L7 s M) := by
  unfold mf_221_L7
  exact mq_N_L (fun s M h => mq_N_call mn_221_b7 h) rfl
theorem mn_221_b100 {v1 : Int64} {M : mm_M} : mq_N M.2.2 (mf_221_b100 v1 M) := by
  unfold mf_221_b100
  exact mq_N_ite (mq_N_ite (mq_N_B (mq_N_call mn_191 rfl) (fun _ M2 hM2 => mq_N_ite (mq_N_B (mq_N_call mn_222 hM2) (fun _ M3 hM3 => mq_N_ret hM3)) (mq_N_ret hM2))) (mq_N_ret rfl)) (mq_N_ret rfl)
theorem mn_221_L100 {v1 : Int64} {s : Unit} {M : mm_M} : mq_N M.2.2 (mf_221_L100 v1 s M) := by
  unfold mf_221_L100
  exact mq_N_L (fun s M h => mq_N_call mn_221_b100 h) rfl
theorem mn_221_j81 {v1 : Int64} {M : mm_M} : mq_N M.2.2 (mf_221_j81 v1 M) := by
  unfold mf_221_j81
  exact mq_N_ite (mq_N_ite (mq_N_B (mq_N_call mn_190 rfl) (fun _ M1 hM1 => mq_N_B (mq_N_call mn_221_L100 hM1) (fun _ M2 hM2 => mq_N_ret hM2))) (mq_N_B (mq_N_call mn_221_L100 rfl) (fun _ M10 hM10 => mq_N_ret hM10))) (mq_N_B (mq_N_call mn_221_L100 rfl) (fun _ M18 hM18 => mq_N_ret hM18))
theorem mn_221 {M : mm_M} : mq_N M.2.2 (mf_221 M) := by
  unfold mf_221
  exact mq_N_B (mq_N_call mn_221_L7 rfl) (fun _ M1 hM1 => mq_N_call mn_221_j81 hM1)
-- 225: PlainPacksModel.occurring
theorem mn_225_b55 {v1 : Int32} {v2 : Int32} {v3 : Int32} {v4 : Int32} {M : mm_M} : mq_N M.2.2 (mf_225_b55 v1 v2 v3 v4 M) := by
  unfold mf_225_b55
  exact mq_N_ite (mq_N_ite (mq_N_ite (mq_N_ret rfl) (mq_N_none)) (mq_N_ret rfl)) (mq_N_ret rfl)
theorem mn_225_L55 {v1 : Int32} {v2 : Int32} {v3 : Int32} {s : Int32} {M : mm_M} : mq_N M.2.2 (mf_225_L55 v1 v2 v3 s M) := by
  unfold mf_225_L55
  exact mq_N_L (fun s M h => mq_N_call mn_225_b55 h) rfl
theorem mn_225_b15 {v1 : Int32} {v2 : Int32} {M : mm_M} : mq_N M.2.2 (mf_225_b15 v1 v2 M) := by
  unfold mf_225_b15
  exact mq_N_ite (mq_N_ite (mq_N_ite (mq_N_B (mq_N_call mn_198 rfl) (fun _ M2 hM2 => mq_N_B (mq_N_call mn_225_L55 hM2) (fun _ M3 hM3 => mq_N_ret hM3))) (mq_N_B (mq_N_call mn_225_L55 rfl) (fun _ M7 hM7 => mq_N_ret hM7))) (mq_N_ret rfl)) (mq_N_ret rfl)
theorem mn_225_L15 {v1 : Int32} {s : Int32} {M : mm_M} : mq_N M.2.2 (mf_225_L15 v1 s M) := by
  unfold mf_225_L15
  exact mq_N_L (fun s M h => mq_N_call mn_225_b15 h) rfl
theorem mn_225_j113 {M : mm_M} : mq_N M.2.2 (mf_225_j113 M) := by
  unfold mf_225_j113
  exact mq_N_ite (mq_N_ite (mq_N_B (mq_N_call mn_190 rfl) (fun _ M1 hM1 => mq_N_ret hM1)) (mq_N_ret rfl)) (mq_N_ret rfl)
theorem mn_225 {M : mm_M} : mq_N M.2.2 (mf_225 M) := by
  unfold mf_225
  exact mq_N_B (mq_N_call mn_198 rfl) (fun _ M2 hM2 => mq_N_B (mq_N_call mn_225_L15 hM2) (fun _ M3 hM3 => mq_N_call mn_225_j113 hM3))
-- 226: PlainPacksModel.readSelectors
theorem mn_226_b2 {v1 : Int32} {M : mm_M} : mq_N M.2.2 (mf_226_b2 v1 M) := by
  unfold mf_226_b2
  exact mq_N_ite (mq_N_ite (mq_N_ret rfl) (mq_N_none)) (mq_N_ret rfl)
theorem mn_226_L2 {s : Int32} {M : mm_M} : mq_N M.2.2 (mf_226_L2 s M) := by
  unfold mf_226_L2
  exact mq_N_L (fun s M h => mq_N_call mn_226_b2 h) rfl
theorem mn_226_b40 {v1 : Int32} {v2 : Int32} {M : mm_M} : mq_N M.2.2 (mf_226_b40 v1 v2 M) := by
  unfold mf_226_b40
  exact mq_N_ite (mq_N_B (mq_N_call mn_197 rfl) (fun _ M2 hM2 => mq_N_ite (mq_N_ite (mq_N_ret hM2) (mq_N_B (mq_N_call mn_190 hM2) (fun _ M3 hM3 => mq_N_ret hM3))) (mq_N_ret hM2))) (mq_N_ret rfl)
theorem mn_226_L40 {v1 : Int32} {s : Int32} {M : mm_M} : mq_N M.2.2 (mf_226_L40 v1 s M) := by
  unfold mf_226_L40
  exact mq_N_L (fun s M h => mq_N_call mn_226_b40 h) rfl
theorem mn_226_b90 {v1 : Int32} {v3 : Int32} {v4 : Int32} {M : mm_M} : mq_N M.2.2 (mf_226_b90 v1 v3 v4 M) := by
  unfold mf_226_b90
  exact mq_N_ite (mq_N_ite (mq_N_ite (mq_N_ret rfl) (mq_N_none)) (mq_N_none)) (mq_N_ret rfl)
theorem mn_226_L90 {v1 : Int32} {v3 : Int32} {s : Int32} {M : mm_M} : mq_N M.2.2 (mf_226_L90 v1 v3 s M) := by
  unfold mf_226_L90
  exact mq_N_L (fun s M h => mq_N_call mn_226_b90 h) rfl
theorem mn_226_j117 {v1 : Int32} {v3 : Int32} {M : mm_M} : mq_N M.2.2 (mf_226_j117 v1 v3 M) := by
  unfold mf_226_j117
  exact mq_N_ite (mq_N_ite (mq_N_ret rfl) (mq_N_none)) (mq_N_none)
theorem mn_226_j73 {v1 : Int32} {v2 : Int32} {M : mm_M} : mq_N M.2.2 (mf_226_j73 v1 v2 M) := by
  unfold mf_226_j73
  exact mq_N_ite (mq_N_ite (mq_N_B (mq_N_call mn_226_L90 rfl) (fun _ M1 hM1 => mq_N_call mn_226_j117 hM1)) (mq_N_none)) (mq_N_ret rfl)
theorem mn_226_b23 {v1 : Int32} {M : mm_M} : mq_N M.2.2 (mf_226_b23 v1 M) := by
  unfold mf_226_b23
  exact mq_N_ite (mq_N_ite (mq_N_B (mq_N_call mn_226_L40 rfl) (fun _ M1 hM1 => mq_N_call mn_226_j73 hM1)) (mq_N_ret rfl)) (mq_N_ret rfl)
theorem mn_226_L23 {s : Int32} {M : mm_M} : mq_N M.2.2 (mf_226_L23 s M) := by
  unfold mf_226_L23
  exact mq_N_L (fun s M h => mq_N_call mn_226_b23 h) rfl
theorem mn_226 {M : mm_M} : mq_N M.2.2 (mf_226 M) := by
  unfold mf_226
  exact mq_N_B (mq_N_call mn_226_L2 rfl) (fun _ M1 hM1 => mq_N_B (mq_N_call mn_226_L23 hM1) (fun _ M7 hM7 => mq_N_ret hM7))
-- 227: PlainPacksModel.readTable
theorem mn_227_j93 {v1 : Int32} {v2 : Int32} {v3 : Int32} {v4 : Int32} {M : mm_M} : mq_N M.2.2 (mf_227_j93 v1 v2 v3 v4 M) := by
  unfold mf_227_j93
  exact mq_N_B (mq_N_call mn_190 rfl) (fun _ M1 hM1 => mq_N_ret hM1)
theorem mn_227_j73 {v1 : Int32} {v2 : Int32} {v4 : Int32} {s0 : Int32} {s1 : Int32} {M : mm_M} : mq_N M.2.2 (mf_227_j73 v1 v2 v4 s0 s1 M) := by
  unfold mf_227_j73
  exact mq_N_ite (mq_N_ite (mq_N_call mn_227_j93 rfl) (mq_N_ite (mq_N_call mn_227_j93 rfl) (mq_N_ret rfl))) (mq_N_ret rfl)
theorem mn_227_b45 {v1 : Int32} {v2 : Int32} {v3 : Int32} {v4 : Int32} {M : mm_M} : mq_N M.2.2 (mf_227_b45 v1 v2 v3 v4 M) := by
  unfold mf_227_b45
  exact mq_N_ite (mq_N_B (mq_N_call mn_197 rfl) (fun _ M2 hM2 => mq_N_ite (mq_N_B (mq_N_call mn_197 hM2) (fun _ M4 hM4 => mq_N_ite (mq_N_call mn_227_j73 hM4) (mq_N_call mn_227_j73 hM4))) (mq_N_ret hM2))) (mq_N_ret rfl)
theorem mn_227_L45 {v1 : Int32} {v2 : Int32} {v4 : Int32} {s : Int32} {M : mm_M} : mq_N M.2.2 (mf_227_L45 v1 v2 v4 s M) := by
  unfold mf_227_L45
  exact mq_N_L (fun s M h => mq_N_call mn_227_b45 h) rfl
theorem mn_227_j100 {v1 : Int32} {v2 : Int32} {v3 : Int32} {v4 : Int32} {M : mm_M} : mq_N M.2.2 (mf_227_j100 v1 v2 v3 v4 M) := by
  unfold mf_227_j100
  exact mq_N_ite (mq_N_ret rfl) (mq_N_none)
theorem mn_227_b32 {v1 : Int32} {v2 : Int32} {v3 : Int32} {v4 : Int32} {M : mm_M} : mq_N M.2.2 (mf_227_b32 v1 v2 v3 v4 M) := by
  unfold mf_227_b32
  exact mq_N_ite (mq_N_ite (mq_N_B (mq_N_call mn_227_L45 rfl) (fun _ M1 hM1 => mq_N_call mn_227_j100 hM1)) (mq_N_ret rfl)) (mq_N_ret rfl)
theorem mn_227_L32 {v1 : Int32} {v2 : Int32} {s : Int32 × Int32} {M : mm_M} : mq_N M.2.2 (mf_227_L32 v1 v2 s M) := by
  unfold mf_227_L32
  exact mq_N_L (fun s M h => mq_N_call mn_227_b32 h) rfl
theorem mn_227_j158 {s1 : Int32} {s2 : Int32} {M : mm_M} : mq_N M.2.2 (mf_227_j158 s1 s2 M) := by
  unfold mf_227_j158
  exact mq_N_B (mq_N_call mn_199 rfl) (fun _ M1 hM1 => mq_N_ret hM1)
theorem mn_227_j144 {v1 : Int32} {v2 : Int32} {M : mm_M} : mq_N M.2.2 (mf_227_j144 v1 v2 M) := by
  unfold mf_227_j144
  exact mq_N_ite (mq_N_call mn_227_j158 rfl) (mq_N_call mn_227_j158 rfl)
theorem mn_227_j120 {v1 : Int32} {v2 : Int32} {M : mm_M} : mq_N M.2.2 (mf_227_j120 v1 v2 M) := by
  unfold mf_227_j120
  exact mq_N_ite (mq_N_B (mq_N_call mn_200 rfl) (fun _ M2 hM2 => mq_N_ite (mq_N_B (mq_N_call mn_190 hM2) (fun _ M3 hM3 => mq_N_call mn_227_j144 hM3)) (mq_N_call mn_227_j144 hM2))) (mq_N_call mn_227_j144 rfl)
theorem mn_227_j25 {v1 : Int32} {v2 : Int32} {v3 : Int32} {M : mm_M} : mq_N M.2.2 (mf_227_j25 v1 v2 v3 M) := by
  unfold mf_227_j25
  exact mq_N_B (mq_N_call mn_190 rfl) (fun _ M1 hM1 => mq_N_B (mq_N_call mn_227_L32 hM1) (fun _ M2 hM2 => mq_N_call mn_227_j120 hM2))
theorem mn_227 {v1 : Int32} {v2 : Int32} {M : mm_M} : mq_N M.2.2 (mf_227 v1 v2 M) := by
  unfold mf_227
  exact mq_N_B (mq_N_call mn_198 rfl) (fun _ M2 hM2 => mq_N_ite (mq_N_ite (mq_N_call mn_227_j25 hM2) (mq_N_ite (mq_N_call mn_227_j25 hM2) (mq_N_B (mq_N_call mn_227_L32 hM2) (fun _ M3 hM3 => mq_N_call mn_227_j120 hM3)))) (mq_N_B (mq_N_call mn_227_L32 hM2) (fun _ M7 hM7 => mq_N_call mn_227_j120 hM7)))
-- 229: PlainPacksModel.fill
theorem mn_229_b21 {v1 : Int64} {v3 : Int64} {M : mm_M} : mq_N M.2.2 (mf_229_b21 v1 v3 M) := by
  unfold mf_229_b21
  exact mq_N_ite (mq_N_ite (mq_N_ite (mq_N_ret rfl) (mq_N_none)) (mq_N_none)) (mq_N_ret rfl)
theorem mn_229_L21 {v1 : Int64} {s : Int64} {M : mm_M} : mq_N M.2.2 (mf_229_L21 v1 s M) := by
  unfold mf_229_L21
  exact mq_N_L (fun s M h => mq_N_call mn_229_b21 h) rfl
theorem mn_229 {v1 : Int64} {M : mm_M} : mq_N M.2.2 (mf_229 v1 M) := by
  unfold mf_229
  exact mq_N_ite (mq_N_B (mq_N_call mn_190 rfl) (fun _ M1 hM1 => mq_N_ret hM1)) (mq_N_B (mq_N_call mn_229_L21 rfl) (fun _ M2 hM2 => mq_N_ret hM2))
-- 230: PlainPacksModel.toFront
theorem mn_230_b24 {v2 : Int32} {v3 : Int32} {M : mm_M} : mq_N M.2.2 (mf_230_b24 v2 v3 M) := by
  unfold mf_230_b24
  exact mq_N_ite (mq_N_ite (mq_N_ite (mq_N_ret rfl) (mq_N_none)) (mq_N_none)) (mq_N_ret rfl)
theorem mn_230_L24 {v2 : Int32} {s : Int32} {M : mm_M} : mq_N M.2.2 (mf_230_L24 v2 s M) := by
  unfold mf_230_L24
  exact mq_N_L (fun s M h => mq_N_call mn_230_b24 h) rfl
theorem mn_230_j48 {v2 : Int32} {M : mm_M} : mq_N M.2.2 (mf_230_j48 v2 M) := by
  unfold mf_230_j48
  exact mq_N_ite (mq_N_ite (mq_N_ret rfl) (mq_N_none)) (mq_N_none)
theorem mn_230 {v1 : Int32} {M : mm_M} : mq_N M.2.2 (mf_230 v1 M) := by
  unfold mf_230
  exact mq_N_ite (mq_N_B (mq_N_call mn_190 rfl) (fun _ M1 hM1 => mq_N_ret hM1)) (mq_N_ite (mq_N_B (mq_N_call mn_230_L24 rfl) (fun _ M2 hM2 => mq_N_call mn_230_j48 hM2)) (mq_N_none))
-- 228: PlainPacksModel.readLetters
theorem mn_228_j155 {v1 : Int32} {v2 : Int32} {v3 : Int32} {v4 : Int64} {v6 : Int32} {v8 : Int32} {s0 : Int32} {M : mm_M} : mq_N M.2.2 (mf_228_j155 v1 v2 v3 v4 v6 v8 s0 M) := by
  unfold mf_228_j155
  exact mq_N_ite (mq_N_ret rfl) (mq_N_ite (mq_N_B (mq_N_call mn_230 rfl) (fun _ M1 hM1 => mq_N_ret hM1)) (mq_N_ret rfl))
theorem mn_228_j77 {v1 : Int32} {v2 : Int32} {v3 : Int32} {v4 : Int64} {v6 : Int32} {v7 : Int32} {s0 : Int32} {M : mm_M} : mq_N M.2.2 (mf_228_j77 v1 v2 v3 v4 v6 v7 s0 M) := by
  unfold mf_228_j77
  exact mq_N_ite (mq_N_ite (mq_N_ite (mq_N_ret rfl) (mq_N_ret rfl)) (mq_N_B (mq_N_call mn_229 rfl) (fun _ M1 hM1 => mq_N_ite (mq_N_call mn_228_j155 hM1) (mq_N_call mn_228_j155 hM1)))) (mq_N_ret rfl)
theorem mn_228_j52 {v1 : Int32} {v2 : Int32} {v3 : Int32} {v4 : Int64} {v6 : Int32} {v7 : Int32} {M : mm_M} : mq_N M.2.2 (mf_228_j52 v1 v2 v3 v4 v6 v7 M) := by
  unfold mf_228_j52
  exact mq_N_ite (mq_N_ite (mq_N_B (mq_N_call mn_202 rfl) (fun _ M2 hM2 => mq_N_call mn_228_j77 hM2)) (mq_N_none)) (mq_N_call mn_228_j77 rfl)
theorem mn_228_j40 {v1 : Int32} {v2 : Int32} {v3 : Int32} {v4 : Int64} {v6 : Int32} {v7 : Int32} {M : mm_M} : mq_N M.2.2 (mf_228_j40 v1 v2 v3 v4 v6 v7 M) := by
  unfold mf_228_j40
  exact mq_N_ite (mq_N_B (mq_N_call mn_190 rfl) (fun _ M1 hM1 => mq_N_call mn_228_j52 hM1)) (mq_N_call mn_228_j52 rfl)
theorem mn_228_b18 {v1 : Int32} {v2 : Int32} {v3 : Int32} {v4 : Int64} {v6 : Int32} {v7 : Int32} {M : mm_M} : mq_N M.2.2 (mf_228_b18 v1 v2 v3 v4 v6 v7 M) := by
  unfold mf_228_b18
  exact mq_N_ite (mq_N_ret rfl) (mq_N_ite (mq_N_ite (mq_N_call mn_228_j40 rfl) (mq_N_call mn_228_j40 rfl)) (mq_N_ret rfl))
theorem mn_228_L18 {v1 : Int32} {s : Int32 × Int32 × Int64 × Int32 × Int32} {M : mm_M} : mq_N M.2.2 (mf_228_L18 v1 s M) := by
  unfold mf_228_L18
  exact mq_N_L (fun s M h => mq_N_call mn_228_b18 h) rfl
theorem mn_228 {v1 : Int32} {M : mm_M} : mq_N M.2.2 (mf_228 v1 M) := by
  unfold mf_228
  exact mq_N_B (mq_N_call mn_228_L18 rfl) (fun _ M1 hM1 => mq_N_ret hM1)
-- 231: PlainPacksModel.walk
theorem mn_231_b21 {v1 : Int32} {v2 : Int32} {v3 : Int32} {v4 : Int32} {M : mm_M} : mq_N M.2.2 (mf_231_b21 v1 v2 v3 v4 M) := by
  unfold mf_231_b21
  exact mq_N_ite (mq_N_ite (mq_N_ite (mq_N_ite (mq_N_ret rfl) (mq_N_none)) (mq_N_ret rfl)) (mq_N_none)) (mq_N_ret rfl)
theorem mn_231_L21 {v1 : Int32} {v3 : Int32} {s : Int32 × Int32} {M : mm_M} : mq_N M.2.2 (mf_231_L21 v1 v3 s M) := by
  unfold mf_231_L21
  exact mq_N_L (fun s M h => mq_N_call mn_231_b21 h) rfl
theorem mn_231_b4 {v1 : Int32} {v2 : Int32} {v3 : Int32} {M : mm_M} : mq_N M.2.2 (mf_231_b4 v1 v2 v3 M) := by
  unfold mf_231_b4
  exact mq_N_ite (mq_N_ite (mq_N_B (mq_N_call mn_231_L21 rfl) (fun _ M1 hM1 => mq_N_ret hM1)) (mq_N_ret rfl)) (mq_N_ret rfl)
theorem mn_231_L4 {v1 : Int32} {s : Int32 × Int32} {M : mm_M} : mq_N M.2.2 (mf_231_L4 v1 s M) := by
  unfold mf_231_L4
  exact mq_N_L (fun s M h => mq_N_call mn_231_b4 h) rfl
theorem mn_231_b124 {v3 : Int32} {v5 : Int32} {v6 : Int32} {v7 : Int32} {v8 : Int32} {M : mm_M} : mq_N M.2.2 (mf_231_b124 v3 v5 v6 v7 v8 M) := by
  unfold mf_231_b124
  exact mq_N_ite (mq_N_ite (mq_N_B (mq_N_call mn_194 rfl) (fun _ M2 hM2 => mq_N_ret hM2)) (mq_N_ret rfl)) (mq_N_ret rfl)
theorem mn_231_L124 {v3 : Int32} {v5 : Int32} {v6 : Int32} {v7 : Int32} {s : Int32} {M : mm_M} : mq_N M.2.2 (mf_231_L124 v3 v5 v6 v7 s M) := by
  unfold mf_231_L124
  exact mq_N_L (fun s M h => mq_N_call mn_231_b124 h) rfl
theorem mn_231_j188 {v3 : Int32} {v4 : Int32} {v5 : Int32} {v6 : Int32} {M : mm_M} : mq_N M.2.2 (mf_231_j188 v3 v4 v5 v6 M) := by
  unfold mf_231_j188
  exact mq_N_ite (mq_N_ret rfl) (mq_N_none)
theorem mn_231_j175 {v3 : Int32} {v6 : Int32} {v7 : Int32} {s0 : Int32} {M : mm_M} : mq_N M.2.2 (mf_231_j175 v3 v6 v7 s0 M) := by
  unfold mf_231_j175
  exact mq_N_B (mq_N_call mn_194 rfl) (fun _ M2 hM2 => mq_N_call mn_231_j188 hM2)
theorem mn_231_b91 {v3 : Int32} {v4 : Int32} {v5 : Int32} {v6 : Int32} {M : mm_M} : mq_N M.2.2 (mf_231_b91 v3 v4 v5 v6 M) := by
  unfold mf_231_b91
  exact mq_N_ite (mq_N_ite (mq_N_ite (mq_N_ite (mq_N_B (mq_N_call mn_231_L124 rfl) (fun _ M1 hM1 => mq_N_call mn_231_j188 hM1)) (mq_N_ite (mq_N_call mn_231_j175 rfl) (mq_N_call mn_231_j175 rfl))) (mq_N_none)) (mq_N_ret rfl)) (mq_N_ret rfl)
theorem mn_231_L91 {s : Int32 × Int32 × Int32 × Int32} {M : mm_M} : mq_N M.2.2 (mf_231_L91 s M) := by
  unfold mf_231_L91
  exact mq_N_L (fun s M h => mq_N_call mn_231_b91 h) rfl
theorem mn_231_j64 {v1 : Int32} {M : mm_M} : mq_N M.2.2 (mf_231_j64 v1 M) := by
  unfold mf_231_j64
  exact mq_N_ite (mq_N_ite (mq_N_B (mq_N_call mn_231_L91 rfl) (fun _ M1 hM1 => mq_N_ret hM1)) (mq_N_none)) (mq_N_B (mq_N_call mn_231_L91 rfl) (fun _ M12 hM12 => mq_N_ret hM12))
theorem mn_231 {v1 : Int32} {M : mm_M} : mq_N M.2.2 (mf_231 v1 M) := by
  unfold mf_231
  exact mq_N_B (mq_N_call mn_231_L4 rfl) (fun _ M1 hM1 => mq_N_call mn_231_j64 hM1)
-- 183: PlainPacksModel.crcHigh
theorem mn_183_b24 {p : Nat} {n : Nat} {v2 : Int32} {v3 : Int32} {v4 : Int32} {v5 : Int32} {M : mm_M} : mq_N M.2.2 (mf_183_b24 p n v2 v3 v4 v5 M) := by
  unfold mf_183_b24
  exact mq_N_ite (mq_N_ite (mq_N_ret rfl) (mq_N_ret rfl)) (mq_N_ret rfl)
theorem mn_183_L24 {p : Nat} {n : Nat} {v2 : Int32} {v4 : Int32} {s : Int32 × Int32} {M : mm_M} : mq_N M.2.2 (mf_183_L24 p n v2 v4 s M) := by
  unfold mf_183_L24
  exact mq_N_L (fun s M h => mq_N_call mn_183_b24 h) rfl
theorem mn_183_b5 {p : Nat} {n : Nat} {v2 : Int32} {v3 : Int32} {v4 : Int32} {M : mm_M} : mq_N M.2.2 (mf_183_b5 p n v2 v3 v4 M) := by
  unfold mf_183_b5
  exact mq_N_ite (mq_N_ite (mq_N_B (mq_N_call mn_183_L24 rfl) (fun _ M1 hM1 => mq_N_ret hM1)) (mq_N_none)) (mq_N_ret rfl)
theorem mn_183_L5 {p : Nat} {n : Nat} {v2 : Int32} {s : Int32 × Int32} {M : mm_M} : mq_N M.2.2 (mf_183_L5 p n v2 s M) := by
  unfold mf_183_L5
  exact mq_N_L (fun s M h => mq_N_call mn_183_b5 h) rfl
theorem mn_183 {p : Nat} {n : Nat} {v1 : Int32} {v2 : Int32} {M : mm_M} : mq_N M.2.2 (mf_183 p n v1 v2 M) := by
  unfold mf_183
  exact mq_N_B (mq_N_call mn_183_L5 rfl) (fun _ M1 hM1 => mq_N_ret hM1)
-- 224: PlainPacksModel.sortedBlock
theorem mn_224_b132 {v1 : Int32} {v2 : Int32} {v3 : Int32} {v4 : Int32} {M : mm_M} : mq_N M.2.2 (mf_224_b132 v1 v2 v3 v4 M) := by
  unfold mf_224_b132
  exact mq_N_ite (mq_N_ite (mq_N_B (mq_N_call mn_227 rfl) (fun _ M1 hM1 => mq_N_ret hM1)) (mq_N_ret rfl)) (mq_N_ret rfl)
theorem mn_224_L132 {v1 : Int32} {v2 : Int32} {v3 : Int32} {s : Int32} {M : mm_M} : mq_N M.2.2 (mf_224_L132 v1 v2 v3 s M) := by
  unfold mf_224_L132
  exact mq_N_L (fun s M h => mq_N_call mn_224_b132 h) rfl
theorem mn_224_j189 {v1 : Int32} {v2 : Int32} {M : mm_M} : mq_N M.2.2 (mf_224_j189 v1 v2 M) := by
  unfold mf_224_j189
  exact mq_N_B (mq_N_call mn_231 rfl) (fun _ M1 hM1 => mq_N_ite (mq_N_B (mq_N_call mn_183 hM1) (fun _ M3 hM3 => mq_N_ite (mq_N_ret hM3) (mq_N_B (mq_N_call mn_190 hM3) (fun _ M4 hM4 => mq_N_ret hM4)))) (mq_N_ret hM1))
theorem mn_224_j163 {v1 : Int32} {v2 : Int32} {v3 : Int32} {M : mm_M} : mq_N M.2.2 (mf_224_j163 v1 v2 v3 M) := by
  unfold mf_224_j163
  exact mq_N_B (mq_N_call mn_228 rfl) (fun _ M1 hM1 => mq_N_ite (mq_N_ite (mq_N_call mn_224_j189 hM1) (mq_N_B (mq_N_call mn_190 hM1) (fun _ M2 hM2 => mq_N_call mn_224_j189 hM2))) (mq_N_call mn_224_j189 hM1))
theorem mn_224_j125 {v1 : Int32} {v2 : Int32} {v3 : Int32} {M : mm_M} : mq_N M.2.2 (mf_224_j125 v1 v2 v3 M) := by
  unfold mf_224_j125
  exact mq_N_B (mq_N_call mn_226 rfl) (fun _ M1 hM1 => mq_N_B (mq_N_call mn_224_L132 hM1) (fun _ M2 hM2 => mq_N_call mn_224_j163 hM2))
theorem mn_224_j96 {v1 : Int32} {v2 : Int32} {v3 : Int32} {M : mm_M} : mq_N M.2.2 (mf_224_j96 v1 v2 v3 M) := by
  unfold mf_224_j96
  exact mq_N_B (mq_N_call mn_198 rfl) (fun _ M2 hM2 => mq_N_ite (mq_N_ite (mq_N_B (mq_N_call mn_190 hM2) (fun _ M3 hM3 => mq_N_call mn_224_j125 hM3)) (mq_N_call mn_224_j125 hM2)) (mq_N_call mn_224_j125 hM2))
theorem mn_224_j92 {v1 : Int32} {v2 : Int32} {v3 : Int32} {M : mm_M} : mq_N M.2.2 (mf_224_j92 v1 v2 v3 M) := by
  unfold mf_224_j92
  exact mq_N_B (mq_N_call mn_190 rfl) (fun _ M1 hM1 => mq_N_call mn_224_j96 hM1)
theorem mn_224_j41 {v1 : Int32} {M : mm_M} : mq_N M.2.2 (mf_224_j41 v1 M) := by
  unfold mf_224_j41
  exact mq_N_B (mq_N_call mn_198 rfl) (fun _ M2 hM2 => mq_N_B (mq_N_call mn_225 hM2) (fun _ M3 hM3 => mq_N_B (mq_N_call mn_198 hM3) (fun _ M5 hM5 => mq_N_ite (mq_N_ite (mq_N_call mn_224_j92 hM5) (mq_N_ite (mq_N_call mn_224_j92 hM5) (mq_N_call mn_224_j96 hM5))) (mq_N_call mn_224_j96 hM5))))
theorem mn_224 {M : mm_M} : mq_N M.2.2 (mf_224 M) := by
  unfold mf_224
  exact mq_N_B (mq_N_call mn_198 rfl) (fun _ M2 hM2 => mq_N_ite (mq_N_B (mq_N_call mn_198 hM2) (fun _ M4 hM4 => mq_N_ite (mq_N_B (mq_N_call mn_190 hM4) (fun _ M5 hM5 => mq_N_call mn_224_j41 hM5)) (mq_N_call mn_224_j41 hM4))) (mq_N_ret hM2))
-- 223: PlainPacksModel.sorted
theorem mn_223_j116 {v2 : Int32} {v3 : Int32} {M : mm_M} : mq_N M.2.2 (mf_223_j116 v2 v3 M) := by
  unfold mf_223_j116
  exact mq_N_ite (mq_N_B (mq_N_call mn_224 rfl) (fun _ M2 hM2 => mq_N_B (mq_N_call mn_185 hM2) (fun _ M4 hM4 => mq_N_ret hM4))) (mq_N_ret rfl)
theorem mn_223_b60 {v2 : Int32} {v3 : Int32} {M : mm_M} : mq_N M.2.2 (mf_223_b60 v2 v3 M) := by
  unfold mf_223_b60
  exact mq_N_ite (mq_N_ret rfl) (mq_N_ite (mq_N_B (mq_N_call mn_198 rfl) (fun _ M2 hM2 => mq_N_ite (mq_N_ret hM2) (mq_N_ite (mq_N_ite (mq_N_call mn_223_j116 hM2) (mq_N_B (mq_N_call mn_190 hM2) (fun _ M3 hM3 => mq_N_ret hM3))) (mq_N_call mn_223_j116 hM2)))) (mq_N_ret rfl))
theorem mn_223_L60 {s : Int32 × Int32} {M : mm_M} : mq_N M.2.2 (mf_223_L60 s M) := by
  unfold mf_223_L60
  exact mq_N_L (fun s M h => mq_N_call mn_223_b60 h) rfl
theorem mn_223_j141 {v2 : Int32} {M : mm_M} : mq_N M.2.2 (mf_223_j141 v2 M) := by
  unfold mf_223_j141
  exact mq_N_B (mq_N_call mn_198 rfl) (fun _ M2 hM2 => mq_N_ite (mq_N_ite (mq_N_ret hM2) (mq_N_B (mq_N_call mn_190 hM2) (fun _ M3 hM3 => mq_N_ret hM3))) (mq_N_ret hM2))
theorem mn_223_j42 {M : mm_M} : mq_N M.2.2 (mf_223_j42 M) := by
  unfold mf_223_j42
  exact mq_N_B (mq_N_call mn_190 rfl) (fun _ M1 hM1 => mq_N_B (mq_N_call mn_223_L60 hM1) (fun _ M2 hM2 => mq_N_call mn_223_j141 hM2))
theorem mn_223 {M : mm_M} : mq_N M.2.2 (mf_223 M) := by
  unfold mf_223
  exact mq_N_B (mq_N_call mn_192 rfl) (fun _ M1 hM1 => mq_N_B (mq_N_call mn_192 hM1) (fun _ M2 hM2 => mq_N_B (mq_N_call mn_192 hM2) (fun _ M3 hM3 => mq_N_B (mq_N_call mn_191 hM3) (fun _ M5 hM5 => mq_N_ite (mq_N_ite (mq_N_call mn_223_j42 hM5) (mq_N_ite (mq_N_call mn_223_j42 hM5) (mq_N_B (mq_N_call mn_223_L60 hM5) (fun _ M6 hM6 => mq_N_call mn_223_j141 hM6)))) (mq_N_B (mq_N_call mn_223_L60 hM5) (fun _ M13 hM13 => mq_N_call mn_223_j141 hM13))))))
-- 232: PlainPacksModel.grow
theorem mn_232 {M : mm_M} : mq_N M.2.2 (mf_232 M) := by
  unfold mf_232
  exact mq_N_ite (mq_N_B (mq_N_call mn_191 rfl) (fun _ M2 hM2 => mq_N_ret hM2)) (mq_N_ret rfl)
-- 233: PlainPacksModel.chance
theorem mn_233_j115 {v4 : Int32} {M : mm_M} : mq_N M.2.2 (mf_233_j115 v4 M) := by
  unfold mf_233_j115
  exact mq_N_B (mq_N_call mn_232 rfl) (fun _ M1 hM1 => mq_N_ret hM1)
theorem mn_233_j40 {v1 : Int32} {v2 : Int64} {s0 : Int32} {M : mm_M} : mq_N M.2.2 (mf_233_j40 v1 v2 s0 M) := by
  unfold mf_233_j40
  exact mq_N_ite (mq_N_ite (mq_N_ite (mq_N_ite (mq_N_call mn_233_j115 rfl) (mq_N_none)) (mq_N_none)) (mq_N_none)) (mq_N_ite (mq_N_ite (mq_N_ite (mq_N_call mn_233_j115 rfl) (mq_N_none)) (mq_N_none)) (mq_N_none))
theorem mn_233 {v1 : Int32} {M : mm_M} : mq_N M.2.2 (mf_233 v1 M) := by
  unfold mf_233
  exact mq_N_ite (mq_N_ite (mq_N_ite (mq_N_call mn_233_j40 rfl) (mq_N_call mn_233_j40 rfl)) (mq_N_none)) (mq_N_ret rfl)
-- 241: PlainPacksModel.byByte
theorem mn_241_j152 {v2 : Int32} {v3 : Int32} {v4 : Int32} {v5 : Int32} {v6 : Int32} {v7 : Int32} {s1 : Int32} {s2 : Int32} {M : mm_M} : mq_N M.2.2 (mf_241_j152 v2 v3 v4 v5 v6 v7 s1 s2 M) := by
  unfold mf_241_j152
  exact mq_N_B (mq_N_call mn_233 rfl) (fun _ M2 hM2 => mq_N_ite (mq_N_ret hM2) (mq_N_ite (mq_N_ret hM2) (mq_N_ret hM2)))
theorem mn_241_b118 {v2 : Int32} {v3 : Int32} {v4 : Int32} {v5 : Int32} {v6 : Int32} {M : mm_M} : mq_N M.2.2 (mf_241_b118 v2 v3 v4 v5 v6 M) := by
  unfold mf_241_b118
  exact mq_N_ite (mq_N_ret rfl) (mq_N_ite (mq_N_call mn_241_j152 rfl) (mq_N_call mn_241_j152 rfl))
theorem mn_241_L118 {v2 : Int32} {v4 : Int32} {s : Int32 × Int32 × Int32} {M : mm_M} : mq_N M.2.2 (mf_241_L118 v2 v4 s M) := by
  unfold mf_241_L118
  exact mq_N_L (fun s M h => mq_N_call mn_241_b118 h) rfl
theorem mn_241_j193 {v5 : Int32} {M : mm_M} : mq_N M.2.2 (mf_241_j193 v5 M) := by
  unfold mf_241_j193
  exact mq_N_B (mq_N_call mn_194 rfl) (fun _ M2 hM2 => mq_N_ite (mq_N_ret hM2) (mq_N_ret hM2))
theorem mn_241_j76 {v2 : Int32} {s0 : Int32} {M : mm_M} : mq_N M.2.2 (mf_241_j76 v2 s0 M) := by
  unfold mf_241_j76
  exact mq_N_ite (mq_N_B (mq_N_call mn_241_L118 rfl) (fun _ M1 hM1 => mq_N_call mn_241_j193 hM1)) (mq_N_ite (mq_N_ite (mq_N_ite (mq_N_B (mq_N_call mn_241_L118 rfl) (fun _ M10 hM10 => mq_N_call mn_241_j193 hM10)) (mq_N_none)) (mq_N_none)) (mq_N_B (mq_N_call mn_241_L118 rfl) (fun _ M19 hM19 => mq_N_call mn_241_j193 hM19)))
theorem mn_241_j22 {s0 : Int32} {M : mm_M} : mq_N M.2.2 (mf_241_j22 s0 M) := by
  unfold mf_241_j22
  exact mq_N_ite (mq_N_call mn_241_j76 rfl) (mq_N_call mn_241_j76 rfl)
theorem mn_241 {M : mm_M} : mq_N M.2.2 (mf_241 M) := by
  unfold mf_241
  exact mq_N_ite (mq_N_call mn_241_j22 rfl) (mq_N_ite (mq_N_call mn_241_j22 rfl) (mq_N_none))
-- 234: PlainPacksModel.tree
theorem mn_234_b5 {v1 : Int32} {v2 : Int32} {v3 : Int32} {v4 : Int32} {M : mm_M} : mq_N M.2.2 (mf_234_b5 v1 v2 v3 v4 M) := by
  unfold mf_234_b5
  exact mq_N_ite (mq_N_B (mq_N_call mn_233 rfl) (fun _ M2 hM2 => mq_N_ret hM2)) (mq_N_ret rfl)
theorem mn_234_L5 {v1 : Int32} {v2 : Int32} {s : Int32 × Int32} {M : mm_M} : mq_N M.2.2 (mf_234_L5 v1 v2 s M) := by
  unfold mf_234_L5
  exact mq_N_L (fun s M h => mq_N_call mn_234_b5 h) rfl
theorem mn_234 {v1 : Int32} {v2 : Int32} {M : mm_M} : mq_N M.2.2 (mf_234 v1 v2 M) := by
  unfold mf_234
  exact mq_N_B (mq_N_call mn_234_L5 rfl) (fun _ M1 hM1 => mq_N_ret hM1)
-- 242: PlainPacksModel.lengthOf
theorem mn_242 {v1 : Int32} {v2 : Int32} {M : mm_M} : mq_N M.2.2 (mf_242 v1 v2 M) := by
  unfold mf_242
  exact mq_N_B (mq_N_call mn_233 rfl) (fun _ M2 hM2 => mq_N_ite (mq_N_B (mq_N_call mn_234 hM2) (fun _ M4 hM4 => mq_N_ret hM4)) (mq_N_B (mq_N_call mn_233 hM2) (fun _ M6 hM6 => mq_N_ite (mq_N_B (mq_N_call mn_234 hM6) (fun _ M8 hM8 => mq_N_ret hM8)) (mq_N_B (mq_N_call mn_234 hM6) (fun _ M10 hM10 => mq_N_ret hM10)))))
-- 240: PlainPacksModel.isRoom
theorem mn_240 {v1 : Int32} {v2 : Int64} {M : mm_M} : mq_N M.2.2 (mf_240 v1 v2 M) := by
  unfold mf_240
  exact mq_N_ite (mq_N_ite (mq_N_ret rfl) (mq_N_ite (mq_N_B (mq_N_call mn_190 rfl) (fun _ M1 hM1 => mq_N_ret hM1)) (mq_N_ret rfl))) (mq_N_ret rfl)
-- 235: PlainPacksModel.turnedTree
theorem mn_235_b8 {v1 : Int32} {v2 : Int32} {v3 : Int32} {v4 : Int64} {v6 : Int32} {M : mm_M} : mq_N M.2.2 (mf_235_b8 v1 v2 v3 v4 v6 M) := by
  unfold mf_235_b8
  exact mq_N_ite (mq_N_B (mq_N_call mn_233 rfl) (fun _ M2 hM2 => mq_N_ret hM2)) (mq_N_ret rfl)
theorem mn_235_L8 {v1 : Int32} {v2 : Int32} {s : Int32 × Int64 × Int32} {M : mm_M} : mq_N M.2.2 (mf_235_L8 v1 v2 s M) := by
  unfold mf_235_L8
  exact mq_N_L (fun s M h => mq_N_call mn_235_b8 h) rfl
theorem mn_235 {v1 : Int32} {v2 : Int32} {M : mm_M} : mq_N M.2.2 (mf_235 v1 v2 M) := by
  unfold mf_235
  exact mq_N_B (mq_N_call mn_235_L8 rfl) (fun _ M1 hM1 => mq_N_ret hM1)
-- 236: PlainPacksModel.plainBits
theorem mn_236_j68 {v1 : Int32} {v2 : Int64} {v4 : Int32} {v5 : Int32} {s1 : Int64} {s2 : Int64} {M : mm_M} : mq_N M.2.2 (mf_236_j68 v1 v2 v4 v5 s1 s2 M) := by
  unfold mf_236_j68
  exact mq_N_B (mq_N_call mn_232 rfl) (fun _ M1 hM1 => mq_N_ret hM1)
theorem mn_236_j47 {v1 : Int32} {v2 : Int64} {v4 : Int32} {s0 : Int32} {M : mm_M} : mq_N M.2.2 (mf_236_j47 v1 v2 v4 s0 M) := by
  unfold mf_236_j47
  exact mq_N_ite (mq_N_call mn_236_j68 rfl) (mq_N_call mn_236_j68 rfl)
theorem mn_236_b5 {v1 : Int32} {v2 : Int64} {v4 : Int32} {M : mm_M} : mq_N M.2.2 (mf_236_b5 v1 v2 v4 M) := by
  unfold mf_236_b5
  exact mq_N_ite (mq_N_ite (mq_N_ite (mq_N_call mn_236_j47 rfl) (mq_N_call mn_236_j47 rfl)) (mq_N_ret rfl)) (mq_N_ret rfl)
theorem mn_236_L5 {v1 : Int32} {s : Int64 × Int32} {M : mm_M} : mq_N M.2.2 (mf_236_L5 v1 s M) := by
  unfold mf_236_L5
  exact mq_N_L (fun s M h => mq_N_call mn_236_b5 h) rfl
theorem mn_236 {v1 : Int32} {M : mm_M} : mq_N M.2.2 (mf_236 v1 M) := by
  unfold mf_236
  exact mq_N_B (mq_N_call mn_236_L5 rfl) (fun _ M1 hM1 => mq_N_ret hM1)
-- 243: PlainPacksModel.distanceOf
theorem mn_243_j14 {s0 : Int32} {M : mm_M} : mq_N M.2.2 (mf_243_j14 s0 M) := by
  unfold mf_243_j14
  exact mq_N_B (mq_N_call mn_234 rfl) (fun _ M2 hM2 => mq_N_ite (mq_N_ret hM2) (mq_N_ite (mq_N_B (mq_N_call mn_235 hM2) (fun _ M4 hM4 => mq_N_ret hM4)) (mq_N_B (mq_N_call mn_236 hM2) (fun _ M6 hM6 => mq_N_B (mq_N_call mn_235 hM6) (fun _ M8 hM8 => mq_N_ret hM8)))))
theorem mn_243 {v1 : Int32} {M : mm_M} : mq_N M.2.2 (mf_243 v1 M) := by
  unfold mf_243
  exact mq_N_ite (mq_N_call mn_243_j14 rfl) (mq_N_call mn_243_j14 rfl)
-- 239: PlainPacksModel.isThere
theorem mn_239 {v1 : Int32} {M : mm_M} : mq_N M.2.2 (mf_239 v1 M) := by
  unfold mf_239
  exact mq_N_ite (mq_N_ite (mq_N_ite (mq_N_B (mq_N_call mn_190 rfl) (fun _ M1 hM1 => mq_N_ret hM1)) (mq_N_ret rfl)) (mq_N_none)) (mq_N_ret rfl)
-- 238: PlainPacksModel.place
theorem mn_238_b136 {v1 : Int64} {v4 : Int32} {v5 : Int64} {v7 : Int32} {M : mm_M} : mq_N M.2.2 (mf_238_b136 v1 v4 v5 v7 M) := by
  unfold mf_238_b136
  exact mq_N_ite (mq_N_ite (mq_N_ite (mq_N_ret rfl) (mq_N_none)) (mq_N_none)) (mq_N_ret rfl)
theorem mn_238_L136 {v1 : Int64} {v4 : Int32} {v5 : Int64} {s : Int32} {M : mm_M} : mq_N M.2.2 (mf_238_L136 v1 v4 v5 s M) := by
  unfold mf_238_L136
  exact mq_N_L (fun s M h => mq_N_call mn_238_b136 h) rfl
theorem mn_238_j450 {v1 : Int64} {v4 : Int32} {M : mm_M} : mq_N M.2.2 (mf_238_j450 v1 v4 M) := by
  unfold mf_238_j450
  exact mq_N_B (mq_N_call mn_240 rfl) (fun _ M1 hM1 => mq_N_ite (mq_N_B (mq_N_call mn_196 hM1) (fun _ M2 hM2 => mq_N_ret hM2)) (mq_N_none))
theorem mn_238_j188 {v1 : Int64} {v4 : Int32} {v5 : Int64} {s1 : Int32} {M : mm_M} : mq_N M.2.2 (mf_238_j188 v1 v4 v5 s1 M) := by
  unfold mf_238_j188
  exact mq_N_ite (mq_N_ite (mq_N_ite (mq_N_ret rfl) (mq_N_call mn_238_j450 rfl)) (mq_N_call mn_238_j450 rfl)) (mq_N_call mn_238_j450 rfl)
theorem mn_238_j163 {v1 : Int64} {v4 : Int32} {v5 : Int64} {M : mm_M} : mq_N M.2.2 (mf_238_j163 v1 v4 v5 M) := by
  unfold mf_238_j163
  exact mq_N_ite (mq_N_ite (mq_N_call mn_238_j188 rfl) (mq_N_call mn_238_j188 rfl)) (mq_N_none)
theorem mn_238_j282 {v1 : Int64} {v5 : Int32} {s0 : Int32} {M : mm_M} : mq_N M.2.2 (mf_238_j282 v1 v5 s0 M) := by
  unfold mf_238_j282
  exact mq_N_ite (mq_N_ite (mq_N_call mn_238_j450 rfl) (mq_N_call mn_238_j450 rfl)) (mq_N_ite (mq_N_call mn_238_j450 rfl) (mq_N_call mn_238_j450 rfl))
theorem mn_238_j263 {v1 : Int64} {v3 : Int32} {s0 : Int32} {M : mm_M} : mq_N M.2.2 (mf_238_j263 v1 v3 s0 M) := by
  unfold mf_238_j263
  exact mq_N_ite (mq_N_B (mq_N_call mn_242 rfl) (fun _ M2 hM2 => mq_N_call mn_238_j282 hM2)) (mq_N_call mn_238_j282 rfl)
theorem mn_238_b385 {v1 : Int64} {v3 : Int32} {v6 : Int64} {v8 : Int32} {M : mm_M} : mq_N M.2.2 (mf_238_b385 v1 v3 v6 v8 M) := by
  unfold mf_238_b385
  exact mq_N_ite (mq_N_ite (mq_N_ite (mq_N_ret rfl) (mq_N_none)) (mq_N_none)) (mq_N_ret rfl)
theorem mn_238_L385 {v1 : Int64} {v3 : Int32} {v6 : Int64} {s : Int32} {M : mm_M} : mq_N M.2.2 (mf_238_L385 v1 v3 v6 s M) := by
  unfold mf_238_L385
  exact mq_N_L (fun s M h => mq_N_call mn_238_b385 h) rfl
theorem mn_238_j447 {v1 : Int64} {v4 : Int32} {s1 : Int32} {M : mm_M} : mq_N M.2.2 (mf_238_j447 v1 v4 s1 M) := by
  unfold mf_238_j447
  exact mq_N_call mn_238_j450 rfl
theorem mn_238_j412 {v1 : Int64} {v3 : Int32} {v6 : Int64} {M : mm_M} : mq_N M.2.2 (mf_238_j412 v1 v3 v6 M) := by
  unfold mf_238_j412
  exact mq_N_ite (mq_N_B (mq_N_call mn_242 rfl) (fun _ M2 hM2 => mq_N_ite (mq_N_call mn_238_j447 hM2) (mq_N_call mn_238_j447 hM2))) (mq_N_none)
theorem mn_238_j364 {v1 : Int64} {v3 : Int32} {s0 : Int32} {M : mm_M} : mq_N M.2.2 (mf_238_j364 v1 v3 s0 M) := by
  unfold mf_238_j364
  exact mq_N_B (mq_N_call mn_239 rfl) (fun _ M1 hM1 => mq_N_ite (mq_N_B (mq_N_call mn_238_L385 hM1) (fun _ M2 hM2 => mq_N_call mn_238_j412 hM2)) (mq_N_none))
theorem mn_238 {v1 : Int64} {M : mm_M} : mq_N M.2.2 (mf_238 v1 M) := by
  unfold mf_238
  exact mq_N_B (mq_N_call mn_233 rfl) (fun _ M2 hM2 => mq_N_ite (mq_N_B (mq_N_call mn_241 hM2) (fun _ M3 hM3 => mq_N_ite (mq_N_ret hM3) (mq_N_ite (mq_N_ret hM3) (mq_N_ret hM3)))) (mq_N_B (mq_N_call mn_233 hM2) (fun _ M5 hM5 => mq_N_ite (mq_N_B (mq_N_call mn_242 hM5) (fun _ M7 hM7 => mq_N_B (mq_N_call mn_240 hM7) (fun _ M8 hM8 => mq_N_ite (mq_N_B (mq_N_call mn_243 hM8) (fun _ M10 hM10 => mq_N_B (mq_N_call mn_238_L136 hM10) (fun _ M11 hM11 => mq_N_call mn_238_j163 hM11))) (mq_N_B (mq_N_call mn_238_L136 hM8) (fun _ M18 hM18 => mq_N_call mn_238_j163 hM18))))) (mq_N_B (mq_N_call mn_233 hM5) (fun _ M26 hM26 => mq_N_ite (mq_N_B (mq_N_call mn_239 hM26) (fun _ M27 hM27 => mq_N_B (mq_N_call mn_233 hM27) (fun _ M29 hM29 => mq_N_ite (mq_N_call mn_238_j263 hM29) (mq_N_call mn_238_j263 hM29)))) (mq_N_B (mq_N_call mn_233 hM26) (fun _ M31 hM31 => mq_N_ite (mq_N_call mn_238_j364 hM31) (mq_N_B (mq_N_call mn_233 hM31) (fun _ M33 hM33 => mq_N_call mn_238_j364 hM33)))))))))
-- 237: PlainPacksModel.chancesTold
theorem mn_237_b98 {v1 : Int32} {v2 : Int64} {v4 : Int32} {M : mm_M} : mq_N M.2.2 (mf_237_b98 v1 v2 v4 M) := by
  unfold mf_237_b98
  exact mq_N_ite (mq_N_B (mq_N_call mn_191 rfl) (fun _ M2 hM2 => mq_N_ret hM2)) (mq_N_ret rfl)
theorem mn_237_L98 {v1 : Int32} {v2 : Int64} {s : Int32} {M : mm_M} : mq_N M.2.2 (mf_237_L98 v1 v2 s M) := by
  unfold mf_237_L98
  exact mq_N_L (fun s M h => mq_N_call mn_237_b98 h) rfl
theorem mn_237_b164 {v2 : Int64} {v4 : Int32} {M : mm_M} : mq_N M.2.2 (mf_237_b164 v2 v4 M) := by
  unfold mf_237_b164
  exact mq_N_ite (mq_N_ite (mq_N_ret rfl) (mq_N_none)) (mq_N_ret rfl)
theorem mn_237_L164 {v2 : Int64} {s : Int32} {M : mm_M} : mq_N M.2.2 (mf_237_L164 v2 s M) := by
  unfold mf_237_L164
  exact mq_N_L (fun s M h => mq_N_call mn_237_b164 h) rfl
theorem mn_237_b196 {v2 : Int64} {v4 : Int32} {M : mm_M} : mq_N M.2.2 (mf_237_b196 v2 v4 M) := by
  unfold mf_237_b196
  exact mq_N_ite (mq_N_ite (mq_N_ret rfl) (mq_N_none)) (mq_N_ret rfl)
theorem mn_237_L196 {v2 : Int64} {s : Int32} {M : mm_M} : mq_N M.2.2 (mf_237_L196 v2 s M) := by
  unfold mf_237_L196
  exact mq_N_L (fun s M h => mq_N_call mn_237_b196 h) rfl
theorem mn_237_b219 {v2 : Int64} {v4 : Int32} {M : mm_M} : mq_N M.2.2 (mf_237_b219 v2 v4 M) := by
  unfold mf_237_b219
  exact mq_N_ite (mq_N_ret rfl) (mq_N_ite (mq_N_ite (mq_N_ret rfl) (mq_N_B (mq_N_call mn_238 rfl) (fun _ M2 hM2 => mq_N_ret hM2))) (mq_N_ret rfl))
theorem mn_237_L219 {v2 : Int64} {s : Int32} {M : mm_M} : mq_N M.2.2 (mf_237_L219 v2 s M) := by
  unfold mf_237_L219
  exact mq_N_L (fun s M h => mq_N_call mn_237_b219 h) rfl
theorem mn_237_j251 {M : mm_M} : mq_N M.2.2 (mf_237_j251 M) := by
  unfold mf_237_j251
  exact mq_N_ite (mq_N_ite (mq_N_ret rfl) (mq_N_B (mq_N_call mn_190 rfl) (fun _ M1 hM1 => mq_N_ret hM1))) (mq_N_ret rfl)
theorem mn_237_j127 {v1 : Int32} {v2 : Int64} {M : mm_M} : mq_N M.2.2 (mf_237_j127 v1 v2 M) := by
  unfold mf_237_j127
  exact mq_N_ite (mq_N_B (mq_N_call mn_237_L164 rfl) (fun _ M1 hM1 => mq_N_B (mq_N_call mn_237_L196 hM1) (fun _ M6 hM6 => mq_N_B (mq_N_call mn_237_L219 hM6) (fun _ M11 hM11 => mq_N_call mn_237_j251 hM11)))) (mq_N_ret rfl)
theorem mn_237_j78 {v1 : Int32} {v2 : Int64} {M : mm_M} : mq_N M.2.2 (mf_237_j78 v1 v2 M) := by
  unfold mf_237_j78
  exact mq_N_B (mq_N_call mn_192 rfl) (fun _ M1 hM1 => mq_N_B (mq_N_call mn_237_L98 hM1) (fun _ M2 hM2 => mq_N_call mn_237_j127 hM2))
theorem mn_237_j74 {v1 : Int32} {v2 : Int64} {M : mm_M} : mq_N M.2.2 (mf_237_j74 v1 v2 M) := by
  unfold mf_237_j74
  exact mq_N_B (mq_N_call mn_190 rfl) (fun _ M1 hM1 => mq_N_call mn_237_j78 hM1)
theorem mn_237_j38 {v1 : Int32} {M : mm_M} : mq_N M.2.2 (mf_237_j38 v1 M) := by
  unfold mf_237_j38
  exact mq_N_B (mq_N_call mn_193 rfl) (fun _ M2 hM2 => mq_N_B (mq_N_call mn_193 hM2) (fun _ M4 hM4 => mq_N_ite (mq_N_ite (mq_N_call mn_237_j74 hM4) (mq_N_ite (mq_N_call mn_237_j74 hM4) (mq_N_call mn_237_j78 hM4))) (mq_N_call mn_237_j78 hM4)))
theorem mn_237_j34 {v1 : Int32} {M : mm_M} : mq_N M.2.2 (mf_237_j34 v1 M) := by
  unfold mf_237_j34
  exact mq_N_B (mq_N_call mn_190 rfl) (fun _ M1 hM1 => mq_N_call mn_237_j38 hM1)
theorem mn_237 {M : mm_M} : mq_N M.2.2 (mf_237 M) := by
  unfold mf_237
  exact mq_N_B (mq_N_call mn_191 rfl) (fun _ M2 hM2 => mq_N_ite (mq_N_ite (mq_N_call mn_237_j34 hM2) (mq_N_ite (mq_N_call mn_237_j34 hM2) (mq_N_call mn_237_j38 hM2))) (mq_N_call mn_237_j38 hM2))
-- 244: PlainPacksModel.open
theorem mn_244_j221 {M : mm_M} : mq_N M.2.2 (mf_244_j221 M) := by
  unfold mf_244_j221
  exact mq_N_ite (mq_N_ret rfl) (mq_N_ret rfl)
theorem mn_244_j16 {v1 : Int32} {s1 : Int32} {M : mm_M} : mq_N M.2.2 (mf_244_j16 v1 s1 M) := by
  unfold mf_244_j16
  exact mq_N_B (mq_N_call mn_174 rfl) (fun _ M2 hM2 => mq_N_ite (mq_N_ret hM2) (mq_N_ite (mq_N_B (mq_N_call mn_214 hM2) (fun _ M3 hM3 => mq_N_call mn_244_j221 hM3)) (mq_N_ite (mq_N_B (mq_N_call mn_203 hM2) (fun _ M4 hM4 => mq_N_call mn_244_j221 hM4)) (mq_N_ite (mq_N_B (mq_N_call mn_210 hM2) (fun _ M5 hM5 => mq_N_call mn_244_j221 hM5)) (mq_N_ite (mq_N_B (mq_N_call mn_212 hM2) (fun _ M6 hM6 => mq_N_call mn_244_j221 hM6)) (mq_N_ite (mq_N_B (mq_N_call mn_216 hM2) (fun _ M7 hM7 => mq_N_call mn_244_j221 hM7)) (mq_N_ite (mq_N_B (mq_N_call mn_215 hM2) (fun _ M8 hM8 => mq_N_call mn_244_j221 hM8)) (mq_N_ite (mq_N_B (mq_N_call mn_218 hM2) (fun _ M9 hM9 => mq_N_call mn_244_j221 hM9)) (mq_N_ite (mq_N_B (mq_N_call mn_219 hM2) (fun _ M10 hM10 => mq_N_call mn_244_j221 hM10)) (mq_N_ite (mq_N_B (mq_N_call mn_221 hM2) (fun _ M11 hM11 => mq_N_call mn_244_j221 hM11)) (mq_N_ite (mq_N_B (mq_N_call mn_223 hM2) (fun _ M12 hM12 => mq_N_call mn_244_j221 hM12)) (mq_N_B (mq_N_call mn_237 hM2) (fun _ M13 hM13 => mq_N_call mn_244_j221 hM13)))))))))))))
theorem mn_244_j15 {v1 : Int32} {M : mm_M} : mq_N M.2.2 (mf_244_j15 v1 M) := by
  unfold mf_244_j15
  exact mq_N_call mn_244_j16 rfl
theorem mn_244 {v1 : Int32} {M : mm_M} : mq_N M.2.2 (mf_244 v1 M) := by
  unfold mf_244
  exact mq_N_ite (mq_N_call mn_244_j15 rfl) (mq_N_ite (mq_N_call mn_244_j15 rfl) (mq_N_call mn_244_j16 rfl))
-- 18: PlainPacks.told
theorem mn_18 {v1 : Int32} {M : mm_M} : mq_N M.2.2 (mf_18 v1 M) := by
  unfold mf_18
  exact mq_N_ite (mq_N_ret rfl) (mq_N_ite (mq_N_ret rfl) (mq_N_ite (mq_N_ret rfl) (mq_N_ite (mq_N_ret rfl) (mq_N_ite (mq_N_ret rfl) (mq_N_ite (mq_N_ret rfl) (mq_N_thr rfl))))))
-- 181: PlainPacksModel.told
theorem mn_181_j15 {v1 : Int32} {s1 : Int32} {M : mm_M} : mq_N M.2.2 (mf_181_j15 v1 s1 M) := by
  unfold mf_181_j15
  exact mq_N_B (mq_N_call mn_174 rfl) (fun _ M2 hM2 => mq_N_ite (mq_N_ret hM2) (mq_N_ite (mq_N_ret hM2) (mq_N_ite (mq_N_ret hM2) (mq_N_ite (mq_N_ret hM2) (mq_N_ite (mq_N_ret hM2) (mq_N_ite (mq_N_ret hM2) (mq_N_ret hM2)))))))
theorem mn_181_j14 {v1 : Int32} {M : mm_M} : mq_N M.2.2 (mf_181_j14 v1 M) := by
  unfold mf_181_j14
  exact mq_N_call mn_181_j15 rfl
theorem mn_181 {v1 : Int32} {M : mm_M} : mq_N M.2.2 (mf_181 v1 M) := by
  unfold mf_181
  exact mq_N_ite (mq_N_call mn_181_j14 rfl) (mq_N_ite (mq_N_call mn_181_j14 rfl) (mq_N_call mn_181_j15 rfl))
-- 19: PlainPacks.out
theorem mn_19 {v1 : Int32} {M : mm_M} : mq_N M.2.2 (mf_19 v1 M) := by
  unfold mf_19
  exact mq_N_ite (mq_N_thr rfl) (mq_N_ite (mq_N_ite (mq_N_ret rfl) (mq_N_none)) (mq_N_thr rfl))
-- 180: PlainPacksModel.out
theorem mn_180_j18 {v1 : Int32} {s1 : Int32} {M : mm_M} : mq_N M.2.2 (mf_180_j18 v1 s1 M) := by
  unfold mf_180_j18
  exact mq_N_B (mq_N_call mn_174 rfl) (fun _ M2 hM2 => mq_N_ite (mq_N_ret hM2) (mq_N_ite (mq_N_ret hM2) (mq_N_none)))
theorem mn_180_j17 {v1 : Int32} {M : mm_M} : mq_N M.2.2 (mf_180_j17 v1 M) := by
  unfold mf_180_j17
  exact mq_N_call mn_180_j18 rfl
theorem mn_180 {v1 : Int32} {M : mm_M} : mq_N M.2.2 (mf_180 v1 M) := by
  unfold mf_180
  exact mq_N_ite (mq_N_call mn_180_j17 rfl) (mq_N_ite (mq_N_call mn_180_j18 rfl) (mq_N_call mn_180_j17 rfl))
-- 56: PlainPacks$Writer.back
theorem mn_56 {v1 : Int32} {M : mm_M} : mq_N M.2.2 (mf_56 v1 M) := by
  unfold mf_56
  exact mq_N_ret rfl
-- 55: PlainPacks$Writer.start
theorem mn_55 {M : mm_M} : mq_N M.2.2 (mf_55 M) := by
  unfold mf_55
  exact mq_N_B (mq_N_call mn_56 rfl) (fun _ M1 hM1 => mq_N_ret hM1)
-- 128: PlainPacks$Pieces.runAt
theorem mn_128_b2 {v1 : Int32} {v2 : Int32} {v3 : Int32} {M : mm_M} : mq_N M.2.2 (mf_128_b2 v1 v2 v3 M) := by
  unfold mf_128_b2
  exact mq_N_ite (mq_N_ite (mq_N_ite (mq_N_ite (mq_N_ite (mq_N_ret rfl) (mq_N_ret rfl)) (mq_N_none)) (mq_N_none)) (mq_N_ret rfl)) (mq_N_ret rfl)
theorem mn_128_L2 {v1 : Int32} {v2 : Int32} {s : Int32} {M : mm_M} : mq_N M.2.2 (mf_128_L2 v1 v2 s M) := by
  unfold mf_128_L2
  exact mq_N_L (fun s M h => mq_N_call mn_128_b2 h) rfl
theorem mn_128 {v1 : Int32} {v2 : Int32} {M : mm_M} : mq_N M.2.2 (mf_128 v1 v2 M) := by
  unfold mf_128
  exact mq_N_B (mq_N_call mn_128_L2 rfl) (fun _ M1 hM1 => mq_N_ret hM1)
-- 57: PlainPacks$Writer.put
theorem mn_57 {v1 : Int32} {M : mm_M} : mq_N M.2.2 (mf_57 v1 M) := by
  unfold mf_57
  exact mq_N_ite (mq_N_ite (mq_N_ret rfl) (mq_N_none)) (mq_N_ret rfl)
-- 58: PlainPacks$Writer.putAll
theorem mn_58_b3 {v3 : Int32} {v4 : Int32} {M : mm_M} : mq_N M.2.2 (mf_58_b3 v3 v4 M) := by
  unfold mf_58_b3
  exact mq_N_ite (mq_N_ite (mq_N_B (mq_N_call mn_57 rfl) (fun _ M1 hM1 => mq_N_ret hM1)) (mq_N_none)) (mq_N_ret rfl)
theorem mn_58_L3 {v3 : Int32} {s : Int32} {M : mm_M} : mq_N M.2.2 (mf_58_L3 v3 s M) := by
  unfold mf_58_L3
  exact mq_N_L (fun s M h => mq_N_call mn_58_b3 h) rfl
theorem mn_58 {v2 : Int32} {v3 : Int32} {M : mm_M} : mq_N M.2.2 (mf_58 v2 v3 M) := by
  unfold mf_58
  exact mq_N_B (mq_N_call mn_58_L3 rfl) (fun _ M1 hM1 => mq_N_ret hM1)
-- 127: PlainPacks$Pieces.writeRuns
theorem mn_127_b66 {v1 : Int32} {v3 : Int32} {M : mm_M} : mq_N M.2.2 (mf_127_b66 v1 v3 M) := by
  unfold mf_127_b66
  exact mq_N_ite (mq_N_ite (mq_N_B (mq_N_call mn_128 rfl) (fun _ M2 hM2 => mq_N_ite (mq_N_ret hM2) (mq_N_ret hM2))) (mq_N_ret rfl)) (mq_N_ret rfl)
theorem mn_127_L66 {v1 : Int32} {s : Int32} {M : mm_M} : mq_N M.2.2 (mf_127_L66 v1 s M) := by
  unfold mf_127_L66
  exact mq_N_L (fun s M h => mq_N_call mn_127_b66 h) rfl
theorem mn_127_j102 {v1 : Int32} {v3 : Int32} {M : mm_M} : mq_N M.2.2 (mf_127_j102 v1 v3 M) := by
  unfold mf_127_j102
  exact mq_N_B (mq_N_call mn_57 rfl) (fun _ M1 hM1 => mq_N_B (mq_N_call mn_58 hM1) (fun _ M2 hM2 => mq_N_ret hM2))
theorem mn_127_b2 {v1 : Int32} {M : mm_M} : mq_N M.2.2 (mf_127_b2 v1 M) := by
  unfold mf_127_b2
  exact mq_N_ite (mq_N_B (mq_N_call mn_128 rfl) (fun _ M2 hM2 => mq_N_ite (mq_N_B (mq_N_call mn_127_L66 hM2) (fun _ M3 hM3 => mq_N_call mn_127_j102 hM3)) (mq_N_B (mq_N_call mn_57 hM2) (fun _ M6 hM6 => mq_N_ite (mq_N_B (mq_N_call mn_57 hM6) (fun _ M7 hM7 => mq_N_ret hM7)) (mq_N_none))))) (mq_N_ret rfl)
theorem mn_127_L2 {s : Int32} {M : mm_M} : mq_N M.2.2 (mf_127_L2 s M) := by
  unfold mf_127_L2
  exact mq_N_L (fun s M h => mq_N_call mn_127_b2 h) rfl
theorem mn_127 {M : mm_M} : mq_N M.2.2 (mf_127 M) := by
  unfold mf_127
  exact mq_N_B (mq_N_call mn_127_L2 rfl) (fun _ M1 hM1 => mq_N_ret hM1)
-- 61: PlainPacks$Writer.bit
theorem mn_61_j30 {s1 : Int32} {s2 : Int32} {M : mm_M} : mq_N M.2.2 (mf_61_j30 s1 s2 M) := by
  unfold mf_61_j30
  exact mq_N_ite (mq_N_B (mq_N_call mn_57 rfl) (fun _ M1 hM1 => mq_N_ret hM1)) (mq_N_ret rfl)
theorem mn_61 {v1 : Int32} {M : mm_M} : mq_N M.2.2 (mf_61 v1 M) := by
  unfold mf_61
  exact mq_N_ite (mq_N_call mn_61_j30 rfl) (mq_N_call mn_61_j30 rfl)
-- 62: PlainPacks$Writer.bits
theorem mn_62_j29 {v1 : Int64} {v3 : Int32} {v4 : Int32} {s1 : Int64} {s2 : Int32} {M : mm_M} : mq_N M.2.2 (mf_62_j29 v1 v3 v4 s1 s2 M) := by
  unfold mf_62_j29
  exact mq_N_B (mq_N_call mn_61 rfl) (fun _ M1 hM1 => mq_N_ret hM1)
theorem mn_62_b3 {v1 : Int64} {v3 : Int32} {v4 : Int32} {M : mm_M} : mq_N M.2.2 (mf_62_b3 v1 v3 v4 M) := by
  unfold mf_62_b3
  exact mq_N_ite (mq_N_ite (mq_N_call mn_62_j29 rfl) (mq_N_call mn_62_j29 rfl)) (mq_N_ret rfl)
theorem mn_62_L3 {v1 : Int64} {v3 : Int32} {s : Int32} {M : mm_M} : mq_N M.2.2 (mf_62_L3 v1 v3 s M) := by
  unfold mf_62_L3
  exact mq_N_L (fun s M h => mq_N_call mn_62_b3 h) rfl
theorem mn_62 {v1 : Int64} {v3 : Int32} {M : mm_M} : mq_N M.2.2 (mf_62 v1 v3 M) := by
  unfold mf_62
  exact mq_N_B (mq_N_call mn_62_L3 rfl) (fun _ M1 hM1 => mq_N_ret hM1)
-- 70: PlainPacks$Finder.start
theorem mn_70 {M : mm_M} : mq_N M.2.2 (mf_70 M) := by
  unfold mf_70
  exact mq_N_B (mq_N_call mn_290 rfl) (fun _ M1 hM1 => mq_N_ret hM1)
-- 73: PlainPacks$Finder.headOf
theorem mn_73 {v1 : Int32} {M : mm_M} : mq_N M.2.2 (mf_73 v1 M) := by
  unfold mf_73
  exact mq_N_ite (mq_N_ite (mq_N_ite (mq_N_ret rfl) (mq_N_none)) (mq_N_none)) (mq_N_none)
-- 72: PlainPacks$Finder.enterTo
theorem mn_72_b0 {v1 : Int32} {M : mm_M} : mq_N M.2.2 (mf_72_b0 v1 M) := by
  unfold mf_72_b0
  exact mq_N_ite (mq_N_ite (mq_N_ret rfl) (mq_N_B (mq_N_call mn_73 rfl) (fun _ M2 hM2 => mq_N_ite (mq_N_ite (mq_N_ite (mq_N_ret hM2) (mq_N_none)) (mq_N_none)) (mq_N_none)))) (mq_N_ret rfl)
theorem mn_72_L0 {v1 : Int32} {s : Unit} {M : mm_M} : mq_N M.2.2 (mf_72_L0 v1 s M) := by
  unfold mf_72_L0
  exact mq_N_L (fun s M h => mq_N_call mn_72_b0 h) rfl
theorem mn_72 {v1 : Int32} {M : mm_M} : mq_N M.2.2 (mf_72 v1 M) := by
  unfold mf_72
  exact mq_N_B (mq_N_call mn_72_L0 rfl) (fun _ M1 hM1 => mq_N_ret hM1)
-- 74: PlainPacks$Finder.alike
theorem mn_74_b3 {v1 : Int32} {v2 : Int32} {v3 : Int32} {v4 : Int32} {M : mm_M} : mq_N M.2.2 (mf_74_b3 v1 v2 v3 v4 M) := by
  unfold mf_74_b3
  exact mq_N_ite (mq_N_ite (mq_N_ite (mq_N_ite (mq_N_ret rfl) (mq_N_ret rfl)) (mq_N_none)) (mq_N_none)) (mq_N_ret rfl)
theorem mn_74_L3 {v1 : Int32} {v2 : Int32} {v3 : Int32} {s : Int32} {M : mm_M} : mq_N M.2.2 (mf_74_L3 v1 v2 v3 s M) := by
  unfold mf_74_L3
  exact mq_N_L (fun s M h => mq_N_call mn_74_b3 h) rfl
theorem mn_74 {v1 : Int32} {v2 : Int32} {v3 : Int32} {M : mm_M} : mq_N M.2.2 (mf_74 v1 v2 v3 M) := by
  unfold mf_74
  exact mq_N_B (mq_N_call mn_74_L3 rfl) (fun _ M1 hM1 => mq_N_ret hM1)
-- 71: PlainPacks$Finder.find
theorem mn_71_j134 {v1 : Int32} {v3 : Int32} {v4 : Int32} {v5 : Int32} {M : mm_M} : mq_N M.2.2 (mf_71_j134 v1 v3 v4 v5 M) := by
  unfold mf_71_j134
  exact mq_N_ite (mq_N_ret rfl) (mq_N_none)
theorem mn_71_b47 {v1 : Int32} {v3 : Int32} {v4 : Int32} {v5 : Int32} {M : mm_M} : mq_N M.2.2 (mf_71_b47 v1 v3 v4 v5 M) := by
  unfold mf_71_b47
  exact mq_N_ite (mq_N_ite (mq_N_ret rfl) (mq_N_ite (mq_N_ite (mq_N_ite (mq_N_ite (mq_N_B (mq_N_call mn_74 rfl) (fun _ M2 hM2 => mq_N_ite (mq_N_call mn_71_j134 hM2) (mq_N_ite (mq_N_call mn_71_j134 hM2) (mq_N_call mn_71_j134 hM2)))) (mq_N_call mn_71_j134 rfl)) (mq_N_none)) (mq_N_none)) (mq_N_ret rfl))) (mq_N_ret rfl)
theorem mn_71_L47 {v1 : Int32} {v3 : Int32} {s : Int32 × Int32} {M : mm_M} : mq_N M.2.2 (mf_71_L47 v1 v3 s M) := by
  unfold mf_71_L47
  exact mq_N_L (fun s M h => mq_N_call mn_71_b47 h) rfl
theorem mn_71 {v1 : Int32} {v2 : Int32} {M : mm_M} : mq_N M.2.2 (mf_71 v1 v2 M) := by
  unfold mf_71
  exact mq_N_ite (mq_N_ret rfl) (mq_N_B (mq_N_call mn_72 rfl) (fun _ M1 hM1 => mq_N_B (mq_N_call mn_73 hM1) (fun _ M3 hM3 => mq_N_ite (mq_N_B (mq_N_call mn_71_L47 hM3) (fun _ M4 hM4 => mq_N_ret hM4)) (mq_N_none))))
-- 95: PlainPacks$Blocks.lengthExtra
theorem mn_95 {v0 : Int32} {M : mm_M} : mq_N M.2.2 (mf_95 v0 M) := by
  unfold mf_95
  exact mq_N_ite (mq_N_ret rfl) (mq_N_ite (mq_N_ret rfl) (mq_N_B (mq_N_call mn_34 rfl) (fun _ M2 hM2 => mq_N_ret hM2)))
-- 94: PlainPacks$Blocks.letterOf
theorem mn_94 {v0 : Int32} {M : mm_M} : mq_N M.2.2 (mf_94 v0 M) := by
  unfold mf_94
  exact mq_N_ite (mq_N_ret rfl) (mq_N_B (mq_N_call mn_95 rfl) (fun _ M2 hM2 => mq_N_ite (mq_N_ret hM2) (mq_N_ret hM2)))
-- 63: PlainPacks$Writer.code
theorem mn_63_b4 {v1 : Int32} {v3 : Int32} {M : mm_M} : mq_N M.2.2 (mf_63_b4 v1 v3 M) := by
  unfold mf_63_b4
  exact mq_N_ite (mq_N_ret rfl) (mq_N_B (mq_N_call mn_61 rfl) (fun _ M1 hM1 => mq_N_ret hM1))
theorem mn_63_L4 {v1 : Int32} {s : Int32} {M : mm_M} : mq_N M.2.2 (mf_63_L4 v1 s M) := by
  unfold mf_63_L4
  exact mq_N_L (fun s M h => mq_N_call mn_63_b4 h) rfl
theorem mn_63 {v1 : Int32} {v2 : Int32} {M : mm_M} : mq_N M.2.2 (mf_63 v1 v2 M) := by
  unfold mf_63
  exact mq_N_B (mq_N_call mn_63_L4 rfl) (fun _ M1 hM1 => mq_N_ret hM1)
-- 92: PlainPacks$Blocks.writeLetter
theorem mn_92 {v1 : Int32} {M : mm_M} : mq_N M.2.2 (mf_92 v1 M) := by
  unfold mf_92
  exact mq_N_ite (mq_N_B (mq_N_call mn_63 rfl) (fun _ M1 hM1 => mq_N_ret hM1)) (mq_N_ite (mq_N_B (mq_N_call mn_63 rfl) (fun _ M2 hM2 => mq_N_ret hM2)) (mq_N_ite (mq_N_B (mq_N_call mn_63 rfl) (fun _ M3 hM3 => mq_N_ret hM3)) (mq_N_B (mq_N_call mn_63 rfl) (fun _ M4 hM4 => mq_N_ret hM4))))
-- 96: PlainPacks$Blocks.distanceExtra
theorem mn_96 {v0 : Int32} {M : mm_M} : mq_N M.2.2 (mf_96 v0 M) := by
  unfold mf_96
  exact mq_N_ite (mq_N_ret rfl) (mq_N_B (mq_N_call mn_34 rfl) (fun _ M2 hM2 => mq_N_ret hM2))
-- 93: PlainPacks$Blocks.writeDistance
theorem mn_93_j33 {v2 : Int32} {v3 : Int32} {s1 : Int32} {M : mm_M} : mq_N M.2.2 (mf_93_j33 v2 v3 s1 M) := by
  unfold mf_93_j33
  exact mq_N_B (mq_N_call mn_63 rfl) (fun _ M1 hM1 => mq_N_B (mq_N_call mn_62 hM1) (fun _ M2 hM2 => mq_N_ret hM2))
theorem mn_93 {v1 : Int32} {M : mm_M} : mq_N M.2.2 (mf_93 v1 M) := by
  unfold mf_93
  exact mq_N_B (mq_N_call mn_96 rfl) (fun _ M2 hM2 => mq_N_ite (mq_N_call mn_93_j33 hM2) (mq_N_call mn_93_j33 hM2))
-- 64: PlainPacks$Writer.closeByte
theorem mn_64 {M : mm_M} : mq_N M.2.2 (mf_64 M) := by
  unfold mf_64
  exact mq_N_ite (mq_N_B (mq_N_call mn_57 rfl) (fun _ M1 hM1 => mq_N_ret hM1)) (mq_N_ret rfl)
-- 91: PlainPacks$Blocks.writeBlock
theorem mn_91_b27 {v1 : Int32} {M : mm_M} : mq_N M.2.2 (mf_91_b27 v1 M) := by
  unfold mf_91_b27
  exact mq_N_ite (mq_N_B (mq_N_call mn_71 rfl) (fun _ M1 hM1 => mq_N_ite (mq_N_ite (mq_N_B (mq_N_call mn_92 hM1) (fun _ M2 hM2 => mq_N_ret hM2)) (mq_N_none)) (mq_N_B (mq_N_call mn_94 hM1) (fun _ M4 hM4 => mq_N_B (mq_N_call mn_92 hM4) (fun _ M5 hM5 => mq_N_B (mq_N_call mn_95 hM5) (fun _ M7 hM7 => mq_N_B (mq_N_call mn_62 hM7) (fun _ M8 hM8 => mq_N_B (mq_N_call mn_93 hM8) (fun _ M9 hM9 => mq_N_ret hM9)))))))) (mq_N_ret rfl)
theorem mn_91_L27 {s : Int32} {M : mm_M} : mq_N M.2.2 (mf_91_L27 s M) := by
  unfold mf_91_L27
  exact mq_N_L (fun s M h => mq_N_call mn_91_b27 h) rfl
theorem mn_91_j144 {M : mm_M} : mq_N M.2.2 (mf_91_j144 M) := by
  unfold mf_91_j144
  exact mq_N_B (mq_N_call mn_92 rfl) (fun _ M1 hM1 => mq_N_B (mq_N_call mn_64 hM1) (fun _ M2 hM2 => mq_N_ret hM2))
theorem mn_91 {M : mm_M} : mq_N M.2.2 (mf_91 M) := by
  unfold mf_91
  exact mq_N_B (mq_N_call mn_62 rfl) (fun _ M1 hM1 => mq_N_B (mq_N_call mn_62 hM1) (fun _ M2 hM2 => mq_N_B (mq_N_call mn_70 hM2) (fun _ M3 hM3 => mq_N_B (mq_N_call mn_91_L27 hM3) (fun _ M4 hM4 => mq_N_call mn_91_j144 hM4))))
