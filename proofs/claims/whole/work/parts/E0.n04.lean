/-! HOW MANY THROWS 4 -/
-- 35: PlainPacks.weigh
theorem mn_35_b18 {v1 : Int32} {M : mm_M} : mq_N M.2.2 (mf_35_b18 v1 M) := by
  unfold mf_35_b18
  exact mq_N_ite (mq_N_ite (mq_N_ite (mq_N_ite (mq_N_ret rfl) (mq_N_none)) (mq_N_none)) (mq_N_none)) (mq_N_ret rfl)
theorem mn_35_L18 {s : Int32} {M : mm_M} : mq_N M.2.2 (mf_35_L18 s M) := by
  unfold mf_35_L18
  exact mq_N_L (fun s M h => mq_N_call mn_35_b18 h) rfl
theorem mn_35_b57 {v1 : Int32} {v2 : Int32} {M : mm_M} : mq_N M.2.2 (mf_35_b57 v1 v2 M) := by
  unfold mf_35_b57
  exact mq_N_ite (mq_N_ite (mq_N_ite (mq_N_ret rfl) (mq_N_ret rfl)) (mq_N_none)) (mq_N_ret rfl)
theorem mn_35_L57 {s : Int32 × Int32} {M : mm_M} : mq_N M.2.2 (mf_35_L57 s M) := by
  unfold mf_35_L57
  exact mq_N_L (fun s M h => mq_N_call mn_35_b57 h) rfl
theorem mn_35 {M : mm_M} : mq_N M.2.2 (mf_35 M) := by
  unfold mf_35
  exact mq_N_B (mq_N_call mn_290 rfl) (fun _ M1 hM1 => mq_N_B (mq_N_call mn_290 hM1) (fun _ M2 hM2 => mq_N_B (mq_N_call mn_35_L18 hM2) (fun _ M3 hM3 => mq_N_B (mq_N_call mn_35_L57 hM3) (fun _ M7 hM7 => mq_N_ret hM7))))
-- 37: PlainPacks.lightest
theorem mn_37_j42 {v1 : Int32} {v2 : Int32} {v3 : Int32} {v4 : Int32} {s0 : Int32} {M : mm_M} : mq_N M.2.2 (mf_37_j42 v1 v2 v3 v4 s0 M) := by
  unfold mf_37_j42
  exact mq_N_ite (mq_N_ret rfl) (mq_N_ite (mq_N_ret rfl) (mq_N_ite (mq_N_ite (mq_N_ite (mq_N_ret rfl) (mq_N_ret rfl)) (mq_N_none)) (mq_N_none)))
theorem mn_37_j41 {v1 : Int32} {v2 : Int32} {v3 : Int32} {v4 : Int32} {M : mm_M} : mq_N M.2.2 (mf_37_j41 v1 v2 v3 v4 M) := by
  unfold mf_37_j41
  exact mq_N_call mn_37_j42 rfl
theorem mn_37_b5 {v1 : Int32} {v2 : Int32} {v3 : Int32} {v4 : Int32} {M : mm_M} : mq_N M.2.2 (mf_37_b5 v1 v2 v3 v4 M) := by
  unfold mf_37_b5
  exact mq_N_ite (mq_N_ite (mq_N_ite (mq_N_ite (mq_N_ite (mq_N_ite (mq_N_call mn_37_j41 rfl) (mq_N_call mn_37_j42 rfl)) (mq_N_call mn_37_j41 rfl)) (mq_N_none)) (mq_N_call mn_37_j41 rfl)) (mq_N_none)) (mq_N_ret rfl)
theorem mn_37_L5 {v1 : Int32} {v2 : Int32} {s : Int32 × Int32} {M : mm_M} : mq_N M.2.2 (mf_37_L5 v1 v2 s M) := by
  unfold mf_37_L5
  exact mq_N_L (fun s M h => mq_N_call mn_37_b5 h) rfl
theorem mn_37 {v1 : Int32} {v2 : Int32} {M : mm_M} : mq_N M.2.2 (mf_37 v1 v2 M) := by
  unfold mf_37
  exact mq_N_B (mq_N_call mn_37_L5 rfl) (fun _ M1 hM1 => mq_N_ret hM1)
-- 36: PlainPacks.joinAll
theorem mn_36_b6 {v1 : Int32} {v2 : Int32} {v3 : Int32} {M : mm_M} : mq_N M.2.2 (mf_36_b6 v1 v2 v3 M) := by
  unfold mf_36_b6
  exact mq_N_ite (mq_N_ite (mq_N_B (mq_N_call mn_37 rfl) (fun _ M2 hM2 => mq_N_B (mq_N_call mn_37 hM2) (fun _ M4 hM4 => mq_N_ite (mq_N_ret hM4) (mq_N_ite (mq_N_ret hM4) (mq_N_ite (mq_N_ite (mq_N_ite (mq_N_ite (mq_N_ite (mq_N_ret hM4) (mq_N_none)) (mq_N_none)) (mq_N_none)) (mq_N_none)) (mq_N_none)))))) (mq_N_ret rfl)) (mq_N_ret rfl)
theorem mn_36_L6 {v1 : Int32} {s : Int32 × Int32} {M : mm_M} : mq_N M.2.2 (mf_36_L6 v1 s M) := by
  unfold mf_36_L6
  exact mq_N_L (fun s M h => mq_N_call mn_36_b6 h) rfl
theorem mn_36 {v1 : Int32} {M : mm_M} : mq_N M.2.2 (mf_36 v1 M) := by
  unfold mf_36
  exact mq_N_B (mq_N_call mn_36_L6 rfl) (fun _ M1 hM1 => mq_N_sm (fun _ => mq_N_ret hM1) (fun _ => mq_N_ret hM1))
-- 38: PlainPacks.depthOf
theorem mn_38_b12 {v2 : Int32} {v3 : Int32} {v4 : Int32} {M : mm_M} : mq_N M.2.2 (mf_38_b12 v2 v3 v4 M) := by
  unfold mf_38_b12
  exact mq_N_ite (mq_N_ite (mq_N_ite (mq_N_ret rfl) (mq_N_none)) (mq_N_ret rfl)) (mq_N_ret rfl)
theorem mn_38_L12 {s : Int32 × Int32 × Int32} {M : mm_M} : mq_N M.2.2 (mf_38_L12 s M) := by
  unfold mf_38_L12
  exact mq_N_L (fun s M h => mq_N_call mn_38_b12 h) rfl
theorem mn_38 {v1 : Int32} {M : mm_M} : mq_N M.2.2 (mf_38 v1 M) := by
  unfold mf_38
  exact mq_N_ite (mq_N_B (mq_N_call mn_38_L12 rfl) (fun _ M1 hM1 => mq_N_ret hM1)) (mq_N_none)
-- 23: PlainPacks.length
theorem mn_23 {v1 : Int32} {M : mm_M} : mq_N M.2.2 (mf_23 v1 M) := by
  unfold mf_23
  exact mq_N_ite (mq_N_thr rfl) (mq_N_ite (mq_N_thr rfl) (mq_N_B (mq_N_call mn_35 rfl) (fun _ M2 hM2 => mq_N_ite (mq_N_ite (mq_N_ret hM2) (mq_N_ite (mq_N_ret hM2) (mq_N_B (mq_N_call mn_36 hM2) (fun _ M3 hM3 => mq_N_B (mq_N_call mn_38 hM3) (fun _ M5 hM5 => mq_N_ret hM5))))) (mq_N_none))))
-- 288: PlainPacksModel.lightest
theorem mn_288_b4 {v1 : Int32} {v2 : Int32} {v3 : Int32} {M : mm_M} : mq_N M.2.2 (mf_288_b4 v1 v2 v3 M) := by
  unfold mf_288_b4
  exact mq_N_ite (mq_N_ite (mq_N_ite (mq_N_ite (mq_N_ite (mq_N_ite (mq_N_ret rfl) (mq_N_ite (mq_N_ite (mq_N_ite (mq_N_ret rfl) (mq_N_ret rfl)) (mq_N_none)) (mq_N_none))) (mq_N_ret rfl)) (mq_N_none)) (mq_N_ret rfl)) (mq_N_none)) (mq_N_ret rfl)
theorem mn_288_L4 {v1 : Int32} {s : Int32 × Int32} {M : mm_M} : mq_N M.2.2 (mf_288_L4 v1 s M) := by
  unfold mf_288_L4
  exact mq_N_L (fun s M h => mq_N_call mn_288_b4 h) rfl
theorem mn_288 {v1 : Int32} {M : mm_M} : mq_N M.2.2 (mf_288 v1 M) := by
  unfold mf_288
  exact mq_N_B (mq_N_call mn_288_L4 rfl) (fun _ M1 hM1 => mq_N_ret hM1)
-- 289: PlainPacksModel.length
theorem mn_289_b27 {v1 : Int32} {v2 : Int32} {M : mm_M} : mq_N M.2.2 (mf_289_b27 v1 v2 M) := by
  unfold mf_289_b27
  exact mq_N_ite (mq_N_ite (mq_N_ite (mq_N_ret rfl) (mq_N_none)) (mq_N_none)) (mq_N_ret rfl)
theorem mn_289_L27 {v1 : Int32} {s : Int32} {M : mm_M} : mq_N M.2.2 (mf_289_L27 v1 s M) := by
  unfold mf_289_L27
  exact mq_N_L (fun s M h => mq_N_call mn_289_b27 h) rfl
theorem mn_289_b56 {v1 : Int32} {v2 : Int32} {M : mm_M} : mq_N M.2.2 (mf_289_b56 v1 v2 M) := by
  unfold mf_289_b56
  exact mq_N_ite (mq_N_ite (mq_N_ite (mq_N_ite (mq_N_ret rfl) (mq_N_none)) (mq_N_none)) (mq_N_none)) (mq_N_ret rfl)
theorem mn_289_L56 {v1 : Int32} {s : Int32} {M : mm_M} : mq_N M.2.2 (mf_289_L56 v1 s M) := by
  unfold mf_289_L56
  exact mq_N_L (fun s M h => mq_N_call mn_289_b56 h) rfl
theorem mn_289_j139 {v1 : Int32} {v2 : Int32} {v4 : Int32} {v5 : Int32} {s0 : Int32} {M : mm_M} : mq_N M.2.2 (mf_289_j139 v1 v2 v4 v5 s0 M) := by
  unfold mf_289_j139
  exact mq_N_ite (mq_N_ret rfl) (mq_N_ite (mq_N_ite (mq_N_ite (mq_N_ite (mq_N_ret rfl) (mq_N_none)) (mq_N_none)) (mq_N_none)) (mq_N_none))
theorem mn_289_b102 {v1 : Int32} {v2 : Int32} {v3 : Int32} {M : mm_M} : mq_N M.2.2 (mf_289_b102 v1 v2 v3 M) := by
  unfold mf_289_b102
  exact mq_N_ite (mq_N_ret rfl) (mq_N_B (mq_N_call mn_288 rfl) (fun _ M2 hM2 => mq_N_ite (mq_N_B (mq_N_call mn_288 hM2) (fun _ M4 hM4 => mq_N_ite (mq_N_call mn_289_j139 hM4) (mq_N_call mn_289_j139 hM4))) (mq_N_none)))
theorem mn_289_L102 {v1 : Int32} {s : Int32 × Int32} {M : mm_M} : mq_N M.2.2 (mf_289_L102 v1 s M) := by
  unfold mf_289_L102
  exact mq_N_L (fun s M h => mq_N_call mn_289_b102 h) rfl
theorem mn_289_b203 {v4 : Int32} {v5 : Int32} {M : mm_M} : mq_N M.2.2 (mf_289_b203 v4 v5 M) := by
  unfold mf_289_b203
  exact mq_N_ite (mq_N_ite (mq_N_ite (mq_N_ret rfl) (mq_N_none)) (mq_N_ret rfl)) (mq_N_none)
theorem mn_289_L203 {s : Int32 × Int32} {M : mm_M} : mq_N M.2.2 (mf_289_L203 s M) := by
  unfold mf_289_L203
  exact mq_N_L (fun s M h => mq_N_call mn_289_b203 h) rfl
theorem mn_289_j179 {v1 : Int32} {v2 : Int32} {M : mm_M} : mq_N M.2.2 (mf_289_j179 v1 v2 M) := by
  unfold mf_289_j179
  exact mq_N_ite (mq_N_ret rfl) (mq_N_ite (mq_N_B (mq_N_call mn_289_L203 rfl) (fun _ M1 hM1 => mq_N_ret hM1)) (mq_N_none))
theorem mn_289_j85 {v1 : Int32} {M : mm_M} : mq_N M.2.2 (mf_289_j85 v1 M) := by
  unfold mf_289_j85
  exact mq_N_ite (mq_N_ite (mq_N_ret rfl) (mq_N_B (mq_N_call mn_289_L102 rfl) (fun _ M1 hM1 => mq_N_call mn_289_j179 hM1))) (mq_N_none)
theorem mn_289_j17 {v1 : Int32} {s1 : Int32} {M : mm_M} : mq_N M.2.2 (mf_289_j17 v1 s1 M) := by
  unfold mf_289_j17
  exact mq_N_B (mq_N_call mn_174 rfl) (fun _ M2 hM2 => mq_N_ite (mq_N_ret hM2) (mq_N_B (mq_N_call mn_289_L27 hM2) (fun _ M3 hM3 => mq_N_B (mq_N_call mn_289_L56 hM3) (fun _ M9 hM9 => mq_N_call mn_289_j85 hM9))))
theorem mn_289_j16 {v1 : Int32} {M : mm_M} : mq_N M.2.2 (mf_289_j16 v1 M) := by
  unfold mf_289_j16
  exact mq_N_call mn_289_j17 rfl
theorem mn_289 {v1 : Int32} {M : mm_M} : mq_N M.2.2 (mf_289 v1 M) := by
  unfold mf_289
  exact mq_N_ite (mq_N_call mn_289_j16 rfl) (mq_N_ite (mq_N_call mn_289_j16 rfl) (mq_N_call mn_289_j17 rfl))
-- 24: PlainPacks.turning
theorem mn_24 {v1 : Int32} {M : mm_M} : mq_N M.2.2 (mf_24 v1 M) := by
  unfold mf_24
  exact mq_N_ite (mq_N_thr rfl) (mq_N_ite (mq_N_ite (mq_N_ret rfl) (mq_N_B (mq_N_call mn_66 rfl) (fun _ M1 hM1 => mq_N_ite (mq_N_ret hM1) (mq_N_none)))) (mq_N_thr rfl))
-- 274: PlainPacksModel.turning
theorem mn_274_b40 {v1 : Int32} {v2 : Int32} {M : mm_M} : mq_N M.2.2 (mf_274_b40 v1 v2 M) := by
  unfold mf_274_b40
  exact mq_N_ite (mq_N_ite (mq_N_ite (mq_N_ret rfl) (mq_N_none)) (mq_N_none)) (mq_N_ret rfl)
theorem mn_274_L40 {v1 : Int32} {s : Int32} {M : mm_M} : mq_N M.2.2 (mf_274_L40 v1 s M) := by
  unfold mf_274_L40
  exact mq_N_L (fun s M h => mq_N_call mn_274_b40 h) rfl
theorem mn_274_j66 {v1 : Int32} {M : mm_M} : mq_N M.2.2 (mf_274_j66 v1 M) := by
  unfold mf_274_j66
  exact mq_N_B (mq_N_call mn_273 rfl) (fun _ M1 hM1 => mq_N_ite (mq_N_ret hM1) (mq_N_none))
theorem mn_274_j18 {v1 : Int32} {s1 : Int32} {M : mm_M} : mq_N M.2.2 (mf_274_j18 v1 s1 M) := by
  unfold mf_274_j18
  exact mq_N_B (mq_N_call mn_174 rfl) (fun _ M2 hM2 => mq_N_ite (mq_N_ret hM2) (mq_N_ite (mq_N_ret hM2) (mq_N_B (mq_N_call mn_274_L40 hM2) (fun _ M3 hM3 => mq_N_call mn_274_j66 hM3))))
theorem mn_274_j17 {v1 : Int32} {M : mm_M} : mq_N M.2.2 (mf_274_j17 v1 M) := by
  unfold mf_274_j17
  exact mq_N_call mn_274_j18 rfl
theorem mn_274 {v1 : Int32} {M : mm_M} : mq_N M.2.2 (mf_274 v1 M) := by
  unfold mf_274
  exact mq_N_ite (mq_N_call mn_274_j17 rfl) (mq_N_ite (mq_N_call mn_274_j18 rfl) (mq_N_call mn_274_j17 rfl))
-- 25: PlainPacks.count
theorem mn_25 {v1 : Int32} {M : mm_M} : mq_N M.2.2 (mf_25 v1 M) := by
  unfold mf_25
  exact mq_N_ite (mq_N_ret rfl) (mq_N_ite (mq_N_ret rfl) (mq_N_thr rfl))
-- 179: PlainPacksModel.count
theorem mn_179_j15 {v1 : Int32} {s1 : Int32} {M : mm_M} : mq_N M.2.2 (mf_179_j15 v1 s1 M) := by
  unfold mf_179_j15
  exact mq_N_B (mq_N_call mn_174 rfl) (fun _ M2 hM2 => mq_N_ite (mq_N_ret hM2) (mq_N_ite (mq_N_ret hM2) (mq_N_ret hM2)))
theorem mn_179 {v1 : Int32} {M : mm_M} : mq_N M.2.2 (mf_179 v1 M) := by
  unfold mf_179
  exact mq_N_ite (mq_N_call mn_179_j15 rfl) (mq_N_ite (mq_N_call mn_179_j15 rfl) (mq_N_call mn_179_j15 rfl))
