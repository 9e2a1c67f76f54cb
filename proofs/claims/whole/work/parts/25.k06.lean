/-! WHAT IS KEPT 6 -/
-- 286: PlainPacksModel.lettersBits
def mw_286 : List (Nat × Option Nat) := []
theorem mk_286 {v0 : Int32} {M : mm_M} : mq_K mw_286 M (mf_286 v0 M) := by
  unfold mf_286
  exact mq_K_ite (fun hc => mq_K_ret mq_kp_refl) (fun _ => mq_K_ite (fun hc => mq_K_ret mq_kp_refl) (fun _ => mq_K_ite (fun hc => mq_K_ret mq_kp_refl) (fun _ => mq_K_ret mq_kp_refl)))
-- 287: PlainPacksModel.least
def mw_287 : List (Nat × Option Nat) := [(84, some 0), (107, none)]
theorem mk_287_b79 {v1 : Int32} {v2 : Int32} {v3 : Int32} {v4 : Int32} {v5 : Int32} {M0 M : mm_M} (h : mq_kp mw_287 M0 M) : mq_K mw_287 M0 (mf_287_b79 v1 v2 v3 v4 v5 M) := by
  unfold mf_287_b79
  exact mq_K_ite (fun hc => mq_K_ite (fun hc => mq_K_ite (fun hc => mq_K_ite (fun hc => mq_K_ite (fun hc => mq_K_ite (fun hc => mq_K_ret h) (fun _ => mq_K_B (mq_K_call mk_254 h rfl) (fun _ M2 hM2 => mq_K_B (mq_K_call mk_286 hM2 rfl) (fun _ M4 hM4 => mq_K_B (mq_K_call mk_258 hM4 rfl) (fun _ M6 hM6 => mq_K_ite (fun hc => mq_K_ite (fun hc => mq_K_ret hM6) (fun _ => mq_K_ret hM6)) (fun _ => mq_K_none)))))) (fun _ => mq_K_ret h)) (fun _ => mq_K_none)) (fun _ => mq_K_none)) (fun _ => mq_K_ret h)) (fun _ => mq_K_ret h)
theorem mk_287_L79 {v1 : Int32} {v3 : Int32} {v4 : Int32} {s : Int32 × Int32} {M0 M : mm_M} (h : mq_kp mw_287 M0 M) : mq_K mw_287 M0 (mf_287_L79 v1 v3 v4 s M) := by
  unfold mf_287_L79
  exact mq_K_L (fun s M h => mk_287_b79 h) h
theorem mk_287_b60 {v1 : Int32} {v2 : Int32} {v3 : Int32} {M0 M : mm_M} (h : mq_kp mw_287 M0 M) : mq_K mw_287 M0 (mf_287_b60 v1 v2 v3 M) := by
  unfold mf_287_b60
  exact mq_K_ite (fun hc => mq_K_ret h) (fun _ => mq_K_B (mq_K_call mk_257 h rfl) (fun _ M2 hM2 => mq_K_B (mq_K_call mk_259 hM2 rfl) (fun _ M4 hM4 => mq_K_B (mk_287_L79 hM4) (fun _ M5 hM5 => mq_K_ret hM5))))
theorem mk_287_L60 {v1 : Int32} {s : Int32 × Int32} {M0 M : mm_M} (h : mq_kp mw_287 M0 M) : mq_K mw_287 M0 (mf_287_L60 v1 s M) := by
  unfold mf_287_L60
  exact mq_K_L (fun s M h => mk_287_b60 h) h
theorem mk_287_j185 {v1 : Int32} {v2 : Int32} {M0 M : mm_M} (h : mq_kp mw_287 M0 M) : mq_K mw_287 M0 (mf_287_j185 v1 v2 M) := by
  unfold mf_287_j185
  exact mq_K_ite (fun hc => mq_K_ret (mq_kp_pi h rfl)) (fun _ => mq_K_none)
theorem mk_287_b35 {v1 : Int32} {M0 M : mm_M} (h : mq_kp mw_287 M0 M) : mq_K mw_287 M0 (mf_287_b35 v1 M) := by
  unfold mf_287_b35
  exact mq_K_ite (fun hc => mq_K_ret h) (fun _ => mq_K_ite (fun hc => mq_K_B (mq_K_call mk_286 h rfl) (fun _ M2 hM2 => mq_K_ite (fun hc => mq_K_B (mk_287_L60 hM2) (fun _ M3 hM3 => mk_287_j185 hM3)) (fun _ => mq_K_none))) (fun _ => mq_K_none))
theorem mk_287_L35 {s : Int32} {M0 M : mm_M} (h : mq_kp mw_287 M0 M) : mq_K mw_287 M0 (mf_287_L35 s M) := by
  unfold mf_287_L35
  exact mq_K_L (fun s M h => mk_287_b35 h) h
theorem mk_287_j198 {M0 M : mm_M} (h : mq_kp mw_287 M0 M) : mq_K mw_287 M0 (mf_287_j198 M) := by
  unfold mf_287_j198
  exact mq_K_ite (fun hc => mq_K_ret h) (fun _ => mq_K_none)
theorem mk_287 {M : mm_M} : mq_K mw_287 M (mf_287 M) := by
  unfold mf_287
  exact mq_K_ite (fun hc => mq_K_ret (mq_kp_pi mq_kp_refl rfl)) (fun _ => mq_K_ite (fun hc => mq_K_B (mk_287_L35 (mq_kp_pi (mq_kp_pi mq_kp_refl rfl) rfl)) (fun _ M1 hM1 => mk_287_j198 hM1)) (fun _ => mq_K_none))
-- 35: PlainPacks.weigh
def mw_35 : List (Nat × Option Nat) := [(82, none), (83, none)]
theorem mk_35_b18 {v1 : Int32} {M0 M : mm_M} (h : mq_kp mw_35 M0 M) : mq_K mw_35 M0 (mf_35_b18 v1 M) := by
  unfold mf_35_b18
  exact mq_K_ite (fun hc => mq_K_ite (fun hc => mq_K_ite (fun hc => mq_K_ite (fun hc => mq_K_ret (mq_kp_pi h rfl)) (fun _ => mq_K_none)) (fun _ => mq_K_none)) (fun _ => mq_K_none)) (fun _ => mq_K_ret h)
theorem mk_35_L18 {s : Int32} {M0 M : mm_M} (h : mq_kp mw_35 M0 M) : mq_K mw_35 M0 (mf_35_L18 s M) := by
  unfold mf_35_L18
  exact mq_K_L (fun s M h => mk_35_b18 h) h
theorem mk_35_b57 {v1 : Int32} {v2 : Int32} {M0 M : mm_M} (h : mq_kp mw_35 M0 M) : mq_K mw_35 M0 (mf_35_b57 v1 v2 M) := by
  unfold mf_35_b57
  exact mq_K_ite (fun hc => mq_K_ite (fun hc => mq_K_ite (fun hc => mq_K_ret h) (fun _ => mq_K_ret h)) (fun _ => mq_K_none)) (fun _ => mq_K_ret h)
theorem mk_35_L57 {s : Int32 × Int32} {M0 M : mm_M} (h : mq_kp mw_35 M0 M) : mq_K mw_35 M0 (mf_35_L57 s M) := by
  unfold mf_35_L57
  exact mq_K_L (fun s M h => mk_35_b57 h) h
theorem mk_35 {M : mm_M} : mq_K mw_35 M (mf_35 M) := by
  unfold mf_35
  exact mq_K_B (mq_K_call mk_290 mq_kp_refl rfl) (fun _ M1 hM1 => mq_K_B (mq_K_call mk_290 hM1 rfl) (fun _ M2 hM2 => mq_K_B (mk_35_L18 hM2) (fun _ M3 hM3 => mq_K_B (mk_35_L57 hM3) (fun _ M7 hM7 => mq_K_ret hM7))))
-- 37: PlainPacks.lightest
def mw_37 : List (Nat × Option Nat) := []
theorem mk_37_j42 {v1 : Int32} {v2 : Int32} {v3 : Int32} {v4 : Int32} {s0 : Int32} {M0 M : mm_M} (h : mq_kp mw_37 M0 M) : mq_K mw_37 M0 (mf_37_j42 v1 v2 v3 v4 s0 M) := by
  unfold mf_37_j42
  exact mq_K_ite (fun hc => mq_K_ret h) (fun _ => mq_K_ite (fun hc => mq_K_ret h) (fun _ => mq_K_ite (fun hc => mq_K_ite (fun hc => mq_K_ite (fun hc => mq_K_ret h) (fun _ => mq_K_ret h)) (fun _ => mq_K_none)) (fun _ => mq_K_none)))
theorem mk_37_j41 {v1 : Int32} {v2 : Int32} {v3 : Int32} {v4 : Int32} {M0 M : mm_M} (h : mq_kp mw_37 M0 M) : mq_K mw_37 M0 (mf_37_j41 v1 v2 v3 v4 M) := by
  unfold mf_37_j41
  exact mk_37_j42 h
theorem mk_37_b5 {v1 : Int32} {v2 : Int32} {v3 : Int32} {v4 : Int32} {M0 M : mm_M} (h : mq_kp mw_37 M0 M) : mq_K mw_37 M0 (mf_37_b5 v1 v2 v3 v4 M) := by
  unfold mf_37_b5
  exact mq_K_ite (fun hc => mq_K_ite (fun hc => mq_K_ite (fun hc => mq_K_ite (fun hc => mq_K_ite (fun hc => mq_K_ite (fun hc => mk_37_j41 h) (fun _ => mk_37_j42 h)) (fun _ => mk_37_j41 h)) (fun _ => mq_K_none)) (fun _ => mk_37_j41 h)) (fun _ => mq_K_none)) (fun _ => mq_K_ret h)
theorem mk_37_L5 {v1 : Int32} {v2 : Int32} {s : Int32 × Int32} {M0 M : mm_M} (h : mq_kp mw_37 M0 M) : mq_K mw_37 M0 (mf_37_L5 v1 v2 s M) := by
  unfold mf_37_L5
  exact mq_K_L (fun s M h => mk_37_b5 h) h
theorem mk_37 {v1 : Int32} {v2 : Int32} {M : mm_M} : mq_K mw_37 M (mf_37 v1 v2 M) := by
  unfold mf_37
  exact mq_K_B (mk_37_L5 mq_kp_refl) (fun _ M1 hM1 => mq_K_ret hM1)
-- 36: PlainPacks.joinAll
def mw_36 : List (Nat × Option Nat) := [(82, none), (83, none)]
theorem mk_36_b6 {v1 : Int32} {v2 : Int32} {v3 : Int32} {M0 M : mm_M} (h : mq_kp mw_36 M0 M) : mq_K mw_36 M0 (mf_36_b6 v1 v2 v3 M) := by
  unfold mf_36_b6
  exact mq_K_ite (fun hc => mq_K_ite (fun hc => mq_K_B (mq_K_call mk_37 h rfl) (fun _ M2 hM2 => mq_K_B (mq_K_call mk_37 hM2 rfl) (fun _ M4 hM4 => mq_K_ite (fun hc => mq_K_ret hM4) (fun _ => mq_K_ite (fun hc => mq_K_ret hM4) (fun _ => mq_K_ite (fun hc => mq_K_ite (fun hc => mq_K_ite (fun hc => mq_K_ite (fun hc => mq_K_ite (fun hc => mq_K_ret (mq_kp_pi (mq_kp_pi (mq_kp_pi hM4 rfl) rfl) rfl)) (fun _ => mq_K_none)) (fun _ => mq_K_none)) (fun _ => mq_K_none)) (fun _ => mq_K_none)) (fun _ => mq_K_none)))))) (fun _ => mq_K_ret h)) (fun _ => mq_K_ret h)
theorem mk_36_L6 {v1 : Int32} {s : Int32 × Int32} {M0 M : mm_M} (h : mq_kp mw_36 M0 M) : mq_K mw_36 M0 (mf_36_L6 v1 s M) := by
  unfold mf_36_L6
  exact mq_K_L (fun s M h => mk_36_b6 h) h
theorem mk_36 {v1 : Int32} {M : mm_M} : mq_K mw_36 M (mf_36 v1 M) := by
  unfold mf_36
  exact mq_K_B (mk_36_L6 mq_kp_refl) (fun _ M1 hM1 => mq_K_sm (fun _ => mq_K_ret hM1) (fun _ => mq_K_ret hM1))
-- 38: PlainPacks.depthOf
def mw_38 : List (Nat × Option Nat) := []
theorem mk_38_b12 {v2 : Int32} {v3 : Int32} {v4 : Int32} {M0 M : mm_M} (h : mq_kp mw_38 M0 M) : mq_K mw_38 M0 (mf_38_b12 v2 v3 v4 M) := by
  unfold mf_38_b12
  exact mq_K_ite (fun hc => mq_K_ite (fun hc => mq_K_ite (fun hc => mq_K_ret h) (fun _ => mq_K_none)) (fun _ => mq_K_ret h)) (fun _ => mq_K_ret h)
theorem mk_38_L12 {s : Int32 × Int32 × Int32} {M0 M : mm_M} (h : mq_kp mw_38 M0 M) : mq_K mw_38 M0 (mf_38_L12 s M) := by
  unfold mf_38_L12
  exact mq_K_L (fun s M h => mk_38_b12 h) h
theorem mk_38 {v1 : Int32} {M : mm_M} : mq_K mw_38 M (mf_38 v1 M) := by
  unfold mf_38
  exact mq_K_ite (fun hc => mq_K_B (mk_38_L12 mq_kp_refl) (fun _ M1 hM1 => mq_K_ret hM1)) (fun _ => mq_K_none)
-- 23: PlainPacks.length
def mw_23 : List (Nat × Option Nat) := [(82, none), (83, none)]
theorem mk_23 {v1 : Int32} {M : mm_M} : mq_K mw_23 M (mf_23 v1 M) := by
  unfold mf_23
  exact mq_K_ite (fun hc => mq_K_ret (mq_kp_th mq_kp_refl)) (fun _ => mq_K_ite (fun hc => mq_K_ret (mq_kp_th mq_kp_refl)) (fun _ => mq_K_B (mq_K_call mk_35 mq_kp_refl rfl) (fun _ M2 hM2 => mq_K_ite (fun hc => mq_K_ite (fun hc => mq_K_ret hM2) (fun _ => mq_K_ite (fun hc => mq_K_ret hM2) (fun _ => mq_K_B (mq_K_call mk_36 hM2 rfl) (fun _ M3 hM3 => mq_K_B (mq_K_call mk_38 hM3 rfl) (fun _ M5 hM5 => mq_K_ret hM5))))) (fun _ => mq_K_none))))
-- 288: PlainPacksModel.lightest
def mw_288 : List (Nat × Option Nat) := []
theorem mk_288_b4 {v1 : Int32} {v2 : Int32} {v3 : Int32} {M0 M : mm_M} (h : mq_kp mw_288 M0 M) : mq_K mw_288 M0 (mf_288_b4 v1 v2 v3 M) := by
  unfold mf_288_b4
  exact mq_K_ite (fun hc => mq_K_ite (fun hc => mq_K_ite (fun hc => mq_K_ite (fun hc => mq_K_ite (fun hc => mq_K_ite (fun hc => mq_K_ret h) (fun _ => mq_K_ite (fun hc => mq_K_ite (fun hc => mq_K_ite (fun hc => mq_K_ret h) (fun _ => mq_K_ret h)) (fun _ => mq_K_none)) (fun _ => mq_K_none))) (fun _ => mq_K_ret h)) (fun _ => mq_K_none)) (fun _ => mq_K_ret h)) (fun _ => mq_K_none)) (fun _ => mq_K_ret h)
theorem mk_288_L4 {v1 : Int32} {s : Int32 × Int32} {M0 M : mm_M} (h : mq_kp mw_288 M0 M) : mq_K mw_288 M0 (mf_288_L4 v1 s M) := by
  unfold mf_288_L4
  exact mq_K_L (fun s M h => mk_288_b4 h) h
theorem mk_288 {v1 : Int32} {M : mm_M} : mq_K mw_288 M (mf_288 v1 M) := by
  unfold mf_288
  exact mq_K_B (mk_288_L4 mq_kp_refl) (fun _ M1 hM1 => mq_K_ret hM1)
-- 289: PlainPacksModel.length
def mw_289 : List (Nat × Option Nat) := [(84, some 0), (108, none), (109, none)]
theorem mk_289_b27 {v1 : Int32} {v2 : Int32} {M0 M : mm_M} (h : mq_kp mw_289 M0 M) : mq_K mw_289 M0 (mf_289_b27 v1 v2 M) := by
  unfold mf_289_b27
  exact mq_K_ite (fun hc => mq_K_ite (fun hc => mq_K_ite (fun hc => mq_K_ret (mq_kp_pi (mq_kp_pi h rfl) rfl)) (fun _ => mq_K_none)) (fun _ => mq_K_none)) (fun _ => mq_K_ret h)
theorem mk_289_L27 {v1 : Int32} {s : Int32} {M0 M : mm_M} (h : mq_kp mw_289 M0 M) : mq_K mw_289 M0 (mf_289_L27 v1 s M) := by
  unfold mf_289_L27
  exact mq_K_L (fun s M h => mk_289_b27 h) h
theorem mk_289_b56 {v1 : Int32} {v2 : Int32} {M0 M : mm_M} (h : mq_kp mw_289 M0 M) : mq_K mw_289 M0 (mf_289_b56 v1 v2 M) := by
  unfold mf_289_b56
  exact mq_K_ite (fun hc => mq_K_ite (fun hc => mq_K_ite (fun hc => mq_K_ite (fun hc => mq_K_ret (mq_kp_pi h rfl)) (fun _ => mq_K_none)) (fun _ => mq_K_none)) (fun _ => mq_K_none)) (fun _ => mq_K_ret h)
theorem mk_289_L56 {v1 : Int32} {s : Int32} {M0 M : mm_M} (h : mq_kp mw_289 M0 M) : mq_K mw_289 M0 (mf_289_L56 v1 s M) := by
  unfold mf_289_L56
  exact mq_K_L (fun s M h => mk_289_b56 h) h
theorem mk_289_j139 {v1 : Int32} {v2 : Int32} {v4 : Int32} {v5 : Int32} {s0 : Int32} {M0 M : mm_M} (h : mq_kp mw_289 M0 M) : mq_K mw_289 M0 (mf_289_j139 v1 v2 v4 v5 s0 M) := by
  unfold mf_289_j139
  exact mq_K_ite (fun hc => mq_K_ret h) (fun _ => mq_K_ite (fun hc => mq_K_ite (fun hc => mq_K_ite (fun hc => mq_K_ite (fun hc => mq_K_ret (mq_kp_pi (mq_kp_pi h rfl) rfl)) (fun _ => mq_K_none)) (fun _ => mq_K_none)) (fun _ => mq_K_none)) (fun _ => mq_K_none))
theorem mk_289_b102 {v1 : Int32} {v2 : Int32} {v3 : Int32} {M0 M : mm_M} (h : mq_kp mw_289 M0 M) : mq_K mw_289 M0 (mf_289_b102 v1 v2 v3 M) := by
  unfold mf_289_b102
  exact mq_K_ite (fun hc => mq_K_ret h) (fun _ => mq_K_B (mq_K_call mk_288 h rfl) (fun _ M2 hM2 => mq_K_ite (fun hc => mq_K_B (mq_K_call mk_288 (mq_kp_pi hM2 rfl) rfl) (fun _ M4 hM4 => mq_K_ite (fun hc => mk_289_j139 hM4) (fun _ => mk_289_j139 hM4))) (fun _ => mq_K_none)))
theorem mk_289_L102 {v1 : Int32} {s : Int32 × Int32} {M0 M : mm_M} (h : mq_kp mw_289 M0 M) : mq_K mw_289 M0 (mf_289_L102 v1 s M) := by
  unfold mf_289_L102
  exact mq_K_L (fun s M h => mk_289_b102 h) h
theorem mk_289_b203 {v4 : Int32} {v5 : Int32} {M0 M : mm_M} (h : mq_kp mw_289 M0 M) : mq_K mw_289 M0 (mf_289_b203 v4 v5 M) := by
  unfold mf_289_b203
  exact mq_K_ite (fun hc => mq_K_ite (fun hc => mq_K_ite (fun hc => mq_K_ret h) (fun _ => mq_K_none)) (fun _ => mq_K_ret h)) (fun _ => mq_K_none)
theorem mk_289_L203 {s : Int32 × Int32} {M0 M : mm_M} (h : mq_kp mw_289 M0 M) : mq_K mw_289 M0 (mf_289_L203 s M) := by
  unfold mf_289_L203
  exact mq_K_L (fun s M h => mk_289_b203 h) h
theorem mk_289_j179 {v1 : Int32} {v2 : Int32} {M0 M : mm_M} (h : mq_kp mw_289 M0 M) : mq_K mw_289 M0 (mf_289_j179 v1 v2 M) := by
  unfold mf_289_j179
  exact mq_K_ite (fun hc => mq_K_ret h) (fun _ => mq_K_ite (fun hc => mq_K_B (mk_289_L203 (mq_kp_pi h rfl)) (fun _ M1 hM1 => mq_K_ret hM1)) (fun _ => mq_K_none))
theorem mk_289_j85 {v1 : Int32} {M0 M : mm_M} (h : mq_kp mw_289 M0 M) : mq_K mw_289 M0 (mf_289_j85 v1 M) := by
  unfold mf_289_j85
  exact mq_K_ite (fun hc => mq_K_ite (fun hc => mq_K_ret h) (fun _ => mq_K_B (mk_289_L102 h) (fun _ M1 hM1 => mk_289_j179 hM1))) (fun _ => mq_K_none)
theorem mk_289_j17 {v1 : Int32} {s1 : Int32} {M0 M : mm_M} (h : mq_kp mw_289 M0 M) : mq_K mw_289 M0 (mf_289_j17 v1 s1 M) := by
  unfold mf_289_j17
  exact mq_K_B (mq_K_call mk_174 h rfl) (fun _ M2 hM2 => mq_K_ite (fun hc => mq_K_ret hM2) (fun _ => mq_K_B (mk_289_L27 hM2) (fun _ M3 hM3 => mq_K_B (mk_289_L56 hM3) (fun _ M9 hM9 => mk_289_j85 hM9))))
theorem mk_289_j16 {v1 : Int32} {M0 M : mm_M} (h : mq_kp mw_289 M0 M) : mq_K mw_289 M0 (mf_289_j16 v1 M) := by
  unfold mf_289_j16
  exact mk_289_j17 h
theorem mk_289 {v1 : Int32} {M : mm_M} : mq_K mw_289 M (mf_289 v1 M) := by
  unfold mf_289
  exact mq_K_ite (fun hc => mk_289_j16 mq_kp_refl) (fun _ => mq_K_ite (fun hc => mk_289_j16 mq_kp_refl) (fun _ => mk_289_j17 mq_kp_refl))
-- 24: PlainPacks.turning
def mw_24 : List (Nat × Option Nat) := [(7, some 5), (7, some 6), (8, none), (9, none), (10, none), (11, none), (12, none)]
theorem mk_24 {v1 : Int32} {M : mm_M} : mq_K mw_24 M (mf_24 v1 M) := by
  unfold mf_24
  exact mq_K_ite (fun hc => mq_K_ret (mq_kp_th mq_kp_refl)) (fun _ => mq_K_ite (fun hc => mq_K_ite (fun hc => mq_K_ret mq_kp_refl) (fun _ => mq_K_B (mq_K_call mk_66 mq_kp_refl rfl) (fun _ M1 hM1 => mq_K_ite (fun hc => mq_K_ret hM1) (fun _ => mq_K_none)))) (fun _ => mq_K_ret (mq_kp_th mq_kp_refl)))
-- 274: PlainPacksModel.turning
def mw_274 : List (Nat × Option Nat) := [(84, some 0), (102, none), (103, none), (104, none), (105, none), (106, none)]
theorem mk_274_b40 {v1 : Int32} {v2 : Int32} {M0 M : mm_M} (h : mq_kp mw_274 M0 M) : mq_K mw_274 M0 (mf_274_b40 v1 v2 M) := by
  unfold mf_274_b40
  exact mq_K_ite (fun hc => mq_K_ite (fun hc => mq_K_ite (fun hc => mq_K_ret (mq_kp_pi h rfl)) (fun _ => mq_K_none)) (fun _ => mq_K_none)) (fun _ => mq_K_ret h)
theorem mk_274_L40 {v1 : Int32} {s : Int32} {M0 M : mm_M} (h : mq_kp mw_274 M0 M) : mq_K mw_274 M0 (mf_274_L40 v1 s M) := by
  unfold mf_274_L40
  exact mq_K_L (fun s M h => mk_274_b40 h) h
theorem mk_274_j66 {v1 : Int32} {M0 M : mm_M} (h : mq_kp mw_274 M0 M) : mq_K mw_274 M0 (mf_274_j66 v1 M) := by
  unfold mf_274_j66
  exact mq_K_B (mq_K_call mk_273 h rfl) (fun _ M1 hM1 => mq_K_ite (fun hc => mq_K_ret hM1) (fun _ => mq_K_none))
theorem mk_274_j18 {v1 : Int32} {s1 : Int32} {M0 M : mm_M} (h : mq_kp mw_274 M0 M) : mq_K mw_274 M0 (mf_274_j18 v1 s1 M) := by
  unfold mf_274_j18
  exact mq_K_B (mq_K_call mk_174 h rfl) (fun _ M2 hM2 => mq_K_ite (fun hc => mq_K_ret hM2) (fun _ => mq_K_ite (fun hc => mq_K_ret hM2) (fun _ => mq_K_B (mk_274_L40 hM2) (fun _ M3 hM3 => mk_274_j66 hM3))))
theorem mk_274_j17 {v1 : Int32} {M0 M : mm_M} (h : mq_kp mw_274 M0 M) : mq_K mw_274 M0 (mf_274_j17 v1 M) := by
  unfold mf_274_j17
  exact mk_274_j18 h
theorem mk_274 {v1 : Int32} {M : mm_M} : mq_K mw_274 M (mf_274 v1 M) := by
  unfold mf_274
  exact mq_K_ite (fun hc => mk_274_j17 mq_kp_refl) (fun _ => mq_K_ite (fun hc => mk_274_j18 mq_kp_refl) (fun _ => mk_274_j17 mq_kp_refl))
-- 25: PlainPacks.count
def mw_25 : List (Nat × Option Nat) := []
theorem mk_25 {v1 : Int32} {M : mm_M} : mq_K mw_25 M (mf_25 v1 M) := by
  unfold mf_25
  exact mq_K_ite (fun hc => mq_K_ret mq_kp_refl) (fun _ => mq_K_ite (fun hc => mq_K_ret mq_kp_refl) (fun _ => mq_K_ret (mq_kp_th mq_kp_refl)))
-- 179: PlainPacksModel.count
def mw_179 : List (Nat × Option Nat) := [(84, some 0)]
theorem mk_179_j15 {v1 : Int32} {s1 : Int32} {M0 M : mm_M} (h : mq_kp mw_179 M0 M) : mq_K mw_179 M0 (mf_179_j15 v1 s1 M) := by
  unfold mf_179_j15
  exact mq_K_B (mq_K_call mk_174 h rfl) (fun _ M2 hM2 => mq_K_ite (fun hc => mq_K_ret hM2) (fun _ => mq_K_ite (fun hc => mq_K_ret hM2) (fun _ => mq_K_ret hM2)))
theorem mk_179 {v1 : Int32} {M : mm_M} : mq_K mw_179 M (mf_179 v1 M) := by
  unfold mf_179
  exact mq_K_ite (fun hc => mk_179_j15 mq_kp_refl) (fun _ => mq_K_ite (fun hc => mk_179_j15 mq_kp_refl) (fun _ => mk_179_j15 mq_kp_refl))
