/-! WHAT IS KEPT 5 -/
-- 50: PlainPacks$Sink.become
def mw_50 : List (Nat × Option Nat) := [(3, some 1), (4, none)]
theorem mk_50 {v2 : Int32} {M : mm_M} : mq_K mw_50 M (mf_50 v2 M) := by
  unfold mf_50
  exact mq_K_ite (fun hc => mq_K_ret mq_kp_refl) (fun _ => mq_K_ite (fun hc => mq_K_ret mq_kp_refl) (fun _ => mq_K_ite (fun hc => mq_K_ret mq_kp_refl) (fun _ => mq_K_ite (fun hc => mq_K_ret (mq_kp_pi (mq_kp_cp mq_kp_refl rfl) rfl)) (fun _ => mq_K_none))))
-- 20: PlainPacks.pack
def mw_20 : List (Nat × Option Nat) := [(3, some 1), (4, none), (5, some 1), (5, some 2), (5, some 3), (5, some 4), (5, some 5), (6, none), (7, some 5), (7, some 6), (8, none), (9, none), (10, none), (11, none), (12, none), (13, some 0), (13, some 1), (13, some 6), (13, some 7), (14, none), (15, none), (35, some 8), (35, some 9), (35, some 10), (35, some 11), (35, some 12), (38, none), (39, none), (40, none), (42, some 9), (42, some 10), (42, some 12), (42, some 15), (42, some 16), (46, none), (47, none), (48, none), (49, none), (80, some 4), (80, some 9), (80, some 10), (80, some 11), (80, some 12), (80, some 13), (80, some 15), (81, none)]
theorem mk_20_j175 {M0 M : mm_M} (h : mq_kp mw_20 M0 M) : mq_K mw_20 M0 (mf_20_j175 M) := by
  unfold mf_20_j175
  exact mq_K_ite (fun hc => mq_K_B (mq_K_call mk_50 h rfl) (fun _ M1 hM1 => mq_K_ret hM1)) (fun _ => mq_K_ret h)
theorem mk_20 {v1 : Int32} {M : mm_M} : mq_K mw_20 M (mf_20 v1 M) := by
  unfold mf_20
  exact mq_K_B (mq_K_call mk_26 mq_kp_refl rfl) (fun _ M1 hM1 => mq_K_B (mq_K_call mk_55 hM1 rfl) (fun _ M2 hM2 => mq_K_ite (fun hc => mq_K_B (mq_K_call mk_127 hM2 rfl) (fun _ M3 hM3 => mk_20_j175 hM3)) (fun _ => mq_K_ite (fun hc => mq_K_B (mq_K_call mk_91 hM2 rfl) (fun _ M4 hM4 => mk_20_j175 hM4)) (fun _ => mq_K_ite (fun hc => mq_K_B (mq_K_call mk_89 hM2 rfl) (fun _ M5 hM5 => mk_20_j175 hM5)) (fun _ => mq_K_ite (fun hc => mq_K_B (mq_K_call mk_90 hM2 rfl) (fun _ M6 hM6 => mk_20_j175 hM6)) (fun _ => mq_K_ite (fun hc => mq_K_B (mq_K_call mk_112 hM2 rfl) (fun _ M7 hM7 => mk_20_j175 hM7)) (fun _ => mq_K_ite (fun hc => mq_K_B (mq_K_call mk_113 hM2 rfl) (fun _ M8 hM8 => mk_20_j175 hM8)) (fun _ => mq_K_ite (fun hc => mq_K_B (mq_K_call mk_129 hM2 rfl) (fun _ M9 hM9 => mk_20_j175 hM9)) (fun _ => mq_K_ite (fun hc => mq_K_B (mq_K_call mk_133 hM2 rfl) (fun _ M10 hM10 => mk_20_j175 hM10)) (fun _ => mq_K_ite (fun hc => mq_K_B (mq_K_call mk_135 hM2 rfl) (fun _ M11 hM11 => mk_20_j175 hM11)) (fun _ => mq_K_ite (fun hc => mq_K_B (mq_K_call mk_147 hM2 rfl) (fun _ M12 hM12 => mk_20_j175 hM12)) (fun _ => mq_K_B (mq_K_call mk_171 hM2 rfl) (fun _ M13 hM13 => mk_20_j175 hM13)))))))))))))
-- 251: PlainPacksModel.alikeAt
def mw_251 : List (Nat × Option Nat) := []
theorem mk_251_b2 {v1 : Int32} {v2 : Int32} {v3 : Int32} {M0 M : mm_M} (h : mq_kp mw_251 M0 M) : mq_K mw_251 M0 (mf_251_b2 v1 v2 v3 M) := by
  unfold mf_251_b2
  exact mq_K_ite (fun hc => mq_K_ite (fun hc => mq_K_ite (fun hc => mq_K_ite (fun hc => mq_K_ite (fun hc => mq_K_ret h) (fun _ => mq_K_ret h)) (fun _ => mq_K_none)) (fun _ => mq_K_none)) (fun _ => mq_K_ret h)) (fun _ => mq_K_ret h)
theorem mk_251_L2 {v1 : Int32} {v2 : Int32} {s : Int32} {M0 M : mm_M} (h : mq_kp mw_251 M0 M) : mq_K mw_251 M0 (mf_251_L2 v1 v2 s M) := by
  unfold mf_251_L2
  exact mq_K_L (fun s M h => mk_251_b2 h) h
theorem mk_251 {v1 : Int32} {v2 : Int32} {M : mm_M} : mq_K mw_251 M (mf_251 v1 v2 M) := by
  unfold mf_251
  exact mq_K_B (mk_251_L2 mq_kp_refl) (fun _ M1 hM1 => mq_K_ret hM1)
-- 245: PlainPacksModel.write
def mw_245 : List (Nat × Option Nat) := [(84, some 41), (100, none)]
theorem mk_245 {v1 : Int32} {M : mm_M} : mq_K mw_245 M (mf_245 v1 M) := by
  unfold mf_245
  exact mq_K_ite (fun hc => mq_K_ite (fun hc => mq_K_ret (mq_kp_pi (mq_kp_pi mq_kp_refl rfl) rfl)) (fun _ => mq_K_none)) (fun _ => mq_K_ret (mq_kp_pi mq_kp_refl rfl))
-- 252: PlainPacksModel.packRuns
def mw_252 : List (Nat × Option Nat) := [(84, some 41), (100, none)]
theorem mk_252_b52 {v1 : Int32} {v3 : Int32} {M0 M : mm_M} (h : mq_kp mw_252 M0 M) : mq_K mw_252 M0 (mf_252_b52 v1 v3 M) := by
  unfold mf_252_b52
  exact mq_K_ite (fun hc => mq_K_ite (fun hc => mq_K_B (mq_K_call mk_251 h rfl) (fun _ M2 hM2 => mq_K_ite (fun hc => mq_K_ret hM2) (fun _ => mq_K_ret hM2))) (fun _ => mq_K_ret h)) (fun _ => mq_K_ret h)
theorem mk_252_L52 {v1 : Int32} {s : Int32} {M0 M : mm_M} (h : mq_kp mw_252 M0 M) : mq_K mw_252 M0 (mf_252_L52 v1 s M) := by
  unfold mf_252_L52
  exact mq_K_L (fun s M h => mk_252_b52 h) h
theorem mk_252_b94 {v1 : Int32} {v3 : Int32} {M0 M : mm_M} (h : mq_kp mw_252 M0 M) : mq_K mw_252 M0 (mf_252_b94 v1 v3 M) := by
  unfold mf_252_b94
  exact mq_K_ite (fun hc => mq_K_ite (fun hc => mq_K_B (mq_K_call mk_245 h rfl) (fun _ M1 hM1 => mq_K_ret hM1)) (fun _ => mq_K_none)) (fun _ => mq_K_ret h)
theorem mk_252_L94 {v3 : Int32} {s : Int32} {M0 M : mm_M} (h : mq_kp mw_252 M0 M) : mq_K mw_252 M0 (mf_252_L94 v3 s M) := by
  unfold mf_252_L94
  exact mq_K_L (fun s M h => mk_252_b94 h) h
theorem mk_252_j85 {v1 : Int32} {v3 : Int32} {M0 M : mm_M} (h : mq_kp mw_252 M0 M) : mq_K mw_252 M0 (mf_252_j85 v1 v3 M) := by
  unfold mf_252_j85
  exact mq_K_B (mq_K_call mk_245 h rfl) (fun _ M1 hM1 => mq_K_B (mk_252_L94 hM1) (fun _ M2 hM2 => mq_K_ret hM2))
theorem mk_252_b2 {v1 : Int32} {M0 M : mm_M} (h : mq_kp mw_252 M0 M) : mq_K mw_252 M0 (mf_252_b2 v1 M) := by
  unfold mf_252_b2
  exact mq_K_ite (fun hc => mq_K_B (mq_K_call mk_251 h rfl) (fun _ M2 hM2 => mq_K_ite (fun hc => mq_K_B (mq_K_call mk_245 hM2 rfl) (fun _ M3 hM3 => mq_K_ite (fun hc => mq_K_B (mq_K_call mk_245 hM3 rfl) (fun _ M4 hM4 => mq_K_ret hM4)) (fun _ => mq_K_none))) (fun _ => mq_K_B (mk_252_L52 hM2) (fun _ M5 hM5 => mk_252_j85 hM5)))) (fun _ => mq_K_ret h)
theorem mk_252_L2 {s : Int32} {M0 M : mm_M} (h : mq_kp mw_252 M0 M) : mq_K mw_252 M0 (mf_252_L2 s M) := by
  unfold mf_252_L2
  exact mq_K_L (fun s M h => mk_252_b2 h) h
theorem mk_252 {M : mm_M} : mq_K mw_252 M (mf_252 M) := by
  unfold mf_252
  exact mq_K_B (mk_252_L2 mq_kp_refl) (fun _ M1 hM1 => mq_K_ret hM1)
-- 248: PlainPacksModel.writeRest
def mw_248 : List (Nat × Option Nat) := [(84, some 41), (84, some 42), (84, some 43), (100, none)]
theorem mk_248 {M : mm_M} : mq_K mw_248 M (mf_248 M) := by
  unfold mf_248
  exact mq_K_ite (fun hc => mq_K_B (mq_K_call mk_245 mq_kp_refl rfl) (fun _ M1 hM1 => mq_K_ret (mq_kp_pi (mq_kp_pi hM1 rfl) rfl))) (fun _ => mq_K_ret (mq_kp_pi (mq_kp_pi mq_kp_refl rfl) rfl))
-- 247: PlainPacksModel.writeBit
def mw_247 : List (Nat × Option Nat) := [(84, some 41), (84, some 42), (84, some 43), (100, none)]
theorem mk_247_j30 {s1 : Int32} {s2 : Int32} {M0 M : mm_M} (h : mq_kp mw_247 M0 M) : mq_K mw_247 M0 (mf_247_j30 s1 s2 M) := by
  unfold mf_247_j30
  exact mq_K_ite (fun hc => mq_K_B (mq_K_call mk_248 (mq_kp_pi (mq_kp_pi h rfl) rfl) rfl) (fun _ M1 hM1 => mq_K_ret hM1)) (fun _ => mq_K_ret (mq_kp_pi (mq_kp_pi h rfl) rfl))
theorem mk_247 {v1 : Int32} {M : mm_M} : mq_K mw_247 M (mf_247 v1 M) := by
  unfold mf_247
  exact mq_K_ite (fun hc => mk_247_j30 mq_kp_refl) (fun _ => mk_247_j30 mq_kp_refl)
-- 249: PlainPacksModel.writeBits
def mw_249 : List (Nat × Option Nat) := [(84, some 41), (84, some 42), (84, some 43), (100, none)]
theorem mk_249_j27 {v1 : Int64} {v3 : Int32} {v4 : Int32} {v5 : Int32} {s1 : Int64} {s2 : Int32} {M0 M : mm_M} (h : mq_kp mw_249 M0 M) : mq_K mw_249 M0 (mf_249_j27 v1 v3 v4 v5 s1 s2 M) := by
  unfold mf_249_j27
  exact mq_K_B (mq_K_call mk_247 h rfl) (fun _ M1 hM1 => mq_K_ret hM1)
theorem mk_249_b3 {v1 : Int64} {v3 : Int32} {v4 : Int32} {v5 : Int32} {M0 M : mm_M} (h : mq_kp mw_249 M0 M) : mq_K mw_249 M0 (mf_249_b3 v1 v3 v4 v5 M) := by
  unfold mf_249_b3
  exact mq_K_ite (fun hc => mq_K_ite (fun hc => mk_249_j27 h) (fun _ => mk_249_j27 h)) (fun _ => mq_K_ret h)
theorem mk_249_L3 {v1 : Int64} {v3 : Int32} {v4 : Int32} {s : Int32} {M0 M : mm_M} (h : mq_kp mw_249 M0 M) : mq_K mw_249 M0 (mf_249_L3 v1 v3 v4 s M) := by
  unfold mf_249_L3
  exact mq_K_L (fun s M h => mk_249_b3 h) h
theorem mk_249 {v1 : Int64} {v3 : Int32} {v4 : Int32} {M : mm_M} : mq_K mw_249 M (mf_249 v1 v3 v4 M) := by
  unfold mf_249
  exact mq_K_B (mk_249_L3 mq_kp_refl) (fun _ M1 hM1 => mq_K_ret hM1)
-- 250: PlainPacksModel.look
def mw_250 : List (Nat × Option Nat) := [(84, some 44), (84, some 45)]
theorem mk_250_b55 {v1 : Int32} {v3 : Int32} {v5 : Int32} {v6 : Int32} {v7 : Int32} {M0 M : mm_M} (h : mq_kp mw_250 M0 M) : mq_K mw_250 M0 (mf_250_b55 v1 v3 v5 v6 v7 M) := by
  unfold mf_250_b55
  exact mq_K_ite (fun hc => mq_K_ite (fun hc => mq_K_ite (fun hc => mq_K_ite (fun hc => mq_K_ret h) (fun _ => mq_K_ret h)) (fun _ => mq_K_none)) (fun _ => mq_K_none)) (fun _ => mq_K_ret h)
theorem mk_250_L55 {v1 : Int32} {v3 : Int32} {v5 : Int32} {v6 : Int32} {s : Int32} {M0 M : mm_M} (h : mq_kp mw_250 M0 M) : mq_K mw_250 M0 (mf_250_L55 v1 v3 v5 v6 s M) := by
  unfold mf_250_L55
  exact mq_K_L (fun s M h => mk_250_b55 h) h
theorem mk_250_j92 {v1 : Int32} {v3 : Int32} {v5 : Int32} {v6 : Int32} {v7 : Int32} {M0 M : mm_M} (h : mq_kp mw_250 M0 M) : mq_K mw_250 M0 (mf_250_j92 v1 v3 v5 v6 v7 M) := by
  unfold mf_250_j92
  exact mq_K_ite (fun hc => mq_K_ret (mq_kp_pi (mq_kp_pi h rfl) rfl)) (fun _ => mq_K_ret h)
theorem mk_250_b31 {v1 : Int32} {v3 : Int32} {v5 : Int32} {v6 : Int32} {M0 M : mm_M} (h : mq_kp mw_250 M0 M) : mq_K mw_250 M0 (mf_250_b31 v1 v3 v5 v6 M) := by
  unfold mf_250_b31
  exact mq_K_ite (fun hc => mq_K_ret h) (fun _ => mq_K_ite (fun hc => mq_K_ret h) (fun _ => mq_K_ite (fun hc => mq_K_B (mk_250_L55 h) (fun _ M1 hM1 => mk_250_j92 hM1)) (fun _ => mq_K_ret h)))
theorem mk_250_L31 {v1 : Int32} {v3 : Int32} {v5 : Int32} {s : Int32} {M0 M : mm_M} (h : mq_kp mw_250 M0 M) : mq_K mw_250 M0 (mf_250_L31 v1 v3 v5 s M) := by
  unfold mf_250_L31
  exact mq_K_L (fun s M h => mk_250_b31 h) h
theorem mk_250 {v1 : Int32} {v2 : Int32} {v3 : Int32} {v4 : Int32} {M : mm_M} : mq_K mw_250 M (mf_250 v1 v2 v3 v4 M) := by
  unfold mf_250
  exact mq_K_ite (fun hc => mq_K_B (mk_250_L31 (mq_kp_pi (mq_kp_pi mq_kp_refl rfl) rfl)) (fun _ M1 hM1 => mq_K_ret hM1)) (fun _ => mq_K_B (mk_250_L31 (mq_kp_pi (mq_kp_pi mq_kp_refl rfl) rfl)) (fun _ M11 hM11 => mq_K_ret hM11))
-- 253: PlainPacksModel.writeLetter
def mw_253 : List (Nat × Option Nat) := [(84, some 41), (84, some 42), (84, some 43), (100, none)]
theorem mk_253 {v1 : Int32} {M : mm_M} : mq_K mw_253 M (mf_253 v1 M) := by
  unfold mf_253
  exact mq_K_ite (fun hc => mq_K_ite (fun hc => mq_K_B (mq_K_call mk_249 mq_kp_refl rfl) (fun _ M1 hM1 => mq_K_ret hM1)) (fun _ => mq_K_none)) (fun _ => mq_K_none)
-- 255: PlainPacksModel.leastLength
def mw_255 : List (Nat × Option Nat) := []
theorem mk_255 {v0 : Int32} {M : mm_M} : mq_K mw_255 M (mf_255 v0 M) := by
  unfold mf_255
  exact mq_K_ite (fun hc => mq_K_ret mq_kp_refl) (fun _ => mq_K_ret mq_kp_refl)
-- 254: PlainPacksModel.letterOf
def mw_254 : List (Nat × Option Nat) := []
theorem mk_254_b15 {v0 : Int32} {v1 : Int32} {M0 M : mm_M} (h : mq_kp mw_254 M0 M) : mq_K mw_254 M0 (mf_254_b15 v0 v1 M) := by
  unfold mf_254_b15
  exact mq_K_ite (fun hc => mq_K_B (mq_K_call mk_255 h rfl) (fun _ M2 hM2 => mq_K_ite (fun hc => mq_K_ret hM2) (fun _ => mq_K_ret hM2))) (fun _ => mq_K_ret h)
theorem mk_254_L15 {v0 : Int32} {s : Int32} {M0 M : mm_M} (h : mq_kp mw_254 M0 M) : mq_K mw_254 M0 (mf_254_L15 v0 s M) := by
  unfold mf_254_L15
  exact mq_K_L (fun s M h => mk_254_b15 h) h
theorem mk_254 {v0 : Int32} {M : mm_M} : mq_K mw_254 M (mf_254 v0 M) := by
  unfold mf_254
  exact mq_K_ite (fun hc => mq_K_ret mq_kp_refl) (fun _ => mq_K_B (mk_254_L15 mq_kp_refl) (fun _ M1 hM1 => mq_K_ret hM1))
-- 258: PlainPacksModel.moreBits
def mw_258 : List (Nat × Option Nat) := []
theorem mk_258 {v0 : Int32} {M : mm_M} : mq_K mw_258 M (mf_258 v0 M) := by
  unfold mf_258
  exact mq_K_ite (fun hc => mq_K_ret mq_kp_refl) (fun _ => mq_K_ite (fun hc => mq_K_ret mq_kp_refl) (fun _ => mq_K_ret mq_kp_refl))
-- 256: PlainPacksModel.leastDistance
def mw_256 : List (Nat × Option Nat) := []
theorem mk_256 {v0 : Int32} {M : mm_M} : mq_K mw_256 M (mf_256 v0 M) := by
  unfold mf_256
  exact mq_K_ite (fun hc => mq_K_ret mq_kp_refl) (fun _ => mq_K_ret mq_kp_refl)
-- 257: PlainPacksModel.distanceLetter
def mw_257 : List (Nat × Option Nat) := []
theorem mk_257_b2 {v0 : Int32} {v1 : Int32} {M0 M : mm_M} (h : mq_kp mw_257 M0 M) : mq_K mw_257 M0 (mf_257_b2 v0 v1 M) := by
  unfold mf_257_b2
  exact mq_K_ite (fun hc => mq_K_B (mq_K_call mk_256 h rfl) (fun _ M2 hM2 => mq_K_ite (fun hc => mq_K_ret hM2) (fun _ => mq_K_ret hM2))) (fun _ => mq_K_ret h)
theorem mk_257_L2 {v0 : Int32} {s : Int32} {M0 M : mm_M} (h : mq_kp mw_257 M0 M) : mq_K mw_257 M0 (mf_257_L2 v0 s M) := by
  unfold mf_257_L2
  exact mq_K_L (fun s M h => mk_257_b2 h) h
theorem mk_257 {v0 : Int32} {M : mm_M} : mq_K mw_257 M (mf_257 v0 M) := by
  unfold mf_257
  exact mq_K_B (mk_257_L2 mq_kp_refl) (fun _ M1 hM1 => mq_K_ret hM1)
-- 259: PlainPacksModel.moreFar
def mw_259 : List (Nat × Option Nat) := []
theorem mk_259 {v0 : Int32} {M : mm_M} : mq_K mw_259 M (mf_259 v0 M) := by
  unfold mf_259
  exact mq_K_ite (fun hc => mq_K_ret mq_kp_refl) (fun _ => mq_K_ret mq_kp_refl)
-- 260: PlainPacksModel.packBlock
def mw_260 : List (Nat × Option Nat) := [(84, some 13), (84, some 20), (84, some 21), (84, some 41), (84, some 42), (84, some 43), (84, some 44), (84, some 45), (87, none), (88, none), (100, none)]
theorem mk_260_j106 {v1 : Int32} {v2 : Int32} {s1 : Int64} {M0 M : mm_M} (h : mq_kp mw_260 M0 M) : mq_K mw_260 M0 (mf_260_j106 v1 v2 s1 M) := by
  unfold mf_260_j106
  exact mq_K_B (mq_K_call mk_258 h rfl) (fun _ M2 hM2 => mq_K_B (mq_K_call mk_249 hM2 rfl) (fun _ M3 hM3 => mq_K_B (mq_K_call mk_257 hM3 rfl) (fun _ M5 hM5 => mq_K_B (mq_K_call mk_249 hM5 rfl) (fun _ M6 hM6 => mq_K_B (mq_K_call mk_256 hM6 rfl) (fun _ M8 hM8 => mq_K_B (mq_K_call mk_259 hM8 rfl) (fun _ M10 hM10 => mq_K_B (mq_K_call mk_249 hM10 rfl) (fun _ M11 hM11 => mq_K_ret hM11)))))))
theorem mk_260_b25 {v1 : Int32} {M0 M : mm_M} (h : mq_kp mw_260 M0 M) : mq_K mw_260 M0 (mf_260_b25 v1 M) := by
  unfold mf_260_b25
  exact mq_K_ite (fun hc => mq_K_B (mq_K_call mk_250 h rfl) (fun _ M1 hM1 => mq_K_ite (fun hc => mq_K_ite (fun hc => mq_K_B (mq_K_call mk_253 hM1 rfl) (fun _ M2 hM2 => mq_K_ret hM2)) (fun _ => mq_K_none)) (fun _ => mq_K_B (mq_K_call mk_254 hM1 rfl) (fun _ M4 hM4 => mq_K_B (mq_K_call mk_253 hM4 rfl) (fun _ M5 hM5 => mq_K_ite (fun hc => mk_260_j106 hM5) (fun _ => mq_K_B (mq_K_call mk_255 hM5 rfl) (fun _ M7 hM7 => mk_260_j106 hM7))))))) (fun _ => mq_K_ret h)
theorem mk_260_L25 {s : Int32} {M0 M : mm_M} (h : mq_kp mw_260 M0 M) : mq_K mw_260 M0 (mf_260_L25 s M) := by
  unfold mf_260_L25
  exact mq_K_L (fun s M h => mk_260_b25 h) h
theorem mk_260_j159 {M0 M : mm_M} (h : mq_kp mw_260 M0 M) : mq_K mw_260 M0 (mf_260_j159 M) := by
  unfold mf_260_j159
  exact mq_K_B (mq_K_call mk_253 h rfl) (fun _ M1 hM1 => mq_K_B (mq_K_call mk_248 hM1 rfl) (fun _ M2 hM2 => mq_K_ret hM2))
theorem mk_260 {M : mm_M} : mq_K mw_260 M (mf_260 M) := by
  unfold mf_260
  exact mq_K_B (mq_K_call mk_205 (mq_kp_pi mq_kp_refl rfl) rfl) (fun _ M1 hM1 => mq_K_B (mq_K_call mk_249 hM1 rfl) (fun _ M2 hM2 => mq_K_B (mq_K_call mk_249 hM2 rfl) (fun _ M3 hM3 => mq_K_B (mk_260_L25 hM3) (fun _ M4 hM4 => mk_260_j159 hM4))))
-- 246: PlainPacksModel.writeLow
def mw_246 : List (Nat × Option Nat) := [(84, some 41), (100, none)]
theorem mk_246_b3 {v1 : Int64} {v3 : Int32} {v4 : Int32} {M0 M : mm_M} (h : mq_kp mw_246 M0 M) : mq_K mw_246 M0 (mf_246_b3 v1 v3 v4 M) := by
  unfold mf_246_b3
  exact mq_K_ite (fun hc => mq_K_B (mq_K_call mk_245 h rfl) (fun _ M1 hM1 => mq_K_ret hM1)) (fun _ => mq_K_ret h)
theorem mk_246_L3 {v1 : Int64} {v3 : Int32} {s : Int32} {M0 M : mm_M} (h : mq_kp mw_246 M0 M) : mq_K mw_246 M0 (mf_246_L3 v1 v3 s M) := by
  unfold mf_246_L3
  exact mq_K_L (fun s M h => mk_246_b3 h) h
theorem mk_246 {v1 : Int64} {v3 : Int32} {M : mm_M} : mq_K mw_246 M (mf_246 v1 v3 M) := by
  unfold mf_246
  exact mq_K_B (mk_246_L3 mq_kp_refl) (fun _ M1 hM1 => mq_K_ret hM1)
-- 285: PlainPacksModel.packBlocks
def mw_285 : List (Nat × Option Nat) := [(84, some 13), (84, some 20), (84, some 21), (84, some 41), (84, some 42), (84, some 43), (84, some 44), (84, some 45), (87, none), (88, none), (100, none)]
theorem mk_285_b42 {v1 : Int32} {v2 : Int32} {M0 M : mm_M} (h : mq_kp mw_285 M0 M) : mq_K mw_285 M0 (mf_285_b42 v1 v2 M) := by
  unfold mf_285_b42
  exact mq_K_ite (fun hc => mq_K_B (mq_K_call mk_245 h rfl) (fun _ M1 hM1 => mq_K_ret hM1)) (fun _ => mq_K_ret h)
theorem mk_285_L42 {v1 : Int32} {s : Int32} {M0 M : mm_M} (h : mq_kp mw_285 M0 M) : mq_K mw_285 M0 (mf_285_L42 v1 s M) := by
  unfold mf_285_L42
  exact mq_K_L (fun s M h => mk_285_b42 h) h
theorem mk_285_b91 {v1 : Int32} {v2 : Int32} {v3 : Int32} {M0 M : mm_M} (h : mq_kp mw_285 M0 M) : mq_K mw_285 M0 (mf_285_b91 v1 v2 v3 M) := by
  unfold mf_285_b91
  exact mq_K_ite (fun hc => mq_K_ret h) (fun _ => mq_K_B (mq_K_call mk_245 h rfl) (fun _ M1 hM1 => mq_K_ret hM1))
theorem mk_285_L91 {v1 : Int32} {v2 : Int32} {s : Int32} {M0 M : mm_M} (h : mq_kp mw_285 M0 M) : mq_K mw_285 M0 (mf_285_L91 v1 v2 s M) := by
  unfold mf_285_L91
  exact mq_K_L (fun s M h => mk_285_b91 h) h
theorem mk_285_j112 {v1 : Int32} {M0 M : mm_M} (h : mq_kp mw_285 M0 M) : mq_K mw_285 M0 (mf_285_j112 v1 M) := by
  unfold mf_285_j112
  exact mq_K_ite (fun hc => mq_K_B (mq_K_call mk_182 h rfl) (fun _ M2 hM2 => mq_K_B (mq_K_call mk_246 hM2 rfl) (fun _ M3 hM3 => mq_K_B (mq_K_call mk_246 hM3 rfl) (fun _ M4 hM4 => mq_K_ret hM4)))) (fun _ => mq_K_ret h)
theorem mk_285_j66 {v1 : Int32} {M0 M : mm_M} (h : mq_kp mw_285 M0 M) : mq_K mw_285 M0 (mf_285_j66 v1 M) := by
  unfold mf_285_j66
  exact mq_K_B (mq_K_call mk_260 h rfl) (fun _ M1 hM1 => mq_K_ite (fun hc => mq_K_B (mq_K_call mk_184 hM1 rfl) (fun _ M3 hM3 => mq_K_B (mk_285_L91 hM3) (fun _ M4 hM4 => mk_285_j112 hM4))) (fun _ => mk_285_j112 hM1))
theorem mk_285_j59 {v1 : Int32} {M0 M : mm_M} (h : mq_kp mw_285 M0 M) : mq_K mw_285 M0 (mf_285_j59 v1 M) := by
  unfold mf_285_j59
  exact mq_K_B (mq_K_call mk_245 h rfl) (fun _ M1 hM1 => mk_285_j66 hM1)
theorem mk_285_j16 {v1 : Int32} {M0 M : mm_M} (h : mq_kp mw_285 M0 M) : mq_K mw_285 M0 (mf_285_j16 v1 M) := by
  unfold mf_285_j16
  exact mq_K_ite (fun hc => mq_K_B (mq_K_call mk_245 h rfl) (fun _ M1 hM1 => mq_K_B (mq_K_call mk_245 hM1 rfl) (fun _ M2 hM2 => mq_K_B (mq_K_call mk_245 hM2 rfl) (fun _ M3 hM3 => mq_K_B (mk_285_L42 hM3) (fun _ M4 hM4 => mk_285_j59 hM4))))) (fun _ => mk_285_j66 h)
theorem mk_285 {v1 : Int32} {M : mm_M} : mq_K mw_285 M (mf_285 v1 M) := by
  unfold mf_285
  exact mq_K_ite (fun hc => mq_K_B (mq_K_call mk_245 mq_kp_refl rfl) (fun _ M1 hM1 => mq_K_B (mq_K_call mk_245 hM1 rfl) (fun _ M2 hM2 => mk_285_j16 hM2))) (fun _ => mk_285_j16 mq_kp_refl)
-- 262: PlainPacksModel.stands
def mw_262 : List (Nat × Option Nat) := []
theorem mk_262_b20 {v1 : Int32} {v2 : Int32} {v3 : Int32} {v4 : Int32} {v5 : Int32} {M0 M : mm_M} (h : mq_kp mw_262 M0 M) : mq_K mw_262 M0 (mf_262_b20 v1 v2 v3 v4 v5 M) := by
  unfold mf_262_b20
  exact mq_K_ite (fun hc => mq_K_ite (fun hc => mq_K_ret h) (fun _ => mq_K_ite (fun hc => mq_K_ite (fun hc => mq_K_ite (fun hc => mq_K_ret h) (fun _ => mq_K_ret h)) (fun _ => mq_K_none)) (fun _ => mq_K_none))) (fun _ => mq_K_ret h)
theorem mk_262_L20 {v1 : Int32} {v2 : Int32} {v3 : Int32} {s : Int32 × Int32} {M0 M : mm_M} (h : mq_kp mw_262 M0 M) : mq_K mw_262 M0 (mf_262_L20 v1 v2 v3 s M) := by
  unfold mf_262_L20
  exact mq_K_L (fun s M h => mk_262_b20 h) h
theorem mk_262 {v1 : Int32} {v2 : Int32} {v3 : Int32} {M : mm_M} : mq_K mw_262 M (mf_262 v1 v2 v3 M) := by
  unfold mf_262
  exact mq_K_ite (fun hc => mq_K_B (mk_262_L20 mq_kp_refl) (fun _ M1 hM1 => mq_K_ite (fun hc => mq_K_ret hM1) (fun _ => mq_K_none))) (fun _ => mq_K_B (mk_262_L20 mq_kp_refl) (fun _ M8 hM8 => mq_K_ite (fun hc => mq_K_ret hM8) (fun _ => mq_K_none)))
-- 261: PlainPacksModel.packWords
def mw_261 : List (Nat × Option Nat) := [(84, some 41), (84, some 42), (84, some 43), (91, none), (92, none), (100, none)]
theorem mk_261_b94 {v2 : Int32} {v3 : Int32} {v4 : Int32} {v5 : Int32} {v8 : Int32} {v9 : Int32} {v10 : Int32} {v11 : Int32} {M0 M : mm_M} (h : mq_kp mw_261 M0 M) : mq_K mw_261 M0 (mf_261_b94 v2 v3 v4 v5 v8 v9 v10 v11 M) := by
  unfold mf_261_b94
  exact mq_K_ite (fun hc => mq_K_ite (fun hc => mq_K_ite (fun hc => mq_K_ite (fun hc => mq_K_ite (fun hc => mq_K_B (mq_K_call mk_262 h rfl) (fun _ M2 hM2 => mq_K_ite (fun hc => mq_K_ret hM2) (fun _ => mq_K_ite (fun hc => mq_K_ret hM2) (fun _ => mq_K_none)))) (fun _ => mq_K_none)) (fun _ => mq_K_none)) (fun _ => mq_K_ret h)) (fun _ => mq_K_none)) (fun _ => mq_K_ret h)
theorem mk_261_L94 {v2 : Int32} {v3 : Int32} {v4 : Int32} {v5 : Int32} {v8 : Int32} {s : Int32 × Int32 × Int32} {M0 M : mm_M} (h : mq_kp mw_261 M0 M) : mq_K mw_261 M0 (mf_261_L94 v2 v3 v4 v5 v8 s M) := by
  unfold mf_261_L94
  exact mq_K_L (fun s M h => mk_261_b94 h) h
theorem mk_261_j200 {v2 : Int32} {v3 : Int32} {v4 : Int32} {v5 : Int32} {v6 : Int32} {v7 : Int32} {v8 : Int32} {s0 : Int32} {s1 : Int32} {s2 : Int32} {M0 M : mm_M} (h : mq_kp mw_261 M0 M) : mq_K mw_261 M0 (mf_261_j200 v2 v3 v4 v5 v6 v7 v8 s0 s1 s2 M) := by
  unfold mf_261_j200
  exact mq_K_ite (fun hc => mq_K_ret h) (fun _ => mq_K_ret h)
theorem mk_261_j155 {v2 : Int32} {v3 : Int32} {v4 : Int32} {v5 : Int32} {v8 : Int32} {v9 : Int32} {v10 : Int32} {M0 M : mm_M} (h : mq_kp mw_261 M0 M) : mq_K mw_261 M0 (mf_261_j155 v2 v3 v4 v5 v8 v9 v10 M) := by
  unfold mf_261_j155
  exact mq_K_B (mq_K_call mk_249 h rfl) (fun _ M1 hM1 => mq_K_ite (fun hc => mq_K_ite (fun hc => mk_261_j200 hM1) (fun _ => mk_261_j200 hM1)) (fun _ => mq_K_ret hM1))
theorem mk_261_j77 {v2 : Int32} {v3 : Int32} {v4 : Int32} {v5 : Int32} {v8 : Int32} {M0 M : mm_M} (h : mq_kp mw_261 M0 M) : mq_K mw_261 M0 (mf_261_j77 v2 v3 v4 v5 v8 M) := by
  unfold mf_261_j77
  exact mq_K_ite (fun hc => mq_K_B (mk_261_L94 h) (fun _ M1 hM1 => mk_261_j155 hM1)) (fun _ => mq_K_none)
theorem mk_261_b32 {v2 : Int32} {v3 : Int32} {v4 : Int32} {v5 : Int32} {v6 : Int32} {v7 : Int32} {v8 : Int32} {M0 M : mm_M} (h : mq_kp mw_261 M0 M) : mq_K mw_261 M0 (mf_261_b32 v2 v3 v4 v5 v6 v7 v8 M) := by
  unfold mf_261_b32
  exact mq_K_ite (fun hc => mq_K_ite (fun hc => mq_K_ite (fun hc => mq_K_ite (fun hc => mq_K_ite (fun hc => mk_261_j77 (mq_kp_pi (mq_kp_pi h rfl) rfl)) (fun _ => mq_K_none)) (fun _ => mq_K_none)) (fun _ => mk_261_j77 h)) (fun _ => mk_261_j77 h)) (fun _ => mq_K_ret h)
theorem mk_261_L32 {v2 : Int32} {v3 : Int32} {s : Int32 × Int32 × Int32 × Int32 × Int32} {M0 M : mm_M} (h : mq_kp mw_261 M0 M) : mq_K mw_261 M0 (mf_261_L32 v2 v3 s M) := by
  unfold mf_261_L32
  exact mq_K_L (fun s M h => mk_261_b32 h) h
theorem mk_261_j219 {v2 : Int32} {v3 : Int32} {v4 : Int32} {M0 M : mm_M} (h : mq_kp mw_261 M0 M) : mq_K mw_261 M0 (mf_261_j219 v2 v3 v4 M) := by
  unfold mf_261_j219
  exact mq_K_B (mq_K_call mk_249 h rfl) (fun _ M1 hM1 => mq_K_B (mq_K_call mk_248 hM1 rfl) (fun _ M2 hM2 => mq_K_ret hM2))
theorem mk_261 {v1 : Int32} {v2 : Int32} {M : mm_M} : mq_K mw_261 M (mf_261 v1 v2 M) := by
  unfold mf_261
  exact mq_K_B (mq_K_call mk_249 mq_kp_refl rfl) (fun _ M1 hM1 => mq_K_B (mk_261_L32 hM1) (fun _ M2 hM2 => mk_261_j219 hM2))
-- 263: PlainPacksModel.writeGrown
def mw_263 : List (Nat × Option Nat) := [(84, some 41), (100, none)]
theorem mk_263_b5 {v2 : Int32} {M0 M : mm_M} (h : mq_kp mw_263 M0 M) : mq_K mw_263 M0 (mf_263_b5 v2 M) := by
  unfold mf_263_b5
  exact mq_K_ite (fun hc => mq_K_ret h) (fun _ => mq_K_B (mq_K_call mk_245 h rfl) (fun _ M1 hM1 => mq_K_ret hM1))
theorem mk_263_L5 {s : Int32} {M0 M : mm_M} (h : mq_kp mw_263 M0 M) : mq_K mw_263 M0 (mf_263_L5 s M) := by
  unfold mf_263_L5
  exact mq_K_L (fun s M h => mk_263_b5 h) h
theorem mk_263_j28 {v2 : Int32} {M0 M : mm_M} (h : mq_kp mw_263 M0 M) : mq_K mw_263 M0 (mf_263_j28 v2 M) := by
  unfold mf_263_j28
  exact mq_K_ite (fun hc => mq_K_ret h) (fun _ => mq_K_B (mq_K_call mk_245 h rfl) (fun _ M1 hM1 => mq_K_ret hM1))
theorem mk_263 {v1 : Int32} {M : mm_M} : mq_K mw_263 M (mf_263 v1 M) := by
  unfold mf_263
  exact mq_K_B (mk_263_L5 mq_kp_refl) (fun _ M1 hM1 => mk_263_j28 hM1)
-- 264: PlainPacksModel.writePiece
def mw_264 : List (Nat × Option Nat) := [(84, some 41), (100, none)]
theorem mk_264_b62 {v2 : Int32} {v3 : Int32} {v4 : Int32} {v6 : Int32} {v7 : Int32} {M0 M : mm_M} (h : mq_kp mw_264 M0 M) : mq_K mw_264 M0 (mf_264_b62 v2 v3 v4 v6 v7 M) := by
  unfold mf_264_b62
  exact mq_K_ite (fun hc => mq_K_ite (fun hc => mq_K_B (mq_K_call mk_245 h rfl) (fun _ M1 hM1 => mq_K_ret hM1)) (fun _ => mq_K_none)) (fun _ => mq_K_ret h)
theorem mk_264_L62 {v2 : Int32} {v3 : Int32} {v4 : Int32} {v6 : Int32} {s : Int32} {M0 M : mm_M} (h : mq_kp mw_264 M0 M) : mq_K mw_264 M0 (mf_264_L62 v2 v3 v4 v6 s M) := by
  unfold mf_264_L62
  exact mq_K_L (fun s M h => mk_264_b62 h) h
theorem mk_264_j85 {v3 : Int32} {v4 : Int32} {v6 : Int32} {M0 M : mm_M} (h : mq_kp mw_264 M0 M) : mq_K mw_264 M0 (mf_264_j85 v3 v4 v6 M) := by
  unfold mf_264_j85
  exact mq_K_ite (fun hc => mq_K_B (mq_K_call mk_246 h rfl) (fun _ M1 hM1 => mq_K_B (mq_K_call mk_263 hM1 rfl) (fun _ M2 hM2 => mq_K_ret hM2))) (fun _ => mq_K_ret h)
theorem mk_264_j49 {v1 : Int32} {v2 : Int32} {v3 : Int32} {v4 : Int32} {v5 : Int32} {v6 : Int32} {s1 : Int32} {s2 : Int32} {M0 M : mm_M} (h : mq_kp mw_264 M0 M) : mq_K mw_264 M0 (mf_264_j49 v1 v2 v3 v4 v5 v6 s1 s2 M) := by
  unfold mf_264_j49
  exact mq_K_B (mq_K_call mk_245 h rfl) (fun _ M1 hM1 => mq_K_B (mq_K_call mk_263 hM1 rfl) (fun _ M2 hM2 => mq_K_B (mk_264_L62 hM2) (fun _ M3 hM3 => mk_264_j85 hM3)))
theorem mk_264_j25 {v1 : Int32} {v2 : Int32} {v3 : Int32} {v4 : Int32} {v5 : Int32} {v6 : Int32} {s1 : Int32} {M0 M : mm_M} (h : mq_kp mw_264 M0 M) : mq_K mw_264 M0 (mf_264_j25 v1 v2 v3 v4 v5 v6 s1 M) := by
  unfold mf_264_j25
  exact mq_K_ite (fun hc => mk_264_j49 h) (fun _ => mq_K_ite (fun hc => mk_264_j49 h) (fun _ => mk_264_j49 h))
theorem mk_264 {v1 : Int32} {v2 : Int32} {v3 : Int32} {v4 : Int32} {M : mm_M} : mq_K mw_264 M (mf_264 v1 v2 v3 v4 M) := by
  unfold mf_264
  exact mq_K_ite (fun hc => mk_264_j25 mq_kp_refl) (fun _ => mk_264_j25 mq_kp_refl)
-- 265: PlainPacksModel.packPieces
def mw_265 : List (Nat × Option Nat) := [(84, some 41), (84, some 44), (84, some 45), (100, none)]
theorem mk_265_b4 {v1 : Int32} {v2 : Int32} {M0 M : mm_M} (h : mq_kp mw_265 M0 M) : mq_K mw_265 M0 (mf_265_b4 v1 v2 M) := by
  unfold mf_265_b4
  exact mq_K_ite (fun hc => mq_K_ret h) (fun _ => mq_K_B (mq_K_call mk_250 h rfl) (fun _ M1 hM1 => mq_K_ite (fun hc => mq_K_ret hM1) (fun _ => mq_K_B (mq_K_call mk_264 hM1 rfl) (fun _ M2 hM2 => mq_K_ret hM2))))
theorem mk_265_L4 {s : Int32 × Int32} {M0 M : mm_M} (h : mq_kp mw_265 M0 M) : mq_K mw_265 M0 (mf_265_L4 s M) := by
  unfold mf_265_L4
  exact mq_K_L (fun s M h => mk_265_b4 h) h
theorem mk_265_j71 {v1 : Int32} {M0 M : mm_M} (h : mq_kp mw_265 M0 M) : mq_K mw_265 M0 (mf_265_j71 v1 M) := by
  unfold mf_265_j71
  exact mq_K_B (mq_K_call mk_264 h rfl) (fun _ M1 hM1 => mq_K_ret hM1)
theorem mk_265 {M : mm_M} : mq_K mw_265 M (mf_265 M) := by
  unfold mf_265
  exact mq_K_B (mk_265_L4 mq_kp_refl) (fun _ M1 hM1 => mk_265_j71 hM1)
-- 267: PlainPacksModel.writeTape
def mw_267 : List (Nat × Option Nat) := [(84, some 41), (100, none)]
theorem mk_267_b2 {v2 : Int32} {v3 : Int32} {M0 M : mm_M} (h : mq_kp mw_267 M0 M) : mq_K mw_267 M0 (mf_267_b2 v2 v3 M) := by
  unfold mf_267_b2
  exact mq_K_ite (fun hc => mq_K_ite (fun hc => mq_K_B (mq_K_call mk_245 h rfl) (fun _ M1 hM1 => mq_K_ret hM1)) (fun _ => mq_K_none)) (fun _ => mq_K_ret h)
theorem mk_267_L2 {v2 : Int32} {s : Int32} {M0 M : mm_M} (h : mq_kp mw_267 M0 M) : mq_K mw_267 M0 (mf_267_L2 v2 s M) := by
  unfold mf_267_L2
  exact mq_K_L (fun s M h => mk_267_b2 h) h
theorem mk_267 {v1 : Int32} {v2 : Int32} {M : mm_M} : mq_K mw_267 M (mf_267 v1 v2 M) := by
  unfold mf_267
  exact mq_K_B (mk_267_L2 mq_kp_refl) (fun _ M1 hM1 => mq_K_ret hM1)
-- 266: PlainPacksModel.packFrame
def mw_266 : List (Nat × Option Nat) := [(84, some 41), (84, some 44), (84, some 45), (100, none)]
theorem mk_266_j154 {M0 M : mm_M} (h : mq_kp mw_266 M0 M) : mq_K mw_266 M0 (mf_266_j154 M) := by
  unfold mf_266_j154
  exact mq_K_B (mq_K_call mk_246 h rfl) (fun _ M1 hM1 => mq_K_B (mq_K_call mk_188 hM1 rfl) (fun _ M3 hM3 => mq_K_B (mq_K_call mk_246 hM3 rfl) (fun _ M4 hM4 => mq_K_ret hM4)))
theorem mk_266_j124 {v2 : Int32} {v3 : Int32} {s1 : Int64} {M0 M : mm_M} (h : mq_kp mw_266 M0 M) : mq_K mw_266 M0 (mf_266_j124 v2 v3 s1 M) := by
  unfold mf_266_j124
  exact mq_K_B (mq_K_call mk_246 h rfl) (fun _ M1 hM1 => mq_K_ite (fun hc => mk_266_j154 (mq_kp_pi hM1 rfl)) (fun _ => mq_K_B (mq_K_call mk_267 hM1 rfl) (fun _ M2 hM2 => mk_266_j154 hM2)))
theorem mk_266_j99 {v1 : Int32} {v2 : Int32} {s0 : Int32} {M0 M : mm_M} (h : mq_kp mw_266 M0 M) : mq_K mw_266 M0 (mf_266_j99 v1 v2 s0 M) := by
  unfold mf_266_j99
  exact mq_K_ite (fun hc => mk_266_j124 (mq_kp_pi h rfl)) (fun _ => mk_266_j124 (mq_kp_pi h rfl))
theorem mk_266 {M : mm_M} : mq_K mw_266 M (mf_266 M) := by
  unfold mf_266
  exact mq_K_B (mq_K_call mk_245 mq_kp_refl rfl) (fun _ M1 hM1 => mq_K_B (mq_K_call mk_245 hM1 rfl) (fun _ M2 hM2 => mq_K_B (mq_K_call mk_245 hM2 rfl) (fun _ M3 hM3 => mq_K_B (mq_K_call mk_245 hM3 rfl) (fun _ M4 hM4 => mq_K_B (mq_K_call mk_245 hM4 rfl) (fun _ M5 hM5 => mq_K_B (mq_K_call mk_245 hM5 rfl) (fun _ M6 hM6 => mq_K_B (mq_K_call mk_188 hM6 rfl) (fun _ M8 hM8 => mq_K_B (mq_K_call mk_245 hM8 rfl) (fun _ M9 hM9 => mq_K_ite (fun hc => mq_K_B (mq_K_call mk_246 hM9 rfl) (fun _ M10 hM10 => mq_K_B (mq_K_call mk_265 hM10 rfl) (fun _ M11 hM11 => mq_K_ite (fun hc => mk_266_j99 hM11) (fun _ => mk_266_j99 hM11)))) (fun _ => mk_266_j154 hM9)))))))))
-- 268: PlainPacksModel.writeTag
def mw_268 : List (Nat × Option Nat) := [(84, some 41), (100, none)]
theorem mk_268_j63 {v1 : Int32} {v2 : Int32} {M0 M : mm_M} (h : mq_kp mw_268 M0 M) : mq_K mw_268 M0 (mf_268_j63 v1 v2 M) := by
  unfold mf_268_j63
  exact mq_K_B (mq_K_call mk_267 h rfl) (fun _ M1 hM1 => mq_K_ret hM1)
theorem mk_268 {v1 : Int32} {v2 : Int32} {M : mm_M} : mq_K mw_268 M (mf_268 v1 v2 M) := by
  unfold mf_268
  exact mq_K_ite (fun hc => mq_K_ret mq_kp_refl) (fun _ => mq_K_ite (fun hc => mq_K_B (mq_K_call mk_245 mq_kp_refl rfl) (fun _ M1 hM1 => mk_268_j63 hM1)) (fun _ => mq_K_ite (fun hc => mq_K_B (mq_K_call mk_245 mq_kp_refl rfl) (fun _ M2 hM2 => mq_K_B (mq_K_call mk_245 hM2 rfl) (fun _ M3 hM3 => mk_268_j63 hM3))) (fun _ => mq_K_B (mq_K_call mk_245 mq_kp_refl rfl) (fun _ M4 hM4 => mq_K_B (mq_K_call mk_246 hM4 rfl) (fun _ M5 hM5 => mk_268_j63 hM5)))))
-- 269: PlainPacksModel.packTags
def mw_269 : List (Nat × Option Nat) := [(84, some 41), (84, some 44), (84, some 45), (100, none)]
theorem mk_269_b5 {v1 : Int32} {M0 M : mm_M} (h : mq_kp mw_269 M0 M) : mq_K mw_269 M0 (mf_269_b5 v1 M) := by
  unfold mf_269_b5
  exact mq_K_ite (fun hc => mq_K_B (mq_K_call mk_245 h rfl) (fun _ M1 hM1 => mq_K_ret hM1)) (fun _ => mq_K_ret h)
theorem mk_269_L5 {s : Int32} {M0 M : mm_M} (h : mq_kp mw_269 M0 M) : mq_K mw_269 M0 (mf_269_L5 s M) := by
  unfold mf_269_L5
  exact mq_K_L (fun s M h => mk_269_b5 h) h
theorem mk_269_b40 {v2 : Int32} {v3 : Int32} {M0 M : mm_M} (h : mq_kp mw_269 M0 M) : mq_K mw_269 M0 (mf_269_b40 v2 v3 M) := by
  unfold mf_269_b40
  exact mq_K_ite (fun hc => mq_K_B (mq_K_call mk_250 h rfl) (fun _ M1 hM1 => mq_K_ite (fun hc => mq_K_ret hM1) (fun _ => mq_K_B (mq_K_call mk_268 hM1 rfl) (fun _ M2 hM2 => mq_K_B (mq_K_call mk_245 hM2 rfl) (fun _ M3 hM3 => mq_K_B (mq_K_call mk_246 hM3 rfl) (fun _ M4 hM4 => mq_K_ret hM4)))))) (fun _ => mq_K_ret h)
theorem mk_269_L40 {s : Int32 × Int32} {M0 M : mm_M} (h : mq_kp mw_269 M0 M) : mq_K mw_269 M0 (mf_269_L40 s M) := by
  unfold mf_269_L40
  exact mq_K_L (fun s M h => mk_269_b40 h) h
theorem mk_269_j117 {v2 : Int32} {M0 M : mm_M} (h : mq_kp mw_269 M0 M) : mq_K mw_269 M0 (mf_269_j117 v2 M) := by
  unfold mf_269_j117
  exact mq_K_B (mq_K_call mk_268 h rfl) (fun _ M1 hM1 => mq_K_ret hM1)
theorem mk_269_j31 {v1 : Int32} {M0 M : mm_M} (h : mq_kp mw_269 M0 M) : mq_K mw_269 M0 (mf_269_j31 v1 M) := by
  unfold mf_269_j31
  exact mq_K_B (mq_K_call mk_245 h rfl) (fun _ M1 hM1 => mq_K_B (mk_269_L40 hM1) (fun _ M2 hM2 => mk_269_j117 hM2))
theorem mk_269 {M : mm_M} : mq_K mw_269 M (mf_269 M) := by
  unfold mf_269
  exact mq_K_B (mk_269_L5 mq_kp_refl) (fun _ M1 hM1 => mk_269_j31 hM1)
-- 275: PlainPacksModel.counted
def mw_275 : List (Nat × Option Nat) := [(102, none)]
theorem mk_275_b24 {v1 : Int32} {v2 : Int32} {v3 : Int32} {v4 : Int32} {M0 M : mm_M} (h : mq_kp mw_275 M0 M) : mq_K mw_275 M0 (mf_275_b24 v1 v2 v3 v4 M) := by
  unfold mf_275_b24
  exact mq_K_ite (fun hc => mq_K_ite (fun hc => mq_K_ite (fun hc => mq_K_ite (fun hc => mq_K_ret (mq_kp_pi h rfl)) (fun _ => mq_K_none)) (fun _ => mq_K_none)) (fun _ => mq_K_ret h)) (fun _ => mq_K_ret h)
theorem mk_275_L24 {v2 : Int32} {v3 : Int32} {s : Int32 × Int32} {M0 M : mm_M} (h : mq_kp mw_275 M0 M) : mq_K mw_275 M0 (mf_275_L24 v2 v3 s M) := by
  unfold mf_275_L24
  exact mq_K_L (fun s M h => mk_275_b24 h) h
theorem mk_275_j57 {v1 : Int32} {v2 : Int32} {v3 : Int32} {M0 M : mm_M} (h : mq_kp mw_275 M0 M) : mq_K mw_275 M0 (mf_275_j57 v1 v2 v3 M) := by
  unfold mf_275_j57
  exact mq_K_ite (fun hc => mq_K_ite (fun hc => mq_K_ret (mq_kp_pi h rfl)) (fun _ => mq_K_none)) (fun _ => mq_K_ret h)
theorem mk_275_b4 {v1 : Int32} {v2 : Int32} {M0 M : mm_M} (h : mq_kp mw_275 M0 M) : mq_K mw_275 M0 (mf_275_b4 v1 v2 M) := by
  unfold mf_275_b4
  exact mq_K_ite (fun hc => mq_K_B (mq_K_call mk_251 h rfl) (fun _ M2 hM2 => mq_K_B (mk_275_L24 hM2) (fun _ M3 hM3 => mk_275_j57 hM3))) (fun _ => mq_K_ret h)
theorem mk_275_L4 {s : Int32 × Int32} {M0 M : mm_M} (h : mq_kp mw_275 M0 M) : mq_K mw_275 M0 (mf_275_L4 s M) := by
  unfold mf_275_L4
  exact mq_K_L (fun s M h => mk_275_b4 h) h
theorem mk_275 {M : mm_M} : mq_K mw_275 M (mf_275 M) := by
  unfold mf_275
  exact mq_K_B (mk_275_L4 mq_kp_refl) (fun _ M1 hM1 => mq_K_ret hM1)
-- 270: PlainPacksModel.compare
def mw_270 : List (Nat × Option Nat) := []
theorem mk_270 {v1 : Int32} {v2 : Int32} {v3 : Int32} {v4 : Int32} {M : mm_M} : mq_K mw_270 M (mf_270 v1 v2 v3 v4 M) := by
  unfold mf_270
  exact mq_K_ite (fun hc => mq_K_ite (fun hc => mq_K_ite (fun hc => mq_K_ite (fun hc => mq_K_ite (fun hc => mq_K_ite (fun hc => mq_K_ite (fun hc => mq_K_ret mq_kp_refl) (fun _ => mq_K_none)) (fun _ => mq_K_none)) (fun _ => mq_K_none)) (fun _ => mq_K_none)) (fun _ => mq_K_ret mq_kp_refl)) (fun _ => mq_K_none)) (fun _ => mq_K_none)
-- 272: PlainPacksModel.mergeBy
def mw_272 : List (Nat × Option Nat) := [(106, none)]
theorem mk_272_j100 {v2 : Int32} {v3 : Int32} {v4 : Int32} {v5 : Int32} {v7 : Int32} {v8 : Int32} {v9 : Int32} {s0 : Int32} {s1 : Int32} {M0 M : mm_M} (h : mq_kp mw_272 M0 M) : mq_K mw_272 M0 (mf_272_j100 v2 v3 v4 v5 v7 v8 v9 s0 s1 M) := by
  unfold mf_272_j100
  exact mq_K_ite (fun hc => mq_K_ret h) (fun _ => mq_K_ret h)
theorem mk_272_j87 {v2 : Int32} {v3 : Int32} {v4 : Int32} {v5 : Int32} {v6 : Int32} {v7 : Int32} {v8 : Int32} {v9 : Int32} {s1 : Int32} {s2 : Int32} {M0 M : mm_M} (h : mq_kp mw_272 M0 M) : mq_K mw_272 M0 (mf_272_j87 v2 v3 v4 v5 v6 v7 v8 v9 s1 s2 M) := by
  unfold mf_272_j87
  exact mq_K_ite (fun hc => mq_K_ite (fun hc => mk_272_j100 (mq_kp_pi h rfl)) (fun _ => mk_272_j100 (mq_kp_pi h rfl))) (fun _ => mq_K_none)
theorem mk_272_j57 {v2 : Int32} {v3 : Int32} {v4 : Int32} {v5 : Int32} {v6 : Int32} {v7 : Int32} {v8 : Int32} {s0 : Int32} {M0 M : mm_M} (h : mq_kp mw_272 M0 M) : mq_K mw_272 M0 (mf_272_j57 v2 v3 v4 v5 v6 v7 v8 s0 M) := by
  unfold mf_272_j57
  exact mq_K_ite (fun hc => mq_K_ite (fun hc => mk_272_j87 h) (fun _ => mq_K_none)) (fun _ => mq_K_ite (fun hc => mk_272_j87 h) (fun _ => mq_K_none))
theorem mk_272_j56 {v2 : Int32} {v3 : Int32} {v4 : Int32} {v5 : Int32} {v6 : Int32} {v7 : Int32} {v8 : Int32} {M0 M : mm_M} (h : mq_kp mw_272 M0 M) : mq_K mw_272 M0 (mf_272_j56 v2 v3 v4 v5 v6 v7 v8 M) := by
  unfold mf_272_j56
  exact mk_272_j57 h
theorem mk_272_b9 {v2 : Int32} {v3 : Int32} {v4 : Int32} {v5 : Int32} {v6 : Int32} {v7 : Int32} {v8 : Int32} {M0 M : mm_M} (h : mq_kp mw_272 M0 M) : mq_K mw_272 M0 (mf_272_b9 v2 v3 v4 v5 v6 v7 v8 M) := by
  unfold mf_272_b9
  exact mq_K_ite (fun hc => mq_K_ite (fun hc => mk_272_j57 h) (fun _ => mq_K_ite (fun hc => mq_K_ite (fun hc => mq_K_ite (fun hc => mq_K_B (mq_K_call mk_270 h rfl) (fun _ M2 hM2 => mq_K_ite (fun hc => mk_272_j56 hM2) (fun _ => mk_272_j57 hM2))) (fun _ => mq_K_none)) (fun _ => mq_K_none)) (fun _ => mk_272_j56 h))) (fun _ => mq_K_ret h)
theorem mk_272_L9 {v2 : Int32} {v3 : Int32} {v4 : Int32} {v5 : Int32} {s : Int32 × Int32 × Int32} {M0 M : mm_M} (h : mq_kp mw_272 M0 M) : mq_K mw_272 M0 (mf_272_L9 v2 v3 v4 v5 s M) := by
  unfold mf_272_L9
  exact mq_K_L (fun s M h => mk_272_b9 h) h
theorem mk_272 {v1 : Int32} {v2 : Int32} {v3 : Int32} {v4 : Int32} {v5 : Int32} {M : mm_M} : mq_K mw_272 M (mf_272 v1 v2 v3 v4 v5 M) := by
  unfold mf_272
  exact mq_K_B (mk_272_L9 mq_kp_refl) (fun _ M1 hM1 => mq_K_ret hM1)
-- 271: PlainPacksModel.sortBy
def mw_271 : List (Nat × Option Nat) := [(105, none), (106, none)]
theorem mk_271_j55 {v1 : Int32} {v2 : Int32} {v3 : Int32} {v4 : Int32} {s1 : Int32} {s2 : Int32} {s3 : Int32} {M0 M : mm_M} (h : mq_kp mw_271 M0 M) : mq_K mw_271 M0 (mf_271_j55 v1 v2 v3 v4 s1 s2 s3 M) := by
  unfold mf_271_j55
  exact mq_K_B (mq_K_call mk_272 h rfl) (fun _ M1 hM1 => mq_K_ret hM1)
theorem mk_271_j35 {v1 : Int32} {v2 : Int32} {v3 : Int32} {v4 : Int32} {s1 : Int32} {s2 : Int32} {M0 M : mm_M} (h : mq_kp mw_271 M0 M) : mq_K mw_271 M0 (mf_271_j35 v1 v2 v3 v4 s1 s2 M) := by
  unfold mf_271_j35
  exact mq_K_ite (fun hc => mk_271_j55 h) (fun _ => mk_271_j55 h)
theorem mk_271_b10 {v1 : Int32} {v2 : Int32} {v3 : Int32} {v4 : Int32} {M0 M : mm_M} (h : mq_kp mw_271 M0 M) : mq_K mw_271 M0 (mf_271_b10 v1 v2 v3 v4 M) := by
  unfold mf_271_b10
  exact mq_K_ite (fun hc => mq_K_ite (fun hc => mk_271_j35 h) (fun _ => mk_271_j35 h)) (fun _ => mq_K_ret h)
theorem mk_271_L10 {v1 : Int32} {v2 : Int32} {v3 : Int32} {s : Int32} {M0 M : mm_M} (h : mq_kp mw_271 M0 M) : mq_K mw_271 M0 (mf_271_L10 v1 v2 v3 s M) := by
  unfold mf_271_L10
  exact mq_K_L (fun s M h => mk_271_b10 h) h
theorem mk_271_b74 {v1 : Int32} {v2 : Int32} {v3 : Int32} {v4 : Int32} {M0 M : mm_M} (h : mq_kp mw_271 M0 M) : mq_K mw_271 M0 (mf_271_b74 v1 v2 v3 v4 M) := by
  unfold mf_271_b74
  exact mq_K_ite (fun hc => mq_K_ite (fun hc => mq_K_ite (fun hc => mq_K_ret (mq_kp_pi h rfl)) (fun _ => mq_K_none)) (fun _ => mq_K_none)) (fun _ => mq_K_ret h)
theorem mk_271_L74 {v1 : Int32} {v2 : Int32} {v3 : Int32} {s : Int32} {M0 M : mm_M} (h : mq_kp mw_271 M0 M) : mq_K mw_271 M0 (mf_271_L74 v1 v2 v3 s M) := by
  unfold mf_271_L74
  exact mq_K_L (fun s M h => mk_271_b74 h) h
theorem mk_271_b2 {v1 : Int32} {v2 : Int32} {v3 : Int32} {M0 M : mm_M} (h : mq_kp mw_271 M0 M) : mq_K mw_271 M0 (mf_271_b2 v1 v2 v3 M) := by
  unfold mf_271_b2
  exact mq_K_ite (fun hc => mq_K_B (mk_271_L10 h) (fun _ M1 hM1 => mq_K_B (mk_271_L74 hM1) (fun _ M4 hM4 => mq_K_ret hM4))) (fun _ => mq_K_ret h)
theorem mk_271_L2 {v1 : Int32} {v2 : Int32} {s : Int32} {M0 M : mm_M} (h : mq_kp mw_271 M0 M) : mq_K mw_271 M0 (mf_271_L2 v1 v2 s M) := by
  unfold mf_271_L2
  exact mq_K_L (fun s M h => mk_271_b2 h) h
theorem mk_271 {v1 : Int32} {v2 : Int32} {M : mm_M} : mq_K mw_271 M (mf_271 v1 v2 M) := by
  unfold mf_271
  exact mq_K_B (mk_271_L2 mq_kp_refl) (fun _ M1 hM1 => mq_K_ret hM1)
-- 273: PlainPacksModel.turnAll
def mw_273 : List (Nat × Option Nat) := [(103, none), (104, none), (105, none), (106, none)]
theorem mk_273_b2 {v1 : Int32} {v2 : Int32} {M0 M : mm_M} (h : mq_kp mw_273 M0 M) : mq_K mw_273 M0 (mf_273_b2 v1 v2 M) := by
  unfold mf_273_b2
  exact mq_K_ite (fun hc => mq_K_ite (fun hc => mq_K_ite (fun hc => mq_K_ite (fun hc => mq_K_ret (mq_kp_pi (mq_kp_pi h rfl) rfl)) (fun _ => mq_K_none)) (fun _ => mq_K_none)) (fun _ => mq_K_none)) (fun _ => mq_K_ret h)
theorem mk_273_L2 {v1 : Int32} {s : Int32} {M0 M : mm_M} (h : mq_kp mw_273 M0 M) : mq_K mw_273 M0 (mf_273_L2 v1 s M) := by
  unfold mf_273_L2
  exact mq_K_L (fun s M h => mk_273_b2 h) h
theorem mk_273_b47 {v1 : Int32} {v2 : Int32} {v3 : Int32} {M0 M : mm_M} (h : mq_kp mw_273 M0 M) : mq_K mw_273 M0 (mf_273_b47 v1 v2 v3 M) := by
  unfold mf_273_b47
  exact mq_K_ite (fun hc => mq_K_ite (fun hc => mq_K_ret (mq_kp_pi h rfl)) (fun _ => mq_K_none)) (fun _ => mq_K_ret h)
theorem mk_273_L47 {v1 : Int32} {v2 : Int32} {s : Int32} {M0 M : mm_M} (h : mq_kp mw_273 M0 M) : mq_K mw_273 M0 (mf_273_L47 v1 v2 s M) := by
  unfold mf_273_L47
  exact mq_K_L (fun s M h => mk_273_b47 h) h
theorem mk_273_j118 {v1 : Int32} {v2 : Int32} {v4 : Int32} {s0 : Int32} {s1 : Int32} {M0 M : mm_M} (h : mq_kp mw_273 M0 M) : mq_K mw_273 M0 (mf_273_j118 v1 v2 v4 s0 s1 M) := by
  unfold mf_273_j118
  exact mq_K_ite (fun hc => mq_K_ite (fun hc => mq_K_ret (mq_kp_pi h rfl)) (fun _ => mq_K_none)) (fun _ => mq_K_none)
theorem mk_273_j117 {v1 : Int32} {v2 : Int32} {v4 : Int32} {s0 : Int32} {M0 M : mm_M} (h : mq_kp mw_273 M0 M) : mq_K mw_273 M0 (mf_273_j117 v1 v2 v4 s0 M) := by
  unfold mf_273_j117
  exact mk_273_j118 h
theorem mk_273_b76 {v1 : Int32} {v2 : Int32} {v3 : Int32} {v4 : Int32} {M0 M : mm_M} (h : mq_kp mw_273 M0 M) : mq_K mw_273 M0 (mf_273_b76 v1 v2 v3 v4 M) := by
  unfold mf_273_b76
  exact mq_K_ite (fun hc => mq_K_ite (fun hc => mq_K_ite (fun hc => mq_K_ite (fun hc => mq_K_B (mq_K_call mk_270 h rfl) (fun _ M2 hM2 => mq_K_ite (fun hc => mk_273_j117 hM2) (fun _ => mk_273_j118 hM2))) (fun _ => mq_K_none)) (fun _ => mq_K_none)) (fun _ => mk_273_j117 h)) (fun _ => mq_K_ret h)
theorem mk_273_L76 {v1 : Int32} {v2 : Int32} {s : Int32 × Int32} {M0 M : mm_M} (h : mq_kp mw_273 M0 M) : mq_K mw_273 M0 (mf_273_L76 v1 v2 s M) := by
  unfold mf_273_L76
  exact mq_K_L (fun s M h => mk_273_b76 h) h
theorem mk_273_b142 {v1 : Int32} {v2 : Int32} {v4 : Int32} {M0 M : mm_M} (h : mq_kp mw_273 M0 M) : mq_K mw_273 M0 (mf_273_b142 v1 v2 v4 M) := by
  unfold mf_273_b142
  exact mq_K_ite (fun hc => mq_K_ite (fun hc => mq_K_ite (fun hc => mq_K_ret (mq_kp_pi h rfl)) (fun _ => mq_K_none)) (fun _ => mq_K_none)) (fun _ => mq_K_ret h)
theorem mk_273_L142 {v1 : Int32} {v2 : Int32} {s : Int32} {M0 M : mm_M} (h : mq_kp mw_273 M0 M) : mq_K mw_273 M0 (mf_273_L142 v1 v2 s M) := by
  unfold mf_273_L142
  exact mq_K_L (fun s M h => mk_273_b142 h) h
theorem mk_273_j65 {v1 : Int32} {v2 : Int32} {M0 M : mm_M} (h : mq_kp mw_273 M0 M) : mq_K mw_273 M0 (mf_273_j65 v1 v2 M) := by
  unfold mf_273_j65
  exact mq_K_B (mq_K_call mk_271 h rfl) (fun _ M1 hM1 => mq_K_B (mk_273_L76 hM1) (fun _ M2 hM2 => mq_K_B (mk_273_L142 hM2) (fun _ M6 hM6 => mq_K_ret hM6)))
theorem mk_273_b40 {v1 : Int32} {v2 : Int32} {M0 M : mm_M} (h : mq_kp mw_273 M0 M) : mq_K mw_273 M0 (mf_273_b40 v1 v2 M) := by
  unfold mf_273_b40
  exact mq_K_ite (fun hc => mq_K_B (mk_273_L47 h) (fun _ M1 hM1 => mk_273_j65 hM1)) (fun _ => mq_K_ret h)
theorem mk_273_L40 {v1 : Int32} {s : Int32} {M0 M : mm_M} (h : mq_kp mw_273 M0 M) : mq_K mw_273 M0 (mf_273_L40 v1 s M) := by
  unfold mf_273_L40
  exact mq_K_L (fun s M h => mk_273_b40 h) h
theorem mk_273_j32 {v1 : Int32} {M0 M : mm_M} (h : mq_kp mw_273 M0 M) : mq_K mw_273 M0 (mf_273_j32 v1 M) := by
  unfold mf_273_j32
  exact mq_K_B (mq_K_call mk_271 h rfl) (fun _ M1 hM1 => mq_K_B (mk_273_L40 hM1) (fun _ M2 hM2 => mq_K_ret hM2))
theorem mk_273 {v1 : Int32} {M : mm_M} : mq_K mw_273 M (mf_273 v1 M) := by
  unfold mf_273
  exact mq_K_B (mk_273_L2 mq_kp_refl) (fun _ M1 hM1 => mk_273_j32 hM1)
-- 277: PlainPacksModel.writeOccurring
def mw_277 : List (Nat × Option Nat) := [(84, some 20), (84, some 41), (84, some 42), (84, some 43), (94, none), (100, none), (104, none), (106, none)]
theorem mk_277_b2 {v1 : Int32} {v2 : Int32} {M0 M : mm_M} (h : mq_kp mw_277 M0 M) : mq_K mw_277 M0 (mf_277_b2 v1 v2 M) := by
  unfold mf_277_b2
  exact mq_K_ite (fun hc => mq_K_ite (fun hc => mq_K_ret (mq_kp_pi h rfl)) (fun _ => mq_K_none)) (fun _ => mq_K_ret h)
theorem mk_277_L2 {v1 : Int32} {s : Int32} {M0 M : mm_M} (h : mq_kp mw_277 M0 M) : mq_K mw_277 M0 (mf_277_L2 v1 s M) := by
  unfold mf_277_L2
  exact mq_K_L (fun s M h => mk_277_b2 h) h
theorem mk_277_b24 {v1 : Int32} {v2 : Int32} {M0 M : mm_M} (h : mq_kp mw_277 M0 M) : mq_K mw_277 M0 (mf_277_b24 v1 v2 M) := by
  unfold mf_277_b24
  exact mq_K_ite (fun hc => mq_K_ite (fun hc => mq_K_ite (fun hc => mq_K_ret (mq_kp_pi h rfl)) (fun _ => mq_K_none)) (fun _ => mq_K_none)) (fun _ => mq_K_ret h)
theorem mk_277_L24 {v1 : Int32} {s : Int32} {M0 M : mm_M} (h : mq_kp mw_277 M0 M) : mq_K mw_277 M0 (mf_277_L24 v1 s M) := by
  unfold mf_277_L24
  exact mq_K_L (fun s M h => mk_277_b24 h) h
theorem mk_277_b54 {v2 : Int32} {M0 M : mm_M} (h : mq_kp mw_277 M0 M) : mq_K mw_277 M0 (mf_277_b54 v2 M) := by
  unfold mf_277_b54
  exact mq_K_ite (fun hc => mq_K_ite (fun hc => mq_K_ite (fun hc => mq_K_ite (fun hc => mq_K_ret (mq_kp_pi (mq_kp_pi h rfl) rfl)) (fun _ => mq_K_none)) (fun _ => mq_K_ret h)) (fun _ => mq_K_none)) (fun _ => mq_K_ret h)
theorem mk_277_L54 {s : Int32} {M0 M : mm_M} (h : mq_kp mw_277 M0 M) : mq_K mw_277 M0 (mf_277_L54 s M) := by
  unfold mf_277_L54
  exact mq_K_L (fun s M h => mk_277_b54 h) h
theorem mk_277_b110 {v2 : Int32} {v3 : Int32} {v4 : Int32} {M0 M : mm_M} (h : mq_kp mw_277 M0 M) : mq_K mw_277 M0 (mf_277_b110 v2 v3 v4 M) := by
  unfold mf_277_b110
  exact mq_K_ite (fun hc => mq_K_ite (fun hc => mq_K_ret h) (fun _ => mq_K_none)) (fun _ => mq_K_ret h)
theorem mk_277_L110 {v2 : Int32} {s : Int32 × Int32} {M0 M : mm_M} (h : mq_kp mw_277 M0 M) : mq_K mw_277 M0 (mf_277_L110 v2 s M) := by
  unfold mf_277_L110
  exact mq_K_L (fun s M h => mk_277_b110 h) h
theorem mk_277_j138 {v2 : Int32} {v3 : Int32} {M0 M : mm_M} (h : mq_kp mw_277 M0 M) : mq_K mw_277 M0 (mf_277_j138 v2 v3 M) := by
  unfold mf_277_j138
  exact mq_K_B (mq_K_call mk_247 h rfl) (fun _ M1 hM1 => mq_K_ite (fun hc => mq_K_ret (mq_kp_pi hM1 rfl)) (fun _ => mq_K_none))
theorem mk_277_b99 {v2 : Int32} {M0 M : mm_M} (h : mq_kp mw_277 M0 M) : mq_K mw_277 M0 (mf_277_b99 v2 M) := by
  unfold mf_277_b99
  exact mq_K_ite (fun hc => mq_K_B (mk_277_L110 h) (fun _ M1 hM1 => mk_277_j138 hM1)) (fun _ => mq_K_ret h)
theorem mk_277_L99 {s : Int32} {M0 M : mm_M} (h : mq_kp mw_277 M0 M) : mq_K mw_277 M0 (mf_277_L99 s M) := by
  unfold mf_277_L99
  exact mq_K_L (fun s M h => mk_277_b99 h) h
theorem mk_277_b158 {v2 : Int32} {M0 M : mm_M} (h : mq_kp mw_277 M0 M) : mq_K mw_277 M0 (mf_277_b158 v2 M) := by
  unfold mf_277_b158
  exact mq_K_ite (fun hc => mq_K_ite (fun hc => mq_K_ite (fun hc => mq_K_ite (fun hc => mq_K_B (mq_K_call mk_247 h rfl) (fun _ M1 hM1 => mq_K_ret hM1)) (fun _ => mq_K_none)) (fun _ => mq_K_ret h)) (fun _ => mq_K_none)) (fun _ => mq_K_ret h)
theorem mk_277_L158 {s : Int32} {M0 M : mm_M} (h : mq_kp mw_277 M0 M) : mq_K mw_277 M0 (mf_277_L158 s M) := by
  unfold mf_277_L158
  exact mq_K_L (fun s M h => mk_277_b158 h) h
theorem mk_277 {v1 : Int32} {M : mm_M} : mq_K mw_277 M (mf_277 v1 M) := by
  unfold mf_277
  exact mq_K_B (mk_277_L2 mq_kp_refl) (fun _ M1 hM1 => mq_K_B (mk_277_L24 hM1) (fun _ M6 hM6 => mq_K_B (mk_277_L54 (mq_kp_pi hM6 rfl)) (fun _ M12 hM12 => mq_K_B (mk_277_L99 hM12) (fun _ M18 hM18 => mq_K_B (mk_277_L158 hM18) (fun _ M24 hM24 => mq_K_ret hM24)))))
-- 278: PlainPacksModel.letter
def mw_278 : List (Nat × Option Nat) := [(84, some 52), (104, none)]
theorem mk_278 {v1 : Int32} {M : mm_M} : mq_K mw_278 M (mf_278 v1 M) := by
  unfold mf_278
  exact mq_K_ite (fun hc => mq_K_ret (mq_kp_pi (mq_kp_pi mq_kp_refl rfl) rfl)) (fun _ => mq_K_none)
-- 279: PlainPacksModel.runLetters
def mw_279 : List (Nat × Option Nat) := [(84, some 52), (104, none)]
theorem mk_279_b2 {v2 : Int32} {M0 M : mm_M} (h : mq_kp mw_279 M0 M) : mq_K mw_279 M0 (mf_279_b2 v2 M) := by
  unfold mf_279_b2
  exact mq_K_ite (fun hc => mq_K_B (mq_K_call mk_278 h rfl) (fun _ M1 hM1 => mq_K_ret hM1)) (fun _ => mq_K_ret h)
theorem mk_279_L2 {s : Int32} {M0 M : mm_M} (h : mq_kp mw_279 M0 M) : mq_K mw_279 M0 (mf_279_L2 s M) := by
  unfold mf_279_L2
  exact mq_K_L (fun s M h => mk_279_b2 h) h
theorem mk_279 {v1 : Int32} {M : mm_M} : mq_K mw_279 M (mf_279 v1 M) := by
  unfold mf_279
  exact mq_K_B (mk_279_L2 mq_kp_refl) (fun _ M1 hM1 => mq_K_ret hM1)
-- 280: PlainPacksModel.writeSorted
def mw_280 : List (Nat × Option Nat) := [(84, some 41), (84, some 42), (84, some 43), (84, some 52), (94, none), (100, none), (104, none)]
theorem mk_280_b46 {v1 : Int32} {v2 : Int32} {v3 : Int32} {v4 : Int32} {v5 : Int32} {v6 : Int32} {M0 M : mm_M} (h : mq_kp mw_280 M0 M) : mq_K mw_280 M0 (mf_280_b46 v1 v2 v3 v4 v5 v6 M) := by
  unfold mf_280_b46
  exact mq_K_ite (fun hc => mq_K_ite (fun hc => mq_K_ret h) (fun _ => mq_K_ret h)) (fun _ => mq_K_none)
theorem mk_280_L46 {v1 : Int32} {v2 : Int32} {v3 : Int32} {v4 : Int32} {v5 : Int32} {s : Int32} {M0 M : mm_M} (h : mq_kp mw_280 M0 M) : mq_K mw_280 M0 (mf_280_L46 v1 v2 v3 v4 v5 s M) := by
  unfold mf_280_L46
  exact mq_K_L (fun s M h => mk_280_b46 h) h
theorem mk_280_b94 {v1 : Int32} {v2 : Int32} {v3 : Int32} {v4 : Int32} {v5 : Int32} {v7 : Int32} {M0 M : mm_M} (h : mq_kp mw_280 M0 M) : mq_K mw_280 M0 (mf_280_b94 v1 v2 v3 v4 v5 v7 M) := by
  unfold mf_280_b94
  exact mq_K_ite (fun hc => mq_K_ite (fun hc => mq_K_ite (fun hc => mq_K_ret (mq_kp_pi h rfl)) (fun _ => mq_K_none)) (fun _ => mq_K_none)) (fun _ => mq_K_ret h)
theorem mk_280_L94 {v1 : Int32} {v2 : Int32} {v3 : Int32} {v4 : Int32} {v5 : Int32} {s : Int32} {M0 M : mm_M} (h : mq_kp mw_280 M0 M) : mq_K mw_280 M0 (mf_280_L94 v1 v2 v3 v4 v5 s M) := by
  unfold mf_280_L94
  exact mq_K_L (fun s M h => mk_280_b94 h) h
theorem mk_280_j121 {v1 : Int32} {v2 : Int32} {v3 : Int32} {v4 : Int32} {v5 : Int32} {M0 M : mm_M} (h : mq_kp mw_280 M0 M) : mq_K mw_280 M0 (mf_280_j121 v1 v2 v3 v4 v5 M) := by
  unfold mf_280_j121
  exact mq_K_ite (fun hc => mq_K_ret (mq_kp_pi h rfl)) (fun _ => mq_K_none)
theorem mk_280_j64 {v1 : Int32} {v2 : Int32} {v3 : Int32} {v4 : Int32} {v5 : Int32} {v6 : Int32} {M0 M : mm_M} (h : mq_kp mw_280 M0 M) : mq_K mw_280 M0 (mf_280_j64 v1 v2 v3 v4 v5 v6 M) := by
  unfold mf_280_j64
  exact mq_K_ite (fun hc => mq_K_ret h) (fun _ => mq_K_B (mq_K_call mk_279 h rfl) (fun _ M1 hM1 => mq_K_B (mq_K_call mk_278 hM1 rfl) (fun _ M2 hM2 => mq_K_B (mk_280_L94 hM2) (fun _ M3 hM3 => mk_280_j121 hM3))))
theorem mk_280_b17 {v1 : Int32} {v2 : Int32} {v3 : Int32} {v4 : Int32} {M0 M : mm_M} (h : mq_kp mw_280 M0 M) : mq_K mw_280 M0 (mf_280_b17 v1 v2 v3 v4 M) := by
  unfold mf_280_b17
  exact mq_K_ite (fun hc => mq_K_ite (fun hc => mq_K_ite (fun hc => mq_K_ite (fun hc => mq_K_B (mk_280_L46 h) (fun _ M1 hM1 => mk_280_j64 hM1)) (fun _ => mq_K_none)) (fun _ => mq_K_none)) (fun _ => mq_K_none)) (fun _ => mq_K_ret h)
theorem mk_280_L17 {v1 : Int32} {v2 : Int32} {s : Int32 × Int32} {M0 M : mm_M} (h : mq_kp mw_280 M0 M) : mq_K mw_280 M0 (mf_280_L17 v1 v2 s M) := by
  unfold mf_280_L17
  exact mq_K_L (fun s M h => mk_280_b17 h) h
theorem mk_280_b150 {v2 : Int32} {v4 : Int32} {M0 M : mm_M} (h : mq_kp mw_280 M0 M) : mq_K mw_280 M0 (mf_280_b150 v2 v4 M) := by
  unfold mf_280_b150
  exact mq_K_ite (fun hc => mq_K_ret h) (fun _ => mq_K_ret h)
theorem mk_280_L150 {v2 : Int32} {s : Int32} {M0 M : mm_M} (h : mq_kp mw_280 M0 M) : mq_K mw_280 M0 (mf_280_L150 v2 s M) := by
  unfold mf_280_L150
  exact mq_K_L (fun s M h => mk_280_b150 h) h
theorem mk_280_b206 {v2 : Int32} {v4 : Int32} {v6 : Int32} {M0 M : mm_M} (h : mq_kp mw_280 M0 M) : mq_K mw_280 M0 (mf_280_b206 v2 v4 v6 M) := by
  unfold mf_280_b206
  exact mq_K_ite (fun hc => mq_K_B (mq_K_call mk_249 h rfl) (fun _ M1 hM1 => mq_K_B (mq_K_call mk_249 hM1 rfl) (fun _ M2 hM2 => mq_K_ret hM2))) (fun _ => mq_K_ret h)
theorem mk_280_L206 {v2 : Int32} {v4 : Int32} {s : Int32} {M0 M : mm_M} (h : mq_kp mw_280 M0 M) : mq_K mw_280 M0 (mf_280_L206 v2 v4 s M) := by
  unfold mf_280_L206
  exact mq_K_L (fun s M h => mk_280_b206 h) h
theorem mk_280_b237 {v4 : Int32} {v6 : Int32} {M0 M : mm_M} (h : mq_kp mw_280 M0 M) : mq_K mw_280 M0 (mf_280_b237 v4 v6 M) := by
  unfold mf_280_b237
  exact mq_K_ite (fun hc => mq_K_ite (fun hc => mq_K_B (mq_K_call mk_249 h rfl) (fun _ M1 hM1 => mq_K_ret hM1)) (fun _ => mq_K_none)) (fun _ => mq_K_ret h)
theorem mk_280_L237 {v4 : Int32} {s : Int32} {M0 M : mm_M} (h : mq_kp mw_280 M0 M) : mq_K mw_280 M0 (mf_280_L237 v4 s M) := by
  unfold mf_280_L237
  exact mq_K_L (fun s M h => mk_280_b237 h) h
theorem mk_280_j164 {v2 : Int32} {v4 : Int32} {M0 M : mm_M} (h : mq_kp mw_280 M0 M) : mq_K mw_280 M0 (mf_280_j164 v2 v4 M) := by
  unfold mf_280_j164
  exact mq_K_B (mq_K_call mk_249 h rfl) (fun _ M1 hM1 => mq_K_B (mq_K_call mk_249 hM1 rfl) (fun _ M2 hM2 => mq_K_B (mq_K_call mk_249 hM2 rfl) (fun _ M3 hM3 => mq_K_B (mk_280_L206 hM3) (fun _ M4 hM4 => mq_K_B (mk_280_L237 hM4) (fun _ M12 hM12 => mq_K_ret hM12)))))
theorem mk_280_j135 {v2 : Int32} {v3 : Int32} {M0 M : mm_M} (h : mq_kp mw_280 M0 M) : mq_K mw_280 M0 (mf_280_j135 v2 v3 M) := by
  unfold mf_280_j135
  exact mq_K_B (mq_K_call mk_279 h rfl) (fun _ M1 hM1 => mq_K_B (mq_K_call mk_278 hM1 rfl) (fun _ M2 hM2 => mq_K_B (mk_280_L150 hM2) (fun _ M3 hM3 => mk_280_j164 hM3)))
theorem mk_280 {v1 : Int32} {M : mm_M} : mq_K mw_280 M (mf_280 v1 M) := by
  unfold mf_280
  exact mq_K_B (mk_280_L17 (mq_kp_pi mq_kp_refl rfl)) (fun _ M1 hM1 => mk_280_j135 hM1)
-- 276: PlainPacksModel.packSorted
def mw_276 : List (Nat × Option Nat) := [(84, some 13), (84, some 20), (84, some 41), (84, some 42), (84, some 43), (84, some 52), (94, none), (100, none), (102, none), (103, none), (104, none), (105, none), (106, none)]
theorem mk_276_b87 {v1 : Int32} {v2 : Int32} {v3 : Int32} {M0 M : mm_M} (h : mq_kp mw_276 M0 M) : mq_K mw_276 M0 (mf_276_b87 v1 v2 v3 M) := by
  unfold mf_276_b87
  exact mq_K_ite (fun hc => mq_K_ite (fun hc => mq_K_ite (fun hc => mq_K_ite (fun hc => mq_K_ret h) (fun _ => mq_K_ret h)) (fun _ => mq_K_none)) (fun _ => mq_K_none)) (fun _ => mq_K_none)
theorem mk_276_L87 {v1 : Int32} {v2 : Int32} {s : Int32} {M0 M : mm_M} (h : mq_kp mw_276 M0 M) : mq_K mw_276 M0 (mf_276_L87 v1 v2 s M) := by
  unfold mf_276_L87
  exact mq_K_L (fun s M h => mk_276_b87 h) h
theorem mk_276_j156 {s1 : Int64} {M0 M : mm_M} (h : mq_kp mw_276 M0 M) : mq_K mw_276 M0 (mf_276_j156 s1 M) := by
  unfold mf_276_j156
  exact mq_K_B (mq_K_call mk_249 h rfl) (fun _ M1 hM1 => mq_K_B (mq_K_call mk_248 hM1 rfl) (fun _ M2 hM2 => mq_K_ret hM2))
theorem mk_276_j132 {v1 : Int32} {M0 M : mm_M} (h : mq_kp mw_276 M0 M) : mq_K mw_276 M0 (mf_276_j132 v1 M) := by
  unfold mf_276_j132
  exact mq_K_B (mq_K_call mk_249 h rfl) (fun _ M1 hM1 => mq_K_ite (fun hc => mk_276_j156 hM1) (fun _ => mk_276_j156 hM1))
theorem mk_276_j113 {v1 : Int32} {v2 : Int32} {v3 : Int32} {M0 M : mm_M} (h : mq_kp mw_276 M0 M) : mq_K mw_276 M0 (mf_276_j113 v1 v2 v3 M) := by
  unfold mf_276_j113
  exact mq_K_B (mq_K_call mk_249 h rfl) (fun _ M1 hM1 => mq_K_B (mq_K_call mk_277 hM1 rfl) (fun _ M2 hM2 => mq_K_B (mq_K_call mk_280 hM2 rfl) (fun _ M3 hM3 => mk_276_j132 hM3)))
theorem mk_276 {M : mm_M} : mq_K mw_276 M (mf_276 M) := by
  unfold mf_276
  exact mq_K_B (mq_K_call mk_245 (mq_kp_pi mq_kp_refl rfl) rfl) (fun _ M1 hM1 => mq_K_B (mq_K_call mk_245 hM1 rfl) (fun _ M2 hM2 => mq_K_B (mq_K_call mk_245 hM2 rfl) (fun _ M3 hM3 => mq_K_B (mq_K_call mk_245 hM3 rfl) (fun _ M4 hM4 => mq_K_B (mq_K_call mk_183 hM4 rfl) (fun _ M6 hM6 => mq_K_ite (fun hc => mq_K_B (mq_K_call mk_275 hM6 rfl) (fun _ M8 hM8 => mq_K_B (mq_K_call mk_273 hM8 rfl) (fun _ M9 hM9 => mq_K_B (mq_K_call mk_249 hM9 rfl) (fun _ M10 hM10 => mq_K_B (mq_K_call mk_249 hM10 rfl) (fun _ M11 hM11 => mq_K_B (mq_K_call mk_249 hM11 rfl) (fun _ M12 hM12 => mq_K_B (mk_276_L87 hM12) (fun _ M13 hM13 => mk_276_j113 hM13))))))) (fun _ => mk_276_j132 hM6))))))
-- 281: PlainPacksModel.carry
def mw_281 : List (Nat × Option Nat) := [(84, some 53), (102, none)]
theorem mk_281_b30 {v1 : Int32} {M0 M : mm_M} (h : mq_kp mw_281 M0 M) : mq_K mw_281 M0 (mf_281_b30 v1 M) := by
  unfold mf_281_b30
  exact mq_K_ite (fun hc => mq_K_ret h) (fun _ => mq_K_ite (fun hc => mq_K_ite (fun hc => mq_K_ite (fun hc => mq_K_ret (mq_kp_pi h rfl)) (fun _ => mq_K_none)) (fun _ => mq_K_ret h)) (fun _ => mq_K_none))
theorem mk_281_L30 {s : Int32} {M0 M : mm_M} (h : mq_kp mw_281 M0 M) : mq_K mw_281 M0 (mf_281_L30 s M) := by
  unfold mf_281_L30
  exact mq_K_L (fun s M h => mk_281_b30 h) h
theorem mk_281_j59 {v1 : Int32} {M0 M : mm_M} (h : mq_kp mw_281 M0 M) : mq_K mw_281 M0 (mf_281_j59 v1 M) := by
  unfold mf_281_j59
  exact mq_K_ite (fun hc => mq_K_ite (fun hc => mq_K_ret (mq_kp_pi h rfl)) (fun _ => mq_K_none)) (fun _ => mq_K_none)
theorem mk_281 {M : mm_M} : mq_K mw_281 M (mf_281 M) := by
  unfold mf_281
  exact mq_K_ite (fun hc => mq_K_B (mk_281_L30 (mq_kp_pl mq_kp_refl rfl)) (fun _ M1 hM1 => mk_281_j59 hM1)) (fun _ => mq_K_ret mq_kp_refl)
-- 282: PlainPacksModel.tell
def mw_282 : List (Nat × Option Nat) := [(84, some 33), (84, some 53), (84, some 54), (98, none), (102, none)]
theorem mk_282_j93 {M0 M : mm_M} (h : mq_kp mw_282 M0 M) : mq_K mw_282 M0 (mf_282_j93 M) := by
  unfold mf_282_j93
  exact mq_K_ite (fun hc => mq_K_ite (fun hc => mq_K_ret (mq_kp_pl (mq_kp_pi (mq_kp_pi (mq_kp_pl h rfl) rfl) rfl) rfl)) (fun _ => mq_K_none)) (fun _ => mq_K_ret h)
theorem mk_282 {v1 : Int32} {v2 : Int32} {M : mm_M} : mq_K mw_282 M (mf_282 v1 v2 M) := by
  unfold mf_282
  exact mq_K_ite (fun hc => mq_K_ite (fun hc => mq_K_ite (fun hc => mq_K_ite (fun hc => mq_K_ite (fun hc => mk_282_j93 (mq_kp_pi (mq_kp_pl mq_kp_refl rfl) rfl)) (fun _ => mq_K_none)) (fun _ => mq_K_none)) (fun _ => mq_K_none)) (fun _ => mq_K_ite (fun hc => mq_K_ite (fun hc => mq_K_ite (fun hc => mq_K_B (mq_K_call mk_281 (mq_kp_pi (mq_kp_pl (mq_kp_pl mq_kp_refl rfl) rfl) rfl) rfl) (fun _ M1 hM1 => mk_282_j93 hM1)) (fun _ => mq_K_none)) (fun _ => mq_K_none)) (fun _ => mq_K_none))) (fun _ => mq_K_none)
-- 283: PlainPacksModel.packChances
def mw_283 : List (Nat × Option Nat) := [(84, some 33), (84, some 41), (84, some 53), (84, some 54), (98, none), (100, none), (102, none)]
theorem mk_283_b27 {v1 : Int32} {M0 M : mm_M} (h : mq_kp mw_283 M0 M) : mq_K mw_283 M0 (mf_283_b27 v1 M) := by
  unfold mf_283_b27
  exact mq_K_ite (fun hc => mq_K_ite (fun hc => mq_K_ret (mq_kp_pi h rfl)) (fun _ => mq_K_none)) (fun _ => mq_K_ret h)
theorem mk_283_L27 {s : Int32} {M0 M : mm_M} (h : mq_kp mw_283 M0 M) : mq_K mw_283 M0 (mf_283_L27 s M) := by
  unfold mf_283_L27
  exact mq_K_L (fun s M h => mk_283_b27 h) h
theorem mk_283_b114 {v2 : Int32} {v3 : Int32} {v4 : Int32} {v5 : Int32} {M0 M : mm_M} (h : mq_kp mw_283 M0 M) : mq_K mw_283 M0 (mf_283_b114 v2 v3 v4 v5 M) := by
  unfold mf_283_b114
  exact mq_K_ite (fun hc => mq_K_ret h) (fun _ => mq_K_ite (fun hc => mq_K_B (mq_K_call mk_282 h rfl) (fun _ M1 hM1 => mq_K_ret hM1)) (fun _ => mq_K_none))
theorem mk_283_L114 {v2 : Int32} {v3 : Int32} {s : Int32 × Int32} {M0 M : mm_M} (h : mq_kp mw_283 M0 M) : mq_K mw_283 M0 (mf_283_L114 v2 v3 s M) := by
  unfold mf_283_L114
  exact mq_K_L (fun s M h => mk_283_b114 h) h
theorem mk_283_j157 {v2 : Int32} {M0 M : mm_M} (h : mq_kp mw_283 M0 M) : mq_K mw_283 M0 (mf_283_j157 v2 M) := by
  unfold mf_283_j157
  exact mq_K_ite (fun hc => mq_K_ret h) (fun _ => mq_K_none)
theorem mk_283_b77 {v1 : Int32} {v2 : Int32} {M0 M : mm_M} (h : mq_kp mw_283 M0 M) : mq_K mw_283 M0 (mf_283_b77 v1 v2 M) := by
  unfold mf_283_b77
  exact mq_K_ite (fun hc => mq_K_B (mq_K_call mk_282 h rfl) (fun _ M1 hM1 => mq_K_B (mk_283_L114 hM1) (fun _ M2 hM2 => mk_283_j157 hM2))) (fun _ => mq_K_ret h)
theorem mk_283_L77 {s : Int32 × Int32} {M0 M : mm_M} (h : mq_kp mw_283 M0 M) : mq_K mw_283 M0 (mf_283_L77 s M) := by
  unfold mf_283_L77
  exact mq_K_L (fun s M h => mk_283_b77 h) h
theorem mk_283_b172 {v2 : Int32} {M0 M : mm_M} (h : mq_kp mw_283 M0 M) : mq_K mw_283 M0 (mf_283_b172 v2 M) := by
  unfold mf_283_b172
  exact mq_K_ite (fun hc => mq_K_ite (fun hc => mq_K_B (mq_K_call mk_245 h rfl) (fun _ M1 hM1 => mq_K_ret hM1)) (fun _ => mq_K_none)) (fun _ => mq_K_ret h)
theorem mk_283_L172 {s : Int32} {M0 M : mm_M} (h : mq_kp mw_283 M0 M) : mq_K mw_283 M0 (mf_283_L172 s M) := by
  unfold mf_283_L172
  exact mq_K_L (fun s M h => mk_283_b172 h) h
theorem mk_283_b198 {v2 : Int32} {M0 M : mm_M} (h : mq_kp mw_283 M0 M) : mq_K mw_283 M0 (mf_283_b198 v2 M) := by
  unfold mf_283_b198
  exact mq_K_ite (fun hc => mq_K_ret h) (fun _ => mq_K_B (mq_K_call mk_245 h rfl) (fun _ M1 hM1 => mq_K_ret hM1))
theorem mk_283_L198 {s : Int32} {M0 M : mm_M} (h : mq_kp mw_283 M0 M) : mq_K mw_283 M0 (mf_283_L198 s M) := by
  unfold mf_283_L198
  exact mq_K_L (fun s M h => mk_283_b198 h) h
theorem mk_283_j49 {M0 M : mm_M} (h : mq_kp mw_283 M0 M) : mq_K mw_283 M0 (mf_283_j49 M) := by
  unfold mf_283_j49
  exact mq_K_ite (fun hc => mq_K_B (mk_283_L77 (mq_kp_pi (mq_kp_pi (mq_kp_pl (mq_kp_pl h rfl) rfl) rfl) rfl)) (fun _ M1 hM1 => mq_K_B (mk_283_L172 hM1) (fun _ M9 hM9 => mq_K_B (mk_283_L198 hM9) (fun _ M17 hM17 => mq_K_ret hM17)))) (fun _ => mq_K_none)
theorem mk_283 {M : mm_M} : mq_K mw_283 M (mf_283 M) := by
  unfold mf_283
  exact mq_K_B (mq_K_call mk_245 mq_kp_refl rfl) (fun _ M1 hM1 => mq_K_B (mq_K_call mk_246 hM1 rfl) (fun _ M2 hM2 => mq_K_B (mq_K_call mk_246 hM2 rfl) (fun _ M3 hM3 => mq_K_B (mk_283_L27 hM3) (fun _ M4 hM4 => mk_283_j49 hM4))))
-- 284: PlainPacksModel.pack
def mw_284 : List (Nat × Option Nat) := [(84, some 0), (84, some 4), (84, some 13), (84, some 20), (84, some 21), (84, some 33), (84, some 41), (84, some 42), (84, some 43), (84, some 44), (84, some 45), (84, some 52), (84, some 53), (84, some 54), (86, none), (87, none), (88, none), (91, none), (92, none), (94, none), (98, none), (100, none), (102, none), (103, none), (104, none), (105, none), (106, none)]
theorem mk_284_b193 {v2 : Int32} {M0 M : mm_M} (h : mq_kp mw_284 M0 M) : mq_K mw_284 M0 (mf_284_b193 v2 M) := by
  unfold mf_284_b193
  exact mq_K_ite (fun hc => mq_K_ite (fun hc => mq_K_ite (fun hc => mq_K_ret (mq_kp_pi h rfl)) (fun _ => mq_K_none)) (fun _ => mq_K_none)) (fun _ => mq_K_ret h)
theorem mk_284_L193 {s : Int32} {M0 M : mm_M} (h : mq_kp mw_284 M0 M) : mq_K mw_284 M0 (mf_284_L193 s M) := by
  unfold mf_284_L193
  exact mq_K_L (fun s M h => mk_284_b193 h) h
theorem mk_284_j179 {M0 M : mm_M} (h : mq_kp mw_284 M0 M) : mq_K mw_284 M0 (mf_284_j179 M) := by
  unfold mf_284_j179
  exact mq_K_ite (fun hc => mq_K_ret h) (fun _ => mq_K_B (mk_284_L193 h) (fun _ M1 hM1 => mq_K_ret (mq_kp_pi hM1 rfl)))
theorem mk_284_j16 {v1 : Int32} {s1 : Int32} {M0 M : mm_M} (h : mq_kp mw_284 M0 M) : mq_K mw_284 M0 (mf_284_j16 v1 s1 M) := by
  unfold mf_284_j16
  exact mq_K_B (mq_K_call mk_174 h rfl) (fun _ M2 hM2 => mq_K_ite (fun hc => mq_K_ret hM2) (fun _ => mq_K_ite (fun hc => mq_K_B (mq_K_call mk_252 (mq_kp_pi (mq_kp_pi (mq_kp_pi hM2 rfl) rfl) rfl) rfl) (fun _ M3 hM3 => mk_284_j179 hM3)) (fun _ => mq_K_ite (fun hc => mq_K_B (mq_K_call mk_285 (mq_kp_pi (mq_kp_pi (mq_kp_pi hM2 rfl) rfl) rfl) rfl) (fun _ M4 hM4 => mk_284_j179 hM4)) (fun _ => mq_K_ite (fun hc => mq_K_B (mq_K_call mk_285 (mq_kp_pi (mq_kp_pi (mq_kp_pi hM2 rfl) rfl) rfl) rfl) (fun _ M5 hM5 => mk_284_j179 hM5)) (fun _ => mq_K_ite (fun hc => mq_K_B (mq_K_call mk_285 (mq_kp_pi (mq_kp_pi (mq_kp_pi hM2 rfl) rfl) rfl) rfl) (fun _ M6 hM6 => mk_284_j179 hM6)) (fun _ => mq_K_ite (fun hc => mq_K_B (mq_K_call mk_245 (mq_kp_pi (mq_kp_pi (mq_kp_pi (mq_kp_pi hM2 rfl) rfl) rfl) rfl) rfl) (fun _ M7 hM7 => mq_K_B (mq_K_call mk_261 hM7 rfl) (fun _ M8 hM8 => mk_284_j179 hM8))) (fun _ => mq_K_ite (fun hc => mq_K_B (mq_K_call mk_261 (mq_kp_pi (mq_kp_pi (mq_kp_pi (mq_kp_pi hM2 rfl) rfl) rfl) rfl) rfl) (fun _ M9 hM9 => mk_284_j179 hM9)) (fun _ => mq_K_ite (fun hc => mq_K_B (mq_K_call mk_265 (mq_kp_pi (mq_kp_pi (mq_kp_pi hM2 rfl) rfl) rfl) rfl) (fun _ M10 hM10 => mk_284_j179 hM10)) (fun _ => mq_K_ite (fun hc => mq_K_B (mq_K_call mk_266 (mq_kp_pi (mq_kp_pi (mq_kp_pi hM2 rfl) rfl) rfl) rfl) (fun _ M11 hM11 => mk_284_j179 hM11)) (fun _ => mq_K_ite (fun hc => mq_K_B (mq_K_call mk_269 (mq_kp_pi (mq_kp_pi (mq_kp_pi hM2 rfl) rfl) rfl) rfl) (fun _ M12 hM12 => mk_284_j179 hM12)) (fun _ => mq_K_ite (fun hc => mq_K_B (mq_K_call mk_276 (mq_kp_pi (mq_kp_pi (mq_kp_pi hM2 rfl) rfl) rfl) rfl) (fun _ M13 hM13 => mk_284_j179 hM13)) (fun _ => mq_K_B (mq_K_call mk_283 (mq_kp_pi (mq_kp_pi (mq_kp_pi hM2 rfl) rfl) rfl) rfl) (fun _ M14 hM14 => mk_284_j179 hM14)))))))))))))
theorem mk_284_j15 {v1 : Int32} {M0 M : mm_M} (h : mq_kp mw_284 M0 M) : mq_K mw_284 M0 (mf_284_j15 v1 M) := by
  unfold mf_284_j15
  exact mk_284_j16 h
theorem mk_284 {v1 : Int32} {M : mm_M} : mq_K mw_284 M (mf_284 v1 M) := by
  unfold mf_284
  exact mq_K_ite (fun hc => mk_284_j15 mq_kp_refl) (fun _ => mq_K_ite (fun hc => mk_284_j15 mq_kp_refl) (fun _ => mk_284_j16 mq_kp_refl))
-- 21: PlainPacks.sum
def mw_21 : List (Nat × Option Nat) := []
theorem mk_21 {v1 : Int32} {M : mm_M} : mq_K mw_21 M (mf_21 v1 M) := by
  unfold mf_21
  exact mq_K_ite (fun hc => mq_K_B (mq_K_call mk_28 mq_kp_refl rfl) (fun _ M2 hM2 => mq_K_ret hM2)) (fun _ => mq_K_ite (fun hc => mq_K_B (mq_K_call mk_29 mq_kp_refl rfl) (fun _ M4 hM4 => mq_K_ret hM4)) (fun _ => mq_K_ite (fun hc => mq_K_B (mq_K_call mk_30 mq_kp_refl rfl) (fun _ M6 hM6 => mq_K_ret hM6)) (fun _ => mq_K_ite (fun hc => mq_K_B (mq_K_call mk_31 mq_kp_refl rfl) (fun _ M8 hM8 => mq_K_ret hM8)) (fun _ => mq_K_ret (mq_kp_th mq_kp_refl)))))
-- 189: PlainPacksModel.sum
def mw_189 : List (Nat × Option Nat) := [(84, some 0)]
theorem mk_189_j15 {v1 : Int32} {s1 : Int32} {M0 M : mm_M} (h : mq_kp mw_189 M0 M) : mq_K mw_189 M0 (mf_189_j15 v1 s1 M) := by
  unfold mf_189_j15
  exact mq_K_B (mq_K_call mk_174 h rfl) (fun _ M2 hM2 => mq_K_ite (fun hc => mq_K_ret hM2) (fun _ => mq_K_ite (fun hc => mq_K_B (mq_K_call mk_182 hM2 rfl) (fun _ M4 hM4 => mq_K_ret hM4)) (fun _ => mq_K_ite (fun hc => mq_K_B (mq_K_call mk_183 hM2 rfl) (fun _ M6 hM6 => mq_K_ret hM6)) (fun _ => mq_K_ite (fun hc => mq_K_B (mq_K_call mk_184 hM2 rfl) (fun _ M8 hM8 => mq_K_ret hM8)) (fun _ => mq_K_B (mq_K_call mk_188 hM2 rfl) (fun _ M10 hM10 => mq_K_ret hM10))))))
theorem mk_189_j14 {v1 : Int32} {M0 M : mm_M} (h : mq_kp mw_189 M0 M) : mq_K mw_189 M0 (mf_189_j14 v1 M) := by
  unfold mf_189_j14
  exact mk_189_j15 h
theorem mk_189 {v1 : Int32} {M : mm_M} : mq_K mw_189 M (mf_189 v1 M) := by
  unfold mf_189
  exact mq_K_ite (fun hc => mk_189_j14 mq_kp_refl) (fun _ => mq_K_ite (fun hc => mk_189_j14 mq_kp_refl) (fun _ => mk_189_j15 mq_kp_refl))
-- 98: PlainPacks$Blocks.copyBits
def mw_98 : List (Nat × Option Nat) := []
theorem mk_98 {v0 : Int32} {v1 : Int32} {M : mm_M} : mq_K mw_98 M (mf_98 v0 v1 M) := by
  unfold mf_98
  exact mq_K_B (mq_K_call mk_94 mq_kp_refl rfl) (fun _ M2 hM2 => mq_K_B (mq_K_call mk_82 hM2 rfl) (fun _ M4 hM4 => mq_K_B (mq_K_call mk_95 hM4 rfl) (fun _ M6 hM6 => mq_K_B (mq_K_call mk_96 hM6 rfl) (fun _ M8 hM8 => mq_K_ret hM8))))
-- 97: PlainPacks$Blocks.leastBits
def mw_97 : List (Nat × Option Nat) := [(33, none), (34, none)]
theorem mk_97_b156 {v2 : Int32} {v3 : Int32} {v4 : Int32} {v6 : Int32} {v7 : Int32} {M0 M : mm_M} (h : mq_kp mw_97 M0 M) : mq_K mw_97 M0 (mf_97_b156 v2 v3 v4 v6 v7 M) := by
  unfold mf_97_b156
  exact mq_K_ite (fun hc => mq_K_ret h) (fun _ => mq_K_ite (fun hc => mq_K_B (mq_K_call mk_98 h rfl) (fun _ M2 hM2 => mq_K_ite (fun hc => mq_K_ite (fun hc => mq_K_ret (mq_kp_pi hM2 rfl)) (fun _ => mq_K_none)) (fun _ => mq_K_none))) (fun _ => mq_K_none))
theorem mk_97_L156 {v2 : Int32} {v3 : Int32} {v4 : Int32} {v6 : Int32} {s : Int32} {M0 M : mm_M} (h : mq_kp mw_97 M0 M) : mq_K mw_97 M0 (mf_97_L156 v2 v3 v4 v6 s M) := by
  unfold mf_97_L156
  exact mq_K_L (fun s M h => mk_97_b156 h) h
theorem mk_97_j201 {v2 : Int32} {v3 : Int32} {v4 : Int32} {v6 : Int32} {M0 M : mm_M} (h : mq_kp mw_97 M0 M) : mq_K mw_97 M0 (mf_97_j201 v2 v3 v4 v6 M) := by
  unfold mf_97_j201
  exact mq_K_ret h
theorem mk_97_j135 {v2 : Int32} {v3 : Int32} {v4 : Int32} {s1 : Int32} {s2 : Int32} {M0 M : mm_M} (h : mq_kp mw_97 M0 M) : mq_K mw_97 M0 (mf_97_j135 v2 v3 v4 s1 s2 M) := by
  unfold mf_97_j135
  exact mq_K_ite (fun hc => mq_K_ite (fun hc => mq_K_B (mk_97_L156 (mq_kp_pi h rfl)) (fun _ M1 hM1 => mk_97_j201 hM1)) (fun _ => mq_K_none)) (fun _ => mq_K_none)
theorem mk_97_j109 {v2 : Int32} {v3 : Int32} {v4 : Int32} {s0 : Int32} {M0 M : mm_M} (h : mq_kp mw_97 M0 M) : mq_K mw_97 M0 (mf_97_j109 v2 v3 v4 s0 M) := by
  unfold mf_97_j109
  exact mq_K_ite (fun hc => mk_97_j135 h) (fun _ => mq_K_ite (fun hc => mk_97_j135 h) (fun _ => mq_K_none))
theorem mk_97_b74 {v2 : Int32} {v3 : Int32} {v4 : Int32} {M0 M : mm_M} (h : mq_kp mw_97 M0 M) : mq_K mw_97 M0 (mf_97_b74 v2 v3 v4 M) := by
  unfold mf_97_b74
  exact mq_K_ite (fun hc => mq_K_ret h) (fun _ => mq_K_ite (fun hc => mq_K_ite (fun hc => mq_K_ite (fun hc => mk_97_j109 h) (fun _ => mk_97_j109 h)) (fun _ => mq_K_none)) (fun _ => mq_K_none))
theorem mk_97_L74 {v2 : Int32} {s : Int32 × Int32} {M0 M : mm_M} (h : mq_kp mw_97 M0 M) : mq_K mw_97 M0 (mf_97_L74 v2 s M) := by
  unfold mf_97_L74
  exact mq_K_L (fun s M h => mk_97_b74 h) h
theorem mk_97_b38 {v2 : Int32} {M0 M : mm_M} (h : mq_kp mw_97 M0 M) : mq_K mw_97 M0 (mf_97_b38 v2 M) := by
  unfold mf_97_b38
  exact mq_K_ite (fun hc => mq_K_ret h) (fun _ => mq_K_ite (fun hc => mq_K_B (mq_K_call mk_82 h rfl) (fun _ M2 hM2 => mq_K_ite (fun hc => mq_K_ite (fun hc => mq_K_B (mk_97_L74 (mq_kp_pi hM2 rfl)) (fun _ M3 hM3 => mq_K_ret hM3)) (fun _ => mq_K_none)) (fun _ => mq_K_none))) (fun _ => mq_K_none))
theorem mk_97_L38 {s : Int32} {M0 M : mm_M} (h : mq_kp mw_97 M0 M) : mq_K mw_97 M0 (mf_97_L38 s M) := by
  unfold mf_97_L38
  exact mq_K_L (fun s M h => mk_97_b38 h) h
theorem mk_97_j220 {M0 M : mm_M} (h : mq_kp mw_97 M0 M) : mq_K mw_97 M0 (mf_97_j220 M) := by
  unfold mf_97_j220
  exact mq_K_ite (fun hc => mq_K_ret h) (fun _ => mq_K_none)
theorem mk_97 {M : mm_M} : mq_K mw_97 M (mf_97 M) := by
  unfold mf_97
  exact mq_K_B (mq_K_call mk_290 mq_kp_refl rfl) (fun _ M1 hM1 => mq_K_B (mq_K_call mk_82 hM1 rfl) (fun _ M3 hM3 => mq_K_ite (fun hc => mq_K_B (mk_97_L38 (mq_kp_pi hM3 rfl)) (fun _ M4 hM4 => mk_97_j220 hM4)) (fun _ => mq_K_none)))
-- 22: PlainPacks.least
def mw_22 : List (Nat × Option Nat) := [(33, none), (34, none)]
theorem mk_22 {M : mm_M} : mq_K mw_22 M (mf_22 M) := by
  unfold mf_22
  exact mq_K_ite (fun hc => mq_K_ret mq_kp_refl) (fun _ => mq_K_B (mq_K_call mk_97 mq_kp_refl rfl) (fun _ M2 hM2 => mq_K_ret hM2))
