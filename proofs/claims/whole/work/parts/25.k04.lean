/-! WHAT IS KEPT 4 -/
-- 237: PlainPacksModel.chancesTold
def mw_237 : List (Nat × Option Nat) := [(84, some 4), (84, some 5), (84, some 7), (84, some 8), (84, some 9), (84, some 10), (84, some 11), (84, some 33), (84, some 34), (84, some 35), (84, some 37), (84, some 38), (84, some 39), (86, none), (98, none), (99, none)]
theorem mk_237_b98 {v1 : Int32} {v2 : Int64} {v4 : Int32} {M0 M : mm_M} (h : mq_kp mw_237 M0 M) : mq_K mw_237 M0 (mf_237_b98 v1 v2 v4 M) := by
  unfold mf_237_b98
  exact mq_K_ite (fun hc => mq_K_B (mq_K_call mk_191 h rfl) (fun _ M2 hM2 => mq_K_ret (mq_kp_pl hM2 rfl))) (fun _ => mq_K_ret h)
theorem mk_237_L98 {v1 : Int32} {v2 : Int64} {s : Int32} {M0 M : mm_M} (h : mq_kp mw_237 M0 M) : mq_K mw_237 M0 (mf_237_L98 v1 v2 s M) := by
  unfold mf_237_L98
  exact mq_K_L (fun s M h => mk_237_b98 h) h
theorem mk_237_b164 {v2 : Int64} {v4 : Int32} {M0 M : mm_M} (h : mq_kp mw_237 M0 M) : mq_K mw_237 M0 (mf_237_b164 v2 v4 M) := by
  unfold mf_237_b164
  exact mq_K_ite (fun hc => mq_K_ite (fun hc => mq_K_ret (mq_kp_pi h rfl)) (fun _ => mq_K_none)) (fun _ => mq_K_ret h)
theorem mk_237_L164 {v2 : Int64} {s : Int32} {M0 M : mm_M} (h : mq_kp mw_237 M0 M) : mq_K mw_237 M0 (mf_237_L164 v2 s M) := by
  unfold mf_237_L164
  exact mq_K_L (fun s M h => mk_237_b164 h) h
theorem mk_237_b196 {v2 : Int64} {v4 : Int32} {M0 M : mm_M} (h : mq_kp mw_237 M0 M) : mq_K mw_237 M0 (mf_237_b196 v2 v4 M) := by
  unfold mf_237_b196
  exact mq_K_ite (fun hc => mq_K_ite (fun hc => mq_K_ret (mq_kp_pl h rfl)) (fun _ => mq_K_none)) (fun _ => mq_K_ret h)
theorem mk_237_L196 {v2 : Int64} {s : Int32} {M0 M : mm_M} (h : mq_kp mw_237 M0 M) : mq_K mw_237 M0 (mf_237_L196 v2 s M) := by
  unfold mf_237_L196
  exact mq_K_L (fun s M h => mk_237_b196 h) h
theorem mk_237_b219 {v2 : Int64} {v4 : Int32} {M0 M : mm_M} (h : mq_kp mw_237 M0 M) : mq_K mw_237 M0 (mf_237_b219 v2 v4 M) := by
  unfold mf_237_b219
  exact mq_K_ite (fun hc => mq_K_ret h) (fun _ => mq_K_ite (fun hc => mq_K_ite (fun hc => mq_K_ret h) (fun _ => mq_K_B (mq_K_call mk_238 h rfl) (fun _ M2 hM2 => mq_K_ret hM2))) (fun _ => mq_K_ret h))
theorem mk_237_L219 {v2 : Int64} {s : Int32} {M0 M : mm_M} (h : mq_kp mw_237 M0 M) : mq_K mw_237 M0 (mf_237_L219 v2 s M) := by
  unfold mf_237_L219
  exact mq_K_L (fun s M h => mk_237_b219 h) h
theorem mk_237_j251 {M0 M : mm_M} (h : mq_kp mw_237 M0 M) : mq_K mw_237 M0 (mf_237_j251 M) := by
  unfold mf_237_j251
  exact mq_K_ite (fun hc => mq_K_ite (fun hc => mq_K_ret h) (fun _ => mq_K_B (mq_K_call mk_190 h rfl) (fun _ M1 hM1 => mq_K_ret hM1))) (fun _ => mq_K_ret h)
theorem mk_237_j127 {v1 : Int32} {v2 : Int64} {M0 M : mm_M} (h : mq_kp mw_237 M0 M) : mq_K mw_237 M0 (mf_237_j127 v1 v2 M) := by
  unfold mf_237_j127
  exact mq_K_ite (fun hc => mq_K_B (mk_237_L164 (mq_kp_pi (mq_kp_pi (mq_kp_pi h rfl) rfl) rfl)) (fun _ M1 hM1 => mq_K_B (mk_237_L196 (mq_kp_pi hM1 rfl)) (fun _ M6 hM6 => mq_K_B (mk_237_L219 hM6) (fun _ M11 hM11 => mk_237_j251 hM11)))) (fun _ => mq_K_ret h)
theorem mk_237_j78 {v1 : Int32} {v2 : Int64} {M0 M : mm_M} (h : mq_kp mw_237 M0 M) : mq_K mw_237 M0 (mf_237_j78 v1 v2 M) := by
  unfold mf_237_j78
  exact mq_K_B (mq_K_call mk_192 h rfl) (fun _ M1 hM1 => mq_K_B (mk_237_L98 (mq_kp_pl (mq_kp_pl hM1 rfl) rfl)) (fun _ M2 hM2 => mk_237_j127 hM2))
theorem mk_237_j74 {v1 : Int32} {v2 : Int64} {M0 M : mm_M} (h : mq_kp mw_237 M0 M) : mq_K mw_237 M0 (mf_237_j74 v1 v2 M) := by
  unfold mf_237_j74
  exact mq_K_B (mq_K_call mk_190 h rfl) (fun _ M1 hM1 => mk_237_j78 hM1)
theorem mk_237_j38 {v1 : Int32} {M0 M : mm_M} (h : mq_kp mw_237 M0 M) : mq_K mw_237 M0 (mf_237_j38 v1 M) := by
  unfold mf_237_j38
  exact mq_K_B (mq_K_call mk_193 h rfl) (fun _ M2 hM2 => mq_K_B (mq_K_call mk_193 hM2 rfl) (fun _ M4 hM4 => mq_K_ite (fun hc => mq_K_ite (fun hc => mk_237_j74 hM4) (fun _ => mq_K_ite (fun hc => mk_237_j74 hM4) (fun _ => mk_237_j78 hM4))) (fun _ => mk_237_j78 hM4)))
theorem mk_237_j34 {v1 : Int32} {M0 M : mm_M} (h : mq_kp mw_237 M0 M) : mq_K mw_237 M0 (mf_237_j34 v1 M) := by
  unfold mf_237_j34
  exact mq_K_B (mq_K_call mk_190 h rfl) (fun _ M1 hM1 => mk_237_j38 hM1)
theorem mk_237 {M : mm_M} : mq_K mw_237 M (mf_237 M) := by
  unfold mf_237
  exact mq_K_B (mq_K_call mk_191 mq_kp_refl rfl) (fun _ M2 hM2 => mq_K_ite (fun hc => mq_K_ite (fun hc => mk_237_j34 hM2) (fun _ => mq_K_ite (fun hc => mk_237_j34 hM2) (fun _ => mk_237_j38 hM2))) (fun _ => mk_237_j38 hM2))
-- 244: PlainPacksModel.open
def mw_244 : List (Nat × Option Nat) := [(84, some 0), (84, some 4), (84, some 5), (84, some 6), (84, some 7), (84, some 8), (84, some 9), (84, some 10), (84, some 11), (84, some 12), (84, some 13), (84, some 14), (84, some 15), (84, some 20), (84, some 21), (84, some 28), (84, some 29), (84, some 30), (84, some 33), (84, some 34), (84, some 35), (84, some 37), (84, some 38), (84, some 39), (86, none), (87, none), (88, none), (90, none), (91, none), (92, none), (93, none), (94, none), (95, none), (96, none), (97, none), (98, none), (99, none)]
theorem mk_244_j221 {M0 M : mm_M} (h : mq_kp mw_244 M0 M) : mq_K mw_244 M0 (mf_244_j221 M) := by
  unfold mf_244_j221
  exact mq_K_ite (fun hc => mq_K_ret h) (fun _ => mq_K_ret h)
theorem mk_244_j16 {v1 : Int32} {s1 : Int32} {M0 M : mm_M} (h : mq_kp mw_244 M0 M) : mq_K mw_244 M0 (mf_244_j16 v1 s1 M) := by
  unfold mf_244_j16
  exact mq_K_B (mq_K_call mk_174 h rfl) (fun _ M2 hM2 => mq_K_ite (fun hc => mq_K_ret hM2) (fun _ => mq_K_ite (fun hc => mq_K_B (mq_K_call mk_214 (mq_kp_pi (mq_kp_pi (mq_kp_pi (mq_kp_pi (mq_kp_pi (mq_kp_pi (mq_kp_pi (mq_kp_pi (mq_kp_pi (mq_kp_pi hM2 rfl) rfl) rfl) rfl) rfl) rfl) rfl) rfl) rfl) rfl) rfl) (fun _ M3 hM3 => mk_244_j221 hM3)) (fun _ => mq_K_ite (fun hc => mq_K_B (mq_K_call mk_203 (mq_kp_pi (mq_kp_pi (mq_kp_pi (mq_kp_pi (mq_kp_pi (mq_kp_pi (mq_kp_pi (mq_kp_pi (mq_kp_pi (mq_kp_pi hM2 rfl) rfl) rfl) rfl) rfl) rfl) rfl) rfl) rfl) rfl) rfl) (fun _ M4 hM4 => mk_244_j221 hM4)) (fun _ => mq_K_ite (fun hc => mq_K_B (mq_K_call mk_210 (mq_kp_pi (mq_kp_pi (mq_kp_pi (mq_kp_pi (mq_kp_pi (mq_kp_pi (mq_kp_pi (mq_kp_pi (mq_kp_pi (mq_kp_pi hM2 rfl) rfl) rfl) rfl) rfl) rfl) rfl) rfl) rfl) rfl) rfl) (fun _ M5 hM5 => mk_244_j221 hM5)) (fun _ => mq_K_ite (fun hc => mq_K_B (mq_K_call mk_212 (mq_kp_pi (mq_kp_pi (mq_kp_pi (mq_kp_pi (mq_kp_pi (mq_kp_pi (mq_kp_pi (mq_kp_pi (mq_kp_pi (mq_kp_pi hM2 rfl) rfl) rfl) rfl) rfl) rfl) rfl) rfl) rfl) rfl) rfl) (fun _ M6 hM6 => mk_244_j221 hM6)) (fun _ => mq_K_ite (fun hc => mq_K_B (mq_K_call mk_216 (mq_kp_pi (mq_kp_pi (mq_kp_pi (mq_kp_pi (mq_kp_pi (mq_kp_pi (mq_kp_pi (mq_kp_pi (mq_kp_pi (mq_kp_pi hM2 rfl) rfl) rfl) rfl) rfl) rfl) rfl) rfl) rfl) rfl) rfl) (fun _ M7 hM7 => mk_244_j221 hM7)) (fun _ => mq_K_ite (fun hc => mq_K_B (mq_K_call mk_215 (mq_kp_pi (mq_kp_pi (mq_kp_pi (mq_kp_pi (mq_kp_pi (mq_kp_pi (mq_kp_pi (mq_kp_pi (mq_kp_pi (mq_kp_pi (mq_kp_pi hM2 rfl) rfl) rfl) rfl) rfl) rfl) rfl) rfl) rfl) rfl) rfl) rfl) (fun _ M8 hM8 => mk_244_j221 hM8)) (fun _ => mq_K_ite (fun hc => mq_K_B (mq_K_call mk_218 (mq_kp_pi (mq_kp_pi (mq_kp_pi (mq_kp_pi (mq_kp_pi (mq_kp_pi (mq_kp_pi (mq_kp_pi (mq_kp_pi (mq_kp_pi hM2 rfl) rfl) rfl) rfl) rfl) rfl) rfl) rfl) rfl) rfl) rfl) (fun _ M9 hM9 => mk_244_j221 hM9)) (fun _ => mq_K_ite (fun hc => mq_K_B (mq_K_call mk_219 (mq_kp_pi (mq_kp_pi (mq_kp_pi (mq_kp_pi (mq_kp_pi (mq_kp_pi (mq_kp_pi (mq_kp_pi (mq_kp_pi (mq_kp_pi hM2 rfl) rfl) rfl) rfl) rfl) rfl) rfl) rfl) rfl) rfl) rfl) (fun _ M10 hM10 => mk_244_j221 hM10)) (fun _ => mq_K_ite (fun hc => mq_K_B (mq_K_call mk_221 (mq_kp_pi (mq_kp_pi (mq_kp_pi (mq_kp_pi (mq_kp_pi (mq_kp_pi (mq_kp_pi (mq_kp_pi (mq_kp_pi (mq_kp_pi hM2 rfl) rfl) rfl) rfl) rfl) rfl) rfl) rfl) rfl) rfl) rfl) (fun _ M11 hM11 => mk_244_j221 hM11)) (fun _ => mq_K_ite (fun hc => mq_K_B (mq_K_call mk_223 (mq_kp_pi (mq_kp_pi (mq_kp_pi (mq_kp_pi (mq_kp_pi (mq_kp_pi (mq_kp_pi (mq_kp_pi (mq_kp_pi (mq_kp_pi hM2 rfl) rfl) rfl) rfl) rfl) rfl) rfl) rfl) rfl) rfl) rfl) (fun _ M12 hM12 => mk_244_j221 hM12)) (fun _ => mq_K_B (mq_K_call mk_237 (mq_kp_pi (mq_kp_pi (mq_kp_pi (mq_kp_pi (mq_kp_pi (mq_kp_pi (mq_kp_pi (mq_kp_pi (mq_kp_pi (mq_kp_pi hM2 rfl) rfl) rfl) rfl) rfl) rfl) rfl) rfl) rfl) rfl) rfl) (fun _ M13 hM13 => mk_244_j221 hM13)))))))))))))
theorem mk_244_j15 {v1 : Int32} {M0 M : mm_M} (h : mq_kp mw_244 M0 M) : mq_K mw_244 M0 (mf_244_j15 v1 M) := by
  unfold mf_244_j15
  exact mk_244_j16 h
theorem mk_244 {v1 : Int32} {M : mm_M} : mq_K mw_244 M (mf_244 v1 M) := by
  unfold mf_244
  exact mq_K_ite (fun hc => mk_244_j15 mq_kp_refl) (fun _ => mq_K_ite (fun hc => mk_244_j15 mq_kp_refl) (fun _ => mk_244_j16 mq_kp_refl))
-- 18: PlainPacks.told
def mw_18 : List (Nat × Option Nat) := []
theorem mk_18 {v1 : Int32} {M : mm_M} : mq_K mw_18 M (mf_18 v1 M) := by
  unfold mf_18
  exact mq_K_ite (fun hc => mq_K_ret mq_kp_refl) (fun _ => mq_K_ite (fun hc => mq_K_ret mq_kp_refl) (fun _ => mq_K_ite (fun hc => mq_K_ret mq_kp_refl) (fun _ => mq_K_ite (fun hc => mq_K_ret mq_kp_refl) (fun _ => mq_K_ite (fun hc => mq_K_ret mq_kp_refl) (fun _ => mq_K_ite (fun hc => mq_K_ret mq_kp_refl) (fun _ => mq_K_ret (mq_kp_th mq_kp_refl)))))))
-- 181: PlainPacksModel.told
def mw_181 : List (Nat × Option Nat) := [(84, some 0)]
theorem mk_181_j15 {v1 : Int32} {s1 : Int32} {M0 M : mm_M} (h : mq_kp mw_181 M0 M) : mq_K mw_181 M0 (mf_181_j15 v1 s1 M) := by
  unfold mf_181_j15
  exact mq_K_B (mq_K_call mk_174 h rfl) (fun _ M2 hM2 => mq_K_ite (fun hc => mq_K_ret hM2) (fun _ => mq_K_ite (fun hc => mq_K_ret hM2) (fun _ => mq_K_ite (fun hc => mq_K_ret hM2) (fun _ => mq_K_ite (fun hc => mq_K_ret hM2) (fun _ => mq_K_ite (fun hc => mq_K_ret hM2) (fun _ => mq_K_ite (fun hc => mq_K_ret hM2) (fun _ => mq_K_ret hM2)))))))
theorem mk_181_j14 {v1 : Int32} {M0 M : mm_M} (h : mq_kp mw_181 M0 M) : mq_K mw_181 M0 (mf_181_j14 v1 M) := by
  unfold mf_181_j14
  exact mk_181_j15 h
theorem mk_181 {v1 : Int32} {M : mm_M} : mq_K mw_181 M (mf_181 v1 M) := by
  unfold mf_181
  exact mq_K_ite (fun hc => mk_181_j14 mq_kp_refl) (fun _ => mq_K_ite (fun hc => mk_181_j14 mq_kp_refl) (fun _ => mk_181_j15 mq_kp_refl))
-- 19: PlainPacks.out
def mw_19 : List (Nat × Option Nat) := []
theorem mk_19 {v1 : Int32} {M : mm_M} : mq_K mw_19 M (mf_19 v1 M) := by
  unfold mf_19
  exact mq_K_ite (fun hc => mq_K_ret (mq_kp_th mq_kp_refl)) (fun _ => mq_K_ite (fun hc => mq_K_ite (fun hc => mq_K_ret mq_kp_refl) (fun _ => mq_K_none)) (fun _ => mq_K_ret (mq_kp_th mq_kp_refl)))
-- 180: PlainPacksModel.out
def mw_180 : List (Nat × Option Nat) := [(84, some 0)]
theorem mk_180_j18 {v1 : Int32} {s1 : Int32} {M0 M : mm_M} (h : mq_kp mw_180 M0 M) : mq_K mw_180 M0 (mf_180_j18 v1 s1 M) := by
  unfold mf_180_j18
  exact mq_K_B (mq_K_call mk_174 h rfl) (fun _ M2 hM2 => mq_K_ite (fun hc => mq_K_ret hM2) (fun _ => mq_K_ite (fun hc => mq_K_ret hM2) (fun _ => mq_K_none)))
theorem mk_180_j17 {v1 : Int32} {M0 M : mm_M} (h : mq_kp mw_180 M0 M) : mq_K mw_180 M0 (mf_180_j17 v1 M) := by
  unfold mf_180_j17
  exact mk_180_j18 h
theorem mk_180 {v1 : Int32} {M : mm_M} : mq_K mw_180 M (mf_180 v1 M) := by
  unfold mf_180
  exact mq_K_ite (fun hc => mk_180_j17 mq_kp_refl) (fun _ => mq_K_ite (fun hc => mk_180_j18 mq_kp_refl) (fun _ => mk_180_j17 mq_kp_refl))
-- 56: PlainPacks$Writer.back
def mw_56 : List (Nat × Option Nat) := [(5, some 1), (5, some 4), (5, some 5)]
theorem mk_56 {v1 : Int32} {M : mm_M} : mq_K mw_56 M (mf_56 v1 M) := by
  unfold mf_56
  exact mq_K_ret (mq_kp_pi (mq_kp_pi (mq_kp_pi mq_kp_refl rfl) rfl) rfl)
-- 55: PlainPacks$Writer.start
def mw_55 : List (Nat × Option Nat) := [(5, some 1), (5, some 2), (5, some 3), (5, some 4), (5, some 5)]
theorem mk_55 {M : mm_M} : mq_K mw_55 M (mf_55 M) := by
  unfold mf_55
  exact mq_K_B (mq_K_call mk_56 (mq_kp_pi (mq_kp_pi mq_kp_refl rfl) rfl) rfl) (fun _ M1 hM1 => mq_K_ret hM1)
-- 128: PlainPacks$Pieces.runAt
def mw_128 : List (Nat × Option Nat) := []
theorem mk_128_b2 {v1 : Int32} {v2 : Int32} {v3 : Int32} {M0 M : mm_M} (h : mq_kp mw_128 M0 M) : mq_K mw_128 M0 (mf_128_b2 v1 v2 v3 M) := by
  unfold mf_128_b2
  exact mq_K_ite (fun hc => mq_K_ite (fun hc => mq_K_ite (fun hc => mq_K_ite (fun hc => mq_K_ite (fun hc => mq_K_ret h) (fun _ => mq_K_ret h)) (fun _ => mq_K_none)) (fun _ => mq_K_none)) (fun _ => mq_K_ret h)) (fun _ => mq_K_ret h)
theorem mk_128_L2 {v1 : Int32} {v2 : Int32} {s : Int32} {M0 M : mm_M} (h : mq_kp mw_128 M0 M) : mq_K mw_128 M0 (mf_128_L2 v1 v2 s M) := by
  unfold mf_128_L2
  exact mq_K_L (fun s M h => mk_128_b2 h) h
theorem mk_128 {v1 : Int32} {v2 : Int32} {M : mm_M} : mq_K mw_128 M (mf_128 v1 v2 M) := by
  unfold mf_128
  exact mq_K_B (mk_128_L2 mq_kp_refl) (fun _ M1 hM1 => mq_K_ret hM1)
-- 57: PlainPacks$Writer.put
def mw_57 : List (Nat × Option Nat) := [(5, some 1), (5, some 2), (6, none)]
theorem mk_57 {v1 : Int32} {M : mm_M} : mq_K mw_57 M (mf_57 v1 M) := by
  unfold mf_57
  exact mq_K_ite (fun hc => mq_K_ite (fun hc => mq_K_ret (mq_kp_pi (mq_kp_pi mq_kp_refl rfl) rfl)) (fun _ => mq_K_none)) (fun _ => mq_K_ret (mq_kp_pi mq_kp_refl rfl))
-- 58: PlainPacks$Writer.putAll
def mw_58 : List (Nat × Option Nat) := [(5, some 1), (5, some 2), (6, none)]
theorem mk_58_b3 {v3 : Int32} {v4 : Int32} {M0 M : mm_M} (h : mq_kp mw_58 M0 M) : mq_K mw_58 M0 (mf_58_b3 v3 v4 M) := by
  unfold mf_58_b3
  exact mq_K_ite (fun hc => mq_K_ite (fun hc => mq_K_B (mq_K_call mk_57 h rfl) (fun _ M1 hM1 => mq_K_ret hM1)) (fun _ => mq_K_none)) (fun _ => mq_K_ret h)
theorem mk_58_L3 {v3 : Int32} {s : Int32} {M0 M : mm_M} (h : mq_kp mw_58 M0 M) : mq_K mw_58 M0 (mf_58_L3 v3 s M) := by
  unfold mf_58_L3
  exact mq_K_L (fun s M h => mk_58_b3 h) h
theorem mk_58 {v2 : Int32} {v3 : Int32} {M : mm_M} : mq_K mw_58 M (mf_58 v2 v3 M) := by
  unfold mf_58
  exact mq_K_B (mk_58_L3 mq_kp_refl) (fun _ M1 hM1 => mq_K_ret hM1)
-- 127: PlainPacks$Pieces.writeRuns
def mw_127 : List (Nat × Option Nat) := [(5, some 1), (5, some 2), (6, none)]
theorem mk_127_b66 {v1 : Int32} {v3 : Int32} {M0 M : mm_M} (h : mq_kp mw_127 M0 M) : mq_K mw_127 M0 (mf_127_b66 v1 v3 M) := by
  unfold mf_127_b66
  exact mq_K_ite (fun hc => mq_K_ite (fun hc => mq_K_B (mq_K_call mk_128 h rfl) (fun _ M2 hM2 => mq_K_ite (fun hc => mq_K_ret hM2) (fun _ => mq_K_ret hM2))) (fun _ => mq_K_ret h)) (fun _ => mq_K_ret h)
theorem mk_127_L66 {v1 : Int32} {s : Int32} {M0 M : mm_M} (h : mq_kp mw_127 M0 M) : mq_K mw_127 M0 (mf_127_L66 v1 s M) := by
  unfold mf_127_L66
  exact mq_K_L (fun s M h => mk_127_b66 h) h
theorem mk_127_j102 {v1 : Int32} {v3 : Int32} {M0 M : mm_M} (h : mq_kp mw_127 M0 M) : mq_K mw_127 M0 (mf_127_j102 v1 v3 M) := by
  unfold mf_127_j102
  exact mq_K_B (mq_K_call mk_57 h rfl) (fun _ M1 hM1 => mq_K_B (mq_K_call mk_58 hM1 rfl) (fun _ M2 hM2 => mq_K_ret hM2))
theorem mk_127_b2 {v1 : Int32} {M0 M : mm_M} (h : mq_kp mw_127 M0 M) : mq_K mw_127 M0 (mf_127_b2 v1 M) := by
  unfold mf_127_b2
  exact mq_K_ite (fun hc => mq_K_B (mq_K_call mk_128 h rfl) (fun _ M2 hM2 => mq_K_ite (fun hc => mq_K_B (mk_127_L66 hM2) (fun _ M3 hM3 => mk_127_j102 hM3)) (fun _ => mq_K_B (mq_K_call mk_57 hM2 rfl) (fun _ M6 hM6 => mq_K_ite (fun hc => mq_K_B (mq_K_call mk_57 hM6 rfl) (fun _ M7 hM7 => mq_K_ret hM7)) (fun _ => mq_K_none))))) (fun _ => mq_K_ret h)
theorem mk_127_L2 {s : Int32} {M0 M : mm_M} (h : mq_kp mw_127 M0 M) : mq_K mw_127 M0 (mf_127_L2 s M) := by
  unfold mf_127_L2
  exact mq_K_L (fun s M h => mk_127_b2 h) h
theorem mk_127 {M : mm_M} : mq_K mw_127 M (mf_127 M) := by
  unfold mf_127
  exact mq_K_B (mk_127_L2 mq_kp_refl) (fun _ M1 hM1 => mq_K_ret hM1)
-- 61: PlainPacks$Writer.bit
def mw_61 : List (Nat × Option Nat) := [(5, some 1), (5, some 2), (5, some 4), (5, some 5), (6, none)]
theorem mk_61_j30 {s1 : Int32} {s2 : Int32} {M0 M : mm_M} (h : mq_kp mw_61 M0 M) : mq_K mw_61 M0 (mf_61_j30 s1 s2 M) := by
  unfold mf_61_j30
  exact mq_K_ite (fun hc => mq_K_B (mq_K_call mk_57 (mq_kp_pi (mq_kp_pi h rfl) rfl) rfl) (fun _ M1 hM1 => mq_K_ret (mq_kp_pi (mq_kp_pi hM1 rfl) rfl))) (fun _ => mq_K_ret (mq_kp_pi (mq_kp_pi h rfl) rfl))
theorem mk_61 {v1 : Int32} {M : mm_M} : mq_K mw_61 M (mf_61 v1 M) := by
  unfold mf_61
  exact mq_K_ite (fun hc => mk_61_j30 mq_kp_refl) (fun _ => mk_61_j30 mq_kp_refl)
-- 62: PlainPacks$Writer.bits
def mw_62 : List (Nat × Option Nat) := [(5, some 1), (5, some 2), (5, some 4), (5, some 5), (6, none)]
theorem mk_62_j29 {v1 : Int64} {v3 : Int32} {v4 : Int32} {s1 : Int64} {s2 : Int32} {M0 M : mm_M} (h : mq_kp mw_62 M0 M) : mq_K mw_62 M0 (mf_62_j29 v1 v3 v4 s1 s2 M) := by
  unfold mf_62_j29
  exact mq_K_B (mq_K_call mk_61 h rfl) (fun _ M1 hM1 => mq_K_ret hM1)
theorem mk_62_b3 {v1 : Int64} {v3 : Int32} {v4 : Int32} {M0 M : mm_M} (h : mq_kp mw_62 M0 M) : mq_K mw_62 M0 (mf_62_b3 v1 v3 v4 M) := by
  unfold mf_62_b3
  exact mq_K_ite (fun hc => mq_K_ite (fun hc => mk_62_j29 h) (fun _ => mk_62_j29 h)) (fun _ => mq_K_ret h)
theorem mk_62_L3 {v1 : Int64} {v3 : Int32} {s : Int32} {M0 M : mm_M} (h : mq_kp mw_62 M0 M) : mq_K mw_62 M0 (mf_62_L3 v1 v3 s M) := by
  unfold mf_62_L3
  exact mq_K_L (fun s M h => mk_62_b3 h) h
theorem mk_62 {v1 : Int64} {v3 : Int32} {M : mm_M} : mq_K mw_62 M (mf_62 v1 v3 M) := by
  unfold mf_62
  exact mq_K_B (mk_62_L3 mq_kp_refl) (fun _ M1 hM1 => mq_K_ret hM1)
-- 70: PlainPacks$Finder.start
def mw_70 : List (Nat × Option Nat) := [(13, some 6), (13, some 7), (14, none)]
theorem mk_70 {M : mm_M} : mq_K mw_70 M (mf_70 M) := by
  unfold mf_70
  exact mq_K_B (mq_K_call mk_290 (mq_kp_pi (mq_kp_pi mq_kp_refl rfl) rfl) rfl) (fun _ M1 hM1 => mq_K_ret hM1)
-- 73: PlainPacks$Finder.headOf
def mw_73 : List (Nat × Option Nat) := []
theorem mk_73 {v1 : Int32} {M : mm_M} : mq_K mw_73 M (mf_73 v1 M) := by
  unfold mf_73
  exact mq_K_ite (fun hc => mq_K_ite (fun hc => mq_K_ite (fun hc => mq_K_ret mq_kp_refl) (fun _ => mq_K_none)) (fun _ => mq_K_none)) (fun _ => mq_K_none)
-- 72: PlainPacks$Finder.enterTo
def mw_72 : List (Nat × Option Nat) := [(13, some 7), (14, none), (15, none)]
theorem mk_72_b0 {v1 : Int32} {M0 M : mm_M} (h : mq_kp mw_72 M0 M) : mq_K mw_72 M0 (mf_72_b0 v1 M) := by
  unfold mf_72_b0
  exact mq_K_ite (fun hc => mq_K_ite (fun hc => mq_K_ret h) (fun _ => mq_K_B (mq_K_call mk_73 h rfl) (fun _ M2 hM2 => mq_K_ite (fun hc => mq_K_ite (fun hc => mq_K_ite (fun hc => mq_K_ret (mq_kp_pi (mq_kp_pi (mq_kp_pi hM2 rfl) rfl) rfl)) (fun _ => mq_K_none)) (fun _ => mq_K_none)) (fun _ => mq_K_none)))) (fun _ => mq_K_ret h)
theorem mk_72_L0 {v1 : Int32} {s : Unit} {M0 M : mm_M} (h : mq_kp mw_72 M0 M) : mq_K mw_72 M0 (mf_72_L0 v1 s M) := by
  unfold mf_72_L0
  exact mq_K_L (fun s M h => mk_72_b0 h) h
theorem mk_72 {v1 : Int32} {M : mm_M} : mq_K mw_72 M (mf_72 v1 M) := by
  unfold mf_72
  exact mq_K_B (mk_72_L0 mq_kp_refl) (fun _ M1 hM1 => mq_K_ret hM1)
-- 74: PlainPacks$Finder.alike
def mw_74 : List (Nat × Option Nat) := []
theorem mk_74_b3 {v1 : Int32} {v2 : Int32} {v3 : Int32} {v4 : Int32} {M0 M : mm_M} (h : mq_kp mw_74 M0 M) : mq_K mw_74 M0 (mf_74_b3 v1 v2 v3 v4 M) := by
  unfold mf_74_b3
  exact mq_K_ite (fun hc => mq_K_ite (fun hc => mq_K_ite (fun hc => mq_K_ite (fun hc => mq_K_ret h) (fun _ => mq_K_ret h)) (fun _ => mq_K_none)) (fun _ => mq_K_none)) (fun _ => mq_K_ret h)
theorem mk_74_L3 {v1 : Int32} {v2 : Int32} {v3 : Int32} {s : Int32} {M0 M : mm_M} (h : mq_kp mw_74 M0 M) : mq_K mw_74 M0 (mf_74_L3 v1 v2 v3 s M) := by
  unfold mf_74_L3
  exact mq_K_L (fun s M h => mk_74_b3 h) h
theorem mk_74 {v1 : Int32} {v2 : Int32} {v3 : Int32} {M : mm_M} : mq_K mw_74 M (mf_74 v1 v2 v3 M) := by
  unfold mf_74
  exact mq_K_B (mk_74_L3 mq_kp_refl) (fun _ M1 hM1 => mq_K_ret hM1)
-- 71: PlainPacks$Finder.find
def mw_71 : List (Nat × Option Nat) := [(13, some 0), (13, some 1), (13, some 7), (14, none), (15, none)]
theorem mk_71_j134 {v1 : Int32} {v3 : Int32} {v4 : Int32} {v5 : Int32} {M0 M : mm_M} (h : mq_kp mw_71 M0 M) : mq_K mw_71 M0 (mf_71_j134 v1 v3 v4 v5 M) := by
  unfold mf_71_j134
  exact mq_K_ite (fun hc => mq_K_ret h) (fun _ => mq_K_none)
theorem mk_71_b47 {v1 : Int32} {v3 : Int32} {v4 : Int32} {v5 : Int32} {M0 M : mm_M} (h : mq_kp mw_71 M0 M) : mq_K mw_71 M0 (mf_71_b47 v1 v3 v4 v5 M) := by
  unfold mf_71_b47
  exact mq_K_ite (fun hc => mq_K_ite (fun hc => mq_K_ret h) (fun _ => mq_K_ite (fun hc => mq_K_ite (fun hc => mq_K_ite (fun hc => mq_K_ite (fun hc => mq_K_B (mq_K_call mk_74 h rfl) (fun _ M2 hM2 => mq_K_ite (fun hc => mk_71_j134 hM2) (fun _ => mq_K_ite (fun hc => mk_71_j134 (mq_kp_pi (mq_kp_pi hM2 rfl) rfl)) (fun _ => mk_71_j134 hM2)))) (fun _ => mk_71_j134 h)) (fun _ => mq_K_none)) (fun _ => mq_K_none)) (fun _ => mq_K_ret h))) (fun _ => mq_K_ret h)
theorem mk_71_L47 {v1 : Int32} {v3 : Int32} {s : Int32 × Int32} {M0 M : mm_M} (h : mq_kp mw_71 M0 M) : mq_K mw_71 M0 (mf_71_L47 v1 v3 s M) := by
  unfold mf_71_L47
  exact mq_K_L (fun s M h => mk_71_b47 h) h
theorem mk_71 {v1 : Int32} {v2 : Int32} {M : mm_M} : mq_K mw_71 M (mf_71 v1 v2 M) := by
  unfold mf_71
  exact mq_K_ite (fun hc => mq_K_ret (mq_kp_pi (mq_kp_pi mq_kp_refl rfl) rfl)) (fun _ => mq_K_B (mq_K_call mk_72 (mq_kp_pi (mq_kp_pi mq_kp_refl rfl) rfl) rfl) (fun _ M1 hM1 => mq_K_B (mq_K_call mk_73 hM1 rfl) (fun _ M3 hM3 => mq_K_ite (fun hc => mq_K_B (mk_71_L47 hM3) (fun _ M4 hM4 => mq_K_ret hM4)) (fun _ => mq_K_none))))
-- 95: PlainPacks$Blocks.lengthExtra
def mw_95 : List (Nat × Option Nat) := []
theorem mk_95 {v0 : Int32} {M : mm_M} : mq_K mw_95 M (mf_95 v0 M) := by
  unfold mf_95
  exact mq_K_ite (fun hc => mq_K_ret mq_kp_refl) (fun _ => mq_K_ite (fun hc => mq_K_ret mq_kp_refl) (fun _ => mq_K_B (mq_K_call mk_34 mq_kp_refl rfl) (fun _ M2 hM2 => mq_K_ret hM2)))
-- 94: PlainPacks$Blocks.letterOf
def mw_94 : List (Nat × Option Nat) := []
theorem mk_94 {v0 : Int32} {M : mm_M} : mq_K mw_94 M (mf_94 v0 M) := by
  unfold mf_94
  exact mq_K_ite (fun hc => mq_K_ret mq_kp_refl) (fun _ => mq_K_B (mq_K_call mk_95 mq_kp_refl rfl) (fun _ M2 hM2 => mq_K_ite (fun hc => mq_K_ret hM2) (fun _ => mq_K_ret hM2)))
-- 63: PlainPacks$Writer.code
def mw_63 : List (Nat × Option Nat) := [(5, some 1), (5, some 2), (5, some 4), (5, some 5), (6, none)]
theorem mk_63_b4 {v1 : Int32} {v3 : Int32} {M0 M : mm_M} (h : mq_kp mw_63 M0 M) : mq_K mw_63 M0 (mf_63_b4 v1 v3 M) := by
  unfold mf_63_b4
  exact mq_K_ite (fun hc => mq_K_ret h) (fun _ => mq_K_B (mq_K_call mk_61 h rfl) (fun _ M1 hM1 => mq_K_ret hM1))
theorem mk_63_L4 {v1 : Int32} {s : Int32} {M0 M : mm_M} (h : mq_kp mw_63 M0 M) : mq_K mw_63 M0 (mf_63_L4 v1 s M) := by
  unfold mf_63_L4
  exact mq_K_L (fun s M h => mk_63_b4 h) h
theorem mk_63 {v1 : Int32} {v2 : Int32} {M : mm_M} : mq_K mw_63 M (mf_63 v1 v2 M) := by
  unfold mf_63
  exact mq_K_B (mk_63_L4 mq_kp_refl) (fun _ M1 hM1 => mq_K_ret hM1)
-- 92: PlainPacks$Blocks.writeLetter
def mw_92 : List (Nat × Option Nat) := [(5, some 1), (5, some 2), (5, some 4), (5, some 5), (6, none)]
theorem mk_92 {v1 : Int32} {M : mm_M} : mq_K mw_92 M (mf_92 v1 M) := by
  unfold mf_92
  exact mq_K_ite (fun hc => mq_K_B (mq_K_call mk_63 mq_kp_refl rfl) (fun _ M1 hM1 => mq_K_ret hM1)) (fun _ => mq_K_ite (fun hc => mq_K_B (mq_K_call mk_63 mq_kp_refl rfl) (fun _ M2 hM2 => mq_K_ret hM2)) (fun _ => mq_K_ite (fun hc => mq_K_B (mq_K_call mk_63 mq_kp_refl rfl) (fun _ M3 hM3 => mq_K_ret hM3)) (fun _ => mq_K_B (mq_K_call mk_63 mq_kp_refl rfl) (fun _ M4 hM4 => mq_K_ret hM4))))
-- 96: PlainPacks$Blocks.distanceExtra
def mw_96 : List (Nat × Option Nat) := []
theorem mk_96 {v0 : Int32} {M : mm_M} : mq_K mw_96 M (mf_96 v0 M) := by
  unfold mf_96
  exact mq_K_ite (fun hc => mq_K_ret mq_kp_refl) (fun _ => mq_K_B (mq_K_call mk_34 mq_kp_refl rfl) (fun _ M2 hM2 => mq_K_ret hM2))
-- 93: PlainPacks$Blocks.writeDistance
def mw_93 : List (Nat × Option Nat) := [(5, some 1), (5, some 2), (5, some 4), (5, some 5), (6, none)]
theorem mk_93_j33 {v2 : Int32} {v3 : Int32} {s1 : Int32} {M0 M : mm_M} (h : mq_kp mw_93 M0 M) : mq_K mw_93 M0 (mf_93_j33 v2 v3 s1 M) := by
  unfold mf_93_j33
  exact mq_K_B (mq_K_call mk_63 h rfl) (fun _ M1 hM1 => mq_K_B (mq_K_call mk_62 hM1 rfl) (fun _ M2 hM2 => mq_K_ret hM2))
theorem mk_93 {v1 : Int32} {M : mm_M} : mq_K mw_93 M (mf_93 v1 M) := by
  unfold mf_93
  exact mq_K_B (mq_K_call mk_96 mq_kp_refl rfl) (fun _ M2 hM2 => mq_K_ite (fun hc => mk_93_j33 hM2) (fun _ => mk_93_j33 hM2))
-- 64: PlainPacks$Writer.closeByte
def mw_64 : List (Nat × Option Nat) := [(5, some 1), (5, some 2), (5, some 4), (5, some 5), (6, none)]
theorem mk_64 {M : mm_M} : mq_K mw_64 M (mf_64 M) := by
  unfold mf_64
  exact mq_K_ite (fun hc => mq_K_B (mq_K_call mk_57 mq_kp_refl rfl) (fun _ M1 hM1 => mq_K_ret (mq_kp_pi (mq_kp_pi hM1 rfl) rfl))) (fun _ => mq_K_ret (mq_kp_pi (mq_kp_pi mq_kp_refl rfl) rfl))
-- 91: PlainPacks$Blocks.writeBlock
def mw_91 : List (Nat × Option Nat) := [(5, some 1), (5, some 2), (5, some 4), (5, some 5), (6, none), (13, some 0), (13, some 1), (13, some 6), (13, some 7), (14, none), (15, none)]
theorem mk_91_b27 {v1 : Int32} {M0 M : mm_M} (h : mq_kp mw_91 M0 M) : mq_K mw_91 M0 (mf_91_b27 v1 M) := by
  unfold mf_91_b27
  exact mq_K_ite (fun hc => mq_K_B (mq_K_call mk_71 h rfl) (fun _ M1 hM1 => mq_K_ite (fun hc => mq_K_ite (fun hc => mq_K_B (mq_K_call mk_92 hM1 rfl) (fun _ M2 hM2 => mq_K_ret hM2)) (fun _ => mq_K_none)) (fun _ => mq_K_B (mq_K_call mk_94 hM1 rfl) (fun _ M4 hM4 => mq_K_B (mq_K_call mk_92 hM4 rfl) (fun _ M5 hM5 => mq_K_B (mq_K_call mk_95 hM5 rfl) (fun _ M7 hM7 => mq_K_B (mq_K_call mk_62 hM7 rfl) (fun _ M8 hM8 => mq_K_B (mq_K_call mk_93 hM8 rfl) (fun _ M9 hM9 => mq_K_ret hM9)))))))) (fun _ => mq_K_ret h)
theorem mk_91_L27 {s : Int32} {M0 M : mm_M} (h : mq_kp mw_91 M0 M) : mq_K mw_91 M0 (mf_91_L27 s M) := by
  unfold mf_91_L27
  exact mq_K_L (fun s M h => mk_91_b27 h) h
theorem mk_91_j144 {M0 M : mm_M} (h : mq_kp mw_91 M0 M) : mq_K mw_91 M0 (mf_91_j144 M) := by
  unfold mf_91_j144
  exact mq_K_B (mq_K_call mk_92 h rfl) (fun _ M1 hM1 => mq_K_B (mq_K_call mk_64 hM1 rfl) (fun _ M2 hM2 => mq_K_ret hM2))
theorem mk_91 {M : mm_M} : mq_K mw_91 M (mf_91 M) := by
  unfold mf_91
  exact mq_K_B (mq_K_call mk_62 mq_kp_refl rfl) (fun _ M1 hM1 => mq_K_B (mq_K_call mk_62 hM1 rfl) (fun _ M2 hM2 => mq_K_B (mq_K_call mk_70 hM2 rfl) (fun _ M3 hM3 => mq_K_B (mk_91_L27 hM3) (fun _ M4 hM4 => mk_91_j144 hM4))))
-- 60: PlainPacks$Writer.high
def mw_60 : List (Nat × Option Nat) := [(5, some 1), (5, some 2), (6, none)]
theorem mk_60_b5 {v1 : Int64} {v4 : Int32} {M0 M : mm_M} (h : mq_kp mw_60 M0 M) : mq_K mw_60 M0 (mf_60_b5 v1 v4 M) := by
  unfold mf_60_b5
  exact mq_K_ite (fun hc => mq_K_ret h) (fun _ => mq_K_B (mq_K_call mk_57 h rfl) (fun _ M1 hM1 => mq_K_ret hM1))
theorem mk_60_L5 {v1 : Int64} {s : Int32} {M0 M : mm_M} (h : mq_kp mw_60 M0 M) : mq_K mw_60 M0 (mf_60_L5 v1 s M) := by
  unfold mf_60_L5
  exact mq_K_L (fun s M h => mk_60_b5 h) h
theorem mk_60 {v1 : Int64} {v3 : Int32} {M : mm_M} : mq_K mw_60 M (mf_60 v1 v3 M) := by
  unfold mf_60
  exact mq_K_B (mk_60_L5 mq_kp_refl) (fun _ M1 hM1 => mq_K_ret hM1)
-- 89: PlainPacks$Blocks.writeWrapped
def mw_89 : List (Nat × Option Nat) := [(5, some 1), (5, some 2), (5, some 4), (5, some 5), (6, none), (13, some 0), (13, some 1), (13, some 6), (13, some 7), (14, none), (15, none)]
theorem mk_89 {M : mm_M} : mq_K mw_89 M (mf_89 M) := by
  unfold mf_89
  exact mq_K_B (mq_K_call mk_57 mq_kp_refl rfl) (fun _ M1 hM1 => mq_K_B (mq_K_call mk_57 hM1 rfl) (fun _ M2 hM2 => mq_K_B (mq_K_call mk_91 hM2 rfl) (fun _ M3 hM3 => mq_K_B (mq_K_call mk_30 hM3 rfl) (fun _ M5 hM5 => mq_K_B (mq_K_call mk_60 hM5 rfl) (fun _ M6 hM6 => mq_K_ret hM6)))))
-- 59: PlainPacks$Writer.low
def mw_59 : List (Nat × Option Nat) := [(5, some 1), (5, some 2), (6, none)]
theorem mk_59_b3 {v1 : Int64} {v3 : Int32} {v4 : Int32} {M0 M : mm_M} (h : mq_kp mw_59 M0 M) : mq_K mw_59 M0 (mf_59_b3 v1 v3 v4 M) := by
  unfold mf_59_b3
  exact mq_K_ite (fun hc => mq_K_B (mq_K_call mk_57 h rfl) (fun _ M1 hM1 => mq_K_ret hM1)) (fun _ => mq_K_ret h)
theorem mk_59_L3 {v1 : Int64} {v3 : Int32} {s : Int32} {M0 M : mm_M} (h : mq_kp mw_59 M0 M) : mq_K mw_59 M0 (mf_59_L3 v1 v3 s M) := by
  unfold mf_59_L3
  exact mq_K_L (fun s M h => mk_59_b3 h) h
theorem mk_59 {v1 : Int64} {v3 : Int32} {M : mm_M} : mq_K mw_59 M (mf_59 v1 v3 M) := by
  unfold mf_59
  exact mq_K_B (mk_59_L3 mq_kp_refl) (fun _ M1 hM1 => mq_K_ret hM1)
-- 90: PlainPacks$Blocks.writeFile
def mw_90 : List (Nat × Option Nat) := [(5, some 1), (5, some 2), (5, some 4), (5, some 5), (6, none), (13, some 0), (13, some 1), (13, some 6), (13, some 7), (14, none), (15, none)]
theorem mk_90 {M : mm_M} : mq_K mw_90 M (mf_90 M) := by
  unfold mf_90
  exact mq_K_B (mq_K_call mk_57 mq_kp_refl rfl) (fun _ M1 hM1 => mq_K_B (mq_K_call mk_57 hM1 rfl) (fun _ M2 hM2 => mq_K_B (mq_K_call mk_57 hM2 rfl) (fun _ M3 hM3 => mq_K_B (mq_K_call mk_59 hM3 rfl) (fun _ M4 hM4 => mq_K_B (mq_K_call mk_57 hM4 rfl) (fun _ M5 hM5 => mq_K_B (mq_K_call mk_91 hM5 rfl) (fun _ M6 hM6 => mq_K_B (mq_K_call mk_28 hM6 rfl) (fun _ M8 hM8 => mq_K_B (mq_K_call mk_59 hM8 rfl) (fun _ M9 hM9 => mq_K_B (mq_K_call mk_59 hM9 rfl) (fun _ M10 hM10 => mq_K_ret hM10)))))))))
-- 115: PlainPacks$Words.longerWord
def mw_115 : List (Nat × Option Nat) := []
theorem mk_115_b10 {v2 : Int32} {v3 : Int32} {v4 : Int32} {M0 M : mm_M} (h : mq_kp mw_115 M0 M) : mq_K mw_115 M0 (mf_115_b10 v2 v3 v4 M) := by
  unfold mf_115_b10
  exact mq_K_ite (fun hc => mq_K_ite (fun hc => mq_K_ite (fun hc => mq_K_ite (fun hc => mq_K_ret h) (fun _ => mq_K_ite (fun hc => mq_K_ret h) (fun _ => mq_K_none))) (fun _ => mq_K_none)) (fun _ => mq_K_ret h)) (fun _ => mq_K_ret h)
theorem mk_115_L10 {v2 : Int32} {s : Int32 × Int32} {M0 M : mm_M} (h : mq_kp mw_115 M0 M) : mq_K mw_115 M0 (mf_115_L10 v2 s M) := by
  unfold mf_115_L10
  exact mq_K_L (fun s M h => mk_115_b10 h) h
theorem mk_115 {v1 : Int32} {v2 : Int32} {M : mm_M} : mq_K mw_115 M (mf_115 v1 v2 M) := by
  unfold mf_115
  exact mq_K_ite (fun hc => mq_K_B (mk_115_L10 mq_kp_refl) (fun _ M1 hM1 => mq_K_ret hM1)) (fun _ => mq_K_none)
-- 116: PlainPacks$Words.addWord
def mw_116 : List (Nat × Option Nat) := [(38, none), (39, none), (40, none)]
theorem mk_116 {v1 : Int32} {v2 : Int32} {M : mm_M} : mq_K mw_116 M (mf_116 v1 v2 M) := by
  unfold mf_116
  exact mq_K_ite (fun hc => mq_K_ite (fun hc => mq_K_ite (fun hc => mq_K_ite (fun hc => mq_K_ret (mq_kp_pi (mq_kp_pi (mq_kp_pi mq_kp_refl rfl) rfl) rfl)) (fun _ => mq_K_none)) (fun _ => mq_K_none)) (fun _ => mq_K_none)) (fun _ => mq_K_none)
-- 114: PlainPacks$Words.writeCodes
def mw_114 : List (Nat × Option Nat) := [(5, some 1), (5, some 2), (5, some 4), (5, some 5), (6, none), (35, some 9), (35, some 10), (35, some 12), (38, none), (39, none), (40, none)]
theorem mk_114_b80 {v1 : Int32} {v2 : Int32} {v3 : Int32} {M0 M : mm_M} (h : mq_kp mw_114 M0 M) : mq_K mw_114 M0 (mf_114_b80 v1 v2 v3 M) := by
  unfold mf_114_b80
  exact mq_K_ite (fun hc => mq_K_ite (fun hc => mq_K_ite (fun hc => mq_K_ite (fun hc => mq_K_B (mq_K_call mk_115 h rfl) (fun _ M2 hM2 => mq_K_ret hM2)) (fun _ => mq_K_none)) (fun _ => mq_K_ret h)) (fun _ => mq_K_ret h)) (fun _ => mq_K_ret h)
theorem mk_114_L80 {s : Int32 × Int32 × Int32} {M0 M : mm_M} (h : mq_kp mw_114 M0 M) : mq_K mw_114 M0 (mf_114_L80 s M) := by
  unfold mf_114_L80
  exact mq_K_L (fun s M h => mk_114_b80 h) h
theorem mk_114_j173 {v1 : Int32} {v2 : Int32} {M0 M : mm_M} (h : mq_kp mw_114 M0 M) : mq_K mw_114 M0 (mf_114_j173 v1 v2 M) := by
  unfold mf_114_j173
  exact mq_K_B (mq_K_call mk_106 (mq_kp_pi h rfl) rfl) (fun _ M1 hM1 => mq_K_ite (fun hc => mq_K_ite (fun hc => mq_K_ite (fun hc => mq_K_B (mq_K_call mk_116 hM1 rfl) (fun _ M2 hM2 => mq_K_ret hM2)) (fun _ => mq_K_none)) (fun _ => mq_K_ret hM1)) (fun _ => mq_K_ret hM1))
theorem mk_114_j133 {v1 : Int32} {v2 : Int32} {M0 M : mm_M} (h : mq_kp mw_114 M0 M) : mq_K mw_114 M0 (mf_114_j133 v1 v2 M) := by
  unfold mf_114_j133
  exact mq_K_B (mq_K_call mk_62 h rfl) (fun _ M1 hM1 => mq_K_ite (fun hc => mq_K_ite (fun hc => mk_114_j173 (mq_kp_pi hM1 rfl)) (fun _ => mk_114_j173 hM1)) (fun _ => mk_114_j173 hM1))
theorem mk_114_b26 {v1 : Int32} {M0 M : mm_M} (h : mq_kp mw_114 M0 M) : mq_K mw_114 M0 (mf_114_b26 v1 M) := by
  unfold mf_114_b26
  exact mq_K_ite (fun hc => mq_K_ite (fun hc => mq_K_ite (fun hc => mq_K_ite (fun hc => mq_K_B (mq_K_call mk_115 h rfl) (fun _ M2 hM2 => mq_K_B (mk_114_L80 hM2) (fun _ M3 hM3 => mk_114_j133 hM3))) (fun _ => mq_K_none)) (fun _ => mq_K_B (mk_114_L80 h) (fun _ M6 hM6 => mk_114_j133 hM6))) (fun _ => mq_K_none)) (fun _ => mq_K_ret h)
theorem mk_114_L26 {s : Int32} {M0 M : mm_M} (h : mq_kp mw_114 M0 M) : mq_K mw_114 M0 (mf_114_L26 s M) := by
  unfold mf_114_L26
  exact mq_K_L (fun s M h => mk_114_b26 h) h
theorem mk_114_j220 {M0 M : mm_M} (h : mq_kp mw_114 M0 M) : mq_K mw_114 M0 (mf_114_j220 M) := by
  unfold mf_114_j220
  exact mq_K_B (mq_K_call mk_62 h rfl) (fun _ M1 hM1 => mq_K_B (mq_K_call mk_64 hM1 rfl) (fun _ M2 hM2 => mq_K_ret hM2))
theorem mk_114 {M : mm_M} : mq_K mw_114 M (mf_114 M) := by
  unfold mf_114
  exact mq_K_B (mq_K_call mk_290 mq_kp_refl rfl) (fun _ M1 hM1 => mq_K_B (mq_K_call mk_62 hM1 rfl) (fun _ M2 hM2 => mq_K_B (mk_114_L26 hM2) (fun _ M3 hM3 => mk_114_j220 hM3)))
-- 112: PlainPacks$Words.writeLow
def mw_112 : List (Nat × Option Nat) := [(5, some 1), (5, some 2), (5, some 4), (5, some 5), (6, none), (35, some 8), (35, some 9), (35, some 10), (35, some 11), (35, some 12), (38, none), (39, none), (40, none)]
theorem mk_112 {M : mm_M} : mq_K mw_112 M (mf_112 M) := by
  unfold mf_112
  exact mq_K_B (mq_K_call mk_57 mq_kp_refl rfl) (fun _ M1 hM1 => mq_K_B (mq_K_call mk_104 hM1 rfl) (fun _ M2 hM2 => mq_K_B (mq_K_call mk_114 hM2 rfl) (fun _ M3 hM3 => mq_K_ret hM3)))
-- 113: PlainPacks$Words.writeHigh
def mw_113 : List (Nat × Option Nat) := [(5, some 1), (5, some 2), (5, some 3), (5, some 4), (5, some 5), (6, none), (35, some 8), (35, some 9), (35, some 10), (35, some 11), (35, some 12), (38, none), (39, none), (40, none)]
theorem mk_113 {M : mm_M} : mq_K mw_113 M (mf_113 M) := by
  unfold mf_113
  exact mq_K_B (mq_K_call mk_104 (mq_kp_pi mq_kp_refl rfl) rfl) (fun _ M1 hM1 => mq_K_B (mq_K_call mk_114 hM1 rfl) (fun _ M2 hM2 => mq_K_ret hM2))
-- 132: PlainPacks$Pieces.writeMore
def mw_132 : List (Nat × Option Nat) := [(5, some 1), (5, some 2), (6, none)]
theorem mk_132_b9 {v1 : Int32} {v2 : Int32} {M0 M : mm_M} (h : mq_kp mw_132 M0 M) : mq_K mw_132 M0 (mf_132_b9 v1 v2 M) := by
  unfold mf_132_b9
  exact mq_K_ite (fun hc => mq_K_B (mq_K_call mk_57 h rfl) (fun _ M1 hM1 => mq_K_ret hM1)) (fun _ => mq_K_ret h)
theorem mk_132_L9 {v1 : Int32} {s : Int32} {M0 M : mm_M} (h : mq_kp mw_132 M0 M) : mq_K mw_132 M0 (mf_132_L9 v1 s M) := by
  unfold mf_132_L9
  exact mq_K_L (fun s M h => mk_132_b9 h) h
theorem mk_132_j37 {v1 : Int32} {M0 M : mm_M} (h : mq_kp mw_132 M0 M) : mq_K mw_132 M0 (mf_132_j37 v1 M) := by
  unfold mf_132_j37
  exact mq_K_B (mq_K_call mk_57 h rfl) (fun _ M1 hM1 => mq_K_ret hM1)
theorem mk_132 {v1 : Int32} {M : mm_M} : mq_K mw_132 M (mf_132 v1 M) := by
  unfold mf_132
  exact mq_K_ite (fun hc => mq_K_ret mq_kp_refl) (fun _ => mq_K_B (mk_132_L9 mq_kp_refl) (fun _ M1 hM1 => mk_132_j37 hM1))
-- 131: PlainPacks$Pieces.writePlainPart
def mw_131 : List (Nat × Option Nat) := [(5, some 1), (5, some 2), (6, none)]
theorem mk_131 {v1 : Int32} {v2 : Int32} {v3 : Int32} {M : mm_M} : mq_K mw_131 M (mf_131 v1 v2 v3 M) := by
  unfold mf_131
  exact mq_K_B (mq_K_call mk_57 mq_kp_refl rfl) (fun _ M1 hM1 => mq_K_B (mq_K_call mk_132 hM1 rfl) (fun _ M2 hM2 => mq_K_B (mq_K_call mk_58 hM2 rfl) (fun _ M3 hM3 => mq_K_ret hM3)))
-- 130: PlainPacks$Pieces.writePiece
def mw_130 : List (Nat × Option Nat) := [(5, some 1), (5, some 2), (6, none)]
theorem mk_130 {v1 : Int32} {v2 : Int32} {v3 : Int32} {M : mm_M} : mq_K mw_130 M (mf_130 v1 v2 v3 M) := by
  unfold mf_130
  exact mq_K_B (mq_K_call mk_131 mq_kp_refl rfl) (fun _ M1 hM1 => mq_K_B (mq_K_call mk_59 hM1 rfl) (fun _ M2 hM2 => mq_K_B (mq_K_call mk_132 hM2 rfl) (fun _ M3 hM3 => mq_K_ret hM3)))
-- 129: PlainPacks$Pieces.writePieces
def mw_129 : List (Nat × Option Nat) := [(5, some 1), (5, some 2), (6, none), (13, some 0), (13, some 1), (13, some 6), (13, some 7), (14, none), (15, none)]
theorem mk_129_b19 {v1 : Int32} {v2 : Int32} {v3 : Int32} {M0 M : mm_M} (h : mq_kp mw_129 M0 M) : mq_K mw_129 M0 (mf_129_b19 v1 v2 v3 M) := by
  unfold mf_129_b19
  exact mq_K_ite (fun hc => mq_K_ret h) (fun _ => mq_K_B (mq_K_call mk_71 h rfl) (fun _ M1 hM1 => mq_K_ite (fun hc => mq_K_ret hM1) (fun _ => mq_K_ite (fun hc => mq_K_ret hM1) (fun _ => mq_K_B (mq_K_call mk_130 hM1 rfl) (fun _ M2 hM2 => mq_K_ret hM2)))))
theorem mk_129_L19 {v1 : Int32} {s : Int32 × Int32} {M0 M : mm_M} (h : mq_kp mw_129 M0 M) : mq_K mw_129 M0 (mf_129_L19 v1 s M) := by
  unfold mf_129_L19
  exact mq_K_L (fun s M h => mk_129_b19 h) h
theorem mk_129_j99 {v1 : Int32} {v2 : Int32} {M0 M : mm_M} (h : mq_kp mw_129 M0 M) : mq_K mw_129 M0 (mf_129_j99 v1 v2 M) := by
  unfold mf_129_j99
  exact mq_K_B (mq_K_call mk_131 h rfl) (fun _ M1 hM1 => mq_K_ret hM1)
theorem mk_129 {M : mm_M} : mq_K mw_129 M (mf_129 M) := by
  unfold mf_129
  exact mq_K_B (mq_K_call mk_70 mq_kp_refl rfl) (fun _ M1 hM1 => mq_K_B (mk_129_L19 hM1) (fun _ M2 hM2 => mk_129_j99 hM2))
-- 134: PlainPacks$Pieces.writeFrameBlock
def mw_134 : List (Nat × Option Nat) := [(5, some 1), (5, some 2), (5, some 4), (5, some 5), (6, none), (13, some 0), (13, some 1), (13, some 6), (13, some 7), (14, none), (15, none)]
theorem mk_134_j51 {v1 : Int32} {v2 : Int32} {v3 : Int32} {s0 : Int32} {M0 M : mm_M} (h : mq_kp mw_134 M0 M) : mq_K mw_134 M0 (mf_134_j51 v1 v2 v3 s0 M) := by
  unfold mf_134_j51
  exact mq_K_B (mq_K_call mk_56 h rfl) (fun _ M1 hM1 => mq_K_ite (fun hc => mq_K_B (mq_K_call mk_59 hM1 rfl) (fun _ M2 hM2 => mq_K_B (mq_K_call mk_58 hM2 rfl) (fun _ M3 hM3 => mq_K_ret hM3))) (fun _ => mq_K_B (mq_K_call mk_59 hM1 rfl) (fun _ M4 hM4 => mq_K_B (mq_K_call mk_56 hM4 rfl) (fun _ M5 hM5 => mq_K_ret hM5))))
theorem mk_134 {M : mm_M} : mq_K mw_134 M (mf_134 M) := by
  unfold mf_134
  exact mq_K_B (mq_K_call mk_59 mq_kp_refl rfl) (fun _ M1 hM1 => mq_K_B (mq_K_call mk_129 hM1 rfl) (fun _ M2 hM2 => mq_K_ite (fun hc => mk_134_j51 hM2) (fun _ => mk_134_j51 hM2)))
-- 133: PlainPacks$Pieces.writeFrame
def mw_133 : List (Nat × Option Nat) := [(5, some 1), (5, some 2), (5, some 4), (5, some 5), (6, none), (13, some 0), (13, some 1), (13, some 6), (13, some 7), (14, none), (15, none)]
theorem mk_133_j90 {M0 M : mm_M} (h : mq_kp mw_133 M0 M) : mq_K mw_133 M0 (mf_133_j90 M) := by
  unfold mf_133_j90
  exact mq_K_B (mq_K_call mk_59 h rfl) (fun _ M1 hM1 => mq_K_B (mq_K_call mk_31 hM1 rfl) (fun _ M3 hM3 => mq_K_B (mq_K_call mk_59 hM3 rfl) (fun _ M4 hM4 => mq_K_ret hM4)))
theorem mk_133 {M : mm_M} : mq_K mw_133 M (mf_133 M) := by
  unfold mf_133
  exact mq_K_B (mq_K_call mk_57 mq_kp_refl rfl) (fun _ M1 hM1 => mq_K_B (mq_K_call mk_57 hM1 rfl) (fun _ M2 hM2 => mq_K_B (mq_K_call mk_57 hM2 rfl) (fun _ M3 hM3 => mq_K_B (mq_K_call mk_57 hM3 rfl) (fun _ M4 hM4 => mq_K_B (mq_K_call mk_57 hM4 rfl) (fun _ M5 hM5 => mq_K_B (mq_K_call mk_57 hM5 rfl) (fun _ M6 hM6 => mq_K_B (mq_K_call mk_31 hM6 rfl) (fun _ M8 hM8 => mq_K_B (mq_K_call mk_57 hM8 rfl) (fun _ M9 hM9 => mq_K_ite (fun hc => mq_K_B (mq_K_call mk_134 hM9 rfl) (fun _ M10 hM10 => mk_133_j90 hM10)) (fun _ => mk_133_j90 hM9)))))))))
-- 136: PlainPacks$Pieces.writePlainTag
def mw_136 : List (Nat × Option Nat) := [(5, some 1), (5, some 2), (6, none)]
theorem mk_136_j78 {v1 : Int32} {v2 : Int32} {M0 M : mm_M} (h : mq_kp mw_136 M0 M) : mq_K mw_136 M0 (mf_136_j78 v1 v2 M) := by
  unfold mf_136_j78
  exact mq_K_B (mq_K_call mk_58 h rfl) (fun _ M1 hM1 => mq_K_ret hM1)
theorem mk_136 {v1 : Int32} {v2 : Int32} {M : mm_M} : mq_K mw_136 M (mf_136 v1 v2 M) := by
  unfold mf_136
  exact mq_K_ite (fun hc => mq_K_ret mq_kp_refl) (fun _ => mq_K_ite (fun hc => mq_K_B (mq_K_call mk_57 mq_kp_refl rfl) (fun _ M1 hM1 => mk_136_j78 hM1)) (fun _ => mq_K_ite (fun hc => mq_K_B (mq_K_call mk_57 mq_kp_refl rfl) (fun _ M2 hM2 => mq_K_B (mq_K_call mk_57 hM2 rfl) (fun _ M3 hM3 => mk_136_j78 hM3))) (fun _ => mq_K_B (mq_K_call mk_57 mq_kp_refl rfl) (fun _ M4 hM4 => mq_K_B (mq_K_call mk_59 hM4 rfl) (fun _ M5 hM5 => mk_136_j78 hM5)))))
-- 135: PlainPacks$Pieces.writeTags
def mw_135 : List (Nat × Option Nat) := [(5, some 1), (5, some 2), (6, none), (13, some 0), (13, some 1), (13, some 6), (13, some 7), (14, none), (15, none)]
theorem mk_135_b12 {v1 : Int32} {v2 : Int32} {v3 : Int32} {M0 M : mm_M} (h : mq_kp mw_135 M0 M) : mq_K mw_135 M0 (mf_135_b12 v1 v2 v3 M) := by
  unfold mf_135_b12
  exact mq_K_ite (fun hc => mq_K_ite (fun hc => mq_K_ret h) (fun _ => mq_K_B (mq_K_call mk_57 h rfl) (fun _ M1 hM1 => mq_K_ret hM1))) (fun _ => mq_K_ret h)
theorem mk_135_L12 {v1 : Int32} {s : Int32 × Int32} {M0 M : mm_M} (h : mq_kp mw_135 M0 M) : mq_K mw_135 M0 (mf_135_L12 v1 s M) := by
  unfold mf_135_L12
  exact mq_K_L (fun s M h => mk_135_b12 h) h
theorem mk_135_b70 {v1 : Int32} {v3 : Int32} {v4 : Int32} {M0 M : mm_M} (h : mq_kp mw_135 M0 M) : mq_K mw_135 M0 (mf_135_b70 v1 v3 v4 M) := by
  unfold mf_135_b70
  exact mq_K_ite (fun hc => mq_K_B (mq_K_call mk_71 h rfl) (fun _ M1 hM1 => mq_K_ite (fun hc => mq_K_ret hM1) (fun _ => mq_K_ite (fun hc => mq_K_ret hM1) (fun _ => mq_K_B (mq_K_call mk_136 hM1 rfl) (fun _ M2 hM2 => mq_K_B (mq_K_call mk_57 hM2 rfl) (fun _ M3 hM3 => mq_K_B (mq_K_call mk_59 hM3 rfl) (fun _ M4 hM4 => mq_K_ret hM4))))))) (fun _ => mq_K_ret h)
theorem mk_135_L70 {v1 : Int32} {s : Int32 × Int32} {M0 M : mm_M} (h : mq_kp mw_135 M0 M) : mq_K mw_135 M0 (mf_135_L70 v1 s M) := by
  unfold mf_135_L70
  exact mq_K_L (fun s M h => mk_135_b70 h) h
theorem mk_135_j177 {v1 : Int32} {v3 : Int32} {M0 M : mm_M} (h : mq_kp mw_135 M0 M) : mq_K mw_135 M0 (mf_135_j177 v1 v3 M) := by
  unfold mf_135_j177
  exact mq_K_B (mq_K_call mk_136 h rfl) (fun _ M1 hM1 => mq_K_ret hM1)
theorem mk_135_j50 {v1 : Int32} {v2 : Int32} {M0 M : mm_M} (h : mq_kp mw_135 M0 M) : mq_K mw_135 M0 (mf_135_j50 v1 v2 M) := by
  unfold mf_135_j50
  exact mq_K_B (mq_K_call mk_57 h rfl) (fun _ M1 hM1 => mq_K_B (mq_K_call mk_70 hM1 rfl) (fun _ M2 hM2 => mq_K_B (mk_135_L70 hM2) (fun _ M3 hM3 => mk_135_j177 hM3)))
theorem mk_135 {M : mm_M} : mq_K mw_135 M (mf_135 M) := by
  unfold mf_135
  exact mq_K_B (mk_135_L12 mq_kp_refl) (fun _ M1 hM1 => mk_135_j50 hM1)
-- 149: PlainPacks$Sorted.addText
def mw_149 : List (Nat × Option Nat) := [(42, some 12), (47, none)]
theorem mk_149_b2 {v1 : Int32} {v2 : Int32} {v3 : Int32} {M0 M : mm_M} (h : mq_kp mw_149 M0 M) : mq_K mw_149 M0 (mf_149_b2 v1 v2 v3 M) := by
  unfold mf_149_b2
  exact mq_K_ite (fun hc => mq_K_ite (fun hc => mq_K_ite (fun hc => mq_K_ret (mq_kp_pi (mq_kp_pi h rfl) rfl)) (fun _ => mq_K_none)) (fun _ => mq_K_ret h)) (fun _ => mq_K_ret h)
theorem mk_149_L2 {v1 : Int32} {v2 : Int32} {s : Int32} {M0 M : mm_M} (h : mq_kp mw_149 M0 M) : mq_K mw_149 M0 (mf_149_L2 v1 v2 s M) := by
  unfold mf_149_L2
  exact mq_K_L (fun s M h => mk_149_b2 h) h
theorem mk_149 {v1 : Int32} {v2 : Int32} {M : mm_M} : mq_K mw_149 M (mf_149 v1 v2 M) := by
  unfold mf_149
  exact mq_K_B (mk_149_L2 mq_kp_refl) (fun _ M1 hM1 => mq_K_ret hM1)
-- 148: PlainPacks$Sorted.makeText
def mw_148 : List (Nat × Option Nat) := [(42, some 12), (47, none)]
theorem mk_148_b30 {v1 : Int32} {v2 : Int32} {v3 : Int32} {M0 M : mm_M} (h : mq_kp mw_148 M0 M) : mq_K mw_148 M0 (mf_148_b30 v1 v2 v3 M) := by
  unfold mf_148_b30
  exact mq_K_ite (fun hc => mq_K_ite (fun hc => mq_K_ite (fun hc => mq_K_ite (fun hc => mq_K_ret h) (fun _ => mq_K_ret h)) (fun _ => mq_K_none)) (fun _ => mq_K_ret h)) (fun _ => mq_K_ret h)
theorem mk_148_L30 {v1 : Int32} {v2 : Int32} {s : Int32} {M0 M : mm_M} (h : mq_kp mw_148 M0 M) : mq_K mw_148 M0 (mf_148_L30 v1 v2 s M) := by
  unfold mf_148_L30
  exact mq_K_L (fun s M h => mk_148_b30 h) h
theorem mk_148_j83 {v1 : Int32} {v3 : Int32} {s1 : Int32} {s2 : Int32} {M0 M : mm_M} (h : mq_kp mw_148 M0 M) : mq_K mw_148 M0 (mf_148_j83 v1 v3 s1 s2 M) := by
  unfold mf_148_j83
  exact mq_K_B (mq_K_call mk_149 h rfl) (fun _ M1 hM1 => mq_K_ite (fun hc => mq_K_ret hM1) (fun _ => mq_K_B (mq_K_call mk_149 hM1 rfl) (fun _ M2 hM2 => mq_K_ret hM2)))
theorem mk_148_j71 {v1 : Int32} {v2 : Int32} {v3 : Int32} {M0 M : mm_M} (h : mq_kp mw_148 M0 M) : mq_K mw_148 M0 (mf_148_j71 v1 v2 v3 M) := by
  unfold mf_148_j71
  exact mq_K_ite (fun hc => mk_148_j83 h) (fun _ => mk_148_j83 h)
theorem mk_148_b7 {v1 : Int32} {M0 M : mm_M} (h : mq_kp mw_148 M0 M) : mq_K mw_148 M0 (mf_148_b7 v1 M) := by
  unfold mf_148_b7
  exact mq_K_ite (fun hc => mq_K_ite (fun hc => mq_K_B (mk_148_L30 h) (fun _ M1 hM1 => mk_148_j71 hM1)) (fun _ => mq_K_none)) (fun _ => mq_K_ret h)
theorem mk_148_L7 {s : Int32} {M0 M : mm_M} (h : mq_kp mw_148 M0 M) : mq_K mw_148 M0 (mf_148_L7 s M) := by
  unfold mf_148_L7
  exact mq_K_L (fun s M h => mk_148_b7 h) h
theorem mk_148 {M : mm_M} : mq_K mw_148 M (mf_148 M) := by
  unfold mf_148
  exact mq_K_B (mk_148_L7 (mq_kp_pi mq_kp_refl rfl)) (fun _ M1 hM1 => mq_K_ret hM1)
-- 67: PlainPacks$Turnings.orderByRank
def mw_67 : List (Nat × Option Nat) := [(8, none), (12, none)]
theorem mk_67_b2 {v1 : Int32} {v2 : Int32} {M0 M : mm_M} (h : mq_kp mw_67 M0 M) : mq_K mw_67 M0 (mf_67_b2 v1 v2 M) := by
  unfold mf_67_b2
  exact mq_K_ite (fun hc => mq_K_ret h) (fun _ => mq_K_ite (fun hc => mq_K_ite (fun hc => mq_K_ret (mq_kp_pi h rfl)) (fun _ => mq_K_none)) (fun _ => mq_K_ret h))
theorem mk_67_L2 {v1 : Int32} {s : Int32} {M0 M : mm_M} (h : mq_kp mw_67 M0 M) : mq_K mw_67 M0 (mf_67_L2 v1 s M) := by
  unfold mf_67_L2
  exact mq_K_L (fun s M h => mk_67_b2 h) h
theorem mk_67_b31 {v1 : Int32} {v2 : Int32} {M0 M : mm_M} (h : mq_kp mw_67 M0 M) : mq_K mw_67 M0 (mf_67_b31 v1 v2 M) := by
  unfold mf_67_b31
  exact mq_K_ite (fun hc => mq_K_ite (fun hc => mq_K_ite (fun hc => mq_K_ite (fun hc => mq_K_ret (mq_kp_pi h rfl)) (fun _ => mq_K_none)) (fun _ => mq_K_none)) (fun _ => mq_K_none)) (fun _ => mq_K_ret h)
theorem mk_67_L31 {v1 : Int32} {s : Int32} {M0 M : mm_M} (h : mq_kp mw_67 M0 M) : mq_K mw_67 M0 (mf_67_L31 v1 s M) := by
  unfold mf_67_L31
  exact mq_K_L (fun s M h => mk_67_b31 h) h
theorem mk_67_b64 {v1 : Int32} {v2 : Int32} {M0 M : mm_M} (h : mq_kp mw_67 M0 M) : mq_K mw_67 M0 (mf_67_b64 v1 v2 M) := by
  unfold mf_67_b64
  exact mq_K_ite (fun hc => mq_K_ret h) (fun _ => mq_K_ite (fun hc => mq_K_ite (fun hc => mq_K_ite (fun hc => mq_K_ite (fun hc => mq_K_ret (mq_kp_pi h rfl)) (fun _ => mq_K_none)) (fun _ => mq_K_none)) (fun _ => mq_K_none)) (fun _ => mq_K_ret h))
theorem mk_67_L64 {v1 : Int32} {s : Int32} {M0 M : mm_M} (h : mq_kp mw_67 M0 M) : mq_K mw_67 M0 (mf_67_L64 v1 s M) := by
  unfold mf_67_L64
  exact mq_K_L (fun s M h => mk_67_b64 h) h
theorem mk_67_b103 {v2 : Int32} {M0 M : mm_M} (h : mq_kp mw_67 M0 M) : mq_K mw_67 M0 (mf_67_b103 v2 M) := by
  unfold mf_67_b103
  exact mq_K_ite (fun hc => mq_K_ite (fun hc => mq_K_ite (fun hc => mq_K_ite (fun hc => mq_K_ite (fun hc => mq_K_ite (fun hc => mq_K_ite (fun hc => mq_K_ite (fun hc => mq_K_ret (mq_kp_pi (mq_kp_pi h rfl) rfl)) (fun _ => mq_K_none)) (fun _ => mq_K_none)) (fun _ => mq_K_none)) (fun _ => mq_K_none)) (fun _ => mq_K_none)) (fun _ => mq_K_none)) (fun _ => mq_K_none)) (fun _ => mq_K_ret h)
theorem mk_67_L103 {s : Int32} {M0 M : mm_M} (h : mq_kp mw_67 M0 M) : mq_K mw_67 M0 (mf_67_L103 s M) := by
  unfold mf_67_L103
  exact mq_K_L (fun s M h => mk_67_b103 h) h
theorem mk_67 {v1 : Int32} {M : mm_M} : mq_K mw_67 M (mf_67 v1 M) := by
  unfold mf_67
  exact mq_K_B (mk_67_L2 mq_kp_refl) (fun _ M1 hM1 => mq_K_B (mk_67_L31 hM1) (fun _ M5 hM5 => mq_K_B (mk_67_L64 hM5) (fun _ M9 hM9 => mq_K_B (mk_67_L103 hM9) (fun _ M14 hM14 => mq_K_ret hM14))))
-- 69: PlainPacks$Turnings.differ
def mw_69 : List (Nat × Option Nat) := []
theorem mk_69_j50 {v1 : Int32} {v2 : Int32} {v4 : Int32} {s0 : Int32} {M0 M : mm_M} (h : mq_kp mw_69 M0 M) : mq_K mw_69 M0 (mf_69_j50 v1 v2 v4 s0 M) := by
  unfold mf_69_j50
  exact mq_K_ite (fun hc => mq_K_ite (fun hc => mq_K_ite (fun hc => mq_K_ite (fun hc => mq_K_ite (fun hc => mq_K_ite (fun hc => mq_K_ret h) (fun _ => mq_K_ret h)) (fun _ => mq_K_none)) (fun _ => mq_K_none)) (fun _ => mq_K_ret h)) (fun _ => mq_K_none)) (fun _ => mq_K_none)
theorem mk_69_j24 {v1 : Int32} {v2 : Int32} {v3 : Int32} {s0 : Int32} {M0 M : mm_M} (h : mq_kp mw_69 M0 M) : mq_K mw_69 M0 (mf_69_j24 v1 v2 v3 s0 M) := by
  unfold mf_69_j24
  exact mq_K_ite (fun hc => mk_69_j50 h) (fun _ => mk_69_j50 h)
theorem mk_69 {v1 : Int32} {v2 : Int32} {v3 : Int32} {M : mm_M} : mq_K mw_69 M (mf_69 v1 v2 v3 M) := by
  unfold mf_69
  exact mq_K_ite (fun hc => mk_69_j24 mq_kp_refl) (fun _ => mk_69_j24 mq_kp_refl)
-- 68: PlainPacks$Turnings.rankAgain
def mw_68 : List (Nat × Option Nat) := [(7, some 6), (9, none), (11, none)]
theorem mk_68_j51 {v1 : Int32} {v2 : Int32} {M0 M : mm_M} (h : mq_kp mw_68 M0 M) : mq_K mw_68 M0 (mf_68_j51 v1 v2 M) := by
  unfold mf_68_j51
  exact mq_K_ite (fun hc => mq_K_ite (fun hc => mq_K_ret (mq_kp_pi h rfl)) (fun _ => mq_K_none)) (fun _ => mq_K_none)
theorem mk_68_j41 {v1 : Int32} {v2 : Int32} {M0 M : mm_M} (h : mq_kp mw_68 M0 M) : mq_K mw_68 M0 (mf_68_j41 v1 v2 M) := by
  unfold mf_68_j41
  exact mk_68_j51 (mq_kp_pi h rfl)
theorem mk_68_b7 {v1 : Int32} {v2 : Int32} {M0 M : mm_M} (h : mq_kp mw_68 M0 M) : mq_K mw_68 M0 (mf_68_b7 v1 v2 M) := by
  unfold mf_68_b7
  exact mq_K_ite (fun hc => mq_K_ite (fun hc => mk_68_j41 h) (fun _ => mq_K_ite (fun hc => mq_K_ite (fun hc => mq_K_B (mq_K_call mk_69 h rfl) (fun _ M2 hM2 => mq_K_ite (fun hc => mk_68_j51 hM2) (fun _ => mk_68_j41 hM2))) (fun _ => mq_K_none)) (fun _ => mq_K_none))) (fun _ => mq_K_ret h)
theorem mk_68_L7 {v1 : Int32} {s : Int32} {M0 M : mm_M} (h : mq_kp mw_68 M0 M) : mq_K mw_68 M0 (mf_68_L7 v1 s M) := by
  unfold mf_68_L7
  exact mq_K_L (fun s M h => mk_68_b7 h) h
theorem mk_68_j74 {M0 M : mm_M} (h : mq_kp mw_68 M0 M) : mq_K mw_68 M0 (mf_68_j74 M) := by
  unfold mf_68_j74
  exact mq_K_ite (fun hc => mq_K_ret (mq_kp_cp h rfl)) (fun _ => mq_K_none)
theorem mk_68 {v1 : Int32} {M : mm_M} : mq_K mw_68 M (mf_68 v1 M) := by
  unfold mf_68
  exact mq_K_B (mk_68_L7 (mq_kp_pi mq_kp_refl rfl)) (fun _ M1 hM1 => mk_68_j74 hM1)
-- 66: PlainPacks$Turnings.sort
def mw_66 (p : Nat) : List (Nat × Option Nat) := [(7, some 5), (7, some 6), (8, none), (9, none), (10, none), (11, none), (12, none)]
theorem mk_66_b18 {p : Nat} {n : Nat} {v3 : Int32} {M0 M : mm_M} (h : mq_kp (mw_66 p) M0 M) : mq_K (mw_66 p) M0 (mf_66_b18 p n v3 M) := by
  unfold mf_66_b18
  exact mq_K_ite (fun hc => mq_K_ite (fun hc => mq_K_ite (fun hc => mq_K_ite (fun hc => mq_K_ret (mq_kp_pi (mq_kp_pi h (by simp [mq_ws, mw_66])) (by simp [mq_ws, mw_66]))) (fun _ => mq_K_none)) (fun _ => mq_K_none)) (fun _ => mq_K_none)) (fun _ => mq_K_ret h)
theorem mk_66_L18 {p : Nat} {n : Nat} {s : Int32} {M0 M : mm_M} (h : mq_kp (mw_66 p) M0 M) : mq_K (mw_66 p) M0 (mf_66_L18 p n s M) := by
  unfold mf_66_L18
  exact mq_K_L (fun s M h => mk_66_b18 h) h
theorem mk_66_j127 {p : Nat} {n : Nat} {v3 : Int32} {v4 : Int32} {s1 : Int32} {s2 : Int32} {M0 M : mm_M} (h : mq_kp (mw_66 p) M0 M) : mq_K (mw_66 p) M0 (mf_66_j127 p n v3 v4 s1 s2 M) := by
  unfold mf_66_j127
  exact mq_K_ite (fun hc => mq_K_ret (mq_kp_pi h (by simp [mq_ws, mw_66]))) (fun _ => mq_K_none)
theorem mk_66_b84 {p : Nat} {n : Nat} {v3 : Int32} {v4 : Int32} {M0 M : mm_M} (h : mq_kp (mw_66 p) M0 M) : mq_K (mw_66 p) M0 (mf_66_b84 p n v3 v4 M) := by
  unfold mf_66_b84
  exact mq_K_ite (fun hc => mq_K_ite (fun hc => mq_K_ite (fun hc => mk_66_j127 h) (fun _ => mk_66_j127 h)) (fun _ => mq_K_none)) (fun _ => mq_K_ret h)
theorem mk_66_L84 {p : Nat} {n : Nat} {v3 : Int32} {s : Int32} {M0 M : mm_M} (h : mq_kp (mw_66 p) M0 M) : mq_K (mw_66 p) M0 (mf_66_L84 p n v3 s M) := by
  unfold mf_66_L84
  exact mq_K_L (fun s M h => mk_66_b84 h) h
theorem mk_66_j134 {p : Nat} {n : Nat} {v3 : Int32} {M0 M : mm_M} (h : mq_kp (mw_66 p) M0 M) : mq_K (mw_66 p) M0 (mf_66_j134 p n v3 M) := by
  unfold mf_66_j134
  exact mq_K_B (mq_K_call mk_67 h (by simp [mq_sub, mw_67, mw_66])) (fun _ M1 hM1 => mq_K_B (mq_K_call mk_68 hM1 (by simp [mq_sub, mw_68, mw_66])) (fun _ M2 hM2 => mq_K_ret hM2))
theorem mk_66_b62 {p : Nat} {n : Nat} {v3 : Int32} {M0 M : mm_M} (h : mq_kp (mw_66 p) M0 M) : mq_K (mw_66 p) M0 (mf_66_b62 p n v3 M) := by
  unfold mf_66_b62
  exact mq_K_ite (fun hc => mq_K_ite (fun hc => mq_K_B (mk_66_L84 h) (fun _ M1 hM1 => mk_66_j134 hM1)) (fun _ => mq_K_ret h)) (fun _ => mq_K_ret h)
theorem mk_66_L62 {p : Nat} {n : Nat} {s : Int32} {M0 M : mm_M} (h : mq_kp (mw_66 p) M0 M) : mq_K (mw_66 p) M0 (mf_66_L62 p n s M) := by
  unfold mf_66_L62
  exact mq_K_L (fun s M h => mk_66_b62 h) h
theorem mk_66_b156 {p : Nat} {n : Nat} {v3 : Int32} {M0 M : mm_M} (h : mq_kp (mw_66 p) M0 M) : mq_K (mw_66 p) M0 (mf_66_b156 p n v3 M) := by
  unfold mf_66_b156
  exact mq_K_ite (fun hc => mq_K_ite (fun hc => mq_K_ret (mq_kp_pi h (by simp [mq_ws, mw_66]))) (fun _ => mq_K_none)) (fun _ => mq_K_ret h)
theorem mk_66_L156 {p : Nat} {n : Nat} {s : Int32} {M0 M : mm_M} (h : mq_kp (mw_66 p) M0 M) : mq_K (mw_66 p) M0 (mf_66_L156 p n s M) := by
  unfold mf_66_L156
  exact mq_K_L (fun s M h => mk_66_b156 h) h
theorem mk_66_j177 {p : Nat} {n : Nat} {M0 M : mm_M} (h : mq_kp (mw_66 p) M0 M) : mq_K (mw_66 p) M0 (mf_66_j177 p n M) := by
  unfold mf_66_j177
  exact mq_K_B (mq_K_call mk_67 h (by simp [mq_sub, mw_67, mw_66])) (fun _ M1 hM1 => mq_K_ret hM1)
theorem mk_66_j48 {p : Nat} {n : Nat} {M0 M : mm_M} (h : mq_kp (mw_66 p) M0 M) : mq_K (mw_66 p) M0 (mf_66_j48 p n M) := by
  unfold mf_66_j48
  exact mq_K_B (mq_K_call mk_67 h (by simp [mq_sub, mw_67, mw_66])) (fun _ M1 hM1 => mq_K_B (mq_K_call mk_68 hM1 (by simp [mq_sub, mw_68, mw_66])) (fun _ M2 hM2 => mq_K_B (mk_66_L62 hM2) (fun _ M3 hM3 => mq_K_B (mk_66_L156 hM3) (fun _ M10 hM10 => mk_66_j177 hM10))))
theorem mk_66 {p : Nat} {n : Nat} {v2 : Int32} {M : mm_M} : mq_K (mw_66 p) M (mf_66 p n v2 M) := by
  unfold mf_66
  exact mq_K_B (mk_66_L18 (mq_kp_pi mq_kp_refl (by simp [mq_ws, mw_66]))) (fun _ M1 hM1 => mk_66_j48 hM1)
-- 151: PlainPacks$Sorted.listOccurring
def mw_151 : List (Nat × Option Nat) := [(42, some 9), (46, none), (49, none)]
theorem mk_151_b10 {v1 : Int32} {M0 M : mm_M} (h : mq_kp mw_151 M0 M) : mq_K mw_151 M0 (mf_151_b10 v1 M) := by
  unfold mf_151_b10
  exact mq_K_ite (fun hc => mq_K_ite (fun hc => mq_K_ite (fun hc => mq_K_ite (fun hc => mq_K_ret (mq_kp_pi h rfl)) (fun _ => mq_K_none)) (fun _ => mq_K_none)) (fun _ => mq_K_none)) (fun _ => mq_K_ret h)
theorem mk_151_L10 {s : Int32} {M0 M : mm_M} (h : mq_kp mw_151 M0 M) : mq_K mw_151 M0 (mf_151_L10 s M) := by
  unfold mf_151_L10
  exact mq_K_L (fun s M h => mk_151_b10 h) h
theorem mk_151_b46 {v1 : Int32} {M0 M : mm_M} (h : mq_kp mw_151 M0 M) : mq_K mw_151 M0 (mf_151_b46 v1 M) := by
  unfold mf_151_b46
  exact mq_K_ite (fun hc => mq_K_ite (fun hc => mq_K_ite (fun hc => mq_K_ite (fun hc => mq_K_ret (mq_kp_pi (mq_kp_pi h rfl) rfl)) (fun _ => mq_K_none)) (fun _ => mq_K_ret h)) (fun _ => mq_K_none)) (fun _ => mq_K_ret h)
theorem mk_151_L46 {s : Int32} {M0 M : mm_M} (h : mq_kp mw_151 M0 M) : mq_K mw_151 M0 (mf_151_L46 s M) := by
  unfold mf_151_L46
  exact mq_K_L (fun s M h => mk_151_b46 h) h
theorem mk_151 {M : mm_M} : mq_K mw_151 M (mf_151 M) := by
  unfold mf_151
  exact mq_K_B (mq_K_call mk_290 mq_kp_refl rfl) (fun _ M1 hM1 => mq_K_B (mk_151_L10 hM1) (fun _ M2 hM2 => mq_K_B (mk_151_L46 (mq_kp_pi hM2 rfl)) (fun _ M5 hM5 => mq_K_ret hM5)))
-- 153: PlainPacks$Sorted.addLetter
def mw_153 : List (Nat × Option Nat) := [(42, some 15), (48, none)]
theorem mk_153 {v1 : Int32} {M : mm_M} : mq_K mw_153 M (mf_153 v1 M) := by
  unfold mf_153
  exact mq_K_ite (fun hc => mq_K_ite (fun hc => mq_K_ret (mq_kp_pi (mq_kp_pi mq_kp_refl rfl) rfl)) (fun _ => mq_K_none)) (fun _ => mq_K_ret mq_kp_refl)
-- 154: PlainPacks$Sorted.closeRun
def mw_154 : List (Nat × Option Nat) := [(42, some 15), (42, some 16), (48, none)]
theorem mk_154_j22 {s0 : Int32} {M0 M : mm_M} (h : mq_kp mw_154 M0 M) : mq_K mw_154 M0 (mf_154_j22 s0 M) := by
  unfold mf_154_j22
  exact mq_K_B (mq_K_call mk_153 h rfl) (fun _ M1 hM1 => mq_K_ret (mq_kp_pi hM1 rfl))
theorem mk_154_b0 {M0 M : mm_M} (h : mq_kp mw_154 M0 M) : mq_K mw_154 M0 (mf_154_b0 M) := by
  unfold mf_154_b0
  exact mq_K_ite (fun hc => mq_K_ite (fun hc => mk_154_j22 h) (fun _ => mk_154_j22 h)) (fun _ => mq_K_ret h)
theorem mk_154_L0 {s : Unit} {M0 M : mm_M} (h : mq_kp mw_154 M0 M) : mq_K mw_154 M0 (mf_154_L0 s M) := by
  unfold mf_154_L0
  exact mq_K_L (fun s M h => mk_154_b0 h) h
theorem mk_154 {M : mm_M} : mq_K mw_154 M (mf_154 M) := by
  unfold mf_154
  exact mq_K_B (mk_154_L0 mq_kp_refl) (fun _ M1 hM1 => mq_K_ret hM1)
-- 152: PlainPacks$Sorted.placeInRow
def mw_152 : List (Nat × Option Nat) := []
theorem mk_152_b2 {v1 : Int32} {v2 : Int32} {M0 M : mm_M} (h : mq_kp mw_152 M0 M) : mq_K mw_152 M0 (mf_152_b2 v1 v2 M) := by
  unfold mf_152_b2
  exact mq_K_ite (fun hc => mq_K_ite (fun hc => mq_K_ite (fun hc => mq_K_ret h) (fun _ => mq_K_ret h)) (fun _ => mq_K_none)) (fun _ => mq_K_ret h)
theorem mk_152_L2 {v1 : Int32} {s : Int32} {M0 M : mm_M} (h : mq_kp mw_152 M0 M) : mq_K mw_152 M0 (mf_152_L2 v1 s M) := by
  unfold mf_152_L2
  exact mq_K_L (fun s M h => mk_152_b2 h) h
theorem mk_152 {v1 : Int32} {M : mm_M} : mq_K mw_152 M (mf_152 v1 M) := by
  unfold mf_152
  exact mq_K_B (mk_152_L2 mq_kp_refl) (fun _ M1 hM1 => mq_K_ret hM1)
-- 150: PlainPacks$Sorted.makeLetters
def mw_150 : List (Nat × Option Nat) := [(7, some 5), (7, some 6), (8, none), (9, none), (10, none), (11, none), (12, none), (42, some 9), (42, some 10), (42, some 15), (42, some 16), (46, none), (48, none), (49, none)]
theorem mk_150_j78 {v1 : Int32} {s1 : Int32} {M0 M : mm_M} (h : mq_kp mw_150 M0 M) : mq_K mw_150 M0 (mf_150_j78 v1 s1 M) := by
  unfold mf_150_j78
  exact mq_K_ite (fun hc => mq_K_ite (fun hc => mq_K_ite (fun hc => mq_K_ret (mq_kp_pi h rfl)) (fun _ => mq_K_B (mq_K_call mk_154 h rfl) (fun _ M1 hM1 => mq_K_B (mq_K_call mk_152 hM1 rfl) (fun _ M3 hM3 => mq_K_B (mq_K_call mk_141 hM3 rfl) (fun _ M4 hM4 => mq_K_B (mq_K_call mk_153 hM4 rfl) (fun _ M5 hM5 => mq_K_ret hM5)))))) (fun _ => mq_K_none)) (fun _ => mq_K_none)
theorem mk_150_j58 {v1 : Int32} {v2 : Int32} {M0 M : mm_M} (h : mq_kp mw_150 M0 M) : mq_K mw_150 M0 (mf_150_j58 v1 v2 M) := by
  unfold mf_150_j58
  exact mq_K_ite (fun hc => mk_150_j78 h) (fun _ => mk_150_j78 h)
theorem mk_150_b31 {v1 : Int32} {M0 M : mm_M} (h : mq_kp mw_150 M0 M) : mq_K mw_150 M0 (mf_150_b31 v1 M) := by
  unfold mf_150_b31
  exact mq_K_ite (fun hc => mq_K_ite (fun hc => mq_K_ite (fun hc => mk_150_j58 (mq_kp_pi h rfl)) (fun _ => mk_150_j58 h)) (fun _ => mq_K_none)) (fun _ => mq_K_ret h)
theorem mk_150_L31 {s : Int32} {M0 M : mm_M} (h : mq_kp mw_150 M0 M) : mq_K mw_150 M0 (mf_150_L31 s M) := by
  unfold mf_150_L31
  exact mq_K_L (fun s M h => mk_150_b31 h) h
theorem mk_150_j137 {M0 M : mm_M} (h : mq_kp mw_150 M0 M) : mq_K mw_150 M0 (mf_150_j137 M) := by
  unfold mf_150_j137
  exact mq_K_B (mq_K_call mk_154 h rfl) (fun _ M1 hM1 => mq_K_B (mq_K_call mk_153 hM1 rfl) (fun _ M2 hM2 => mq_K_ret hM2))
theorem mk_150 {M : mm_M} : mq_K mw_150 M (mf_150 M) := by
  unfold mf_150
  exact mq_K_B (mq_K_call mk_66 mq_kp_refl rfl) (fun _ M1 hM1 => mq_K_B (mq_K_call mk_151 hM1 rfl) (fun _ M2 hM2 => mq_K_B (mk_150_L31 (mq_kp_pi (mq_kp_pi hM2 rfl) rfl)) (fun _ M3 hM3 => mk_150_j137 hM3)))
-- 157: PlainPacks$Sorted.anyOfSixteen
def mw_157 : List (Nat × Option Nat) := []
theorem mk_157_b4 {v1 : Int32} {v2 : Int32} {v3 : Int32} {M0 M : mm_M} (h : mq_kp mw_157 M0 M) : mq_K mw_157 M0 (mf_157_b4 v1 v2 v3 M) := by
  unfold mf_157_b4
  exact mq_K_ite (fun hc => mq_K_ite (fun hc => mq_K_ite (fun hc => mq_K_ret h) (fun _ => mq_K_ret h)) (fun _ => mq_K_none)) (fun _ => mq_K_ret h)
theorem mk_157_L4 {v1 : Int32} {s : Int32 × Int32} {M0 M : mm_M} (h : mq_kp mw_157 M0 M) : mq_K mw_157 M0 (mf_157_L4 v1 s M) := by
  unfold mf_157_L4
  exact mq_K_L (fun s M h => mk_157_b4 h) h
theorem mk_157 {v1 : Int32} {M : mm_M} : mq_K mw_157 M (mf_157 v1 M) := by
  unfold mf_157
  exact mq_K_B (mk_157_L4 mq_kp_refl) (fun _ M1 hM1 => mq_K_ite (fun hc => mq_K_ret hM1) (fun _ => mq_K_none))
-- 156: PlainPacks$Sorted.writeOccurring
def mw_156 : List (Nat × Option Nat) := [(5, some 1), (5, some 2), (5, some 4), (5, some 5), (6, none)]
theorem mk_156_j25 {v1 : Int32} {s1 : Int32} {M0 M : mm_M} (h : mq_kp mw_156 M0 M) : mq_K mw_156 M0 (mf_156_j25 v1 s1 M) := by
  unfold mf_156_j25
  exact mq_K_B (mq_K_call mk_61 h rfl) (fun _ M1 hM1 => mq_K_ret hM1)
theorem mk_156_b2 {v1 : Int32} {M0 M : mm_M} (h : mq_kp mw_156 M0 M) : mq_K mw_156 M0 (mf_156_b2 v1 M) := by
  unfold mf_156_b2
  exact mq_K_ite (fun hc => mq_K_B (mq_K_call mk_157 h rfl) (fun _ M2 hM2 => mq_K_ite (fun hc => mk_156_j25 hM2) (fun _ => mk_156_j25 hM2))) (fun _ => mq_K_ret h)
theorem mk_156_L2 {s : Int32} {M0 M : mm_M} (h : mq_kp mw_156 M0 M) : mq_K mw_156 M0 (mf_156_L2 s M) := by
  unfold mf_156_L2
  exact mq_K_L (fun s M h => mk_156_b2 h) h
theorem mk_156_j81 {v1 : Int32} {v2 : Int32} {s1 : Int32} {M0 M : mm_M} (h : mq_kp mw_156 M0 M) : mq_K mw_156 M0 (mf_156_j81 v1 v2 s1 M) := by
  unfold mf_156_j81
  exact mq_K_B (mq_K_call mk_61 h rfl) (fun _ M1 hM1 => mq_K_ret hM1)
theorem mk_156_b44 {v1 : Int32} {v2 : Int32} {M0 M : mm_M} (h : mq_kp mw_156 M0 M) : mq_K mw_156 M0 (mf_156_b44 v1 v2 M) := by
  unfold mf_156_b44
  exact mq_K_ite (fun hc => mq_K_B (mq_K_call mk_157 h rfl) (fun _ M2 hM2 => mq_K_ite (fun hc => mq_K_ret hM2) (fun _ => mq_K_ite (fun hc => mq_K_ite (fun hc => mk_156_j81 hM2) (fun _ => mk_156_j81 hM2)) (fun _ => mq_K_none)))) (fun _ => mq_K_ret h)
theorem mk_156_L44 {v1 : Int32} {s : Int32} {M0 M : mm_M} (h : mq_kp mw_156 M0 M) : mq_K mw_156 M0 (mf_156_L44 v1 s M) := by
  unfold mf_156_L44
  exact mq_K_L (fun s M h => mk_156_b44 h) h
theorem mk_156_b36 {v1 : Int32} {M0 M : mm_M} (h : mq_kp mw_156 M0 M) : mq_K mw_156 M0 (mf_156_b36 v1 M) := by
  unfold mf_156_b36
  exact mq_K_ite (fun hc => mq_K_B (mk_156_L44 h) (fun _ M1 hM1 => mq_K_ret hM1)) (fun _ => mq_K_ret h)
theorem mk_156_L36 {s : Int32} {M0 M : mm_M} (h : mq_kp mw_156 M0 M) : mq_K mw_156 M0 (mf_156_L36 s M) := by
  unfold mf_156_L36
  exact mq_K_L (fun s M h => mk_156_b36 h) h
theorem mk_156 {M : mm_M} : mq_K mw_156 M (mf_156 M) := by
  unfold mf_156
  exact mq_K_B (mk_156_L2 mq_kp_refl) (fun _ M1 hM1 => mq_K_B (mk_156_L36 hM1) (fun _ M5 hM5 => mq_K_ret hM5))
-- 155: PlainPacks$Sorted.writeBlock
def mw_155 : List (Nat × Option Nat) := [(5, some 1), (5, some 2), (5, some 4), (5, some 5), (6, none)]
theorem mk_155_b86 {v2 : Int32} {v3 : Int32} {M0 M : mm_M} (h : mq_kp mw_155 M0 M) : mq_K mw_155 M0 (mf_155_b86 v2 v3 M) := by
  unfold mf_155_b86
  exact mq_K_ite (fun hc => mq_K_B (mq_K_call mk_61 h rfl) (fun _ M1 hM1 => mq_K_ret hM1)) (fun _ => mq_K_ret h)
theorem mk_155_L86 {v2 : Int32} {s : Int32} {M0 M : mm_M} (h : mq_kp mw_155 M0 M) : mq_K mw_155 M0 (mf_155_L86 v2 s M) := by
  unfold mf_155_L86
  exact mq_K_L (fun s M h => mk_155_b86 h) h
theorem mk_155_b107 {v3 : Int32} {M0 M : mm_M} (h : mq_kp mw_155 M0 M) : mq_K mw_155 M0 (mf_155_b107 v3 M) := by
  unfold mf_155_b107
  exact mq_K_ite (fun hc => mq_K_ite (fun hc => mq_K_ret h) (fun _ => mq_K_ret h)) (fun _ => mq_K_ret h)
theorem mk_155_L107 {s : Int32} {M0 M : mm_M} (h : mq_kp mw_155 M0 M) : mq_K mw_155 M0 (mf_155_L107 s M) := by
  unfold mf_155_L107
  exact mq_K_L (fun s M h => mk_155_b107 h) h
theorem mk_155_b153 {v3 : Int32} {v4 : Int32} {v5 : Int32} {M0 M : mm_M} (h : mq_kp mw_155 M0 M) : mq_K mw_155 M0 (mf_155_b153 v3 v4 v5 M) := by
  unfold mf_155_b153
  exact mq_K_ite (fun hc => mq_K_B (mq_K_call mk_61 h rfl) (fun _ M1 hM1 => mq_K_ret hM1)) (fun _ => mq_K_ret h)
theorem mk_155_L153 {v3 : Int32} {v4 : Int32} {s : Int32} {M0 M : mm_M} (h : mq_kp mw_155 M0 M) : mq_K mw_155 M0 (mf_155_L153 v3 v4 s M) := by
  unfold mf_155_L153
  exact mq_K_L (fun s M h => mk_155_b153 h) h
theorem mk_155_b134 {v3 : Int32} {v4 : Int32} {M0 M : mm_M} (h : mq_kp mw_155 M0 M) : mq_K mw_155 M0 (mf_155_b134 v3 v4 M) := by
  unfold mf_155_b134
  exact mq_K_ite (fun hc => mq_K_B (mq_K_call mk_62 h rfl) (fun _ M1 hM1 => mq_K_B (mk_155_L153 hM1) (fun _ M2 hM2 => mq_K_ret hM2))) (fun _ => mq_K_ret h)
theorem mk_155_L134 {v3 : Int32} {s : Int32} {M0 M : mm_M} (h : mq_kp mw_155 M0 M) : mq_K mw_155 M0 (mf_155_L134 v3 s M) := by
  unfold mf_155_L134
  exact mq_K_L (fun s M h => mk_155_b134 h) h
theorem mk_155_b187 {v3 : Int32} {v4 : Int32} {M0 M : mm_M} (h : mq_kp mw_155 M0 M) : mq_K mw_155 M0 (mf_155_b187 v3 v4 M) := by
  unfold mf_155_b187
  exact mq_K_ite (fun hc => mq_K_ite (fun hc => mq_K_B (mq_K_call mk_62 h rfl) (fun _ M1 hM1 => mq_K_ret hM1)) (fun _ => mq_K_none)) (fun _ => mq_K_ret h)
theorem mk_155_L187 {v3 : Int32} {s : Int32} {M0 M : mm_M} (h : mq_kp mw_155 M0 M) : mq_K mw_155 M0 (mf_155_L187 v3 s M) := by
  unfold mf_155_L187
  exact mq_K_L (fun s M h => mk_155_b187 h) h
theorem mk_155 {v1 : Int32} {M : mm_M} : mq_K mw_155 M (mf_155 v1 M) := by
  unfold mf_155
  exact mq_K_B (mq_K_call mk_62 mq_kp_refl rfl) (fun _ M1 hM1 => mq_K_B (mq_K_call mk_62 hM1 rfl) (fun _ M2 hM2 => mq_K_B (mq_K_call mk_61 hM2 rfl) (fun _ M3 hM3 => mq_K_B (mq_K_call mk_62 hM3 rfl) (fun _ M4 hM4 => mq_K_B (mq_K_call mk_156 hM4 rfl) (fun _ M5 hM5 => mq_K_B (mq_K_call mk_62 hM5 rfl) (fun _ M6 hM6 => mq_K_B (mq_K_call mk_62 hM6 rfl) (fun _ M7 hM7 => mq_K_B (mk_155_L86 hM7) (fun _ M8 hM8 => mq_K_B (mk_155_L107 hM8) (fun _ M15 hM15 => mq_K_B (mk_155_L134 hM15) (fun _ M21 hM21 => mq_K_B (mk_155_L187 hM21) (fun _ M27 hM27 => mq_K_ret hM27)))))))))))
-- 147: PlainPacks$Sorted.writeSorted
def mw_147 : List (Nat × Option Nat) := [(5, some 1), (5, some 2), (5, some 3), (5, some 4), (5, some 5), (6, none), (7, some 5), (7, some 6), (8, none), (9, none), (10, none), (11, none), (12, none), (42, some 9), (42, some 10), (42, some 12), (42, some 15), (42, some 16), (46, none), (47, none), (48, none), (49, none)]
theorem mk_147_j88 {v1 : Int32} {M0 M : mm_M} (h : mq_kp mw_147 M0 M) : mq_K mw_147 M0 (mf_147_j88 v1 M) := by
  unfold mf_147_j88
  exact mq_K_B (mq_K_call mk_62 h rfl) (fun _ M1 hM1 => mq_K_B (mq_K_call mk_62 hM1 rfl) (fun _ M2 hM2 => mq_K_B (mq_K_call mk_64 hM2 rfl) (fun _ M3 hM3 => mq_K_ret hM3)))
theorem mk_147 {M : mm_M} : mq_K mw_147 M (mf_147 M) := by
  unfold mf_147
  exact mq_K_B (mq_K_call mk_57 (mq_kp_pi mq_kp_refl rfl) rfl) (fun _ M1 hM1 => mq_K_B (mq_K_call mk_57 hM1 rfl) (fun _ M2 hM2 => mq_K_B (mq_K_call mk_57 hM2 rfl) (fun _ M3 hM3 => mq_K_B (mq_K_call mk_57 hM3 rfl) (fun _ M4 hM4 => mq_K_ite (fun hc => mq_K_B (mq_K_call mk_29 hM4 rfl) (fun _ M6 hM6 => mq_K_B (mq_K_call mk_148 hM6 rfl) (fun _ M7 hM7 => mq_K_B (mq_K_call mk_150 hM7 rfl) (fun _ M8 hM8 => mq_K_B (mq_K_call mk_155 hM8 rfl) (fun _ M9 hM9 => mk_147_j88 hM9))))) (fun _ => mk_147_j88 hM4)))))
-- 65: PlainPacks$Writer.carry
def mw_65 : List (Nat × Option Nat) := [(6, none)]
theorem mk_65_j34 {v2 : Int32} {s0 : Int32} {M0 M : mm_M} (h : mq_kp mw_65 M0 M) : mq_K mw_65 M0 (mf_65_j34 v2 s0 M) := by
  unfold mf_65_j34
  exact mq_K_ite (fun hc => mq_K_ite (fun hc => mq_K_ret (mq_kp_pi h rfl)) (fun _ => mq_K_none)) (fun _ => mq_K_none)
theorem mk_65_b9 {v1 : Int32} {v2 : Int32} {M0 M : mm_M} (h : mq_kp mw_65 M0 M) : mq_K mw_65 M0 (mf_65_b9 v1 v2 M) := by
  unfold mf_65_b9
  exact mq_K_ite (fun hc => mq_K_ret h) (fun _ => mq_K_ite (fun hc => mq_K_ret h) (fun _ => mq_K_ite (fun hc => mq_K_ite (fun hc => mk_65_j34 h) (fun _ => mk_65_j34 h)) (fun _ => mq_K_none)))
theorem mk_65_L9 {s : Int32 × Int32} {M0 M : mm_M} (h : mq_kp mw_65 M0 M) : mq_K mw_65 M0 (mf_65_L9 s M) := by
  unfold mf_65_L9
  exact mq_K_L (fun s M h => mk_65_b9 h) h
theorem mk_65 {M : mm_M} : mq_K mw_65 M (mf_65 M) := by
  unfold mf_65
  exact mq_K_B (mk_65_L9 mq_kp_refl) (fun _ M1 hM1 => mq_K_ret hM1)
-- 172: PlainPacks$Chances.writeBit
def mw_172 : List (Nat × Option Nat) := [(5, some 1), (5, some 2), (6, none), (80, some 4), (80, some 15), (81, none)]
theorem mk_172_j113 {M0 M : mm_M} (h : mq_kp mw_172 M0 M) : mq_K mw_172 M0 (mf_172_j113 M) := by
  unfold mf_172_j113
  exact mq_K_ite (fun hc => mq_K_B (mq_K_call mk_57 (mq_kp_pl h rfl) rfl) (fun _ M1 hM1 => mq_K_ret (mq_kp_pl hM1 rfl))) (fun _ => mq_K_ret h)
theorem mk_172 {v1 : Int32} {v2 : Int32} {M : mm_M} : mq_K mw_172 M (mf_172 v1 v2 M) := by
  unfold mf_172
  exact mq_K_ite (fun hc => mq_K_ite (fun hc => mq_K_ite (fun hc => mk_172_j113 (mq_kp_pi (mq_kp_pl mq_kp_refl rfl) rfl)) (fun _ => mq_K_none)) (fun _ => mq_K_ite (fun hc => mq_K_ite (fun hc => mq_K_B (mq_K_call mk_65 (mq_kp_pl (mq_kp_pl (mq_kp_pi (mq_kp_pl mq_kp_refl rfl) rfl) rfl) rfl) rfl) (fun _ M1 hM1 => mk_172_j113 hM1)) (fun _ => mk_172_j113 (mq_kp_pl (mq_kp_pi (mq_kp_pl mq_kp_refl rfl) rfl) rfl))) (fun _ => mq_K_none))) (fun _ => mq_K_none)
-- 171: PlainPacks$Chances.writeChances
def mw_171 : List (Nat × Option Nat) := [(5, some 1), (5, some 2), (6, none), (80, some 4), (80, some 9), (80, some 10), (80, some 11), (80, some 12), (80, some 13), (80, some 15), (81, none)]
theorem mk_171_b108 {v1 : Int32} {v2 : Int32} {v3 : Int32} {v4 : Int32} {v5 : Int32} {M0 M : mm_M} (h : mq_kp mw_171 M0 M) : mq_K mw_171 M0 (mf_171_b108 v1 v2 v3 v4 v5 M) := by
  unfold mf_171_b108
  exact mq_K_ite (fun hc => mq_K_ret h) (fun _ => mq_K_B (mq_K_call mk_172 h rfl) (fun _ M1 hM1 => mq_K_ret hM1))
theorem mk_171_L108 {v1 : Int32} {v2 : Int32} {v3 : Int32} {s : Int32 × Int32} {M0 M : mm_M} (h : mq_kp mw_171 M0 M) : mq_K mw_171 M0 (mf_171_L108 v1 v2 v3 s M) := by
  unfold mf_171_L108
  exact mq_K_L (fun s M h => mk_171_b108 h) h
theorem mk_171_b58 {v1 : Int32} {v2 : Int32} {M0 M : mm_M} (h : mq_kp mw_171 M0 M) : mq_K mw_171 M0 (mf_171_b58 v1 v2 M) := by
  unfold mf_171_b58
  exact mq_K_ite (fun hc => mq_K_B (mq_K_call mk_172 h rfl) (fun _ M1 hM1 => mq_K_ite (fun hc => mq_K_B (mk_171_L108 hM1) (fun _ M2 hM2 => mq_K_ret hM2)) (fun _ => mq_K_none))) (fun _ => mq_K_ret h)
theorem mk_171_L58 {s : Int32 × Int32} {M0 M : mm_M} (h : mq_kp mw_171 M0 M) : mq_K mw_171 M0 (mf_171_L58 s M) := by
  unfold mf_171_L58
  exact mq_K_L (fun s M h => mk_171_b58 h) h
theorem mk_171_j152 {M0 M : mm_M} (h : mq_kp mw_171 M0 M) : mq_K mw_171 M0 (mf_171_j152 M) := by
  unfold mf_171_j152
  exact mq_K_B (mq_K_call mk_60 h rfl) (fun _ M1 hM1 => mq_K_ret hM1)
theorem mk_171 {M : mm_M} : mq_K mw_171 M (mf_171 M) := by
  unfold mf_171
  exact mq_K_B (mq_K_call mk_57 mq_kp_refl rfl) (fun _ M1 hM1 => mq_K_B (mq_K_call mk_59 hM1 rfl) (fun _ M2 hM2 => mq_K_B (mq_K_call mk_59 hM2 rfl) (fun _ M3 hM3 => mq_K_B (mq_K_call mk_57 hM3 rfl) (fun _ M4 hM4 => mq_K_B (mq_K_call mk_158 hM4 rfl) (fun _ M5 hM5 => mq_K_B (mk_171_L58 (mq_kp_pl hM5 rfl)) (fun _ M6 hM6 => mk_171_j152 hM6))))))
