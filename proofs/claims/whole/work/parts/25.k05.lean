/-! WHAT IS KEPT 5 -/
-- 237: PlainPacksModel.chancesTold
def mw_237_b98 : List (Nat × Option Nat) := [(84, some 5), (84, some 7), (84, some 34)]
theorem mk_237_b98 {v1 : Int32} {v2 : Int64} {v4 : Int32} {M : mm_M} : mq_K mw_237_b98 M (mf_237_b98 v1 v2 v4 M) := by
  unfold mf_237_b98
  exact mq_K_ite (fun hc => mq_K_B (mq_K_call mk_191 mq_kp_refl rfl) (fun _ M2 hM2 => mq_K_ret (mq_kp_pl hM2 rfl))) (fun _ => mq_K_ret mq_kp_refl)
def mw_237_L98 : List (Nat × Option Nat) := [(84, some 5), (84, some 7), (84, some 34)]
theorem mk_237_L98 {v1 : Int32} {v2 : Int64} {s : Int32} {M : mm_M} : mq_K mw_237_L98 M (mf_237_L98 v1 v2 s M) := by
  unfold mf_237_L98
  exact mq_K_L (fun s M h => mq_K_call mk_237_b98 h rfl) mq_kp_refl
def mw_237_b164 : List (Nat × Option Nat) := [(98, none)]
theorem mk_237_b164 {v2 : Int64} {v4 : Int32} {M : mm_M} : mq_K mw_237_b164 M (mf_237_b164 v2 v4 M) := by
  unfold mf_237_b164
  exact mq_K_ite (fun hc => mq_K_ite (fun hc => mq_K_ret (mq_kp_pi mq_kp_refl rfl)) (fun _ => mq_K_none)) (fun _ => mq_K_ret mq_kp_refl)
def mw_237_L164 : List (Nat × Option Nat) := [(98, none)]
theorem mk_237_L164 {v2 : Int64} {s : Int32} {M : mm_M} : mq_K mw_237_L164 M (mf_237_L164 v2 s M) := by
  unfold mf_237_L164
  exact mq_K_L (fun s M h => mq_K_call mk_237_b164 h rfl) mq_kp_refl
def mw_237_b196 : List (Nat × Option Nat) := [(99, none)]
theorem mk_237_b196 {v2 : Int64} {v4 : Int32} {M : mm_M} : mq_K mw_237_b196 M (mf_237_b196 v2 v4 M) := by
  unfold mf_237_b196
  exact mq_K_ite (fun hc => mq_K_ite (fun hc => mq_K_ret (mq_kp_pl mq_kp_refl rfl)) (fun _ => mq_K_none)) (fun _ => mq_K_ret mq_kp_refl)
def mw_237_L196 : List (Nat × Option Nat) := [(99, none)]
theorem mk_237_L196 {v2 : Int64} {s : Int32} {M : mm_M} : mq_K mw_237_L196 M (mf_237_L196 v2 s M) := by
  unfold mf_237_L196
  exact mq_K_L (fun s M h => mq_K_call mk_237_b196 h rfl) mq_kp_refl
def mw_237_b219 : List (Nat × Option Nat) := [(84, some 4), (84, some 5), (84, some 7), (84, some 8), (84, some 9), (84, some 10), (84, some 11), (84, some 33), (84, some 34), (84, some 35), (86, none), (98, none), (99, none)]
theorem mk_237_b219 {v2 : Int64} {v4 : Int32} {M : mm_M} : mq_K mw_237_b219 M (mf_237_b219 v2 v4 M) := by
  unfold mf_237_b219
  exact mq_K_ite (fun hc => mq_K_ret mq_kp_refl) (fun _ => mq_K_ite (fun hc => mq_K_ite (fun hc => mq_K_ret mq_kp_refl) (fun _ => mq_K_B (mq_K_call mk_238 mq_kp_refl rfl) (fun _ M2 hM2 => mq_K_ret hM2))) (fun _ => mq_K_ret mq_kp_refl))
def mw_237_L219 : List (Nat × Option Nat) := [(84, some 4), (84, some 5), (84, some 7), (84, some 8), (84, some 9), (84, some 10), (84, some 11), (84, some 33), (84, some 34), (84, some 35), (86, none), (98, none), (99, none)]
theorem mk_237_L219 {v2 : Int64} {s : Int32} {M : mm_M} : mq_K mw_237_L219 M (mf_237_L219 v2 s M) := by
  unfold mf_237_L219
  exact mq_K_L (fun s M h => mq_K_call mk_237_b219 h rfl) mq_kp_refl
def mw_237_j251 : List (Nat × Option Nat) := [(84, some 7)]
theorem mk_237_j251 {M : mm_M} : mq_K mw_237_j251 M (mf_237_j251 M) := by
  unfold mf_237_j251
  exact mq_K_ite (fun hc => mq_K_ite (fun hc => mq_K_ret mq_kp_refl) (fun _ => mq_K_B (mq_K_call mk_190 mq_kp_refl rfl) (fun _ M1 hM1 => mq_K_ret hM1))) (fun _ => mq_K_ret mq_kp_refl)
def mw_237_j127 : List (Nat × Option Nat) := [(84, some 4), (84, some 5), (84, some 7), (84, some 8), (84, some 9), (84, some 10), (84, some 11), (84, some 33), (84, some 34), (84, some 35), (84, some 37), (84, some 38), (84, some 39), (86, none), (98, none), (99, none)]
theorem mk_237_j127 {v1 : Int32} {v2 : Int64} {M : mm_M} : mq_K mw_237_j127 M (mf_237_j127 v1 v2 M) := by
  unfold mf_237_j127
  exact mq_K_ite (fun hc => mq_K_B (mq_K_call mk_237_L164 (mq_kp_pi (mq_kp_pi (mq_kp_pi mq_kp_refl rfl) rfl) rfl) rfl) (fun _ M1 hM1 => mq_K_B (mq_K_call mk_237_L196 (mq_kp_pi hM1 rfl) rfl) (fun _ M6 hM6 => mq_K_B (mq_K_call mk_237_L219 hM6 rfl) (fun _ M11 hM11 => mq_K_call mk_237_j251 hM11 rfl)))) (fun _ => mq_K_ret mq_kp_refl)
def mw_237_j78 : List (Nat × Option Nat) := [(84, some 4), (84, some 5), (84, some 7), (84, some 8), (84, some 9), (84, some 10), (84, some 11), (84, some 33), (84, some 34), (84, some 35), (84, some 37), (84, some 38), (84, some 39), (86, none), (98, none), (99, none)]
theorem mk_237_j78 {v1 : Int32} {v2 : Int64} {M : mm_M} : mq_K mw_237_j78 M (mf_237_j78 v1 v2 M) := by
  unfold mf_237_j78
  exact mq_K_B (mq_K_call mk_192 mq_kp_refl rfl) (fun _ M1 hM1 => mq_K_B (mq_K_call mk_237_L98 (mq_kp_pl (mq_kp_pl hM1 rfl) rfl) rfl) (fun _ M2 hM2 => mq_K_call mk_237_j127 hM2 rfl))
def mw_237_j74 : List (Nat × Option Nat) := [(84, some 4), (84, some 5), (84, some 7), (84, some 8), (84, some 9), (84, some 10), (84, some 11), (84, some 33), (84, some 34), (84, some 35), (84, some 37), (84, some 38), (84, some 39), (86, none), (98, none), (99, none)]
theorem mk_237_j74 {v1 : Int32} {v2 : Int64} {M : mm_M} : mq_K mw_237_j74 M (mf_237_j74 v1 v2 M) := by
  unfold mf_237_j74
  exact mq_K_B (mq_K_call mk_190 mq_kp_refl rfl) (fun _ M1 hM1 => mq_K_call mk_237_j78 hM1 rfl)
def mw_237_j38 : List (Nat × Option Nat) := [(84, some 4), (84, some 5), (84, some 7), (84, some 8), (84, some 9), (84, some 10), (84, some 11), (84, some 33), (84, some 34), (84, some 35), (84, some 37), (84, some 38), (84, some 39), (86, none), (98, none), (99, none)]
theorem mk_237_j38 {v1 : Int32} {M : mm_M} : mq_K mw_237_j38 M (mf_237_j38 v1 M) := by
  unfold mf_237_j38
  exact mq_K_B (mq_K_call mk_193 mq_kp_refl rfl) (fun _ M2 hM2 => mq_K_B (mq_K_call mk_193 hM2 rfl) (fun _ M4 hM4 => mq_K_ite (fun hc => mq_K_ite (fun hc => mq_K_call mk_237_j74 hM4 rfl) (fun _ => mq_K_ite (fun hc => mq_K_call mk_237_j74 hM4 rfl) (fun _ => mq_K_call mk_237_j78 hM4 rfl))) (fun _ => mq_K_call mk_237_j78 hM4 rfl)))
def mw_237_j34 : List (Nat × Option Nat) := [(84, some 4), (84, some 5), (84, some 7), (84, some 8), (84, some 9), (84, some 10), (84, some 11), (84, some 33), (84, some 34), (84, some 35), (84, some 37), (84, some 38), (84, some 39), (86, none), (98, none), (99, none)]
theorem mk_237_j34 {v1 : Int32} {M : mm_M} : mq_K mw_237_j34 M (mf_237_j34 v1 M) := by
  unfold mf_237_j34
  exact mq_K_B (mq_K_call mk_190 mq_kp_refl rfl) (fun _ M1 hM1 => mq_K_call mk_237_j38 hM1 rfl)
def mw_237 : List (Nat × Option Nat) := [(84, some 4), (84, some 5), (84, some 7), (84, some 8), (84, some 9), (84, some 10), (84, some 11), (84, some 33), (84, some 34), (84, some 35), (84, some 37), (84, some 38), (84, some 39), (86, none), (98, none), (99, none)]
theorem mk_237 {M : mm_M} : mq_K mw_237 M (mf_237 M) := by
  unfold mf_237
  exact mq_K_B (mq_K_call mk_191 mq_kp_refl rfl) (fun _ M2 hM2 => mq_K_ite (fun hc => mq_K_ite (fun hc => mq_K_call mk_237_j34 hM2 rfl) (fun _ => mq_K_ite (fun hc => mq_K_call mk_237_j34 hM2 rfl) (fun _ => mq_K_call mk_237_j38 hM2 rfl))) (fun _ => mq_K_call mk_237_j38 hM2 rfl))
-- 244: PlainPacksModel.open
def mw_244_j221 : List (Nat × Option Nat) := []
theorem mk_244_j221 {M : mm_M} : mq_K mw_244_j221 M (mf_244_j221 M) := by
  unfold mf_244_j221
  exact mq_K_ite (fun hc => mq_K_ret mq_kp_refl) (fun _ => mq_K_ret mq_kp_refl)
def mw_244_j16 : List (Nat × Option Nat) := [(84, some 0), (84, some 4), (84, some 5), (84, some 6), (84, some 7), (84, some 8), (84, some 9), (84, some 10), (84, some 11), (84, some 12), (84, some 13), (84, some 14), (84, some 15), (84, some 20), (84, some 21), (84, some 28), (84, some 29), (84, some 30), (84, some 33), (84, some 34), (84, some 35), (84, some 37), (84, some 38), (84, some 39), (86, none), (87, none), (88, none), (90, none), (91, none), (92, none), (93, none), (94, none), (95, none), (96, none), (97, none), (98, none), (99, none)]
theorem mk_244_j16 {v1 : Int32} {s1 : Int32} {M : mm_M} : mq_K mw_244_j16 M (mf_244_j16 v1 s1 M) := by
  unfold mf_244_j16
  exact mq_K_B (mq_K_call mk_174 mq_kp_refl rfl) (fun _ M2 hM2 => mq_K_ite (fun hc => mq_K_ret hM2) (fun _ => mq_K_ite (fun hc => mq_K_B (mq_K_call mk_214 (mq_kp_pi (mq_kp_pi (mq_kp_pi (mq_kp_pi (mq_kp_pi (mq_kp_pi (mq_kp_pi (mq_kp_pi (mq_kp_pi (mq_kp_pi hM2 rfl) rfl) rfl) rfl) rfl) rfl) rfl) rfl) rfl) rfl) rfl) (fun _ M3 hM3 => mq_K_call mk_244_j221 hM3 rfl)) (fun _ => mq_K_ite (fun hc => mq_K_B (mq_K_call mk_203 (mq_kp_pi (mq_kp_pi (mq_kp_pi (mq_kp_pi (mq_kp_pi (mq_kp_pi (mq_kp_pi (mq_kp_pi (mq_kp_pi (mq_kp_pi hM2 rfl) rfl) rfl) rfl) rfl) rfl) rfl) rfl) rfl) rfl) rfl) (fun _ M4 hM4 => mq_K_call mk_244_j221 hM4 rfl)) (fun _ => mq_K_ite (fun hc => mq_K_B (mq_K_call mk_210 (mq_kp_pi (mq_kp_pi (mq_kp_pi (mq_kp_pi (mq_kp_pi (mq_kp_pi (mq_kp_pi (mq_kp_pi (mq_kp_pi (mq_kp_pi hM2 rfl) rfl) rfl) rfl) rfl) rfl) rfl) rfl) rfl) rfl) rfl) (fun _ M5 hM5 => mq_K_call mk_244_j221 hM5 rfl)) (fun _ => mq_K_ite (fun hc => mq_K_B (mq_K_call mk_212 (mq_kp_pi (mq_kp_pi (mq_kp_pi (mq_kp_pi (mq_kp_pi (mq_kp_pi (mq_kp_pi (mq_kp_pi (mq_kp_pi (mq_kp_pi hM2 rfl) rfl) rfl) rfl) rfl) rfl) rfl) rfl) rfl) rfl) rfl) (fun _ M6 hM6 => mq_K_call mk_244_j221 hM6 rfl)) (fun _ => mq_K_ite (fun hc => mq_K_B (mq_K_call mk_216 (mq_kp_pi (mq_kp_pi (mq_kp_pi (mq_kp_pi (mq_kp_pi (mq_kp_pi (mq_kp_pi (mq_kp_pi (mq_kp_pi (mq_kp_pi hM2 rfl) rfl) rfl) rfl) rfl) rfl) rfl) rfl) rfl) rfl) rfl) (fun _ M7 hM7 => mq_K_call mk_244_j221 hM7 rfl)) (fun _ => mq_K_ite (fun hc => mq_K_B (mq_K_call mk_215 (mq_kp_pi (mq_kp_pi (mq_kp_pi (mq_kp_pi (mq_kp_pi (mq_kp_pi (mq_kp_pi (mq_kp_pi (mq_kp_pi (mq_kp_pi (mq_kp_pi hM2 rfl) rfl) rfl) rfl) rfl) rfl) rfl) rfl) rfl) rfl) rfl) rfl) (fun _ M8 hM8 => mq_K_call mk_244_j221 hM8 rfl)) (fun _ => mq_K_ite (fun hc => mq_K_B (mq_K_call mk_218 (mq_kp_pi (mq_kp_pi (mq_kp_pi (mq_kp_pi (mq_kp_pi (mq_kp_pi (mq_kp_pi (mq_kp_pi (mq_kp_pi (mq_kp_pi hM2 rfl) rfl) rfl) rfl) rfl) rfl) rfl) rfl) rfl) rfl) rfl) (fun _ M9 hM9 => mq_K_call mk_244_j221 hM9 rfl)) (fun _ => mq_K_ite (fun hc => mq_K_B (mq_K_call mk_219 (mq_kp_pi (mq_kp_pi (mq_kp_pi (mq_kp_pi (mq_kp_pi (mq_kp_pi (mq_kp_pi (mq_kp_pi (mq_kp_pi (mq_kp_pi hM2 rfl) rfl) rfl) rfl) rfl) rfl) rfl) rfl) rfl) rfl) rfl) (fun _ M10 hM10 => mq_K_call mk_244_j221 hM10 rfl)) (fun _ => mq_K_ite (fun hc => mq_K_B (mq_K_call mk_221 (mq_kp_pi (mq_kp_pi (mq_kp_pi (mq_kp_pi (mq_kp_pi (mq_kp_pi (mq_kp_pi (mq_kp_pi (mq_kp_pi (mq_kp_pi hM2 rfl) rfl) rfl) rfl) rfl) rfl) rfl) rfl) rfl) rfl) rfl) (fun _ M11 hM11 => mq_K_call mk_244_j221 hM11 rfl)) (fun _ => mq_K_ite (fun hc => mq_K_B (mq_K_call mk_223 (mq_kp_pi (mq_kp_pi (mq_kp_pi (mq_kp_pi (mq_kp_pi (mq_kp_pi (mq_kp_pi (mq_kp_pi (mq_kp_pi (mq_kp_pi hM2 rfl) rfl) rfl) rfl) rfl) rfl) rfl) rfl) rfl) rfl) rfl) (fun _ M12 hM12 => mq_K_call mk_244_j221 hM12 rfl)) (fun _ => mq_K_B (mq_K_call mk_237 (mq_kp_pi (mq_kp_pi (mq_kp_pi (mq_kp_pi (mq_kp_pi (mq_kp_pi (mq_kp_pi (mq_kp_pi (mq_kp_pi (mq_kp_pi hM2 rfl) rfl) rfl) rfl) rfl) rfl) rfl) rfl) rfl) rfl) rfl) (fun _ M13 hM13 => mq_K_call mk_244_j221 hM13 rfl)))))))))))))
def mw_244_j15 : List (Nat × Option Nat) := [(84, some 0), (84, some 4), (84, some 5), (84, some 6), (84, some 7), (84, some 8), (84, some 9), (84, some 10), (84, some 11), (84, some 12), (84, some 13), (84, some 14), (84, some 15), (84, some 20), (84, some 21), (84, some 28), (84, some 29), (84, some 30), (84, some 33), (84, some 34), (84, some 35), (84, some 37), (84, some 38), (84, some 39), (86, none), (87, none), (88, none), (90, none), (91, none), (92, none), (93, none), (94, none), (95, none), (96, none), (97, none), (98, none), (99, none)]
theorem mk_244_j15 {v1 : Int32} {M : mm_M} : mq_K mw_244_j15 M (mf_244_j15 v1 M) := by
  unfold mf_244_j15
  exact mq_K_call mk_244_j16 mq_kp_refl rfl
def mw_244 : List (Nat × Option Nat) := [(84, some 0), (84, some 4), (84, some 5), (84, some 6), (84, some 7), (84, some 8), (84, some 9), (84, some 10), (84, some 11), (84, some 12), (84, some 13), (84, some 14), (84, some 15), (84, some 20), (84, some 21), (84, some 28), (84, some 29), (84, some 30), (84, some 33), (84, some 34), (84, some 35), (84, some 37), (84, some 38), (84, some 39), (86, none), (87, none), (88, none), (90, none), (91, none), (92, none), (93, none), (94, none), (95, none), (96, none), (97, none), (98, none), (99, none)]
theorem mk_244 {v1 : Int32} {M : mm_M} : mq_K mw_244 M (mf_244 v1 M) := by
  unfold mf_244
  exact mq_K_ite (fun hc => mq_K_call mk_244_j15 mq_kp_refl rfl) (fun _ => mq_K_ite (fun hc => mq_K_call mk_244_j15 mq_kp_refl rfl) (fun _ => mq_K_call mk_244_j16 mq_kp_refl rfl))
-- 18: PlainPacks.told
def mw_18 : List (Nat × Option Nat) := []
theorem mk_18 {v1 : Int32} {M : mm_M} : mq_K mw_18 M (mf_18 v1 M) := by
  unfold mf_18
  exact mq_K_ite (fun hc => mq_K_ret mq_kp_refl) (fun _ => mq_K_ite (fun hc => mq_K_ret mq_kp_refl) (fun _ => mq_K_ite (fun hc => mq_K_ret mq_kp_refl) (fun _ => mq_K_ite (fun hc => mq_K_ret mq_kp_refl) (fun _ => mq_K_ite (fun hc => mq_K_ret mq_kp_refl) (fun _ => mq_K_ite (fun hc => mq_K_ret mq_kp_refl) (fun _ => mq_K_ret (mq_kp_th mq_kp_refl)))))))
-- 181: PlainPacksModel.told
def mw_181_j15 : List (Nat × Option Nat) := [(84, some 0)]
theorem mk_181_j15 {v1 : Int32} {s1 : Int32} {M : mm_M} : mq_K mw_181_j15 M (mf_181_j15 v1 s1 M) := by
  unfold mf_181_j15
  exact mq_K_B (mq_K_call mk_174 mq_kp_refl rfl) (fun _ M2 hM2 => mq_K_ite (fun hc => mq_K_ret hM2) (fun _ => mq_K_ite (fun hc => mq_K_ret hM2) (fun _ => mq_K_ite (fun hc => mq_K_ret hM2) (fun _ => mq_K_ite (fun hc => mq_K_ret hM2) (fun _ => mq_K_ite (fun hc => mq_K_ret hM2) (fun _ => mq_K_ite (fun hc => mq_K_ret hM2) (fun _ => mq_K_ret hM2)))))))
def mw_181_j14 : List (Nat × Option Nat) := [(84, some 0)]
theorem mk_181_j14 {v1 : Int32} {M : mm_M} : mq_K mw_181_j14 M (mf_181_j14 v1 M) := by
  unfold mf_181_j14
  exact mq_K_call mk_181_j15 mq_kp_refl rfl
def mw_181 : List (Nat × Option Nat) := [(84, some 0)]
theorem mk_181 {v1 : Int32} {M : mm_M} : mq_K mw_181 M (mf_181 v1 M) := by
  unfold mf_181
  exact mq_K_ite (fun hc => mq_K_call mk_181_j14 mq_kp_refl rfl) (fun _ => mq_K_ite (fun hc => mq_K_call mk_181_j14 mq_kp_refl rfl) (fun _ => mq_K_call mk_181_j15 mq_kp_refl rfl))
-- 19: PlainPacks.out
def mw_19 : List (Nat × Option Nat) := []
theorem mk_19 {v1 : Int32} {M : mm_M} : mq_K mw_19 M (mf_19 v1 M) := by
  unfold mf_19
  exact mq_K_ite (fun hc => mq_K_ret (mq_kp_th mq_kp_refl)) (fun _ => mq_K_ite (fun hc => mq_K_ite (fun hc => mq_K_ret mq_kp_refl) (fun _ => mq_K_none)) (fun _ => mq_K_ret (mq_kp_th mq_kp_refl)))
-- 180: PlainPacksModel.out
def mw_180_j18 : List (Nat × Option Nat) := [(84, some 0)]
theorem mk_180_j18 {v1 : Int32} {s1 : Int32} {M : mm_M} : mq_K mw_180_j18 M (mf_180_j18 v1 s1 M) := by
  unfold mf_180_j18
  exact mq_K_B (mq_K_call mk_174 mq_kp_refl rfl) (fun _ M2 hM2 => mq_K_ite (fun hc => mq_K_ret hM2) (fun _ => mq_K_ite (fun hc => mq_K_ret hM2) (fun _ => mq_K_none)))
def mw_180_j17 : List (Nat × Option Nat) := [(84, some 0)]
theorem mk_180_j17 {v1 : Int32} {M : mm_M} : mq_K mw_180_j17 M (mf_180_j17 v1 M) := by
  unfold mf_180_j17
  exact mq_K_call mk_180_j18 mq_kp_refl rfl
def mw_180 : List (Nat × Option Nat) := [(84, some 0)]
theorem mk_180 {v1 : Int32} {M : mm_M} : mq_K mw_180 M (mf_180 v1 M) := by
  unfold mf_180
  exact mq_K_ite (fun hc => mq_K_call mk_180_j17 mq_kp_refl rfl) (fun _ => mq_K_ite (fun hc => mq_K_call mk_180_j18 mq_kp_refl rfl) (fun _ => mq_K_call mk_180_j17 mq_kp_refl rfl))
-- 56: PlainPacks$Writer.back
def mw_56 : List (Nat × Option Nat) := [(5, some 1), (5, some 4), (5, some 5)]
theorem mk_56 {v1 : Int32} {M : mm_M} : mq_K mw_56 M (mf_56 v1 M) := by
  unfold mf_56
  exact mq_K_ret (mq_kp_pi (mq_kp_pi (mq_kp_pi mq_kp_refl rfl) rfl) rfl)
-- 55: PlainPacks$Writer.start
def mw_55 : List (Nat × Option Nat) := [(5, some 1), (5, some 2), (5, some 3), (5, some 4), (5, some 5)]
theorem mk_55 {M : mm_M} : mq_K mw_55 M (mf_55 M) := by
  unfold mf_55
  exact mq_K_B (mq_K_call mk_56 (mq_kp_pi (mq_kp_pi mq_kp_refl rfl) rfl) rfl) (fun _ M1 hM1 => mq_K_ret hM1)
-- 128: PlainPacks$Pieces.runAt
def mw_128_b2 : List (Nat × Option Nat) := []
theorem mk_128_b2 {v1 : Int32} {v2 : Int32} {v3 : Int32} {M : mm_M} : mq_K mw_128_b2 M (mf_128_b2 v1 v2 v3 M) := by
  unfold mf_128_b2
  exact mq_K_ite (fun hc => mq_K_ite (fun hc => mq_K_ite (fun hc => mq_K_ite (fun hc => mq_K_ite (fun hc => mq_K_ret mq_kp_refl) (fun _ => mq_K_ret mq_kp_refl)) (fun _ => mq_K_none)) (fun _ => mq_K_none)) (fun _ => mq_K_ret mq_kp_refl)) (fun _ => mq_K_ret mq_kp_refl)
def mw_128_L2 : List (Nat × Option Nat) := []
theorem mk_128_L2 {v1 : Int32} {v2 : Int32} {s : Int32} {M : mm_M} : mq_K mw_128_L2 M (mf_128_L2 v1 v2 s M) := by
  unfold mf_128_L2
  exact mq_K_L (fun s M h => mq_K_call mk_128_b2 h rfl) mq_kp_refl
def mw_128 : List (Nat × Option Nat) := []
theorem mk_128 {v1 : Int32} {v2 : Int32} {M : mm_M} : mq_K mw_128 M (mf_128 v1 v2 M) := by
  unfold mf_128
  exact mq_K_B (mq_K_call mk_128_L2 mq_kp_refl rfl) (fun _ M1 hM1 => mq_K_ret hM1)
-- 57: PlainPacks$Writer.put
def mw_57 : List (Nat × Option Nat) := [(5, some 1), (5, some 2), (6, none)]
theorem mk_57 {v1 : Int32} {M : mm_M} : mq_K mw_57 M (mf_57 v1 M) := by
  unfold mf_57
  exact mq_K_ite (fun hc => mq_K_ite (fun hc => mq_K_ret (mq_kp_pi (mq_kp_pi mq_kp_refl rfl) rfl)) (fun _ => mq_K_none)) (fun _ => mq_K_ret (mq_kp_pi mq_kp_refl rfl))
-- 58: PlainPacks$Writer.putAll
def mw_58_b3 : List (Nat × Option Nat) := [(5, some 1), (5, some 2), (6, none)]
theorem mk_58_b3 {v3 : Int32} {v4 : Int32} {M : mm_M} : mq_K mw_58_b3 M (mf_58_b3 v3 v4 M) := by
  unfold mf_58_b3
  exact mq_K_ite (fun hc => mq_K_ite (fun hc => mq_K_B (mq_K_call mk_57 mq_kp_refl rfl) (fun _ M1 hM1 => mq_K_ret hM1)) (fun _ => mq_K_none)) (fun _ => mq_K_ret mq_kp_refl)
def mw_58_L3 : List (Nat × Option Nat) := [(5, some 1), (5, some 2), (6, none)]
theorem mk_58_L3 {v3 : Int32} {s : Int32} {M : mm_M} : mq_K mw_58_L3 M (mf_58_L3 v3 s M) := by
  unfold mf_58_L3
  exact mq_K_L (fun s M h => mq_K_call mk_58_b3 h rfl) mq_kp_refl
def mw_58 : List (Nat × Option Nat) := [(5, some 1), (5, some 2), (6, none)]
theorem mk_58 {v2 : Int32} {v3 : Int32} {M : mm_M} : mq_K mw_58 M (mf_58 v2 v3 M) := by
  unfold mf_58
  exact mq_K_B (mq_K_call mk_58_L3 mq_kp_refl rfl) (fun _ M1 hM1 => mq_K_ret hM1)
-- 127: PlainPacks$Pieces.writeRuns
def mw_127_b66 : List (Nat × Option Nat) := []
theorem mk_127_b66 {v1 : Int32} {v3 : Int32} {M : mm_M} : mq_K mw_127_b66 M (mf_127_b66 v1 v3 M) := by
  unfold mf_127_b66
  exact mq_K_ite (fun hc => mq_K_ite (fun hc => mq_K_B (mq_K_call mk_128 mq_kp_refl rfl) (fun _ M2 hM2 => mq_K_ite (fun hc => mq_K_ret hM2) (fun _ => mq_K_ret hM2))) (fun _ => mq_K_ret mq_kp_refl)) (fun _ => mq_K_ret mq_kp_refl)
def mw_127_L66 : List (Nat × Option Nat) := []
theorem mk_127_L66 {v1 : Int32} {s : Int32} {M : mm_M} : mq_K mw_127_L66 M (mf_127_L66 v1 s M) := by
  unfold mf_127_L66
  exact mq_K_L (fun s M h => mq_K_call mk_127_b66 h rfl) mq_kp_refl
def mw_127_j102 : List (Nat × Option Nat) := [(5, some 1), (5, some 2), (6, none)]
theorem mk_127_j102 {v1 : Int32} {v3 : Int32} {M : mm_M} : mq_K mw_127_j102 M (mf_127_j102 v1 v3 M) := by
  unfold mf_127_j102
  exact mq_K_B (mq_K_call mk_57 mq_kp_refl rfl) (fun _ M1 hM1 => mq_K_B (mq_K_call mk_58 hM1 rfl) (fun _ M2 hM2 => mq_K_ret hM2))
def mw_127_b2 : List (Nat × Option Nat) := [(5, some 1), (5, some 2), (6, none)]
theorem mk_127_b2 {v1 : Int32} {M : mm_M} : mq_K mw_127_b2 M (mf_127_b2 v1 M) := by
  unfold mf_127_b2
  exact mq_K_ite (fun hc => mq_K_B (mq_K_call mk_128 mq_kp_refl rfl) (fun _ M2 hM2 => mq_K_ite (fun hc => mq_K_B (mq_K_call mk_127_L66 hM2 rfl) (fun _ M3 hM3 => mq_K_call mk_127_j102 hM3 rfl)) (fun _ => mq_K_B (mq_K_call mk_57 hM2 rfl) (fun _ M6 hM6 => mq_K_ite (fun hc => mq_K_B (mq_K_call mk_57 hM6 rfl) (fun _ M7 hM7 => mq_K_ret hM7)) (fun _ => mq_K_none))))) (fun _ => mq_K_ret mq_kp_refl)
def mw_127_L2 : List (Nat × Option Nat) := [(5, some 1), (5, some 2), (6, none)]
theorem mk_127_L2 {s : Int32} {M : mm_M} : mq_K mw_127_L2 M (mf_127_L2 s M) := by
  unfold mf_127_L2
  exact mq_K_L (fun s M h => mq_K_call mk_127_b2 h rfl) mq_kp_refl
def mw_127 : List (Nat × Option Nat) := [(5, some 1), (5, some 2), (6, none)]
theorem mk_127 {M : mm_M} : mq_K mw_127 M (mf_127 M) := by
  unfold mf_127
  exact mq_K_B (mq_K_call mk_127_L2 mq_kp_refl rfl) (fun _ M1 hM1 => mq_K_ret hM1)
-- 61: PlainPacks$Writer.bit
def mw_61_j30 : List (Nat × Option Nat) := [(5, some 1), (5, some 2), (5, some 4), (5, some 5), (6, none)]
theorem mk_61_j30 {s1 : Int32} {s2 : Int32} {M : mm_M} : mq_K mw_61_j30 M (mf_61_j30 s1 s2 M) := by
  unfold mf_61_j30
  exact mq_K_ite (fun hc => mq_K_B (mq_K_call mk_57 (mq_kp_pi (mq_kp_pi mq_kp_refl rfl) rfl) rfl) (fun _ M1 hM1 => mq_K_ret (mq_kp_pi (mq_kp_pi hM1 rfl) rfl))) (fun _ => mq_K_ret (mq_kp_pi (mq_kp_pi mq_kp_refl rfl) rfl))
def mw_61 : List (Nat × Option Nat) := [(5, some 1), (5, some 2), (5, some 4), (5, some 5), (6, none)]
theorem mk_61 {v1 : Int32} {M : mm_M} : mq_K mw_61 M (mf_61 v1 M) := by
  unfold mf_61
  exact mq_K_ite (fun hc => mq_K_call mk_61_j30 mq_kp_refl rfl) (fun _ => mq_K_call mk_61_j30 mq_kp_refl rfl)
-- 62: PlainPacks$Writer.bits
def mw_62_j29 : List (Nat × Option Nat) := [(5, some 1), (5, some 2), (5, some 4), (5, some 5), (6, none)]
theorem mk_62_j29 {v1 : Int64} {v3 : Int32} {v4 : Int32} {s1 : Int64} {s2 : Int32} {M : mm_M} : mq_K mw_62_j29 M (mf_62_j29 v1 v3 v4 s1 s2 M) := by
  unfold mf_62_j29
  exact mq_K_B (mq_K_call mk_61 mq_kp_refl rfl) (fun _ M1 hM1 => mq_K_ret hM1)
def mw_62_b3 : List (Nat × Option Nat) := [(5, some 1), (5, some 2), (5, some 4), (5, some 5), (6, none)]
theorem mk_62_b3 {v1 : Int64} {v3 : Int32} {v4 : Int32} {M : mm_M} : mq_K mw_62_b3 M (mf_62_b3 v1 v3 v4 M) := by
  unfold mf_62_b3
  exact mq_K_ite (fun hc => mq_K_ite (fun hc => mq_K_call mk_62_j29 mq_kp_refl rfl) (fun _ => mq_K_call mk_62_j29 mq_kp_refl rfl)) (fun _ => mq_K_ret mq_kp_refl)
def mw_62_L3 : List (Nat × Option Nat) := [(5, some 1), (5, some 2), (5, some 4), (5, some 5), (6, none)]
theorem mk_62_L3 {v1 : Int64} {v3 : Int32} {s : Int32} {M : mm_M} : mq_K mw_62_L3 M (mf_62_L3 v1 v3 s M) := by
  unfold mf_62_L3
  exact mq_K_L (fun s M h => mq_K_call mk_62_b3 h rfl) mq_kp_refl
def mw_62 : List (Nat × Option Nat) := [(5, some 1), (5, some 2), (5, some 4), (5, some 5), (6, none)]
theorem mk_62 {v1 : Int64} {v3 : Int32} {M : mm_M} : mq_K mw_62 M (mf_62 v1 v3 M) := by
  unfold mf_62
  exact mq_K_B (mq_K_call mk_62_L3 mq_kp_refl rfl) (fun _ M1 hM1 => mq_K_ret hM1)
-- 70: PlainPacks$Finder.start
def mw_70 : List (Nat × Option Nat) := [(13, some 6), (13, some 7), (14, none)]
theorem mk_70 {M : mm_M} : mq_K mw_70 M (mf_70 M) := by
  unfold mf_70
  exact mq_K_B (mq_K_call mk_290 (mq_kp_pi (mq_kp_pi mq_kp_refl rfl) rfl) rfl) (fun _ M1 hM1 => mq_K_ret hM1)
-- 73: PlainPacks$Finder.headOf
def mw_73 : List (Nat × Option Nat) := []
theorem mk_73 {v1 : Int32} {M : mm_M} : mq_K mw_73 M (mf_73 v1 M) := by
  unfold mf_73
  exact mq_K_ite (fun hc => mq_K_ite (fun hc => mq_K_ite (fun hc => mq_K_ret mq_kp_refl) (fun _ => mq_K_none)) (fun _ => mq_K_none)) (fun _ => mq_K_none)
-- 72: PlainPacks$Finder.enterTo
def mw_72_b0 : List (Nat × Option Nat) := [(13, some 7), (14, none), (15, none)]
theorem mk_72_b0 {v1 : Int32} {M : mm_M} : mq_K mw_72_b0 M (mf_72_b0 v1 M) := by
  unfold mf_72_b0
  exact mq_K_ite (fun hc => mq_K_ite (fun hc => mq_K_ret mq_kp_refl) (fun _ => mq_K_B (mq_K_call mk_73 mq_kp_refl rfl) (fun _ M2 hM2 => mq_K_ite (fun hc => mq_K_ite (fun hc => mq_K_ite (fun hc => mq_K_ret (mq_kp_pi (mq_kp_pi (mq_kp_pi hM2 rfl) rfl) rfl)) (fun _ => mq_K_none)) (fun _ => mq_K_none)) (fun _ => mq_K_none)))) (fun _ => mq_K_ret mq_kp_refl)
def mw_72_L0 : List (Nat × Option Nat) := [(13, some 7), (14, none), (15, none)]
theorem mk_72_L0 {v1 : Int32} {s : Unit} {M : mm_M} : mq_K mw_72_L0 M (mf_72_L0 v1 s M) := by
  unfold mf_72_L0
  exact mq_K_L (fun s M h => mq_K_call mk_72_b0 h rfl) mq_kp_refl
def mw_72 : List (Nat × Option Nat) := [(13, some 7), (14, none), (15, none)]
theorem mk_72 {v1 : Int32} {M : mm_M} : mq_K mw_72 M (mf_72 v1 M) := by
  unfold mf_72
  exact mq_K_B (mq_K_call mk_72_L0 mq_kp_refl rfl) (fun _ M1 hM1 => mq_K_ret hM1)
-- 74: PlainPacks$Finder.alike
def mw_74_b3 : List (Nat × Option Nat) := []
theorem mk_74_b3 {v1 : Int32} {v2 : Int32} {v3 : Int32} {v4 : Int32} {M : mm_M} : mq_K mw_74_b3 M (mf_74_b3 v1 v2 v3 v4 M) := by
  unfold mf_74_b3
  exact mq_K_ite (fun hc => mq_K_ite (fun hc => mq_K_ite (fun hc => mq_K_ite (fun hc => mq_K_ret mq_kp_refl) (fun _ => mq_K_ret mq_kp_refl)) (fun _ => mq_K_none)) (fun _ => mq_K_none)) (fun _ => mq_K_ret mq_kp_refl)
def mw_74_L3 : List (Nat × Option Nat) := []
theorem mk_74_L3 {v1 : Int32} {v2 : Int32} {v3 : Int32} {s : Int32} {M : mm_M} : mq_K mw_74_L3 M (mf_74_L3 v1 v2 v3 s M) := by
  unfold mf_74_L3
  exact mq_K_L (fun s M h => mq_K_call mk_74_b3 h rfl) mq_kp_refl
def mw_74 : List (Nat × Option Nat) := []
theorem mk_74 {v1 : Int32} {v2 : Int32} {v3 : Int32} {M : mm_M} : mq_K mw_74 M (mf_74 v1 v2 v3 M) := by
  unfold mf_74
  exact mq_K_B (mq_K_call mk_74_L3 mq_kp_refl rfl) (fun _ M1 hM1 => mq_K_ret hM1)
-- 71: PlainPacks$Finder.find
def mw_71_j134 : List (Nat × Option Nat) := []
theorem mk_71_j134 {v1 : Int32} {v3 : Int32} {v4 : Int32} {v5 : Int32} {M : mm_M} : mq_K mw_71_j134 M (mf_71_j134 v1 v3 v4 v5 M) := by
  unfold mf_71_j134
  exact mq_K_ite (fun hc => mq_K_ret mq_kp_refl) (fun _ => mq_K_none)
def mw_71_b47 : List (Nat × Option Nat) := [(13, some 0), (13, some 1)]
theorem mk_71_b47 {v1 : Int32} {v3 : Int32} {v4 : Int32} {v5 : Int32} {M : mm_M} : mq_K mw_71_b47 M (mf_71_b47 v1 v3 v4 v5 M) := by
  unfold mf_71_b47
  exact mq_K_ite (fun hc => mq_K_ite (fun hc => mq_K_ret mq_kp_refl) (fun _ => mq_K_ite (fun hc => mq_K_ite (fun hc => mq_K_ite (fun hc => mq_K_ite (fun hc => mq_K_B (mq_K_call mk_74 mq_kp_refl rfl) (fun _ M2 hM2 => mq_K_ite (fun hc => mq_K_call mk_71_j134 hM2 rfl) (fun _ => mq_K_ite (fun hc => mq_K_call mk_71_j134 (mq_kp_pi (mq_kp_pi hM2 rfl) rfl) rfl) (fun _ => mq_K_call mk_71_j134 hM2 rfl)))) (fun _ => mq_K_call mk_71_j134 mq_kp_refl rfl)) (fun _ => mq_K_none)) (fun _ => mq_K_none)) (fun _ => mq_K_ret mq_kp_refl))) (fun _ => mq_K_ret mq_kp_refl)
def mw_71_L47 : List (Nat × Option Nat) := [(13, some 0), (13, some 1)]
theorem mk_71_L47 {v1 : Int32} {v3 : Int32} {s : Int32 × Int32} {M : mm_M} : mq_K mw_71_L47 M (mf_71_L47 v1 v3 s M) := by
  unfold mf_71_L47
  exact mq_K_L (fun s M h => mq_K_call mk_71_b47 h rfl) mq_kp_refl
def mw_71 : List (Nat × Option Nat) := [(13, some 0), (13, some 1), (13, some 7), (14, none), (15, none)]
theorem mk_71 {v1 : Int32} {v2 : Int32} {M : mm_M} : mq_K mw_71 M (mf_71 v1 v2 M) := by
  unfold mf_71
  exact mq_K_ite (fun hc => mq_K_ret (mq_kp_pi (mq_kp_pi mq_kp_refl rfl) rfl)) (fun _ => mq_K_B (mq_K_call mk_72 (mq_kp_pi (mq_kp_pi mq_kp_refl rfl) rfl) rfl) (fun _ M1 hM1 => mq_K_B (mq_K_call mk_73 hM1 rfl) (fun _ M3 hM3 => mq_K_ite (fun hc => mq_K_B (mq_K_call mk_71_L47 hM3 rfl) (fun _ M4 hM4 => mq_K_ret hM4)) (fun _ => mq_K_none))))
-- 95: PlainPacks$Blocks.lengthExtra
def mw_95 : List (Nat × Option Nat) := []
theorem mk_95 {v0 : Int32} {M : mm_M} : mq_K mw_95 M (mf_95 v0 M) := by
  unfold mf_95
  exact mq_K_ite (fun hc => mq_K_ret mq_kp_refl) (fun _ => mq_K_ite (fun hc => mq_K_ret mq_kp_refl) (fun _ => mq_K_B (mq_K_call mk_34 mq_kp_refl rfl) (fun _ M2 hM2 => mq_K_ret hM2)))
-- 94: PlainPacks$Blocks.letterOf
def mw_94 : List (Nat × Option Nat) := []
theorem mk_94 {v0 : Int32} {M : mm_M} : mq_K mw_94 M (mf_94 v0 M) := by
  unfold mf_94
  exact mq_K_ite (fun hc => mq_K_ret mq_kp_refl) (fun _ => mq_K_B (mq_K_call mk_95 mq_kp_refl rfl) (fun _ M2 hM2 => mq_K_ite (fun hc => mq_K_ret hM2) (fun _ => mq_K_ret hM2)))
-- 63: PlainPacks$Writer.code
def mw_63_b4 : List (Nat × Option Nat) := [(5, some 1), (5, some 2), (5, some 4), (5, some 5), (6, none)]
theorem mk_63_b4 {v1 : Int32} {v3 : Int32} {M : mm_M} : mq_K mw_63_b4 M (mf_63_b4 v1 v3 M) := by
  unfold mf_63_b4
  exact mq_K_ite (fun hc => mq_K_ret mq_kp_refl) (fun _ => mq_K_B (mq_K_call mk_61 mq_kp_refl rfl) (fun _ M1 hM1 => mq_K_ret hM1))
def mw_63_L4 : List (Nat × Option Nat) := [(5, some 1), (5, some 2), (5, some 4), (5, some 5), (6, none)]
theorem mk_63_L4 {v1 : Int32} {s : Int32} {M : mm_M} : mq_K mw_63_L4 M (mf_63_L4 v1 s M) := by
  unfold mf_63_L4
  exact mq_K_L (fun s M h => mq_K_call mk_63_b4 h rfl) mq_kp_refl
def mw_63 : List (Nat × Option Nat) := [(5, some 1), (5, some 2), (5, some 4), (5, some 5), (6, none)]
theorem mk_63 {v1 : Int32} {v2 : Int32} {M : mm_M} : mq_K mw_63 M (mf_63 v1 v2 M) := by
  unfold mf_63
  exact mq_K_B (mq_K_call mk_63_L4 mq_kp_refl rfl) (fun _ M1 hM1 => mq_K_ret hM1)
-- 92: PlainPacks$Blocks.writeLetter
def mw_92 : List (Nat × Option Nat) := [(5, some 1), (5, some 2), (5, some 4), (5, some 5), (6, none)]
theorem mk_92 {v1 : Int32} {M : mm_M} : mq_K mw_92 M (mf_92 v1 M) := by
  unfold mf_92
  exact mq_K_ite (fun hc => mq_K_B (mq_K_call mk_63 mq_kp_refl rfl) (fun _ M1 hM1 => mq_K_ret hM1)) (fun _ => mq_K_ite (fun hc => mq_K_B (mq_K_call mk_63 mq_kp_refl rfl) (fun _ M2 hM2 => mq_K_ret hM2)) (fun _ => mq_K_ite (fun hc => mq_K_B (mq_K_call mk_63 mq_kp_refl rfl) (fun _ M3 hM3 => mq_K_ret hM3)) (fun _ => mq_K_B (mq_K_call mk_63 mq_kp_refl rfl) (fun _ M4 hM4 => mq_K_ret hM4))))
-- 96: PlainPacks$Blocks.distanceExtra
def mw_96 : List (Nat × Option Nat) := []
theorem mk_96 {v0 : Int32} {M : mm_M} : mq_K mw_96 M (mf_96 v0 M) := by
  unfold mf_96
  exact mq_K_ite (fun hc => mq_K_ret mq_kp_refl) (fun _ => mq_K_B (mq_K_call mk_34 mq_kp_refl rfl) (fun _ M2 hM2 => mq_K_ret hM2))
-- 93: PlainPacks$Blocks.writeDistance
def mw_93_j33 : List (Nat × Option Nat) := [(5, some 1), (5, some 2), (5, some 4), (5, some 5), (6, none)]
theorem mk_93_j33 {v2 : Int32} {v3 : Int32} {s1 : Int32} {M : mm_M} : mq_K mw_93_j33 M (mf_93_j33 v2 v3 s1 M) := by
  unfold mf_93_j33
  exact mq_K_B (mq_K_call mk_63 mq_kp_refl rfl) (fun _ M1 hM1 => mq_K_B (mq_K_call mk_62 hM1 rfl) (fun _ M2 hM2 => mq_K_ret hM2))
def mw_93 : List (Nat × Option Nat) := [(5, some 1), (5, some 2), (5, some 4), (5, some 5), (6, none)]
theorem mk_93 {v1 : Int32} {M : mm_M} : mq_K mw_93 M (mf_93 v1 M) := by
  unfold mf_93
  exact mq_K_B (mq_K_call mk_96 mq_kp_refl rfl) (fun _ M2 hM2 => mq_K_ite (fun hc => mq_K_call mk_93_j33 hM2 rfl) (fun _ => mq_K_call mk_93_j33 hM2 rfl))
-- 64: PlainPacks$Writer.closeByte
def mw_64 : List (Nat × Option Nat) := [(5, some 1), (5, some 2), (5, some 4), (5, some 5), (6, none)]
theorem mk_64 {M : mm_M} : mq_K mw_64 M (mf_64 M) := by
  unfold mf_64
  exact mq_K_ite (fun hc => mq_K_B (mq_K_call mk_57 mq_kp_refl rfl) (fun _ M1 hM1 => mq_K_ret (mq_kp_pi (mq_kp_pi hM1 rfl) rfl))) (fun _ => mq_K_ret (mq_kp_pi (mq_kp_pi mq_kp_refl rfl) rfl))
-- 91: PlainPacks$Blocks.writeBlock
def mw_91_b27 : List (Nat × Option Nat) := [(5, some 1), (5, some 2), (5, some 4), (5, some 5), (6, none), (13, some 0), (13, some 1), (13, some 7), (14, none), (15, none)]
theorem mk_91_b27 {v1 : Int32} {M : mm_M} : mq_K mw_91_b27 M (mf_91_b27 v1 M) := by
  unfold mf_91_b27
  exact mq_K_ite (fun hc => mq_K_B (mq_K_call mk_71 mq_kp_refl rfl) (fun _ M1 hM1 => mq_K_ite (fun hc => mq_K_ite (fun hc => mq_K_B (mq_K_call mk_92 hM1 rfl) (fun _ M2 hM2 => mq_K_ret hM2)) (fun _ => mq_K_none)) (fun _ => mq_K_B (mq_K_call mk_94 hM1 rfl) (fun _ M4 hM4 => mq_K_B (mq_K_call mk_92 hM4 rfl) (fun _ M5 hM5 => mq_K_B (mq_K_call mk_95 hM5 rfl) (fun _ M7 hM7 => mq_K_B (mq_K_call mk_62 hM7 rfl) (fun _ M8 hM8 => mq_K_B (mq_K_call mk_93 hM8 rfl) (fun _ M9 hM9 => mq_K_ret hM9)))))))) (fun _ => mq_K_ret mq_kp_refl)
def mw_91_L27 : List (Nat × Option Nat) := [(5, some 1), (5, some 2), (5, some 4), (5, some 5), (6, none), (13, some 0), (13, some 1), (13, some 7), (14, none), (15, none)]
theorem mk_91_L27 {s : Int32} {M : mm_M} : mq_K mw_91_L27 M (mf_91_L27 s M) := by
  unfold mf_91_L27
  exact mq_K_L (fun s M h => mq_K_call mk_91_b27 h rfl) mq_kp_refl
def mw_91_j144 : List (Nat × Option Nat) := [(5, some 1), (5, some 2), (5, some 4), (5, some 5), (6, none)]
theorem mk_91_j144 {M : mm_M} : mq_K mw_91_j144 M (mf_91_j144 M) := by
  unfold mf_91_j144
  exact mq_K_B (mq_K_call mk_92 mq_kp_refl rfl) (fun _ M1 hM1 => mq_K_B (mq_K_call mk_64 hM1 rfl) (fun _ M2 hM2 => mq_K_ret hM2))
def mw_91 : List (Nat × Option Nat) := [(5, some 1), (5, some 2), (5, some 4), (5, some 5), (6, none), (13, some 0), (13, some 1), (13, some 6), (13, some 7), (14, none), (15, none)]
theorem mk_91 {M : mm_M} : mq_K mw_91 M (mf_91 M) := by
  unfold mf_91
  exact mq_K_B (mq_K_call mk_62 mq_kp_refl rfl) (fun _ M1 hM1 => mq_K_B (mq_K_call mk_62 hM1 rfl) (fun _ M2 hM2 => mq_K_B (mq_K_call mk_70 hM2 rfl) (fun _ M3 hM3 => mq_K_B (mq_K_call mk_91_L27 hM3 rfl) (fun _ M4 hM4 => mq_K_call mk_91_j144 hM4 rfl))))
-- 60: PlainPacks$Writer.high
def mw_60_b5 : List (Nat × Option Nat) := [(5, some 1), (5, some 2), (6, none)]
theorem mk_60_b5 {v1 : Int64} {v4 : Int32} {M : mm_M} : mq_K mw_60_b5 M (mf_60_b5 v1 v4 M) := by
  unfold mf_60_b5
  exact mq_K_ite (fun hc => mq_K_ret mq_kp_refl) (fun _ => mq_K_B (mq_K_call mk_57 mq_kp_refl rfl) (fun _ M1 hM1 => mq_K_ret hM1))
def mw_60_L5 : List (Nat × Option Nat) := [(5, some 1), (5, some 2), (6, none)]
theorem mk_60_L5 {v1 : Int64} {s : Int32} {M : mm_M} : mq_K mw_60_L5 M (mf_60_L5 v1 s M) := by
  unfold mf_60_L5
  exact mq_K_L (fun s M h => mq_K_call mk_60_b5 h rfl) mq_kp_refl
def mw_60 : List (Nat × Option Nat) := [(5, some 1), (5, some 2), (6, none)]
theorem mk_60 {v1 : Int64} {v3 : Int32} {M : mm_M} : mq_K mw_60 M (mf_60 v1 v3 M) := by
  unfold mf_60
  exact mq_K_B (mq_K_call mk_60_L5 mq_kp_refl rfl) (fun _ M1 hM1 => mq_K_ret hM1)
-- 89: PlainPacks$Blocks.writeWrapped
def mw_89 : List (Nat × Option Nat) := [(5, some 1), (5, some 2), (5, some 4), (5, some 5), (6, none), (13, some 0), (13, some 1), (13, some 6), (13, some 7), (14, none), (15, none)]
theorem mk_89 {M : mm_M} : mq_K mw_89 M (mf_89 M) := by
  unfold mf_89
  exact mq_K_B (mq_K_call mk_57 mq_kp_refl rfl) (fun _ M1 hM1 => mq_K_B (mq_K_call mk_57 hM1 rfl) (fun _ M2 hM2 => mq_K_B (mq_K_call mk_91 hM2 rfl) (fun _ M3 hM3 => mq_K_B (mq_K_call mk_30 hM3 rfl) (fun _ M5 hM5 => mq_K_B (mq_K_call mk_60 hM5 rfl) (fun _ M6 hM6 => mq_K_ret hM6)))))
-- 59: PlainPacks$Writer.low
def mw_59_b3 : List (Nat × Option Nat) := [(5, some 1), (5, some 2), (6, none)]
theorem mk_59_b3 {v1 : Int64} {v3 : Int32} {v4 : Int32} {M : mm_M} : mq_K mw_59_b3 M (mf_59_b3 v1 v3 v4 M) := by
  unfold mf_59_b3
  exact mq_K_ite (fun hc => mq_K_B (mq_K_call mk_57 mq_kp_refl rfl) (fun _ M1 hM1 => mq_K_ret hM1)) (fun _ => mq_K_ret mq_kp_refl)
def mw_59_L3 : List (Nat × Option Nat) := [(5, some 1), (5, some 2), (6, none)]
theorem mk_59_L3 {v1 : Int64} {v3 : Int32} {s : Int32} {M : mm_M} : mq_K mw_59_L3 M (mf_59_L3 v1 v3 s M) := by
  unfold mf_59_L3
  exact mq_K_L (fun s M h => mq_K_call mk_59_b3 h rfl) mq_kp_refl
def mw_59 : List (Nat × Option Nat) := [(5, some 1), (5, some 2), (6, none)]
theorem mk_59 {v1 : Int64} {v3 : Int32} {M : mm_M} : mq_K mw_59 M (mf_59 v1 v3 M) := by
  unfold mf_59
  exact mq_K_B (mq_K_call mk_59_L3 mq_kp_refl rfl) (fun _ M1 hM1 => mq_K_ret hM1)
-- 90: PlainPacks$Blocks.writeFile
def mw_90 : List (Nat × Option Nat) := [(5, some 1), (5, some 2), (5, some 4), (5, some 5), (6, none), (13, some 0), (13, some 1), (13, some 6), (13, some 7), (14, none), (15, none)]
theorem mk_90 {M : mm_M} : mq_K mw_90 M (mf_90 M) := by
  unfold mf_90
  exact mq_K_B (mq_K_call mk_57 mq_kp_refl rfl) (fun _ M1 hM1 => mq_K_B (mq_K_call mk_57 hM1 rfl) (fun _ M2 hM2 => mq_K_B (mq_K_call mk_57 hM2 rfl) (fun _ M3 hM3 => mq_K_B (mq_K_call mk_59 hM3 rfl) (fun _ M4 hM4 => mq_K_B (mq_K_call mk_57 hM4 rfl) (fun _ M5 hM5 => mq_K_B (mq_K_call mk_91 hM5 rfl) (fun _ M6 hM6 => mq_K_B (mq_K_call mk_28 hM6 rfl) (fun _ M8 hM8 => mq_K_B (mq_K_call mk_59 hM8 rfl) (fun _ M9 hM9 => mq_K_B (mq_K_call mk_59 hM9 rfl) (fun _ M10 hM10 => mq_K_ret hM10)))))))))
-- 115: PlainPacks$Words.longerWord
def mw_115_b10 : List (Nat × Option Nat) := []
theorem mk_115_b10 {v2 : Int32} {v3 : Int32} {v4 : Int32} {M : mm_M} : mq_K mw_115_b10 M (mf_115_b10 v2 v3 v4 M) := by
  unfold mf_115_b10
  exact mq_K_ite (fun hc => mq_K_ite (fun hc => mq_K_ite (fun hc => mq_K_ite (fun hc => mq_K_ret mq_kp_refl) (fun _ => mq_K_ite (fun hc => mq_K_ret mq_kp_refl) (fun _ => mq_K_none))) (fun _ => mq_K_none)) (fun _ => mq_K_ret mq_kp_refl)) (fun _ => mq_K_ret mq_kp_refl)
def mw_115_L10 : List (Nat × Option Nat) := []
theorem mk_115_L10 {v2 : Int32} {s : Int32 × Int32} {M : mm_M} : mq_K mw_115_L10 M (mf_115_L10 v2 s M) := by
  unfold mf_115_L10
  exact mq_K_L (fun s M h => mq_K_call mk_115_b10 h rfl) mq_kp_refl
def mw_115 : List (Nat × Option Nat) := []
theorem mk_115 {v1 : Int32} {v2 : Int32} {M : mm_M} : mq_K mw_115 M (mf_115 v1 v2 M) := by
  unfold mf_115
  exact mq_K_ite (fun hc => mq_K_B (mq_K_call mk_115_L10 mq_kp_refl rfl) (fun _ M1 hM1 => mq_K_ret hM1)) (fun _ => mq_K_none)
-- 116: PlainPacks$Words.addWord
def mw_116 : List (Nat × Option Nat) := [(38, none), (39, none), (40, none)]
theorem mk_116 {v1 : Int32} {v2 : Int32} {M : mm_M} : mq_K mw_116 M (mf_116 v1 v2 M) := by
  unfold mf_116
  exact mq_K_ite (fun hc => mq_K_ite (fun hc => mq_K_ite (fun hc => mq_K_ite (fun hc => mq_K_ret (mq_kp_pi (mq_kp_pi (mq_kp_pi mq_kp_refl rfl) rfl) rfl)) (fun _ => mq_K_none)) (fun _ => mq_K_none)) (fun _ => mq_K_none)) (fun _ => mq_K_none)
-- 114: PlainPacks$Words.writeCodes
def mw_114_b80 : List (Nat × Option Nat) := []
theorem mk_114_b80 {v1 : Int32} {v2 : Int32} {v3 : Int32} {M : mm_M} : mq_K mw_114_b80 M (mf_114_b80 v1 v2 v3 M) := by
  unfold mf_114_b80
  exact mq_K_ite (fun hc => mq_K_ite (fun hc => mq_K_ite (fun hc => mq_K_ite (fun hc => mq_K_B (mq_K_call mk_115 mq_kp_refl rfl) (fun _ M2 hM2 => mq_K_ret hM2)) (fun _ => mq_K_none)) (fun _ => mq_K_ret mq_kp_refl)) (fun _ => mq_K_ret mq_kp_refl)) (fun _ => mq_K_ret mq_kp_refl)
def mw_114_L80 : List (Nat × Option Nat) := []
theorem mk_114_L80 {s : Int32 × Int32 × Int32} {M : mm_M} : mq_K mw_114_L80 M (mf_114_L80 s M) := by
  unfold mf_114_L80
  exact mq_K_L (fun s M h => mq_K_call mk_114_b80 h rfl) mq_kp_refl
def mw_114_j173 : List (Nat × Option Nat) := [(35, some 9), (35, some 12), (38, none), (39, none), (40, none)]
theorem mk_114_j173 {v1 : Int32} {v2 : Int32} {M : mm_M} : mq_K mw_114_j173 M (mf_114_j173 v1 v2 M) := by
  unfold mf_114_j173
  exact mq_K_B (mq_K_call mk_106 (mq_kp_pi mq_kp_refl rfl) rfl) (fun _ M1 hM1 => mq_K_ite (fun hc => mq_K_ite (fun hc => mq_K_ite (fun hc => mq_K_B (mq_K_call mk_116 hM1 rfl) (fun _ M2 hM2 => mq_K_ret hM2)) (fun _ => mq_K_none)) (fun _ => mq_K_ret hM1)) (fun _ => mq_K_ret hM1))
def mw_114_j133 : List (Nat × Option Nat) := [(5, some 1), (5, some 2), (5, some 4), (5, some 5), (6, none), (35, some 9), (35, some 10), (35, some 12), (38, none), (39, none), (40, none)]
theorem mk_114_j133 {v1 : Int32} {v2 : Int32} {M : mm_M} : mq_K mw_114_j133 M (mf_114_j133 v1 v2 M) := by
  unfold mf_114_j133
  exact mq_K_B (mq_K_call mk_62 mq_kp_refl rfl) (fun _ M1 hM1 => mq_K_ite (fun hc => mq_K_ite (fun hc => mq_K_call mk_114_j173 (mq_kp_pi hM1 rfl) rfl) (fun _ => mq_K_call mk_114_j173 hM1 rfl)) (fun _ => mq_K_call mk_114_j173 hM1 rfl))
def mw_114_b26 : List (Nat × Option Nat) := [(5, some 1), (5, some 2), (5, some 4), (5, some 5), (6, none), (35, some 9), (35, some 10), (35, some 12), (38, none), (39, none), (40, none)]
theorem mk_114_b26 {v1 : Int32} {M : mm_M} : mq_K mw_114_b26 M (mf_114_b26 v1 M) := by
  unfold mf_114_b26
  exact mq_K_ite (fun hc => mq_K_ite (fun hc => mq_K_ite (fun hc => mq_K_ite (fun hc => mq_K_B (mq_K_call mk_115 mq_kp_refl rfl) (fun _ M2 hM2 => mq_K_B (mq_K_call mk_114_L80 hM2 rfl) (fun _ M3 hM3 => mq_K_call mk_114_j133 hM3 rfl))) (fun _ => mq_K_none)) (fun _ => mq_K_B (mq_K_call mk_114_L80 mq_kp_refl rfl) (fun _ M6 hM6 => mq_K_call mk_114_j133 hM6 rfl))) (fun _ => mq_K_none)) (fun _ => mq_K_ret mq_kp_refl)
def mw_114_L26 : List (Nat × Option Nat) := [(5, some 1), (5, some 2), (5, some 4), (5, some 5), (6, none), (35, some 9), (35, some 10), (35, some 12), (38, none), (39, none), (40, none)]
theorem mk_114_L26 {s : Int32} {M : mm_M} : mq_K mw_114_L26 M (mf_114_L26 s M) := by
  unfold mf_114_L26
  exact mq_K_L (fun s M h => mq_K_call mk_114_b26 h rfl) mq_kp_refl
def mw_114_j220 : List (Nat × Option Nat) := [(5, some 1), (5, some 2), (5, some 4), (5, some 5), (6, none)]
theorem mk_114_j220 {M : mm_M} : mq_K mw_114_j220 M (mf_114_j220 M) := by
  unfold mf_114_j220
  exact mq_K_B (mq_K_call mk_62 mq_kp_refl rfl) (fun _ M1 hM1 => mq_K_B (mq_K_call mk_64 hM1 rfl) (fun _ M2 hM2 => mq_K_ret hM2))
def mw_114 : List (Nat × Option Nat) := [(5, some 1), (5, some 2), (5, some 4), (5, some 5), (6, none), (35, some 9), (35, some 10), (35, some 12), (38, none), (39, none), (40, none)]
theorem mk_114 {M : mm_M} : mq_K mw_114 M (mf_114 M) := by
  unfold mf_114
  exact mq_K_B (mq_K_call mk_290 mq_kp_refl rfl) (fun _ M1 hM1 => mq_K_B (mq_K_call mk_62 hM1 rfl) (fun _ M2 hM2 => mq_K_B (mq_K_call mk_114_L26 hM2 rfl) (fun _ M3 hM3 => mq_K_call mk_114_j220 hM3 rfl)))
-- 112: PlainPacks$Words.writeLow
def mw_112 : List (Nat × Option Nat) := [(5, some 1), (5, some 2), (5, some 4), (5, some 5), (6, none), (35, some 8), (35, some 9), (35, some 10), (35, some 11), (35, some 12), (38, none), (39, none), (40, none)]
theorem mk_112 {M : mm_M} : mq_K mw_112 M (mf_112 M) := by
  unfold mf_112
  exact mq_K_B (mq_K_call mk_57 mq_kp_refl rfl) (fun _ M1 hM1 => mq_K_B (mq_K_call mk_104 hM1 rfl) (fun _ M2 hM2 => mq_K_B (mq_K_call mk_114 hM2 rfl) (fun _ M3 hM3 => mq_K_ret hM3)))
-- 113: PlainPacks$Words.writeHigh
def mw_113 : List (Nat × Option Nat) := [(5, some 1), (5, some 2), (5, some 3), (5, some 4), (5, some 5), (6, none), (35, some 8), (35, some 9), (35, some 10), (35, some 11), (35, some 12), (38, none), (39, none), (40, none)]
theorem mk_113 {M : mm_M} : mq_K mw_113 M (mf_113 M) := by
  unfold mf_113
  exact mq_K_B (mq_K_call mk_104 (mq_kp_pi mq_kp_refl rfl) rfl) (fun _ M1 hM1 => mq_K_B (mq_K_call mk_114 hM1 rfl) (fun _ M2 hM2 => mq_K_ret hM2))
-- 132: PlainPacks$Pieces.writeMore
def mw_132_b9 : List (Nat × Option Nat) := [(5, some 1), (5, some 2), (6, none)]
theorem mk_132_b9 {v1 : Int32} {v2 : Int32} {M : mm_M} : mq_K mw_132_b9 M (mf_132_b9 v1 v2 M) := by
  unfold mf_132_b9
  exact mq_K_ite (fun hc => mq_K_B (mq_K_call mk_57 mq_kp_refl rfl) (fun _ M1 hM1 => mq_K_ret hM1)) (fun _ => mq_K_ret mq_kp_refl)
def mw_132_L9 : List (Nat × Option Nat) := [(5, some 1), (5, some 2), (6, none)]
theorem mk_132_L9 {v1 : Int32} {s : Int32} {M : mm_M} : mq_K mw_132_L9 M (mf_132_L9 v1 s M) := by
  unfold mf_132_L9
  exact mq_K_L (fun s M h => mq_K_call mk_132_b9 h rfl) mq_kp_refl
def mw_132_j37 : List (Nat × Option Nat) := [(5, some 1), (5, some 2), (6, none)]
theorem mk_132_j37 {v1 : Int32} {M : mm_M} : mq_K mw_132_j37 M (mf_132_j37 v1 M) := by
  unfold mf_132_j37
  exact mq_K_B (mq_K_call mk_57 mq_kp_refl rfl) (fun _ M1 hM1 => mq_K_ret hM1)
def mw_132 : List (Nat × Option Nat) := [(5, some 1), (5, some 2), (6, none)]
theorem mk_132 {v1 : Int32} {M : mm_M} : mq_K mw_132 M (mf_132 v1 M) := by
  unfold mf_132
  exact mq_K_ite (fun hc => mq_K_ret mq_kp_refl) (fun _ => mq_K_B (mq_K_call mk_132_L9 mq_kp_refl rfl) (fun _ M1 hM1 => mq_K_call mk_132_j37 hM1 rfl))
-- 131: PlainPacks$Pieces.writePlainPart
def mw_131 : List (Nat × Option Nat) := [(5, some 1), (5, some 2), (6, none)]
theorem mk_131 {v1 : Int32} {v2 : Int32} {v3 : Int32} {M : mm_M} : mq_K mw_131 M (mf_131 v1 v2 v3 M) := by
  unfold mf_131
  exact mq_K_B (mq_K_call mk_57 mq_kp_refl rfl) (fun _ M1 hM1 => mq_K_B (mq_K_call mk_132 hM1 rfl) (fun _ M2 hM2 => mq_K_B (mq_K_call mk_58 hM2 rfl) (fun _ M3 hM3 => mq_K_ret hM3)))
-- 130: PlainPacks$Pieces.writePiece
def mw_130 : List (Nat × Option Nat) := [(5, some 1), (5, some 2), (6, none)]
theorem mk_130 {v1 : Int32} {v2 : Int32} {v3 : Int32} {M : mm_M} : mq_K mw_130 M (mf_130 v1 v2 v3 M) := by
  unfold mf_130
  exact mq_K_B (mq_K_call mk_131 mq_kp_refl rfl) (fun _ M1 hM1 => mq_K_B (mq_K_call mk_59 hM1 rfl) (fun _ M2 hM2 => mq_K_B (mq_K_call mk_132 hM2 rfl) (fun _ M3 hM3 => mq_K_ret hM3)))
-- 129: PlainPacks$Pieces.writePieces
def mw_129_b19 : List (Nat × Option Nat) := [(5, some 1), (5, some 2), (6, none), (13, some 0), (13, some 1), (13, some 7), (14, none), (15, none)]
theorem mk_129_b19 {v1 : Int32} {v2 : Int32} {v3 : Int32} {M : mm_M} : mq_K mw_129_b19 M (mf_129_b19 v1 v2 v3 M) := by
  unfold mf_129_b19
  exact mq_K_ite (fun hc => mq_K_ret mq_kp_refl) (fun _ => mq_K_B (mq_K_call mk_71 mq_kp_refl rfl) (fun _ M1 hM1 => mq_K_ite (fun hc => mq_K_ret hM1) (fun _ => mq_K_ite (fun hc => mq_K_ret hM1) (fun _ => mq_K_B (mq_K_call mk_130 hM1 rfl) (fun _ M2 hM2 => mq_K_ret hM2)))))
def mw_129_L19 : List (Nat × Option Nat) := [(5, some 1), (5, some 2), (6, none), (13, some 0), (13, some 1), (13, some 7), (14, none), (15, none)]
theorem mk_129_L19 {v1 : Int32} {s : Int32 × Int32} {M : mm_M} : mq_K mw_129_L19 M (mf_129_L19 v1 s M) := by
  unfold mf_129_L19
  exact mq_K_L (fun s M h => mq_K_call mk_129_b19 h rfl) mq_kp_refl
def mw_129_j99 : List (Nat × Option Nat) := [(5, some 1), (5, some 2), (6, none)]
theorem mk_129_j99 {v1 : Int32} {v2 : Int32} {M : mm_M} : mq_K mw_129_j99 M (mf_129_j99 v1 v2 M) := by
  unfold mf_129_j99
  exact mq_K_B (mq_K_call mk_131 mq_kp_refl rfl) (fun _ M1 hM1 => mq_K_ret hM1)
def mw_129 : List (Nat × Option Nat) := [(5, some 1), (5, some 2), (6, none), (13, some 0), (13, some 1), (13, some 6), (13, some 7), (14, none), (15, none)]
theorem mk_129 {M : mm_M} : mq_K mw_129 M (mf_129 M) := by
  unfold mf_129
  exact mq_K_B (mq_K_call mk_70 mq_kp_refl rfl) (fun _ M1 hM1 => mq_K_B (mq_K_call mk_129_L19 hM1 rfl) (fun _ M2 hM2 => mq_K_call mk_129_j99 hM2 rfl))
-- 134: PlainPacks$Pieces.writeFrameBlock
def mw_134_j51 : List (Nat × Option Nat) := [(5, some 1), (5, some 2), (5, some 4), (5, some 5), (6, none)]
theorem mk_134_j51 {v1 : Int32} {v2 : Int32} {v3 : Int32} {s0 : Int32} {M : mm_M} : mq_K mw_134_j51 M (mf_134_j51 v1 v2 v3 s0 M) := by
  unfold mf_134_j51
  exact mq_K_B (mq_K_call mk_56 mq_kp_refl rfl) (fun _ M1 hM1 => mq_K_ite (fun hc => mq_K_B (mq_K_call mk_59 hM1 rfl) (fun _ M2 hM2 => mq_K_B (mq_K_call mk_58 hM2 rfl) (fun _ M3 hM3 => mq_K_ret hM3))) (fun _ => mq_K_B (mq_K_call mk_59 hM1 rfl) (fun _ M4 hM4 => mq_K_B (mq_K_call mk_56 hM4 rfl) (fun _ M5 hM5 => mq_K_ret hM5))))
def mw_134 : List (Nat × Option Nat) := [(5, some 1), (5, some 2), (5, some 4), (5, some 5), (6, none), (13, some 0), (13, some 1), (13, some 6), (13, some 7), (14, none), (15, none)]
theorem mk_134 {M : mm_M} : mq_K mw_134 M (mf_134 M) := by
  unfold mf_134
  exact mq_K_B (mq_K_call mk_59 mq_kp_refl rfl) (fun _ M1 hM1 => mq_K_B (mq_K_call mk_129 hM1 rfl) (fun _ M2 hM2 => mq_K_ite (fun hc => mq_K_call mk_134_j51 hM2 rfl) (fun _ => mq_K_call mk_134_j51 hM2 rfl)))
-- 133: PlainPacks$Pieces.writeFrame
def mw_133_j90 : List (Nat × Option Nat) := [(5, some 1), (5, some 2), (6, none)]
theorem mk_133_j90 {M : mm_M} : mq_K mw_133_j90 M (mf_133_j90 M) := by
  unfold mf_133_j90
  exact mq_K_B (mq_K_call mk_59 mq_kp_refl rfl) (fun _ M1 hM1 => mq_K_B (mq_K_call mk_31 hM1 rfl) (fun _ M3 hM3 => mq_K_B (mq_K_call mk_59 hM3 rfl) (fun _ M4 hM4 => mq_K_ret hM4)))
def mw_133 : List (Nat × Option Nat) := [(5, some 1), (5, some 2), (5, some 4), (5, some 5), (6, none), (13, some 0), (13, some 1), (13, some 6), (13, some 7), (14, none), (15, none)]
theorem mk_133 {M : mm_M} : mq_K mw_133 M (mf_133 M) := by
  unfold mf_133
  exact mq_K_B (mq_K_call mk_57 mq_kp_refl rfl) (fun _ M1 hM1 => mq_K_B (mq_K_call mk_57 hM1 rfl) (fun _ M2 hM2 => mq_K_B (mq_K_call mk_57 hM2 rfl) (fun _ M3 hM3 => mq_K_B (mq_K_call mk_57 hM3 rfl) (fun _ M4 hM4 => mq_K_B (mq_K_call mk_57 hM4 rfl) (fun _ M5 hM5 => mq_K_B (mq_K_call mk_57 hM5 rfl) (fun _ M6 hM6 => mq_K_B (mq_K_call mk_31 hM6 rfl) (fun _ M8 hM8 => mq_K_B (mq_K_call mk_57 hM8 rfl) (fun _ M9 hM9 => mq_K_ite (fun hc => mq_K_B (mq_K_call mk_134 hM9 rfl) (fun _ M10 hM10 => mq_K_call mk_133_j90 hM10 rfl)) (fun _ => mq_K_call mk_133_j90 hM9 rfl)))))))))
-- 136: PlainPacks$Pieces.writePlainTag
def mw_136_j78 : List (Nat × Option Nat) := [(5, some 1), (5, some 2), (6, none)]
theorem mk_136_j78 {v1 : Int32} {v2 : Int32} {M : mm_M} : mq_K mw_136_j78 M (mf_136_j78 v1 v2 M) := by
  unfold mf_136_j78
  exact mq_K_B (mq_K_call mk_58 mq_kp_refl rfl) (fun _ M1 hM1 => mq_K_ret hM1)
def mw_136 : List (Nat × Option Nat) := [(5, some 1), (5, some 2), (6, none)]
theorem mk_136 {v1 : Int32} {v2 : Int32} {M : mm_M} : mq_K mw_136 M (mf_136 v1 v2 M) := by
  unfold mf_136
  exact mq_K_ite (fun hc => mq_K_ret mq_kp_refl) (fun _ => mq_K_ite (fun hc => mq_K_B (mq_K_call mk_57 mq_kp_refl rfl) (fun _ M1 hM1 => mq_K_call mk_136_j78 hM1 rfl)) (fun _ => mq_K_ite (fun hc => mq_K_B (mq_K_call mk_57 mq_kp_refl rfl) (fun _ M2 hM2 => mq_K_B (mq_K_call mk_57 hM2 rfl) (fun _ M3 hM3 => mq_K_call mk_136_j78 hM3 rfl))) (fun _ => mq_K_B (mq_K_call mk_57 mq_kp_refl rfl) (fun _ M4 hM4 => mq_K_B (mq_K_call mk_59 hM4 rfl) (fun _ M5 hM5 => mq_K_call mk_136_j78 hM5 rfl)))))
-- 135: PlainPacks$Pieces.writeTags
def mw_135_b12 : List (Nat × Option Nat) := [(5, some 1), (5, some 2), (6, none)]
theorem mk_135_b12 {v1 : Int32} {v2 : Int32} {v3 : Int32} {M : mm_M} : mq_K mw_135_b12 M (mf_135_b12 v1 v2 v3 M) := by
  unfold mf_135_b12
  exact mq_K_ite (fun hc => mq_K_ite (fun hc => mq_K_ret mq_kp_refl) (fun _ => mq_K_B (mq_K_call mk_57 mq_kp_refl rfl) (fun _ M1 hM1 => mq_K_ret hM1))) (fun _ => mq_K_ret mq_kp_refl)
def mw_135_L12 : List (Nat × Option Nat) := [(5, some 1), (5, some 2), (6, none)]
theorem mk_135_L12 {v1 : Int32} {s : Int32 × Int32} {M : mm_M} : mq_K mw_135_L12 M (mf_135_L12 v1 s M) := by
  unfold mf_135_L12
  exact mq_K_L (fun s M h => mq_K_call mk_135_b12 h rfl) mq_kp_refl
def mw_135_b70 : List (Nat × Option Nat) := [(5, some 1), (5, some 2), (6, none), (13, some 0), (13, some 1), (13, some 7), (14, none), (15, none)]
theorem mk_135_b70 {v1 : Int32} {v3 : Int32} {v4 : Int32} {M : mm_M} : mq_K mw_135_b70 M (mf_135_b70 v1 v3 v4 M) := by
  unfold mf_135_b70
  exact mq_K_ite (fun hc => mq_K_B (mq_K_call mk_71 mq_kp_refl rfl) (fun _ M1 hM1 => mq_K_ite (fun hc => mq_K_ret hM1) (fun _ => mq_K_ite (fun hc => mq_K_ret hM1) (fun _ => mq_K_B (mq_K_call mk_136 hM1 rfl) (fun _ M2 hM2 => mq_K_B (mq_K_call mk_57 hM2 rfl) (fun _ M3 hM3 => mq_K_B (mq_K_call mk_59 hM3 rfl) (fun _ M4 hM4 => mq_K_ret hM4))))))) (fun _ => mq_K_ret mq_kp_refl)
def mw_135_L70 : List (Nat × Option Nat) := [(5, some 1), (5, some 2), (6, none), (13, some 0), (13, some 1), (13, some 7), (14, none), (15, none)]
theorem mk_135_L70 {v1 : Int32} {s : Int32 × Int32} {M : mm_M} : mq_K mw_135_L70 M (mf_135_L70 v1 s M) := by
  unfold mf_135_L70
  exact mq_K_L (fun s M h => mq_K_call mk_135_b70 h rfl) mq_kp_refl
def mw_135_j177 : List (Nat × Option Nat) := [(5, some 1), (5, some 2), (6, none)]
theorem mk_135_j177 {v1 : Int32} {v3 : Int32} {M : mm_M} : mq_K mw_135_j177 M (mf_135_j177 v1 v3 M) := by
  unfold mf_135_j177
  exact mq_K_B (mq_K_call mk_136 mq_kp_refl rfl) (fun _ M1 hM1 => mq_K_ret hM1)
def mw_135_j50 : List (Nat × Option Nat) := [(5, some 1), (5, some 2), (6, none), (13, some 0), (13, some 1), (13, some 6), (13, some 7), (14, none), (15, none)]
theorem mk_135_j50 {v1 : Int32} {v2 : Int32} {M : mm_M} : mq_K mw_135_j50 M (mf_135_j50 v1 v2 M) := by
  unfold mf_135_j50
  exact mq_K_B (mq_K_call mk_57 mq_kp_refl rfl) (fun _ M1 hM1 => mq_K_B (mq_K_call mk_70 hM1 rfl) (fun _ M2 hM2 => mq_K_B (mq_K_call mk_135_L70 hM2 rfl) (fun _ M3 hM3 => mq_K_call mk_135_j177 hM3 rfl)))
def mw_135 : List (Nat × Option Nat) := [(5, some 1), (5, some 2), (6, none), (13, some 0), (13, some 1), (13, some 6), (13, some 7), (14, none), (15, none)]
theorem mk_135 {M : mm_M} : mq_K mw_135 M (mf_135 M) := by
  unfold mf_135
  exact mq_K_B (mq_K_call mk_135_L12 mq_kp_refl rfl) (fun _ M1 hM1 => mq_K_call mk_135_j50 hM1 rfl)
-- 149: PlainPacks$Sorted.addText
def mw_149_b2 : List (Nat × Option Nat) := [(42, some 12), (47, none)]
theorem mk_149_b2 {v1 : Int32} {v2 : Int32} {v3 : Int32} {M : mm_M} : mq_K mw_149_b2 M (mf_149_b2 v1 v2 v3 M) := by
  unfold mf_149_b2
  exact mq_K_ite (fun hc => mq_K_ite (fun hc => mq_K_ite (fun hc => mq_K_ret (mq_kp_pi (mq_kp_pi mq_kp_refl rfl) rfl)) (fun _ => mq_K_none)) (fun _ => mq_K_ret mq_kp_refl)) (fun _ => mq_K_ret mq_kp_refl)
def mw_149_L2 : List (Nat × Option Nat) := [(42, some 12), (47, none)]
theorem mk_149_L2 {v1 : Int32} {v2 : Int32} {s : Int32} {M : mm_M} : mq_K mw_149_L2 M (mf_149_L2 v1 v2 s M) := by
  unfold mf_149_L2
  exact mq_K_L (fun s M h => mq_K_call mk_149_b2 h rfl) mq_kp_refl
def mw_149 : List (Nat × Option Nat) := [(42, some 12), (47, none)]
theorem mk_149 {v1 : Int32} {v2 : Int32} {M : mm_M} : mq_K mw_149 M (mf_149 v1 v2 M) := by
  unfold mf_149
  exact mq_K_B (mq_K_call mk_149_L2 mq_kp_refl rfl) (fun _ M1 hM1 => mq_K_ret hM1)
-- 148: PlainPacks$Sorted.makeText
def mw_148_b30 : List (Nat × Option Nat) := []
theorem mk_148_b30 {v1 : Int32} {v2 : Int32} {v3 : Int32} {M : mm_M} : mq_K mw_148_b30 M (mf_148_b30 v1 v2 v3 M) := by
  unfold mf_148_b30
  exact mq_K_ite (fun hc => mq_K_ite (fun hc => mq_K_ite (fun hc => mq_K_ite (fun hc => mq_K_ret mq_kp_refl) (fun _ => mq_K_ret mq_kp_refl)) (fun _ => mq_K_none)) (fun _ => mq_K_ret mq_kp_refl)) (fun _ => mq_K_ret mq_kp_refl)
def mw_148_L30 : List (Nat × Option Nat) := []
theorem mk_148_L30 {v1 : Int32} {v2 : Int32} {s : Int32} {M : mm_M} : mq_K mw_148_L30 M (mf_148_L30 v1 v2 s M) := by
  unfold mf_148_L30
  exact mq_K_L (fun s M h => mq_K_call mk_148_b30 h rfl) mq_kp_refl
def mw_148_j83 : List (Nat × Option Nat) := [(42, some 12), (47, none)]
theorem mk_148_j83 {v1 : Int32} {v3 : Int32} {s1 : Int32} {s2 : Int32} {M : mm_M} : mq_K mw_148_j83 M (mf_148_j83 v1 v3 s1 s2 M) := by
  unfold mf_148_j83
  exact mq_K_B (mq_K_call mk_149 mq_kp_refl rfl) (fun _ M1 hM1 => mq_K_ite (fun hc => mq_K_ret hM1) (fun _ => mq_K_B (mq_K_call mk_149 hM1 rfl) (fun _ M2 hM2 => mq_K_ret hM2)))
def mw_148_j71 : List (Nat × Option Nat) := [(42, some 12), (47, none)]
theorem mk_148_j71 {v1 : Int32} {v2 : Int32} {v3 : Int32} {M : mm_M} : mq_K mw_148_j71 M (mf_148_j71 v1 v2 v3 M) := by
  unfold mf_148_j71
  exact mq_K_ite (fun hc => mq_K_call mk_148_j83 mq_kp_refl rfl) (fun _ => mq_K_call mk_148_j83 mq_kp_refl rfl)
def mw_148_b7 : List (Nat × Option Nat) := [(42, some 12), (47, none)]
theorem mk_148_b7 {v1 : Int32} {M : mm_M} : mq_K mw_148_b7 M (mf_148_b7 v1 M) := by
  unfold mf_148_b7
  exact mq_K_ite (fun hc => mq_K_ite (fun hc => mq_K_B (mq_K_call mk_148_L30 mq_kp_refl rfl) (fun _ M1 hM1 => mq_K_call mk_148_j71 hM1 rfl)) (fun _ => mq_K_none)) (fun _ => mq_K_ret mq_kp_refl)
def mw_148_L7 : List (Nat × Option Nat) := [(42, some 12), (47, none)]
theorem mk_148_L7 {s : Int32} {M : mm_M} : mq_K mw_148_L7 M (mf_148_L7 s M) := by
  unfold mf_148_L7
  exact mq_K_L (fun s M h => mq_K_call mk_148_b7 h rfl) mq_kp_refl
def mw_148 : List (Nat × Option Nat) := [(42, some 12), (47, none)]
theorem mk_148 {M : mm_M} : mq_K mw_148 M (mf_148 M) := by
  unfold mf_148
  exact mq_K_B (mq_K_call mk_148_L7 (mq_kp_pi mq_kp_refl rfl) rfl) (fun _ M1 hM1 => mq_K_ret hM1)
-- 67: PlainPacks$Turnings.orderByRank
def mw_67_b2 : List (Nat × Option Nat) := [(12, none)]
theorem mk_67_b2 {v1 : Int32} {v2 : Int32} {M : mm_M} : mq_K mw_67_b2 M (mf_67_b2 v1 v2 M) := by
  unfold mf_67_b2
  exact mq_K_ite (fun hc => mq_K_ret mq_kp_refl) (fun _ => mq_K_ite (fun hc => mq_K_ite (fun hc => mq_K_ret (mq_kp_pi mq_kp_refl rfl)) (fun _ => mq_K_none)) (fun _ => mq_K_ret mq_kp_refl))
def mw_67_L2 : List (Nat × Option Nat) := [(12, none)]
theorem mk_67_L2 {v1 : Int32} {s : Int32} {M : mm_M} : mq_K mw_67_L2 M (mf_67_L2 v1 s M) := by
  unfold mf_67_L2
  exact mq_K_L (fun s M h => mq_K_call mk_67_b2 h rfl) mq_kp_refl
def mw_67_b31 : List (Nat × Option Nat) := [(12, none)]
theorem mk_67_b31 {v1 : Int32} {v2 : Int32} {M : mm_M} : mq_K mw_67_b31 M (mf_67_b31 v1 v2 M) := by
  unfold mf_67_b31
  exact mq_K_ite (fun hc => mq_K_ite (fun hc => mq_K_ite (fun hc => mq_K_ite (fun hc => mq_K_ret (mq_kp_pi mq_kp_refl rfl)) (fun _ => mq_K_none)) (fun _ => mq_K_none)) (fun _ => mq_K_none)) (fun _ => mq_K_ret mq_kp_refl)
def mw_67_L31 : List (Nat × Option Nat) := [(12, none)]
theorem mk_67_L31 {v1 : Int32} {s : Int32} {M : mm_M} : mq_K mw_67_L31 M (mf_67_L31 v1 s M) := by
  unfold mf_67_L31
  exact mq_K_L (fun s M h => mq_K_call mk_67_b31 h rfl) mq_kp_refl
def mw_67_b64 : List (Nat × Option Nat) := [(12, none)]
theorem mk_67_b64 {v1 : Int32} {v2 : Int32} {M : mm_M} : mq_K mw_67_b64 M (mf_67_b64 v1 v2 M) := by
  unfold mf_67_b64
  exact mq_K_ite (fun hc => mq_K_ret mq_kp_refl) (fun _ => mq_K_ite (fun hc => mq_K_ite (fun hc => mq_K_ite (fun hc => mq_K_ite (fun hc => mq_K_ret (mq_kp_pi mq_kp_refl rfl)) (fun _ => mq_K_none)) (fun _ => mq_K_none)) (fun _ => mq_K_none)) (fun _ => mq_K_ret mq_kp_refl))
def mw_67_L64 : List (Nat × Option Nat) := [(12, none)]
theorem mk_67_L64 {v1 : Int32} {s : Int32} {M : mm_M} : mq_K mw_67_L64 M (mf_67_L64 v1 s M) := by
  unfold mf_67_L64
  exact mq_K_L (fun s M h => mq_K_call mk_67_b64 h rfl) mq_kp_refl
def mw_67_b103 : List (Nat × Option Nat) := [(8, none), (12, none)]
theorem mk_67_b103 {v2 : Int32} {M : mm_M} : mq_K mw_67_b103 M (mf_67_b103 v2 M) := by
  unfold mf_67_b103
  exact mq_K_ite (fun hc => mq_K_ite (fun hc => mq_K_ite (fun hc => mq_K_ite (fun hc => mq_K_ite (fun hc => mq_K_ite (fun hc => mq_K_ite (fun hc => mq_K_ite (fun hc => mq_K_ret (mq_kp_pi (mq_kp_pi mq_kp_refl rfl) rfl)) (fun _ => mq_K_none)) (fun _ => mq_K_none)) (fun _ => mq_K_none)) (fun _ => mq_K_none)) (fun _ => mq_K_none)) (fun _ => mq_K_none)) (fun _ => mq_K_none)) (fun _ => mq_K_ret mq_kp_refl)
def mw_67_L103 : List (Nat × Option Nat) := [(8, none), (12, none)]
theorem mk_67_L103 {s : Int32} {M : mm_M} : mq_K mw_67_L103 M (mf_67_L103 s M) := by
  unfold mf_67_L103
  exact mq_K_L (fun s M h => mq_K_call mk_67_b103 h rfl) mq_kp_refl
def mw_67 : List (Nat × Option Nat) := [(8, none), (12, none)]
theorem mk_67 {v1 : Int32} {M : mm_M} : mq_K mw_67 M (mf_67 v1 M) := by
  unfold mf_67
  exact mq_K_B (mq_K_call mk_67_L2 mq_kp_refl rfl) (fun _ M1 hM1 => mq_K_B (mq_K_call mk_67_L31 hM1 rfl) (fun _ M5 hM5 => mq_K_B (mq_K_call mk_67_L64 hM5 rfl) (fun _ M9 hM9 => mq_K_B (mq_K_call mk_67_L103 hM9 rfl) (fun _ M14 hM14 => mq_K_ret hM14))))
-- 69: PlainPacks$Turnings.differ
def mw_69_j50 : List (Nat × Option Nat) := []
theorem mk_69_j50 {v1 : Int32} {v2 : Int32} {v4 : Int32} {s0 : Int32} {M : mm_M} : mq_K mw_69_j50 M (mf_69_j50 v1 v2 v4 s0 M) := by
  unfold mf_69_j50
  exact mq_K_ite (fun hc => mq_K_ite (fun hc => mq_K_ite (fun hc => mq_K_ite (fun hc => mq_K_ite (fun hc => mq_K_ite (fun hc => mq_K_ret mq_kp_refl) (fun _ => mq_K_ret mq_kp_refl)) (fun _ => mq_K_none)) (fun _ => mq_K_none)) (fun _ => mq_K_ret mq_kp_refl)) (fun _ => mq_K_none)) (fun _ => mq_K_none)
def mw_69_j24 : List (Nat × Option Nat) := []
theorem mk_69_j24 {v1 : Int32} {v2 : Int32} {v3 : Int32} {s0 : Int32} {M : mm_M} : mq_K mw_69_j24 M (mf_69_j24 v1 v2 v3 s0 M) := by
  unfold mf_69_j24
  exact mq_K_ite (fun hc => mq_K_call mk_69_j50 mq_kp_refl rfl) (fun _ => mq_K_call mk_69_j50 mq_kp_refl rfl)
def mw_69 : List (Nat × Option Nat) := []
theorem mk_69 {v1 : Int32} {v2 : Int32} {v3 : Int32} {M : mm_M} : mq_K mw_69 M (mf_69 v1 v2 v3 M) := by
  unfold mf_69
  exact mq_K_ite (fun hc => mq_K_call mk_69_j24 mq_kp_refl rfl) (fun _ => mq_K_call mk_69_j24 mq_kp_refl rfl)
-- 68: PlainPacks$Turnings.rankAgain
def mw_68_j51 : List (Nat × Option Nat) := [(11, none)]
theorem mk_68_j51 {v1 : Int32} {v2 : Int32} {M : mm_M} : mq_K mw_68_j51 M (mf_68_j51 v1 v2 M) := by
  unfold mf_68_j51
  exact mq_K_ite (fun hc => mq_K_ite (fun hc => mq_K_ret (mq_kp_pi mq_kp_refl rfl)) (fun _ => mq_K_none)) (fun _ => mq_K_none)
def mw_68_j41 : List (Nat × Option Nat) := [(7, some 6), (11, none)]
theorem mk_68_j41 {v1 : Int32} {v2 : Int32} {M : mm_M} : mq_K mw_68_j41 M (mf_68_j41 v1 v2 M) := by
  unfold mf_68_j41
  exact mq_K_call mk_68_j51 (mq_kp_pi mq_kp_refl rfl) rfl
def mw_68_b7 : List (Nat × Option Nat) := [(7, some 6), (11, none)]
theorem mk_68_b7 {v1 : Int32} {v2 : Int32} {M : mm_M} : mq_K mw_68_b7 M (mf_68_b7 v1 v2 M) := by
  unfold mf_68_b7
  exact mq_K_ite (fun hc => mq_K_ite (fun hc => mq_K_call mk_68_j41 mq_kp_refl rfl) (fun _ => mq_K_ite (fun hc => mq_K_ite (fun hc => mq_K_B (mq_K_call mk_69 mq_kp_refl rfl) (fun _ M2 hM2 => mq_K_ite (fun hc => mq_K_call mk_68_j51 hM2 rfl) (fun _ => mq_K_call mk_68_j41 hM2 rfl))) (fun _ => mq_K_none)) (fun _ => mq_K_none))) (fun _ => mq_K_ret mq_kp_refl)
def mw_68_L7 : List (Nat × Option Nat) := [(7, some 6), (11, none)]
theorem mk_68_L7 {v1 : Int32} {s : Int32} {M : mm_M} : mq_K mw_68_L7 M (mf_68_L7 v1 s M) := by
  unfold mf_68_L7
  exact mq_K_L (fun s M h => mq_K_call mk_68_b7 h rfl) mq_kp_refl
def mw_68_j74 : List (Nat × Option Nat) := [(9, none)]
theorem mk_68_j74 {M : mm_M} : mq_K mw_68_j74 M (mf_68_j74 M) := by
  unfold mf_68_j74
  exact mq_K_ite (fun hc => mq_K_ret (mq_kp_cp mq_kp_refl rfl)) (fun _ => mq_K_none)
def mw_68 : List (Nat × Option Nat) := [(7, some 6), (9, none), (11, none)]
theorem mk_68 {v1 : Int32} {M : mm_M} : mq_K mw_68 M (mf_68 v1 M) := by
  unfold mf_68
  exact mq_K_B (mq_K_call mk_68_L7 (mq_kp_pi mq_kp_refl rfl) rfl) (fun _ M1 hM1 => mq_K_call mk_68_j74 hM1 rfl)
-- 66: PlainPacks$Turnings.sort
def mw_66_b18 (p : Nat) : List (Nat × Option Nat) := [(9, none), (10, none)]
theorem mk_66_b18 {p : Nat} {n : Nat} {v3 : Int32} {M : mm_M} : mq_K (mw_66_b18 p) M (mf_66_b18 p n v3 M) := by
  unfold mf_66_b18
  exact mq_K_ite (fun hc => mq_K_ite (fun hc => mq_K_ite (fun hc => mq_K_ite (fun hc => mq_K_ret (mq_kp_pi (mq_kp_pi mq_kp_refl (by simp [mq_ws, mw_66_b18])) (by simp [mq_ws, mw_66_b18]))) (fun _ => mq_K_none)) (fun _ => mq_K_none)) (fun _ => mq_K_none)) (fun _ => mq_K_ret mq_kp_refl)
def mw_66_L18 (p : Nat) : List (Nat × Option Nat) := [(9, none), (10, none)]
theorem mk_66_L18 {p : Nat} {n : Nat} {s : Int32} {M : mm_M} : mq_K (mw_66_L18 p) M (mf_66_L18 p n s M) := by
  unfold mf_66_L18
  exact mq_K_L (fun s M h => mq_K_call mk_66_b18 h (by simp [mq_sub, mw_66_b18, mw_66_L18])) mq_kp_refl
def mw_66_j127 (p : Nat) : List (Nat × Option Nat) := [(10, none)]
theorem mk_66_j127 {p : Nat} {n : Nat} {v3 : Int32} {v4 : Int32} {s1 : Int32} {s2 : Int32} {M : mm_M} : mq_K (mw_66_j127 p) M (mf_66_j127 p n v3 v4 s1 s2 M) := by
  unfold mf_66_j127
  exact mq_K_ite (fun hc => mq_K_ret (mq_kp_pi mq_kp_refl (by simp [mq_ws, mw_66_j127]))) (fun _ => mq_K_none)
def mw_66_b84 (p : Nat) : List (Nat × Option Nat) := [(10, none)]
theorem mk_66_b84 {p : Nat} {n : Nat} {v3 : Int32} {v4 : Int32} {M : mm_M} : mq_K (mw_66_b84 p) M (mf_66_b84 p n v3 v4 M) := by
  unfold mf_66_b84
  exact mq_K_ite (fun hc => mq_K_ite (fun hc => mq_K_ite (fun hc => mq_K_call mk_66_j127 mq_kp_refl (by simp [mq_sub, mw_66_j127, mw_66_b84])) (fun _ => mq_K_call mk_66_j127 mq_kp_refl (by simp [mq_sub, mw_66_j127, mw_66_b84]))) (fun _ => mq_K_none)) (fun _ => mq_K_ret mq_kp_refl)
def mw_66_L84 (p : Nat) : List (Nat × Option Nat) := [(10, none)]
theorem mk_66_L84 {p : Nat} {n : Nat} {v3 : Int32} {s : Int32} {M : mm_M} : mq_K (mw_66_L84 p) M (mf_66_L84 p n v3 s M) := by
  unfold mf_66_L84
  exact mq_K_L (fun s M h => mq_K_call mk_66_b84 h (by simp [mq_sub, mw_66_b84, mw_66_L84])) mq_kp_refl
def mw_66_j134 (p : Nat) : List (Nat × Option Nat) := [(7, some 6), (8, none), (9, none), (11, none), (12, none)]
theorem mk_66_j134 {p : Nat} {n : Nat} {v3 : Int32} {M : mm_M} : mq_K (mw_66_j134 p) M (mf_66_j134 p n v3 M) := by
  unfold mf_66_j134
  exact mq_K_B (mq_K_call mk_67 mq_kp_refl (by simp [mq_sub, mw_67, mw_66_j134])) (fun _ M1 hM1 => mq_K_B (mq_K_call mk_68 hM1 (by simp [mq_sub, mw_68, mw_66_j134])) (fun _ M2 hM2 => mq_K_ret hM2))
def mw_66_b62 (p : Nat) : List (Nat × Option Nat) := [(7, some 6), (8, none), (9, none), (10, none), (11, none), (12, none)]
theorem mk_66_b62 {p : Nat} {n : Nat} {v3 : Int32} {M : mm_M} : mq_K (mw_66_b62 p) M (mf_66_b62 p n v3 M) := by
  unfold mf_66_b62
  exact mq_K_ite (fun hc => mq_K_ite (fun hc => mq_K_B (mq_K_call mk_66_L84 mq_kp_refl (by simp [mq_sub, mw_66_L84, mw_66_b62])) (fun _ M1 hM1 => mq_K_call mk_66_j134 hM1 (by simp [mq_sub, mw_66_j134, mw_66_b62]))) (fun _ => mq_K_ret mq_kp_refl)) (fun _ => mq_K_ret mq_kp_refl)
def mw_66_L62 (p : Nat) : List (Nat × Option Nat) := [(7, some 6), (8, none), (9, none), (10, none), (11, none), (12, none)]
theorem mk_66_L62 {p : Nat} {n : Nat} {s : Int32} {M : mm_M} : mq_K (mw_66_L62 p) M (mf_66_L62 p n s M) := by
  unfold mf_66_L62
  exact mq_K_L (fun s M h => mq_K_call mk_66_b62 h (by simp [mq_sub, mw_66_b62, mw_66_L62])) mq_kp_refl
def mw_66_b156 (p : Nat) : List (Nat × Option Nat) := [(10, none)]
theorem mk_66_b156 {p : Nat} {n : Nat} {v3 : Int32} {M : mm_M} : mq_K (mw_66_b156 p) M (mf_66_b156 p n v3 M) := by
  unfold mf_66_b156
  exact mq_K_ite (fun hc => mq_K_ite (fun hc => mq_K_ret (mq_kp_pi mq_kp_refl (by simp [mq_ws, mw_66_b156]))) (fun _ => mq_K_none)) (fun _ => mq_K_ret mq_kp_refl)
def mw_66_L156 (p : Nat) : List (Nat × Option Nat) := [(10, none)]
theorem mk_66_L156 {p : Nat} {n : Nat} {s : Int32} {M : mm_M} : mq_K (mw_66_L156 p) M (mf_66_L156 p n s M) := by
  unfold mf_66_L156
  exact mq_K_L (fun s M h => mq_K_call mk_66_b156 h (by simp [mq_sub, mw_66_b156, mw_66_L156])) mq_kp_refl
def mw_66_j177 (p : Nat) : List (Nat × Option Nat) := [(8, none), (12, none)]
theorem mk_66_j177 {p : Nat} {n : Nat} {M : mm_M} : mq_K (mw_66_j177 p) M (mf_66_j177 p n M) := by
  unfold mf_66_j177
  exact mq_K_B (mq_K_call mk_67 mq_kp_refl (by simp [mq_sub, mw_67, mw_66_j177])) (fun _ M1 hM1 => mq_K_ret hM1)
def mw_66_j48 (p : Nat) : List (Nat × Option Nat) := [(7, some 6), (8, none), (9, none), (10, none), (11, none), (12, none)]
theorem mk_66_j48 {p : Nat} {n : Nat} {M : mm_M} : mq_K (mw_66_j48 p) M (mf_66_j48 p n M) := by
  unfold mf_66_j48
  exact mq_K_B (mq_K_call mk_67 mq_kp_refl (by simp [mq_sub, mw_67, mw_66_j48])) (fun _ M1 hM1 => mq_K_B (mq_K_call mk_68 hM1 (by simp [mq_sub, mw_68, mw_66_j48])) (fun _ M2 hM2 => mq_K_B (mq_K_call mk_66_L62 hM2 (by simp [mq_sub, mw_66_L62, mw_66_j48])) (fun _ M3 hM3 => mq_K_B (mq_K_call mk_66_L156 hM3 (by simp [mq_sub, mw_66_L156, mw_66_j48])) (fun _ M10 hM10 => mq_K_call mk_66_j177 hM10 (by simp [mq_sub, mw_66_j177, mw_66_j48])))))
def mw_66 (p : Nat) : List (Nat × Option Nat) := [(7, some 5), (7, some 6), (8, none), (9, none), (10, none), (11, none), (12, none)]
theorem mk_66 {p : Nat} {n : Nat} {v2 : Int32} {M : mm_M} : mq_K (mw_66 p) M (mf_66 p n v2 M) := by
  unfold mf_66
  exact mq_K_B (mq_K_call mk_66_L18 (mq_kp_pi mq_kp_refl (by simp [mq_ws, mw_66])) (by simp [mq_sub, mw_66_L18, mw_66])) (fun _ M1 hM1 => mq_K_call mk_66_j48 hM1 (by simp [mq_sub, mw_66_j48, mw_66]))
-- 151: PlainPacks$Sorted.listOccurring
def mw_151_b10 : List (Nat × Option Nat) := [(49, none)]
theorem mk_151_b10 {v1 : Int32} {M : mm_M} : mq_K mw_151_b10 M (mf_151_b10 v1 M) := by
  unfold mf_151_b10
  exact mq_K_ite (fun hc => mq_K_ite (fun hc => mq_K_ite (fun hc => mq_K_ite (fun hc => mq_K_ret (mq_kp_pi mq_kp_refl rfl)) (fun _ => mq_K_none)) (fun _ => mq_K_none)) (fun _ => mq_K_none)) (fun _ => mq_K_ret mq_kp_refl)
def mw_151_L10 : List (Nat × Option Nat) := [(49, none)]
theorem mk_151_L10 {s : Int32} {M : mm_M} : mq_K mw_151_L10 M (mf_151_L10 s M) := by
  unfold mf_151_L10
  exact mq_K_L (fun s M h => mq_K_call mk_151_b10 h rfl) mq_kp_refl
def mw_151_b46 : List (Nat × Option Nat) := [(42, some 9), (46, none)]
theorem mk_151_b46 {v1 : Int32} {M : mm_M} : mq_K mw_151_b46 M (mf_151_b46 v1 M) := by
  unfold mf_151_b46
  exact mq_K_ite (fun hc => mq_K_ite (fun hc => mq_K_ite (fun hc => mq_K_ite (fun hc => mq_K_ret (mq_kp_pi (mq_kp_pi mq_kp_refl rfl) rfl)) (fun _ => mq_K_none)) (fun _ => mq_K_ret mq_kp_refl)) (fun _ => mq_K_none)) (fun _ => mq_K_ret mq_kp_refl)
def mw_151_L46 : List (Nat × Option Nat) := [(42, some 9), (46, none)]
theorem mk_151_L46 {s : Int32} {M : mm_M} : mq_K mw_151_L46 M (mf_151_L46 s M) := by
  unfold mf_151_L46
  exact mq_K_L (fun s M h => mq_K_call mk_151_b46 h rfl) mq_kp_refl
def mw_151 : List (Nat × Option Nat) := [(42, some 9), (46, none), (49, none)]
theorem mk_151 {M : mm_M} : mq_K mw_151 M (mf_151 M) := by
  unfold mf_151
  exact mq_K_B (mq_K_call mk_290 mq_kp_refl rfl) (fun _ M1 hM1 => mq_K_B (mq_K_call mk_151_L10 hM1 rfl) (fun _ M2 hM2 => mq_K_B (mq_K_call mk_151_L46 (mq_kp_pi hM2 rfl) rfl) (fun _ M5 hM5 => mq_K_ret hM5)))
-- 153: PlainPacks$Sorted.addLetter
def mw_153 : List (Nat × Option Nat) := [(42, some 15), (48, none)]
theorem mk_153 {v1 : Int32} {M : mm_M} : mq_K mw_153 M (mf_153 v1 M) := by
  unfold mf_153
  exact mq_K_ite (fun hc => mq_K_ite (fun hc => mq_K_ret (mq_kp_pi (mq_kp_pi mq_kp_refl rfl) rfl)) (fun _ => mq_K_none)) (fun _ => mq_K_ret mq_kp_refl)
-- 154: PlainPacks$Sorted.closeRun
def mw_154_j22 : List (Nat × Option Nat) := [(42, some 15), (42, some 16), (48, none)]
theorem mk_154_j22 {s0 : Int32} {M : mm_M} : mq_K mw_154_j22 M (mf_154_j22 s0 M) := by
  unfold mf_154_j22
  exact mq_K_B (mq_K_call mk_153 mq_kp_refl rfl) (fun _ M1 hM1 => mq_K_ret (mq_kp_pi hM1 rfl))
def mw_154_b0 : List (Nat × Option Nat) := [(42, some 15), (42, some 16), (48, none)]
theorem mk_154_b0 {M : mm_M} : mq_K mw_154_b0 M (mf_154_b0 M) := by
  unfold mf_154_b0
  exact mq_K_ite (fun hc => mq_K_ite (fun hc => mq_K_call mk_154_j22 mq_kp_refl rfl) (fun _ => mq_K_call mk_154_j22 mq_kp_refl rfl)) (fun _ => mq_K_ret mq_kp_refl)
def mw_154_L0 : List (Nat × Option Nat) := [(42, some 15), (42, some 16), (48, none)]
theorem mk_154_L0 {s : Unit} {M : mm_M} : mq_K mw_154_L0 M (mf_154_L0 s M) := by
  unfold mf_154_L0
  exact mq_K_L (fun s M h => mq_K_call mk_154_b0 h rfl) mq_kp_refl
def mw_154 : List (Nat × Option Nat) := [(42, some 15), (42, some 16), (48, none)]
theorem mk_154 {M : mm_M} : mq_K mw_154 M (mf_154 M) := by
  unfold mf_154
  exact mq_K_B (mq_K_call mk_154_L0 mq_kp_refl rfl) (fun _ M1 hM1 => mq_K_ret hM1)
-- 152: PlainPacks$Sorted.placeInRow
def mw_152_b2 : List (Nat × Option Nat) := []
theorem mk_152_b2 {v1 : Int32} {v2 : Int32} {M : mm_M} : mq_K mw_152_b2 M (mf_152_b2 v1 v2 M) := by
  unfold mf_152_b2
  exact mq_K_ite (fun hc => mq_K_ite (fun hc => mq_K_ite (fun hc => mq_K_ret mq_kp_refl) (fun _ => mq_K_ret mq_kp_refl)) (fun _ => mq_K_none)) (fun _ => mq_K_ret mq_kp_refl)
def mw_152_L2 : List (Nat × Option Nat) := []
theorem mk_152_L2 {v1 : Int32} {s : Int32} {M : mm_M} : mq_K mw_152_L2 M (mf_152_L2 v1 s M) := by
  unfold mf_152_L2
  exact mq_K_L (fun s M h => mq_K_call mk_152_b2 h rfl) mq_kp_refl
def mw_152 : List (Nat × Option Nat) := []
theorem mk_152 {v1 : Int32} {M : mm_M} : mq_K mw_152 M (mf_152 v1 M) := by
  unfold mf_152
  exact mq_K_B (mq_K_call mk_152_L2 mq_kp_refl rfl) (fun _ M1 hM1 => mq_K_ret hM1)
