/-! WHAT IS KEPT 7 -/
-- 278: PlainPacksModel.letter
def mw_278 : List (Nat × Option Nat) := [(84, some 52), (104, none)]
theorem mk_278 {v1 : Int32} {M : mm_M} : mq_K mw_278 M (mf_278 v1 M) := by
  unfold mf_278
  exact mq_K_ite (fun hc => mq_K_ret (mq_kp_pi (mq_kp_pi mq_kp_refl rfl) rfl)) (fun _ => mq_K_none)
-- 279: PlainPacksModel.runLetters
def mw_279_b2 : List (Nat × Option Nat) := [(84, some 52), (104, none)]
theorem mk_279_b2 {v2 : Int32} {M : mm_M} : mq_K mw_279_b2 M (mf_279_b2 v2 M) := by
  unfold mf_279_b2
  exact mq_K_ite (fun hc => mq_K_B (mq_K_call mk_278 mq_kp_refl rfl) (fun _ M1 hM1 => mq_K_ret hM1)) (fun _ => mq_K_ret mq_kp_refl)
def mw_279_L2 : List (Nat × Option Nat) := [(84, some 52), (104, none)]
theorem mk_279_L2 {s : Int32} {M : mm_M} : mq_K mw_279_L2 M (mf_279_L2 s M) := by
  unfold mf_279_L2
  exact mq_K_L (fun s M h => mq_K_call mk_279_b2 h rfl) mq_kp_refl
def mw_279 : List (Nat × Option Nat) := [(84, some 52), (104, none)]
theorem mk_279 {v1 : Int32} {M : mm_M} : mq_K mw_279 M (mf_279 v1 M) := by
  unfold mf_279
  exact mq_K_B (mq_K_call mk_279_L2 mq_kp_refl rfl) (fun _ M1 hM1 => mq_K_ret hM1)
-- 280: PlainPacksModel.writeSorted
def mw_280_b46 : List (Nat × Option Nat) := []
theorem mk_280_b46 {v1 : Int32} {v2 : Int32} {v3 : Int32} {v4 : Int32} {v5 : Int32} {v6 : Int32} {M : mm_M} : mq_K mw_280_b46 M (mf_280_b46 v1 v2 v3 v4 v5 v6 M) := by
  unfold mf_280_b46
  exact mq_K_ite (fun hc => mq_K_ite (fun hc => mq_K_ret mq_kp_refl) (fun _ => mq_K_ret mq_kp_refl)) (fun _ => mq_K_none)
def mw_280_L46 : List (Nat × Option Nat) := []
theorem mk_280_L46 {v1 : Int32} {v2 : Int32} {v3 : Int32} {v4 : Int32} {v5 : Int32} {s : Int32} {M : mm_M} : mq_K mw_280_L46 M (mf_280_L46 v1 v2 v3 v4 v5 s M) := by
  unfold mf_280_L46
  exact mq_K_L (fun s M h => mq_K_call mk_280_b46 h rfl) mq_kp_refl
def mw_280_b94 : List (Nat × Option Nat) := [(94, none)]
theorem mk_280_b94 {v1 : Int32} {v2 : Int32} {v3 : Int32} {v4 : Int32} {v5 : Int32} {v7 : Int32} {M : mm_M} : mq_K mw_280_b94 M (mf_280_b94 v1 v2 v3 v4 v5 v7 M) := by
  unfold mf_280_b94
  exact mq_K_ite (fun hc => mq_K_ite (fun hc => mq_K_ite (fun hc => mq_K_ret (mq_kp_pi mq_kp_refl rfl)) (fun _ => mq_K_none)) (fun _ => mq_K_none)) (fun _ => mq_K_ret mq_kp_refl)
def mw_280_L94 : List (Nat × Option Nat) := [(94, none)]
theorem mk_280_L94 {v1 : Int32} {v2 : Int32} {v3 : Int32} {v4 : Int32} {v5 : Int32} {s : Int32} {M : mm_M} : mq_K mw_280_L94 M (mf_280_L94 v1 v2 v3 v4 v5 s M) := by
  unfold mf_280_L94
  exact mq_K_L (fun s M h => mq_K_call mk_280_b94 h rfl) mq_kp_refl
def mw_280_j121 : List (Nat × Option Nat) := [(94, none)]
theorem mk_280_j121 {v1 : Int32} {v2 : Int32} {v3 : Int32} {v4 : Int32} {v5 : Int32} {M : mm_M} : mq_K mw_280_j121 M (mf_280_j121 v1 v2 v3 v4 v5 M) := by
  unfold mf_280_j121
  exact mq_K_ite (fun hc => mq_K_ret (mq_kp_pi mq_kp_refl rfl)) (fun _ => mq_K_none)
def mw_280_j64 : List (Nat × Option Nat) := [(84, some 52), (94, none), (104, none)]
theorem mk_280_j64 {v1 : Int32} {v2 : Int32} {v3 : Int32} {v4 : Int32} {v5 : Int32} {v6 : Int32} {M : mm_M} : mq_K mw_280_j64 M (mf_280_j64 v1 v2 v3 v4 v5 v6 M) := by
  unfold mf_280_j64
  exact mq_K_ite (fun hc => mq_K_ret mq_kp_refl) (fun _ => mq_K_B (mq_K_call mk_279 mq_kp_refl rfl) (fun _ M1 hM1 => mq_K_B (mq_K_call mk_278 hM1 rfl) (fun _ M2 hM2 => mq_K_B (mq_K_call mk_280_L94 hM2 rfl) (fun _ M3 hM3 => mq_K_call mk_280_j121 hM3 rfl))))
def mw_280_b17 : List (Nat × Option Nat) := [(84, some 52), (94, none), (104, none)]
theorem mk_280_b17 {v1 : Int32} {v2 : Int32} {v3 : Int32} {v4 : Int32} {M : mm_M} : mq_K mw_280_b17 M (mf_280_b17 v1 v2 v3 v4 M) := by
  unfold mf_280_b17
  exact mq_K_ite (fun hc => mq_K_ite (fun hc => mq_K_ite (fun hc => mq_K_ite (fun hc => mq_K_B (mq_K_call mk_280_L46 mq_kp_refl rfl) (fun _ M1 hM1 => mq_K_call mk_280_j64 hM1 rfl)) (fun _ => mq_K_none)) (fun _ => mq_K_none)) (fun _ => mq_K_none)) (fun _ => mq_K_ret mq_kp_refl)
def mw_280_L17 : List (Nat × Option Nat) := [(84, some 52), (94, none), (104, none)]
theorem mk_280_L17 {v1 : Int32} {v2 : Int32} {s : Int32 × Int32} {M : mm_M} : mq_K mw_280_L17 M (mf_280_L17 v1 v2 s M) := by
  unfold mf_280_L17
  exact mq_K_L (fun s M h => mq_K_call mk_280_b17 h rfl) mq_kp_refl
def mw_280_b150 : List (Nat × Option Nat) := []
theorem mk_280_b150 {v2 : Int32} {v4 : Int32} {M : mm_M} : mq_K mw_280_b150 M (mf_280_b150 v2 v4 M) := by
  unfold mf_280_b150
  exact mq_K_ite (fun hc => mq_K_ret mq_kp_refl) (fun _ => mq_K_ret mq_kp_refl)
def mw_280_L150 : List (Nat × Option Nat) := []
theorem mk_280_L150 {v2 : Int32} {s : Int32} {M : mm_M} : mq_K mw_280_L150 M (mf_280_L150 v2 s M) := by
  unfold mf_280_L150
  exact mq_K_L (fun s M h => mq_K_call mk_280_b150 h rfl) mq_kp_refl
def mw_280_b206 : List (Nat × Option Nat) := [(84, some 41), (84, some 42), (84, some 43), (100, none)]
theorem mk_280_b206 {v2 : Int32} {v4 : Int32} {v6 : Int32} {M : mm_M} : mq_K mw_280_b206 M (mf_280_b206 v2 v4 v6 M) := by
  unfold mf_280_b206
  exact mq_K_ite (fun hc => mq_K_B (mq_K_call mk_249 mq_kp_refl rfl) (fun _ M1 hM1 => mq_K_B (mq_K_call mk_249 hM1 rfl) (fun _ M2 hM2 => mq_K_ret hM2))) (fun _ => mq_K_ret mq_kp_refl)
def mw_280_L206 : List (Nat × Option Nat) := [(84, some 41), (84, some 42), (84, some 43), (100, none)]
theorem mk_280_L206 {v2 : Int32} {v4 : Int32} {s : Int32} {M : mm_M} : mq_K mw_280_L206 M (mf_280_L206 v2 v4 s M) := by
  unfold mf_280_L206
  exact mq_K_L (fun s M h => mq_K_call mk_280_b206 h rfl) mq_kp_refl
def mw_280_b237 : List (Nat × Option Nat) := [(84, some 41), (84, some 42), (84, some 43), (100, none)]
theorem mk_280_b237 {v4 : Int32} {v6 : Int32} {M : mm_M} : mq_K mw_280_b237 M (mf_280_b237 v4 v6 M) := by
  unfold mf_280_b237
  exact mq_K_ite (fun hc => mq_K_ite (fun hc => mq_K_B (mq_K_call mk_249 mq_kp_refl rfl) (fun _ M1 hM1 => mq_K_ret hM1)) (fun _ => mq_K_none)) (fun _ => mq_K_ret mq_kp_refl)
def mw_280_L237 : List (Nat × Option Nat) := [(84, some 41), (84, some 42), (84, some 43), (100, none)]
theorem mk_280_L237 {v4 : Int32} {s : Int32} {M : mm_M} : mq_K mw_280_L237 M (mf_280_L237 v4 s M) := by
  unfold mf_280_L237
  exact mq_K_L (fun s M h => mq_K_call mk_280_b237 h rfl) mq_kp_refl
def mw_280_j164 : List (Nat × Option Nat) := [(84, some 41), (84, some 42), (84, some 43), (100, none)]
theorem mk_280_j164 {v2 : Int32} {v4 : Int32} {M : mm_M} : mq_K mw_280_j164 M (mf_280_j164 v2 v4 M) := by
  unfold mf_280_j164
  exact mq_K_B (mq_K_call mk_249 mq_kp_refl rfl) (fun _ M1 hM1 => mq_K_B (mq_K_call mk_249 hM1 rfl) (fun _ M2 hM2 => mq_K_B (mq_K_call mk_249 hM2 rfl) (fun _ M3 hM3 => mq_K_B (mq_K_call mk_280_L206 hM3 rfl) (fun _ M4 hM4 => mq_K_B (mq_K_call mk_280_L237 hM4 rfl) (fun _ M12 hM12 => mq_K_ret hM12)))))
def mw_280_j135 : List (Nat × Option Nat) := [(84, some 41), (84, some 42), (84, some 43), (84, some 52), (100, none), (104, none)]
theorem mk_280_j135 {v2 : Int32} {v3 : Int32} {M : mm_M} : mq_K mw_280_j135 M (mf_280_j135 v2 v3 M) := by
  unfold mf_280_j135
  exact mq_K_B (mq_K_call mk_279 mq_kp_refl rfl) (fun _ M1 hM1 => mq_K_B (mq_K_call mk_278 hM1 rfl) (fun _ M2 hM2 => mq_K_B (mq_K_call mk_280_L150 hM2 rfl) (fun _ M3 hM3 => mq_K_call mk_280_j164 hM3 rfl)))
def mw_280 : List (Nat × Option Nat) := [(84, some 41), (84, some 42), (84, some 43), (84, some 52), (94, none), (100, none), (104, none)]
theorem mk_280 {v1 : Int32} {M : mm_M} : mq_K mw_280 M (mf_280 v1 M) := by
  unfold mf_280
  exact mq_K_B (mq_K_call mk_280_L17 (mq_kp_pi mq_kp_refl rfl) rfl) (fun _ M1 hM1 => mq_K_call mk_280_j135 hM1 rfl)
-- 276: PlainPacksModel.packSorted
def mw_276_b87 : List (Nat × Option Nat) := []
theorem mk_276_b87 {v1 : Int32} {v2 : Int32} {v3 : Int32} {M : mm_M} : mq_K mw_276_b87 M (mf_276_b87 v1 v2 v3 M) := by
  unfold mf_276_b87
  exact mq_K_ite (fun hc => mq_K_ite (fun hc => mq_K_ite (fun hc => mq_K_ite (fun hc => mq_K_ret mq_kp_refl) (fun _ => mq_K_ret mq_kp_refl)) (fun _ => mq_K_none)) (fun _ => mq_K_none)) (fun _ => mq_K_none)
def mw_276_L87 : List (Nat × Option Nat) := []
theorem mk_276_L87 {v1 : Int32} {v2 : Int32} {s : Int32} {M : mm_M} : mq_K mw_276_L87 M (mf_276_L87 v1 v2 s M) := by
  unfold mf_276_L87
  exact mq_K_L (fun s M h => mq_K_call mk_276_b87 h rfl) mq_kp_refl
def mw_276_j156 : List (Nat × Option Nat) := [(84, some 41), (84, some 42), (84, some 43), (100, none)]
theorem mk_276_j156 {s1 : Int64} {M : mm_M} : mq_K mw_276_j156 M (mf_276_j156 s1 M) := by
  unfold mf_276_j156
  exact mq_K_B (mq_K_call mk_249 mq_kp_refl rfl) (fun _ M1 hM1 => mq_K_B (mq_K_call mk_248 hM1 rfl) (fun _ M2 hM2 => mq_K_ret hM2))
def mw_276_j132 : List (Nat × Option Nat) := [(84, some 41), (84, some 42), (84, some 43), (100, none)]
theorem mk_276_j132 {v1 : Int32} {M : mm_M} : mq_K mw_276_j132 M (mf_276_j132 v1 M) := by
  unfold mf_276_j132
  exact mq_K_B (mq_K_call mk_249 mq_kp_refl rfl) (fun _ M1 hM1 => mq_K_ite (fun hc => mq_K_call mk_276_j156 hM1 rfl) (fun _ => mq_K_call mk_276_j156 hM1 rfl))
def mw_276_j113 : List (Nat × Option Nat) := [(84, some 20), (84, some 41), (84, some 42), (84, some 43), (84, some 52), (94, none), (100, none), (104, none), (106, none)]
theorem mk_276_j113 {v1 : Int32} {v2 : Int32} {v3 : Int32} {M : mm_M} : mq_K mw_276_j113 M (mf_276_j113 v1 v2 v3 M) := by
  unfold mf_276_j113
  exact mq_K_B (mq_K_call mk_249 mq_kp_refl rfl) (fun _ M1 hM1 => mq_K_B (mq_K_call mk_277 hM1 rfl) (fun _ M2 hM2 => mq_K_B (mq_K_call mk_280 hM2 rfl) (fun _ M3 hM3 => mq_K_call mk_276_j132 hM3 rfl)))
def mw_276 : List (Nat × Option Nat) := [(84, some 13), (84, some 20), (84, some 41), (84, some 42), (84, some 43), (84, some 52), (94, none), (100, none), (102, none), (103, none), (104, none), (105, none), (106, none)]
theorem mk_276 {M : mm_M} : mq_K mw_276 M (mf_276 M) := by
  unfold mf_276
  exact mq_K_B (mq_K_call mk_245 (mq_kp_pi mq_kp_refl rfl) rfl) (fun _ M1 hM1 => mq_K_B (mq_K_call mk_245 hM1 rfl) (fun _ M2 hM2 => mq_K_B (mq_K_call mk_245 hM2 rfl) (fun _ M3 hM3 => mq_K_B (mq_K_call mk_245 hM3 rfl) (fun _ M4 hM4 => mq_K_B (mq_K_call mk_183 hM4 rfl) (fun _ M6 hM6 => mq_K_ite (fun hc => mq_K_B (mq_K_call mk_275 hM6 rfl) (fun _ M8 hM8 => mq_K_B (mq_K_call mk_273 hM8 rfl) (fun _ M9 hM9 => mq_K_B (mq_K_call mk_249 hM9 rfl) (fun _ M10 hM10 => mq_K_B (mq_K_call mk_249 hM10 rfl) (fun _ M11 hM11 => mq_K_B (mq_K_call mk_249 hM11 rfl) (fun _ M12 hM12 => mq_K_B (mq_K_call mk_276_L87 hM12 rfl) (fun _ M13 hM13 => mq_K_call mk_276_j113 hM13 rfl))))))) (fun _ => mq_K_call mk_276_j132 hM6 rfl))))))
-- 281: PlainPacksModel.carry
def mw_281_b30 : List (Nat × Option Nat) := [(102, none)]
theorem mk_281_b30 {v1 : Int32} {M : mm_M} : mq_K mw_281_b30 M (mf_281_b30 v1 M) := by
  unfold mf_281_b30
  exact mq_K_ite (fun hc => mq_K_ret mq_kp_refl) (fun _ => mq_K_ite (fun hc => mq_K_ite (fun hc => mq_K_ite (fun hc => mq_K_ret (mq_kp_pi mq_kp_refl rfl)) (fun _ => mq_K_none)) (fun _ => mq_K_ret mq_kp_refl)) (fun _ => mq_K_none))
def mw_281_L30 : List (Nat × Option Nat) := [(102, none)]
theorem mk_281_L30 {s : Int32} {M : mm_M} : mq_K mw_281_L30 M (mf_281_L30 s M) := by
  unfold mf_281_L30
  exact mq_K_L (fun s M h => mq_K_call mk_281_b30 h rfl) mq_kp_refl
def mw_281_j59 : List (Nat × Option Nat) := [(102, none)]
theorem mk_281_j59 {v1 : Int32} {M : mm_M} : mq_K mw_281_j59 M (mf_281_j59 v1 M) := by
  unfold mf_281_j59
  exact mq_K_ite (fun hc => mq_K_ite (fun hc => mq_K_ret (mq_kp_pi mq_kp_refl rfl)) (fun _ => mq_K_none)) (fun _ => mq_K_none)
def mw_281 : List (Nat × Option Nat) := [(84, some 53), (102, none)]
theorem mk_281 {M : mm_M} : mq_K mw_281 M (mf_281 M) := by
  unfold mf_281
  exact mq_K_ite (fun hc => mq_K_B (mq_K_call mk_281_L30 (mq_kp_pl mq_kp_refl rfl) rfl) (fun _ M1 hM1 => mq_K_call mk_281_j59 hM1 rfl)) (fun _ => mq_K_ret mq_kp_refl)
-- 282: PlainPacksModel.tell
def mw_282_j93 : List (Nat × Option Nat) := [(84, some 33), (84, some 53), (84, some 54), (102, none)]
theorem mk_282_j93 {M : mm_M} : mq_K mw_282_j93 M (mf_282_j93 M) := by
  unfold mf_282_j93
  exact mq_K_ite (fun hc => mq_K_ite (fun hc => mq_K_ret (mq_kp_pl (mq_kp_pi (mq_kp_pi (mq_kp_pl mq_kp_refl rfl) rfl) rfl) rfl)) (fun _ => mq_K_none)) (fun _ => mq_K_ret mq_kp_refl)
def mw_282 : List (Nat × Option Nat) := [(84, some 33), (84, some 53), (84, some 54), (98, none), (102, none)]
theorem mk_282 {v1 : Int32} {v2 : Int32} {M : mm_M} : mq_K mw_282 M (mf_282 v1 v2 M) := by
  unfold mf_282
  exact mq_K_ite (fun hc => mq_K_ite (fun hc => mq_K_ite (fun hc => mq_K_ite (fun hc => mq_K_ite (fun hc => mq_K_call mk_282_j93 (mq_kp_pi (mq_kp_pl mq_kp_refl rfl) rfl) rfl) (fun _ => mq_K_none)) (fun _ => mq_K_none)) (fun _ => mq_K_none)) (fun _ => mq_K_ite (fun hc => mq_K_ite (fun hc => mq_K_ite (fun hc => mq_K_B (mq_K_call mk_281 (mq_kp_pi (mq_kp_pl (mq_kp_pl mq_kp_refl rfl) rfl) rfl) rfl) (fun _ M1 hM1 => mq_K_call mk_282_j93 hM1 rfl)) (fun _ => mq_K_none)) (fun _ => mq_K_none)) (fun _ => mq_K_none))) (fun _ => mq_K_none)
-- 283: PlainPacksModel.packChances
def mw_283_b27 : List (Nat × Option Nat) := [(98, none)]
theorem mk_283_b27 {v1 : Int32} {M : mm_M} : mq_K mw_283_b27 M (mf_283_b27 v1 M) := by
  unfold mf_283_b27
  exact mq_K_ite (fun hc => mq_K_ite (fun hc => mq_K_ret (mq_kp_pi mq_kp_refl rfl)) (fun _ => mq_K_none)) (fun _ => mq_K_ret mq_kp_refl)
def mw_283_L27 : List (Nat × Option Nat) := [(98, none)]
theorem mk_283_L27 {s : Int32} {M : mm_M} : mq_K mw_283_L27 M (mf_283_L27 s M) := by
  unfold mf_283_L27
  exact mq_K_L (fun s M h => mq_K_call mk_283_b27 h rfl) mq_kp_refl
def mw_283_b114 : List (Nat × Option Nat) := [(84, some 33), (84, some 53), (84, some 54), (98, none), (102, none)]
theorem mk_283_b114 {v2 : Int32} {v3 : Int32} {v4 : Int32} {v5 : Int32} {M : mm_M} : mq_K mw_283_b114 M (mf_283_b114 v2 v3 v4 v5 M) := by
  unfold mf_283_b114
  exact mq_K_ite (fun hc => mq_K_ret mq_kp_refl) (fun _ => mq_K_ite (fun hc => mq_K_B (mq_K_call mk_282 mq_kp_refl rfl) (fun _ M1 hM1 => mq_K_ret hM1)) (fun _ => mq_K_none))
def mw_283_L114 : List (Nat × Option Nat) := [(84, some 33), (84, some 53), (84, some 54), (98, none), (102, none)]
theorem mk_283_L114 {v2 : Int32} {v3 : Int32} {s : Int32 × Int32} {M : mm_M} : mq_K mw_283_L114 M (mf_283_L114 v2 v3 s M) := by
  unfold mf_283_L114
  exact mq_K_L (fun s M h => mq_K_call mk_283_b114 h rfl) mq_kp_refl
def mw_283_j157 : List (Nat × Option Nat) := []
theorem mk_283_j157 {v2 : Int32} {M : mm_M} : mq_K mw_283_j157 M (mf_283_j157 v2 M) := by
  unfold mf_283_j157
  exact mq_K_ite (fun hc => mq_K_ret mq_kp_refl) (fun _ => mq_K_none)
def mw_283_b77 : List (Nat × Option Nat) := [(84, some 33), (84, some 53), (84, some 54), (98, none), (102, none)]
theorem mk_283_b77 {v1 : Int32} {v2 : Int32} {M : mm_M} : mq_K mw_283_b77 M (mf_283_b77 v1 v2 M) := by
  unfold mf_283_b77
  exact mq_K_ite (fun hc => mq_K_B (mq_K_call mk_282 mq_kp_refl rfl) (fun _ M1 hM1 => mq_K_B (mq_K_call mk_283_L114 hM1 rfl) (fun _ M2 hM2 => mq_K_call mk_283_j157 hM2 rfl))) (fun _ => mq_K_ret mq_kp_refl)
def mw_283_L77 : List (Nat × Option Nat) := [(84, some 33), (84, some 53), (84, some 54), (98, none), (102, none)]
theorem mk_283_L77 {s : Int32 × Int32} {M : mm_M} : mq_K mw_283_L77 M (mf_283_L77 s M) := by
  unfold mf_283_L77
  exact mq_K_L (fun s M h => mq_K_call mk_283_b77 h rfl) mq_kp_refl
def mw_283_b172 : List (Nat × Option Nat) := [(84, some 41), (100, none)]
theorem mk_283_b172 {v2 : Int32} {M : mm_M} : mq_K mw_283_b172 M (mf_283_b172 v2 M) := by
  unfold mf_283_b172
  exact mq_K_ite (fun hc => mq_K_ite (fun hc => mq_K_B (mq_K_call mk_245 mq_kp_refl rfl) (fun _ M1 hM1 => mq_K_ret hM1)) (fun _ => mq_K_none)) (fun _ => mq_K_ret mq_kp_refl)
def mw_283_L172 : List (Nat × Option Nat) := [(84, some 41), (100, none)]
theorem mk_283_L172 {s : Int32} {M : mm_M} : mq_K mw_283_L172 M (mf_283_L172 s M) := by
  unfold mf_283_L172
  exact mq_K_L (fun s M h => mq_K_call mk_283_b172 h rfl) mq_kp_refl
def mw_283_b198 : List (Nat × Option Nat) := [(84, some 41), (100, none)]
theorem mk_283_b198 {v2 : Int32} {M : mm_M} : mq_K mw_283_b198 M (mf_283_b198 v2 M) := by
  unfold mf_283_b198
  exact mq_K_ite (fun hc => mq_K_ret mq_kp_refl) (fun _ => mq_K_B (mq_K_call mk_245 mq_kp_refl rfl) (fun _ M1 hM1 => mq_K_ret hM1))
def mw_283_L198 : List (Nat × Option Nat) := [(84, some 41), (100, none)]
theorem mk_283_L198 {s : Int32} {M : mm_M} : mq_K mw_283_L198 M (mf_283_L198 s M) := by
  unfold mf_283_L198
  exact mq_K_L (fun s M h => mq_K_call mk_283_b198 h rfl) mq_kp_refl
def mw_283_j49 : List (Nat × Option Nat) := [(84, some 33), (84, some 41), (84, some 53), (84, some 54), (98, none), (100, none), (102, none)]
theorem mk_283_j49 {M : mm_M} : mq_K mw_283_j49 M (mf_283_j49 M) := by
  unfold mf_283_j49
  exact mq_K_ite (fun hc => mq_K_B (mq_K_call mk_283_L77 (mq_kp_pi (mq_kp_pi (mq_kp_pl (mq_kp_pl mq_kp_refl rfl) rfl) rfl) rfl) rfl) (fun _ M1 hM1 => mq_K_B (mq_K_call mk_283_L172 hM1 rfl) (fun _ M9 hM9 => mq_K_B (mq_K_call mk_283_L198 hM9 rfl) (fun _ M17 hM17 => mq_K_ret hM17)))) (fun _ => mq_K_none)
def mw_283 : List (Nat × Option Nat) := [(84, some 33), (84, some 41), (84, some 53), (84, some 54), (98, none), (100, none), (102, none)]
theorem mk_283 {M : mm_M} : mq_K mw_283 M (mf_283 M) := by
  unfold mf_283
  exact mq_K_B (mq_K_call mk_245 mq_kp_refl rfl) (fun _ M1 hM1 => mq_K_B (mq_K_call mk_246 hM1 rfl) (fun _ M2 hM2 => mq_K_B (mq_K_call mk_246 hM2 rfl) (fun _ M3 hM3 => mq_K_B (mq_K_call mk_283_L27 hM3 rfl) (fun _ M4 hM4 => mq_K_call mk_283_j49 hM4 rfl))))
-- 284: PlainPacksModel.pack
def mw_284_b193 : List (Nat × Option Nat) := [(86, none)]
theorem mk_284_b193 {v2 : Int32} {M : mm_M} : mq_K mw_284_b193 M (mf_284_b193 v2 M) := by
  unfold mf_284_b193
  exact mq_K_ite (fun hc => mq_K_ite (fun hc => mq_K_ite (fun hc => mq_K_ret (mq_kp_pi mq_kp_refl rfl)) (fun _ => mq_K_none)) (fun _ => mq_K_none)) (fun _ => mq_K_ret mq_kp_refl)
def mw_284_L193 : List (Nat × Option Nat) := [(86, none)]
theorem mk_284_L193 {s : Int32} {M : mm_M} : mq_K mw_284_L193 M (mf_284_L193 s M) := by
  unfold mf_284_L193
  exact mq_K_L (fun s M h => mq_K_call mk_284_b193 h rfl) mq_kp_refl
def mw_284_j179 : List (Nat × Option Nat) := [(84, some 4), (86, none)]
theorem mk_284_j179 {M : mm_M} : mq_K mw_284_j179 M (mf_284_j179 M) := by
  unfold mf_284_j179
  exact mq_K_ite (fun hc => mq_K_ret mq_kp_refl) (fun _ => mq_K_B (mq_K_call mk_284_L193 mq_kp_refl rfl) (fun _ M1 hM1 => mq_K_ret (mq_kp_pi hM1 rfl)))
def mw_284_j16 : List (Nat × Option Nat) := [(84, some 0), (84, some 4), (84, some 13), (84, some 20), (84, some 21), (84, some 33), (84, some 41), (84, some 42), (84, some 43), (84, some 44), (84, some 45), (84, some 52), (84, some 53), (84, some 54), (86, none), (87, none), (88, none), (91, none), (92, none), (94, none), (98, none), (100, none), (102, none), (103, none), (104, none), (105, none), (106, none)]
theorem mk_284_j16 {v1 : Int32} {s1 : Int32} {M : mm_M} : mq_K mw_284_j16 M (mf_284_j16 v1 s1 M) := by
  unfold mf_284_j16
  exact mq_K_B (mq_K_call mk_174 mq_kp_refl rfl) (fun _ M2 hM2 => mq_K_ite (fun hc => mq_K_ret hM2) (fun _ => mq_K_ite (fun hc => mq_K_B (mq_K_call mk_252 (mq_kp_pi (mq_kp_pi (mq_kp_pi hM2 rfl) rfl) rfl) rfl) (fun _ M3 hM3 => mq_K_call mk_284_j179 hM3 rfl)) (fun _ => mq_K_ite (fun hc => mq_K_B (mq_K_call mk_285 (mq_kp_pi (mq_kp_pi (mq_kp_pi hM2 rfl) rfl) rfl) rfl) (fun _ M4 hM4 => mq_K_call mk_284_j179 hM4 rfl)) (fun _ => mq_K_ite (fun hc => mq_K_B (mq_K_call mk_285 (mq_kp_pi (mq_kp_pi (mq_kp_pi hM2 rfl) rfl) rfl) rfl) (fun _ M5 hM5 => mq_K_call mk_284_j179 hM5 rfl)) (fun _ => mq_K_ite (fun hc => mq_K_B (mq_K_call mk_285 (mq_kp_pi (mq_kp_pi (mq_kp_pi hM2 rfl) rfl) rfl) rfl) (fun _ M6 hM6 => mq_K_call mk_284_j179 hM6 rfl)) (fun _ => mq_K_ite (fun hc => mq_K_B (mq_K_call mk_245 (mq_kp_pi (mq_kp_pi (mq_kp_pi (mq_kp_pi hM2 rfl) rfl) rfl) rfl) rfl) (fun _ M7 hM7 => mq_K_B (mq_K_call mk_261 hM7 rfl) (fun _ M8 hM8 => mq_K_call mk_284_j179 hM8 rfl))) (fun _ => mq_K_ite (fun hc => mq_K_B (mq_K_call mk_261 (mq_kp_pi (mq_kp_pi (mq_kp_pi (mq_kp_pi hM2 rfl) rfl) rfl) rfl) rfl) (fun _ M9 hM9 => mq_K_call mk_284_j179 hM9 rfl)) (fun _ => mq_K_ite (fun hc => mq_K_B (mq_K_call mk_265 (mq_kp_pi (mq_kp_pi (mq_kp_pi hM2 rfl) rfl) rfl) rfl) (fun _ M10 hM10 => mq_K_call mk_284_j179 hM10 rfl)) (fun _ => mq_K_ite (fun hc => mq_K_B (mq_K_call mk_266 (mq_kp_pi (mq_kp_pi (mq_kp_pi hM2 rfl) rfl) rfl) rfl) (fun _ M11 hM11 => mq_K_call mk_284_j179 hM11 rfl)) (fun _ => mq_K_ite (fun hc => mq_K_B (mq_K_call mk_269 (mq_kp_pi (mq_kp_pi (mq_kp_pi hM2 rfl) rfl) rfl) rfl) (fun _ M12 hM12 => mq_K_call mk_284_j179 hM12 rfl)) (fun _ => mq_K_ite (fun hc => mq_K_B (mq_K_call mk_276 (mq_kp_pi (mq_kp_pi (mq_kp_pi hM2 rfl) rfl) rfl) rfl) (fun _ M13 hM13 => mq_K_call mk_284_j179 hM13 rfl)) (fun _ => mq_K_B (mq_K_call mk_283 (mq_kp_pi (mq_kp_pi (mq_kp_pi hM2 rfl) rfl) rfl) rfl) (fun _ M14 hM14 => mq_K_call mk_284_j179 hM14 rfl)))))))))))))
def mw_284_j15 : List (Nat × Option Nat) := [(84, some 0), (84, some 4), (84, some 13), (84, some 20), (84, some 21), (84, some 33), (84, some 41), (84, some 42), (84, some 43), (84, some 44), (84, some 45), (84, some 52), (84, some 53), (84, some 54), (86, none), (87, none), (88, none), (91, none), (92, none), (94, none), (98, none), (100, none), (102, none), (103, none), (104, none), (105, none), (106, none)]
theorem mk_284_j15 {v1 : Int32} {M : mm_M} : mq_K mw_284_j15 M (mf_284_j15 v1 M) := by
  unfold mf_284_j15
  exact mq_K_call mk_284_j16 mq_kp_refl rfl
def mw_284 : List (Nat × Option Nat) := [(84, some 0), (84, some 4), (84, some 13), (84, some 20), (84, some 21), (84, some 33), (84, some 41), (84, some 42), (84, some 43), (84, some 44), (84, some 45), (84, some 52), (84, some 53), (84, some 54), (86, none), (87, none), (88, none), (91, none), (92, none), (94, none), (98, none), (100, none), (102, none), (103, none), (104, none), (105, none), (106, none)]
theorem mk_284 {v1 : Int32} {M : mm_M} : mq_K mw_284 M (mf_284 v1 M) := by
  unfold mf_284
  exact mq_K_ite (fun hc => mq_K_call mk_284_j15 mq_kp_refl rfl) (fun _ => mq_K_ite (fun hc => mq_K_call mk_284_j15 mq_kp_refl rfl) (fun _ => mq_K_call mk_284_j16 mq_kp_refl rfl))
-- 21: PlainPacks.sum
def mw_21 : List (Nat × Option Nat) := []
theorem mk_21 {v1 : Int32} {M : mm_M} : mq_K mw_21 M (mf_21 v1 M) := by
  unfold mf_21
  exact mq_K_ite (fun hc => mq_K_B (mq_K_call mk_28 mq_kp_refl rfl) (fun _ M2 hM2 => mq_K_ret hM2)) (fun _ => mq_K_ite (fun hc => mq_K_B (mq_K_call mk_29 mq_kp_refl rfl) (fun _ M4 hM4 => mq_K_ret hM4)) (fun _ => mq_K_ite (fun hc => mq_K_B (mq_K_call mk_30 mq_kp_refl rfl) (fun _ M6 hM6 => mq_K_ret hM6)) (fun _ => mq_K_ite (fun hc => mq_K_B (mq_K_call mk_31 mq_kp_refl rfl) (fun _ M8 hM8 => mq_K_ret hM8)) (fun _ => mq_K_ret (mq_kp_th mq_kp_refl)))))
-- 189: PlainPacksModel.sum
def mw_189_j15 : List (Nat × Option Nat) := [(84, some 0)]
theorem mk_189_j15 {v1 : Int32} {s1 : Int32} {M : mm_M} : mq_K mw_189_j15 M (mf_189_j15 v1 s1 M) := by
  unfold mf_189_j15
  exact mq_K_B (mq_K_call mk_174 mq_kp_refl rfl) (fun _ M2 hM2 => mq_K_ite (fun hc => mq_K_ret hM2) (fun _ => mq_K_ite (fun hc => mq_K_B (mq_K_call mk_182 hM2 rfl) (fun _ M4 hM4 => mq_K_ret hM4)) (fun _ => mq_K_ite (fun hc => mq_K_B (mq_K_call mk_183 hM2 rfl) (fun _ M6 hM6 => mq_K_ret hM6)) (fun _ => mq_K_ite (fun hc => mq_K_B (mq_K_call mk_184 hM2 rfl) (fun _ M8 hM8 => mq_K_ret hM8)) (fun _ => mq_K_B (mq_K_call mk_188 hM2 rfl) (fun _ M10 hM10 => mq_K_ret hM10))))))
def mw_189_j14 : List (Nat × Option Nat) := [(84, some 0)]
theorem mk_189_j14 {v1 : Int32} {M : mm_M} : mq_K mw_189_j14 M (mf_189_j14 v1 M) := by
  unfold mf_189_j14
  exact mq_K_call mk_189_j15 mq_kp_refl rfl
def mw_189 : List (Nat × Option Nat) := [(84, some 0)]
theorem mk_189 {v1 : Int32} {M : mm_M} : mq_K mw_189 M (mf_189 v1 M) := by
  unfold mf_189
  exact mq_K_ite (fun hc => mq_K_call mk_189_j14 mq_kp_refl rfl) (fun _ => mq_K_ite (fun hc => mq_K_call mk_189_j14 mq_kp_refl rfl) (fun _ => mq_K_call mk_189_j15 mq_kp_refl rfl))
-- 98: PlainPacks$Blocks.copyBits
def mw_98 : List (Nat × Option Nat) := []
theorem mk_98 {v0 : Int32} {v1 : Int32} {M : mm_M} : mq_K mw_98 M (mf_98 v0 v1 M) := by
  unfold mf_98
  exact mq_K_B (mq_K_call mk_94 mq_kp_refl rfl) (fun _ M2 hM2 => mq_K_B (mq_K_call mk_82 hM2 rfl) (fun _ M4 hM4 => mq_K_B (mq_K_call mk_95 hM4 rfl) (fun _ M6 hM6 => mq_K_B (mq_K_call mk_96 hM6 rfl) (fun _ M8 hM8 => mq_K_ret hM8))))
-- 97: PlainPacks$Blocks.leastBits
def mw_97_b156 : List (Nat × Option Nat) := [(33, none)]
theorem mk_97_b156 {v2 : Int32} {v3 : Int32} {v4 : Int32} {v6 : Int32} {v7 : Int32} {M : mm_M} : mq_K mw_97_b156 M (mf_97_b156 v2 v3 v4 v6 v7 M) := by
  unfold mf_97_b156
  exact mq_K_ite (fun hc => mq_K_ret mq_kp_refl) (fun _ => mq_K_ite (fun hc => mq_K_B (mq_K_call mk_98 mq_kp_refl rfl) (fun _ M2 hM2 => mq_K_ite (fun hc => mq_K_ite (fun hc => mq_K_ret (mq_kp_pi hM2 rfl)) (fun _ => mq_K_none)) (fun _ => mq_K_none))) (fun _ => mq_K_none))
def mw_97_L156 : List (Nat × Option Nat) := [(33, none)]
theorem mk_97_L156 {v2 : Int32} {v3 : Int32} {v4 : Int32} {v6 : Int32} {s : Int32} {M : mm_M} : mq_K mw_97_L156 M (mf_97_L156 v2 v3 v4 v6 s M) := by
  unfold mf_97_L156
  exact mq_K_L (fun s M h => mq_K_call mk_97_b156 h rfl) mq_kp_refl
def mw_97_j201 : List (Nat × Option Nat) := []
theorem mk_97_j201 {v2 : Int32} {v3 : Int32} {v4 : Int32} {v6 : Int32} {M : mm_M} : mq_K mw_97_j201 M (mf_97_j201 v2 v3 v4 v6 M) := by
  unfold mf_97_j201
  exact mq_K_ret mq_kp_refl
def mw_97_j135 : List (Nat × Option Nat) := [(33, none), (34, none)]
theorem mk_97_j135 {v2 : Int32} {v3 : Int32} {v4 : Int32} {s1 : Int32} {s2 : Int32} {M : mm_M} : mq_K mw_97_j135 M (mf_97_j135 v2 v3 v4 s1 s2 M) := by
  unfold mf_97_j135
  exact mq_K_ite (fun hc => mq_K_ite (fun hc => mq_K_B (mq_K_call mk_97_L156 (mq_kp_pi mq_kp_refl rfl) rfl) (fun _ M1 hM1 => mq_K_call mk_97_j201 hM1 rfl)) (fun _ => mq_K_none)) (fun _ => mq_K_none)
def mw_97_j109 : List (Nat × Option Nat) := [(33, none), (34, none)]
theorem mk_97_j109 {v2 : Int32} {v3 : Int32} {v4 : Int32} {s0 : Int32} {M : mm_M} : mq_K mw_97_j109 M (mf_97_j109 v2 v3 v4 s0 M) := by
  unfold mf_97_j109
  exact mq_K_ite (fun hc => mq_K_call mk_97_j135 mq_kp_refl rfl) (fun _ => mq_K_ite (fun hc => mq_K_call mk_97_j135 mq_kp_refl rfl) (fun _ => mq_K_none))
def mw_97_b74 : List (Nat × Option Nat) := [(33, none), (34, none)]
theorem mk_97_b74 {v2 : Int32} {v3 : Int32} {v4 : Int32} {M : mm_M} : mq_K mw_97_b74 M (mf_97_b74 v2 v3 v4 M) := by
  unfold mf_97_b74
  exact mq_K_ite (fun hc => mq_K_ret mq_kp_refl) (fun _ => mq_K_ite (fun hc => mq_K_ite (fun hc => mq_K_ite (fun hc => mq_K_call mk_97_j109 mq_kp_refl rfl) (fun _ => mq_K_call mk_97_j109 mq_kp_refl rfl)) (fun _ => mq_K_none)) (fun _ => mq_K_none))
def mw_97_L74 : List (Nat × Option Nat) := [(33, none), (34, none)]
theorem mk_97_L74 {v2 : Int32} {s : Int32 × Int32} {M : mm_M} : mq_K mw_97_L74 M (mf_97_L74 v2 s M) := by
  unfold mf_97_L74
  exact mq_K_L (fun s M h => mq_K_call mk_97_b74 h rfl) mq_kp_refl
def mw_97_b38 : List (Nat × Option Nat) := [(33, none), (34, none)]
theorem mk_97_b38 {v2 : Int32} {M : mm_M} : mq_K mw_97_b38 M (mf_97_b38 v2 M) := by
  unfold mf_97_b38
  exact mq_K_ite (fun hc => mq_K_ret mq_kp_refl) (fun _ => mq_K_ite (fun hc => mq_K_B (mq_K_call mk_82 mq_kp_refl rfl) (fun _ M2 hM2 => mq_K_ite (fun hc => mq_K_ite (fun hc => mq_K_B (mq_K_call mk_97_L74 (mq_kp_pi hM2 rfl) rfl) (fun _ M3 hM3 => mq_K_ret hM3)) (fun _ => mq_K_none)) (fun _ => mq_K_none))) (fun _ => mq_K_none))
def mw_97_L38 : List (Nat × Option Nat) := [(33, none), (34, none)]
theorem mk_97_L38 {s : Int32} {M : mm_M} : mq_K mw_97_L38 M (mf_97_L38 s M) := by
  unfold mf_97_L38
  exact mq_K_L (fun s M h => mq_K_call mk_97_b38 h rfl) mq_kp_refl
def mw_97_j220 : List (Nat × Option Nat) := []
theorem mk_97_j220 {M : mm_M} : mq_K mw_97_j220 M (mf_97_j220 M) := by
  unfold mf_97_j220
  exact mq_K_ite (fun hc => mq_K_ret mq_kp_refl) (fun _ => mq_K_none)
def mw_97 : List (Nat × Option Nat) := [(33, none), (34, none)]
theorem mk_97 {M : mm_M} : mq_K mw_97 M (mf_97 M) := by
  unfold mf_97
  exact mq_K_B (mq_K_call mk_290 mq_kp_refl rfl) (fun _ M1 hM1 => mq_K_B (mq_K_call mk_82 hM1 rfl) (fun _ M3 hM3 => mq_K_ite (fun hc => mq_K_B (mq_K_call mk_97_L38 (mq_kp_pi hM3 rfl) rfl) (fun _ M4 hM4 => mq_K_call mk_97_j220 hM4 rfl)) (fun _ => mq_K_none)))
-- 22: PlainPacks.least
def mw_22 : List (Nat × Option Nat) := [(33, none), (34, none)]
theorem mk_22 {M : mm_M} : mq_K mw_22 M (mf_22 M) := by
  unfold mf_22
  exact mq_K_ite (fun hc => mq_K_ret mq_kp_refl) (fun _ => mq_K_B (mq_K_call mk_97 mq_kp_refl rfl) (fun _ M2 hM2 => mq_K_ret hM2))
-- 286: PlainPacksModel.lettersBits
def mw_286 : List (Nat × Option Nat) := []
theorem mk_286 {v0 : Int32} {M : mm_M} : mq_K mw_286 M (mf_286 v0 M) := by
  unfold mf_286
  exact mq_K_ite (fun hc => mq_K_ret mq_kp_refl) (fun _ => mq_K_ite (fun hc => mq_K_ret mq_kp_refl) (fun _ => mq_K_ite (fun hc => mq_K_ret mq_kp_refl) (fun _ => mq_K_ret mq_kp_refl)))
-- 287: PlainPacksModel.least
def mw_287_b79 : List (Nat × Option Nat) := []
theorem mk_287_b79 {v1 : Int32} {v2 : Int32} {v3 : Int32} {v4 : Int32} {v5 : Int32} {M : mm_M} : mq_K mw_287_b79 M (mf_287_b79 v1 v2 v3 v4 v5 M) := by
  unfold mf_287_b79
  exact mq_K_ite (fun hc => mq_K_ite (fun hc => mq_K_ite (fun hc => mq_K_ite (fun hc => mq_K_ite (fun hc => mq_K_ite (fun hc => mq_K_ret mq_kp_refl) (fun _ => mq_K_B (mq_K_call mk_254 mq_kp_refl rfl) (fun _ M2 hM2 => mq_K_B (mq_K_call mk_286 hM2 rfl) (fun _ M4 hM4 => mq_K_B (mq_K_call mk_258 hM4 rfl) (fun _ M6 hM6 => mq_K_ite (fun hc => mq_K_ite (fun hc => mq_K_ret hM6) (fun _ => mq_K_ret hM6)) (fun _ => mq_K_none)))))) (fun _ => mq_K_ret mq_kp_refl)) (fun _ => mq_K_none)) (fun _ => mq_K_none)) (fun _ => mq_K_ret mq_kp_refl)) (fun _ => mq_K_ret mq_kp_refl)
def mw_287_L79 : List (Nat × Option Nat) := []
theorem mk_287_L79 {v1 : Int32} {v3 : Int32} {v4 : Int32} {s : Int32 × Int32} {M : mm_M} : mq_K mw_287_L79 M (mf_287_L79 v1 v3 v4 s M) := by
  unfold mf_287_L79
  exact mq_K_L (fun s M h => mq_K_call mk_287_b79 h rfl) mq_kp_refl
def mw_287_b60 : List (Nat × Option Nat) := []
theorem mk_287_b60 {v1 : Int32} {v2 : Int32} {v3 : Int32} {M : mm_M} : mq_K mw_287_b60 M (mf_287_b60 v1 v2 v3 M) := by
  unfold mf_287_b60
  exact mq_K_ite (fun hc => mq_K_ret mq_kp_refl) (fun _ => mq_K_B (mq_K_call mk_257 mq_kp_refl rfl) (fun _ M2 hM2 => mq_K_B (mq_K_call mk_259 hM2 rfl) (fun _ M4 hM4 => mq_K_B (mq_K_call mk_287_L79 hM4 rfl) (fun _ M5 hM5 => mq_K_ret hM5))))
def mw_287_L60 : List (Nat × Option Nat) := []
theorem mk_287_L60 {v1 : Int32} {s : Int32 × Int32} {M : mm_M} : mq_K mw_287_L60 M (mf_287_L60 v1 s M) := by
  unfold mf_287_L60
  exact mq_K_L (fun s M h => mq_K_call mk_287_b60 h rfl) mq_kp_refl
def mw_287_j185 : List (Nat × Option Nat) := [(107, none)]
theorem mk_287_j185 {v1 : Int32} {v2 : Int32} {M : mm_M} : mq_K mw_287_j185 M (mf_287_j185 v1 v2 M) := by
  unfold mf_287_j185
  exact mq_K_ite (fun hc => mq_K_ret (mq_kp_pi mq_kp_refl rfl)) (fun _ => mq_K_none)
def mw_287_b35 : List (Nat × Option Nat) := [(107, none)]
theorem mk_287_b35 {v1 : Int32} {M : mm_M} : mq_K mw_287_b35 M (mf_287_b35 v1 M) := by
  unfold mf_287_b35
  exact mq_K_ite (fun hc => mq_K_ret mq_kp_refl) (fun _ => mq_K_ite (fun hc => mq_K_B (mq_K_call mk_286 mq_kp_refl rfl) (fun _ M2 hM2 => mq_K_ite (fun hc => mq_K_B (mq_K_call mk_287_L60 hM2 rfl) (fun _ M3 hM3 => mq_K_call mk_287_j185 hM3 rfl)) (fun _ => mq_K_none))) (fun _ => mq_K_none))
def mw_287_L35 : List (Nat × Option Nat) := [(107, none)]
theorem mk_287_L35 {s : Int32} {M : mm_M} : mq_K mw_287_L35 M (mf_287_L35 s M) := by
  unfold mf_287_L35
  exact mq_K_L (fun s M h => mq_K_call mk_287_b35 h rfl) mq_kp_refl
def mw_287_j198 : List (Nat × Option Nat) := []
theorem mk_287_j198 {M : mm_M} : mq_K mw_287_j198 M (mf_287_j198 M) := by
  unfold mf_287_j198
  exact mq_K_ite (fun hc => mq_K_ret mq_kp_refl) (fun _ => mq_K_none)
def mw_287 : List (Nat × Option Nat) := [(84, some 0), (107, none)]
theorem mk_287 {M : mm_M} : mq_K mw_287 M (mf_287 M) := by
  unfold mf_287
  exact mq_K_ite (fun hc => mq_K_ret (mq_kp_pi mq_kp_refl rfl)) (fun _ => mq_K_ite (fun hc => mq_K_B (mq_K_call mk_287_L35 (mq_kp_pi (mq_kp_pi mq_kp_refl rfl) rfl) rfl) (fun _ M1 hM1 => mq_K_call mk_287_j198 hM1 rfl)) (fun _ => mq_K_none))
-- 35: PlainPacks.weigh
def mw_35_b18 : List (Nat × Option Nat) := [(82, none)]
theorem mk_35_b18 {v1 : Int32} {M : mm_M} : mq_K mw_35_b18 M (mf_35_b18 v1 M) := by
  unfold mf_35_b18
  exact mq_K_ite (fun hc => mq_K_ite (fun hc => mq_K_ite (fun hc => mq_K_ite (fun hc => mq_K_ret (mq_kp_pi mq_kp_refl rfl)) (fun _ => mq_K_none)) (fun _ => mq_K_none)) (fun _ => mq_K_none)) (fun _ => mq_K_ret mq_kp_refl)
def mw_35_L18 : List (Nat × Option Nat) := [(82, none)]
theorem mk_35_L18 {s : Int32} {M : mm_M} : mq_K mw_35_L18 M (mf_35_L18 s M) := by
  unfold mf_35_L18
  exact mq_K_L (fun s M h => mq_K_call mk_35_b18 h rfl) mq_kp_refl
def mw_35_b57 : List (Nat × Option Nat) := []
theorem mk_35_b57 {v1 : Int32} {v2 : Int32} {M : mm_M} : mq_K mw_35_b57 M (mf_35_b57 v1 v2 M) := by
  unfold mf_35_b57
  exact mq_K_ite (fun hc => mq_K_ite (fun hc => mq_K_ite (fun hc => mq_K_ret mq_kp_refl) (fun _ => mq_K_ret mq_kp_refl)) (fun _ => mq_K_none)) (fun _ => mq_K_ret mq_kp_refl)
def mw_35_L57 : List (Nat × Option Nat) := []
theorem mk_35_L57 {s : Int32 × Int32} {M : mm_M} : mq_K mw_35_L57 M (mf_35_L57 s M) := by
  unfold mf_35_L57
  exact mq_K_L (fun s M h => mq_K_call mk_35_b57 h rfl) mq_kp_refl
def mw_35 : List (Nat × Option Nat) := [(82, none), (83, none)]
theorem mk_35 {M : mm_M} : mq_K mw_35 M (mf_35 M) := by
  unfold mf_35
  exact mq_K_B (mq_K_call mk_290 mq_kp_refl rfl) (fun _ M1 hM1 => mq_K_B (mq_K_call mk_290 hM1 rfl) (fun _ M2 hM2 => mq_K_B (mq_K_call mk_35_L18 hM2 rfl) (fun _ M3 hM3 => mq_K_B (mq_K_call mk_35_L57 hM3 rfl) (fun _ M7 hM7 => mq_K_ret hM7))))
-- 37: PlainPacks.lightest
def mw_37_j42 : List (Nat × Option Nat) := []
theorem mk_37_j42 {v1 : Int32} {v2 : Int32} {v3 : Int32} {v4 : Int32} {s0 : Int32} {M : mm_M} : mq_K mw_37_j42 M (mf_37_j42 v1 v2 v3 v4 s0 M) := by
  unfold mf_37_j42
  exact mq_K_ite (fun hc => mq_K_ret mq_kp_refl) (fun _ => mq_K_ite (fun hc => mq_K_ret mq_kp_refl) (fun _ => mq_K_ite (fun hc => mq_K_ite (fun hc => mq_K_ite (fun hc => mq_K_ret mq_kp_refl) (fun _ => mq_K_ret mq_kp_refl)) (fun _ => mq_K_none)) (fun _ => mq_K_none)))
def mw_37_j41 : List (Nat × Option Nat) := []
theorem mk_37_j41 {v1 : Int32} {v2 : Int32} {v3 : Int32} {v4 : Int32} {M : mm_M} : mq_K mw_37_j41 M (mf_37_j41 v1 v2 v3 v4 M) := by
  unfold mf_37_j41
  exact mq_K_call mk_37_j42 mq_kp_refl rfl
def mw_37_b5 : List (Nat × Option Nat) := []
theorem mk_37_b5 {v1 : Int32} {v2 : Int32} {v3 : Int32} {v4 : Int32} {M : mm_M} : mq_K mw_37_b5 M (mf_37_b5 v1 v2 v3 v4 M) := by
  unfold mf_37_b5
  exact mq_K_ite (fun hc => mq_K_ite (fun hc => mq_K_ite (fun hc => mq_K_ite (fun hc => mq_K_ite (fun hc => mq_K_ite (fun hc => mq_K_call mk_37_j41 mq_kp_refl rfl) (fun _ => mq_K_call mk_37_j42 mq_kp_refl rfl)) (fun _ => mq_K_call mk_37_j41 mq_kp_refl rfl)) (fun _ => mq_K_none)) (fun _ => mq_K_call mk_37_j41 mq_kp_refl rfl)) (fun _ => mq_K_none)) (fun _ => mq_K_ret mq_kp_refl)
def mw_37_L5 : List (Nat × Option Nat) := []
theorem mk_37_L5 {v1 : Int32} {v2 : Int32} {s : Int32 × Int32} {M : mm_M} : mq_K mw_37_L5 M (mf_37_L5 v1 v2 s M) := by
  unfold mf_37_L5
  exact mq_K_L (fun s M h => mq_K_call mk_37_b5 h rfl) mq_kp_refl
def mw_37 : List (Nat × Option Nat) := []
theorem mk_37 {v1 : Int32} {v2 : Int32} {M : mm_M} : mq_K mw_37 M (mf_37 v1 v2 M) := by
  unfold mf_37
  exact mq_K_B (mq_K_call mk_37_L5 mq_kp_refl rfl) (fun _ M1 hM1 => mq_K_ret hM1)
-- 36: PlainPacks.joinAll
def mw_36_b6 : List (Nat × Option Nat) := [(82, none), (83, none)]
theorem mk_36_b6 {v1 : Int32} {v2 : Int32} {v3 : Int32} {M : mm_M} : mq_K mw_36_b6 M (mf_36_b6 v1 v2 v3 M) := by
  unfold mf_36_b6
  exact mq_K_ite (fun hc => mq_K_ite (fun hc => mq_K_B (mq_K_call mk_37 mq_kp_refl rfl) (fun _ M2 hM2 => mq_K_B (mq_K_call mk_37 hM2 rfl) (fun _ M4 hM4 => mq_K_ite (fun hc => mq_K_ret hM4) (fun _ => mq_K_ite (fun hc => mq_K_ret hM4) (fun _ => mq_K_ite (fun hc => mq_K_ite (fun hc => mq_K_ite (fun hc => mq_K_ite (fun hc => mq_K_ite (fun hc => mq_K_ret (mq_kp_pi (mq_kp_pi (mq_kp_pi hM4 rfl) rfl) rfl)) (fun _ => mq_K_none)) (fun _ => mq_K_none)) (fun _ => mq_K_none)) (fun _ => mq_K_none)) (fun _ => mq_K_none)))))) (fun _ => mq_K_ret mq_kp_refl)) (fun _ => mq_K_ret mq_kp_refl)
def mw_36_L6 : List (Nat × Option Nat) := [(82, none), (83, none)]
theorem mk_36_L6 {v1 : Int32} {s : Int32 × Int32} {M : mm_M} : mq_K mw_36_L6 M (mf_36_L6 v1 s M) := by
  unfold mf_36_L6
  exact mq_K_L (fun s M h => mq_K_call mk_36_b6 h rfl) mq_kp_refl
def mw_36 : List (Nat × Option Nat) := [(82, none), (83, none)]
theorem mk_36 {v1 : Int32} {M : mm_M} : mq_K mw_36 M (mf_36 v1 M) := by
  unfold mf_36
  exact mq_K_B (mq_K_call mk_36_L6 mq_kp_refl rfl) (fun _ M1 hM1 => mq_K_sm (fun _ => mq_K_ret hM1) (fun _ => mq_K_ret hM1))
-- 38: PlainPacks.depthOf
def mw_38_b12 : List (Nat × Option Nat) := []
theorem mk_38_b12 {v2 : Int32} {v3 : Int32} {v4 : Int32} {M : mm_M} : mq_K mw_38_b12 M (mf_38_b12 v2 v3 v4 M) := by
  unfold mf_38_b12
  exact mq_K_ite (fun hc => mq_K_ite (fun hc => mq_K_ite (fun hc => mq_K_ret mq_kp_refl) (fun _ => mq_K_none)) (fun _ => mq_K_ret mq_kp_refl)) (fun _ => mq_K_ret mq_kp_refl)
def mw_38_L12 : List (Nat × Option Nat) := []
theorem mk_38_L12 {s : Int32 × Int32 × Int32} {M : mm_M} : mq_K mw_38_L12 M (mf_38_L12 s M) := by
  unfold mf_38_L12
  exact mq_K_L (fun s M h => mq_K_call mk_38_b12 h rfl) mq_kp_refl
def mw_38 : List (Nat × Option Nat) := []
theorem mk_38 {v1 : Int32} {M : mm_M} : mq_K mw_38 M (mf_38 v1 M) := by
  unfold mf_38
  exact mq_K_ite (fun hc => mq_K_B (mq_K_call mk_38_L12 mq_kp_refl rfl) (fun _ M1 hM1 => mq_K_ret hM1)) (fun _ => mq_K_none)
-- 23: PlainPacks.length
def mw_23 : List (Nat × Option Nat) := [(82, none), (83, none)]
theorem mk_23 {v1 : Int32} {M : mm_M} : mq_K mw_23 M (mf_23 v1 M) := by
  unfold mf_23
  exact mq_K_ite (fun hc => mq_K_ret (mq_kp_th mq_kp_refl)) (fun _ => mq_K_ite (fun hc => mq_K_ret (mq_kp_th mq_kp_refl)) (fun _ => mq_K_B (mq_K_call mk_35 mq_kp_refl rfl) (fun _ M2 hM2 => mq_K_ite (fun hc => mq_K_ite (fun hc => mq_K_ret hM2) (fun _ => mq_K_ite (fun hc => mq_K_ret hM2) (fun _ => mq_K_B (mq_K_call mk_36 hM2 rfl) (fun _ M3 hM3 => mq_K_B (mq_K_call mk_38 hM3 rfl) (fun _ M5 hM5 => mq_K_ret hM5))))) (fun _ => mq_K_none))))
-- 288: PlainPacksModel.lightest
def mw_288_b4 : List (Nat × Option Nat) := []
theorem mk_288_b4 {v1 : Int32} {v2 : Int32} {v3 : Int32} {M : mm_M} : mq_K mw_288_b4 M (mf_288_b4 v1 v2 v3 M) := by
  unfold mf_288_b4
  exact mq_K_ite (fun hc => mq_K_ite (fun hc => mq_K_ite (fun hc => mq_K_ite (fun hc => mq_K_ite (fun hc => mq_K_ite (fun hc => mq_K_ret mq_kp_refl) (fun _ => mq_K_ite (fun hc => mq_K_ite (fun hc => mq_K_ite (fun hc => mq_K_ret mq_kp_refl) (fun _ => mq_K_ret mq_kp_refl)) (fun _ => mq_K_none)) (fun _ => mq_K_none))) (fun _ => mq_K_ret mq_kp_refl)) (fun _ => mq_K_none)) (fun _ => mq_K_ret mq_kp_refl)) (fun _ => mq_K_none)) (fun _ => mq_K_ret mq_kp_refl)
def mw_288_L4 : List (Nat × Option Nat) := []
theorem mk_288_L4 {v1 : Int32} {s : Int32 × Int32} {M : mm_M} : mq_K mw_288_L4 M (mf_288_L4 v1 s M) := by
  unfold mf_288_L4
  exact mq_K_L (fun s M h => mq_K_call mk_288_b4 h rfl) mq_kp_refl
def mw_288 : List (Nat × Option Nat) := []
theorem mk_288 {v1 : Int32} {M : mm_M} : mq_K mw_288 M (mf_288 v1 M) := by
  unfold mf_288
  exact mq_K_B (mq_K_call mk_288_L4 mq_kp_refl rfl) (fun _ M1 hM1 => mq_K_ret hM1)
-- 289: PlainPacksModel.length
def mw_289_b27 : List (Nat × Option Nat) := [(108, none), (109, none)]
theorem mk_289_b27 {v1 : Int32} {v2 : Int32} {M : mm_M} : mq_K mw_289_b27 M (mf_289_b27 v1 v2 M) := by
  unfold mf_289_b27
  exact mq_K_ite (fun hc => mq_K_ite (fun hc => mq_K_ite (fun hc => mq_K_ret (mq_kp_pi (mq_kp_pi mq_kp_refl rfl) rfl)) (fun _ => mq_K_none)) (fun _ => mq_K_none)) (fun _ => mq_K_ret mq_kp_refl)
def mw_289_L27 : List (Nat × Option Nat) := [(108, none), (109, none)]
theorem mk_289_L27 {v1 : Int32} {s : Int32} {M : mm_M} : mq_K mw_289_L27 M (mf_289_L27 v1 s M) := by
  unfold mf_289_L27
  exact mq_K_L (fun s M h => mq_K_call mk_289_b27 h rfl) mq_kp_refl
def mw_289_b56 : List (Nat × Option Nat) := [(108, none)]
theorem mk_289_b56 {v1 : Int32} {v2 : Int32} {M : mm_M} : mq_K mw_289_b56 M (mf_289_b56 v1 v2 M) := by
  unfold mf_289_b56
  exact mq_K_ite (fun hc => mq_K_ite (fun hc => mq_K_ite (fun hc => mq_K_ite (fun hc => mq_K_ret (mq_kp_pi mq_kp_refl rfl)) (fun _ => mq_K_none)) (fun _ => mq_K_none)) (fun _ => mq_K_none)) (fun _ => mq_K_ret mq_kp_refl)
def mw_289_L56 : List (Nat × Option Nat) := [(108, none)]
theorem mk_289_L56 {v1 : Int32} {s : Int32} {M : mm_M} : mq_K mw_289_L56 M (mf_289_L56 v1 s M) := by
  unfold mf_289_L56
  exact mq_K_L (fun s M h => mq_K_call mk_289_b56 h rfl) mq_kp_refl
def mw_289_j139 : List (Nat × Option Nat) := [(108, none), (109, none)]
theorem mk_289_j139 {v1 : Int32} {v2 : Int32} {v4 : Int32} {v5 : Int32} {s0 : Int32} {M : mm_M} : mq_K mw_289_j139 M (mf_289_j139 v1 v2 v4 v5 s0 M) := by
  unfold mf_289_j139
  exact mq_K_ite (fun hc => mq_K_ret mq_kp_refl) (fun _ => mq_K_ite (fun hc => mq_K_ite (fun hc => mq_K_ite (fun hc => mq_K_ite (fun hc => mq_K_ret (mq_kp_pi (mq_kp_pi mq_kp_refl rfl) rfl)) (fun _ => mq_K_none)) (fun _ => mq_K_none)) (fun _ => mq_K_none)) (fun _ => mq_K_none))
def mw_289_b102 : List (Nat × Option Nat) := [(108, none), (109, none)]
theorem mk_289_b102 {v1 : Int32} {v2 : Int32} {v3 : Int32} {M : mm_M} : mq_K mw_289_b102 M (mf_289_b102 v1 v2 v3 M) := by
  unfold mf_289_b102
  exact mq_K_ite (fun hc => mq_K_ret mq_kp_refl) (fun _ => mq_K_B (mq_K_call mk_288 mq_kp_refl rfl) (fun _ M2 hM2 => mq_K_ite (fun hc => mq_K_B (mq_K_call mk_288 (mq_kp_pi hM2 rfl) rfl) (fun _ M4 hM4 => mq_K_ite (fun hc => mq_K_call mk_289_j139 hM4 rfl) (fun _ => mq_K_call mk_289_j139 hM4 rfl))) (fun _ => mq_K_none)))
def mw_289_L102 : List (Nat × Option Nat) := [(108, none), (109, none)]
theorem mk_289_L102 {v1 : Int32} {s : Int32 × Int32} {M : mm_M} : mq_K mw_289_L102 M (mf_289_L102 v1 s M) := by
  unfold mf_289_L102
  exact mq_K_L (fun s M h => mq_K_call mk_289_b102 h rfl) mq_kp_refl
def mw_289_b203 : List (Nat × Option Nat) := []
theorem mk_289_b203 {v4 : Int32} {v5 : Int32} {M : mm_M} : mq_K mw_289_b203 M (mf_289_b203 v4 v5 M) := by
  unfold mf_289_b203
  exact mq_K_ite (fun hc => mq_K_ite (fun hc => mq_K_ite (fun hc => mq_K_ret mq_kp_refl) (fun _ => mq_K_none)) (fun _ => mq_K_ret mq_kp_refl)) (fun _ => mq_K_none)
def mw_289_L203 : List (Nat × Option Nat) := []
theorem mk_289_L203 {s : Int32 × Int32} {M : mm_M} : mq_K mw_289_L203 M (mf_289_L203 s M) := by
  unfold mf_289_L203
  exact mq_K_L (fun s M h => mq_K_call mk_289_b203 h rfl) mq_kp_refl
def mw_289_j179 : List (Nat × Option Nat) := [(109, none)]
theorem mk_289_j179 {v1 : Int32} {v2 : Int32} {M : mm_M} : mq_K mw_289_j179 M (mf_289_j179 v1 v2 M) := by
  unfold mf_289_j179
  exact mq_K_ite (fun hc => mq_K_ret mq_kp_refl) (fun _ => mq_K_ite (fun hc => mq_K_B (mq_K_call mk_289_L203 (mq_kp_pi mq_kp_refl rfl) rfl) (fun _ M1 hM1 => mq_K_ret hM1)) (fun _ => mq_K_none))
def mw_289_j85 : List (Nat × Option Nat) := [(108, none), (109, none)]
theorem mk_289_j85 {v1 : Int32} {M : mm_M} : mq_K mw_289_j85 M (mf_289_j85 v1 M) := by
  unfold mf_289_j85
  exact mq_K_ite (fun hc => mq_K_ite (fun hc => mq_K_ret mq_kp_refl) (fun _ => mq_K_B (mq_K_call mk_289_L102 mq_kp_refl rfl) (fun _ M1 hM1 => mq_K_call mk_289_j179 hM1 rfl))) (fun _ => mq_K_none)
def mw_289_j17 : List (Nat × Option Nat) := [(84, some 0), (108, none), (109, none)]
theorem mk_289_j17 {v1 : Int32} {s1 : Int32} {M : mm_M} : mq_K mw_289_j17 M (mf_289_j17 v1 s1 M) := by
  unfold mf_289_j17
  exact mq_K_B (mq_K_call mk_174 mq_kp_refl rfl) (fun _ M2 hM2 => mq_K_ite (fun hc => mq_K_ret hM2) (fun _ => mq_K_B (mq_K_call mk_289_L27 hM2 rfl) (fun _ M3 hM3 => mq_K_B (mq_K_call mk_289_L56 hM3 rfl) (fun _ M9 hM9 => mq_K_call mk_289_j85 hM9 rfl))))
def mw_289_j16 : List (Nat × Option Nat) := [(84, some 0), (108, none), (109, none)]
theorem mk_289_j16 {v1 : Int32} {M : mm_M} : mq_K mw_289_j16 M (mf_289_j16 v1 M) := by
  unfold mf_289_j16
  exact mq_K_call mk_289_j17 mq_kp_refl rfl
def mw_289 : List (Nat × Option Nat) := [(84, some 0), (108, none), (109, none)]
theorem mk_289 {v1 : Int32} {M : mm_M} : mq_K mw_289 M (mf_289 v1 M) := by
  unfold mf_289
  exact mq_K_ite (fun hc => mq_K_call mk_289_j16 mq_kp_refl rfl) (fun _ => mq_K_ite (fun hc => mq_K_call mk_289_j16 mq_kp_refl rfl) (fun _ => mq_K_call mk_289_j17 mq_kp_refl rfl))
-- 24: PlainPacks.turning
def mw_24 : List (Nat × Option Nat) := [(7, some 5), (7, some 6), (8, none), (9, none), (10, none), (11, none), (12, none)]
theorem mk_24 {v1 : Int32} {M : mm_M} : mq_K mw_24 M (mf_24 v1 M) := by
  unfold mf_24
  exact mq_K_ite (fun hc => mq_K_ret (mq_kp_th mq_kp_refl)) (fun _ => mq_K_ite (fun hc => mq_K_ite (fun hc => mq_K_ret mq_kp_refl) (fun _ => mq_K_B (mq_K_call mk_66 mq_kp_refl rfl) (fun _ M1 hM1 => mq_K_ite (fun hc => mq_K_ret hM1) (fun _ => mq_K_none)))) (fun _ => mq_K_ret (mq_kp_th mq_kp_refl)))
-- 274: PlainPacksModel.turning
def mw_274_b40 : List (Nat × Option Nat) := [(102, none)]
theorem mk_274_b40 {v1 : Int32} {v2 : Int32} {M : mm_M} : mq_K mw_274_b40 M (mf_274_b40 v1 v2 M) := by
  unfold mf_274_b40
  exact mq_K_ite (fun hc => mq_K_ite (fun hc => mq_K_ite (fun hc => mq_K_ret (mq_kp_pi mq_kp_refl rfl)) (fun _ => mq_K_none)) (fun _ => mq_K_none)) (fun _ => mq_K_ret mq_kp_refl)
def mw_274_L40 : List (Nat × Option Nat) := [(102, none)]
theorem mk_274_L40 {v1 : Int32} {s : Int32} {M : mm_M} : mq_K mw_274_L40 M (mf_274_L40 v1 s M) := by
  unfold mf_274_L40
  exact mq_K_L (fun s M h => mq_K_call mk_274_b40 h rfl) mq_kp_refl
def mw_274_j66 : List (Nat × Option Nat) := [(103, none), (104, none), (105, none), (106, none)]
theorem mk_274_j66 {v1 : Int32} {M : mm_M} : mq_K mw_274_j66 M (mf_274_j66 v1 M) := by
  unfold mf_274_j66
  exact mq_K_B (mq_K_call mk_273 mq_kp_refl rfl) (fun _ M1 hM1 => mq_K_ite (fun hc => mq_K_ret hM1) (fun _ => mq_K_none))
def mw_274_j18 : List (Nat × Option Nat) := [(84, some 0), (102, none), (103, none), (104, none), (105, none), (106, none)]
theorem mk_274_j18 {v1 : Int32} {s1 : Int32} {M : mm_M} : mq_K mw_274_j18 M (mf_274_j18 v1 s1 M) := by
  unfold mf_274_j18
  exact mq_K_B (mq_K_call mk_174 mq_kp_refl rfl) (fun _ M2 hM2 => mq_K_ite (fun hc => mq_K_ret hM2) (fun _ => mq_K_ite (fun hc => mq_K_ret hM2) (fun _ => mq_K_B (mq_K_call mk_274_L40 hM2 rfl) (fun _ M3 hM3 => mq_K_call mk_274_j66 hM3 rfl))))
def mw_274_j17 : List (Nat × Option Nat) := [(84, some 0), (102, none), (103, none), (104, none), (105, none), (106, none)]
theorem mk_274_j17 {v1 : Int32} {M : mm_M} : mq_K mw_274_j17 M (mf_274_j17 v1 M) := by
  unfold mf_274_j17
  exact mq_K_call mk_274_j18 mq_kp_refl rfl
def mw_274 : List (Nat × Option Nat) := [(84, some 0), (102, none), (103, none), (104, none), (105, none), (106, none)]
theorem mk_274 {v1 : Int32} {M : mm_M} : mq_K mw_274 M (mf_274 v1 M) := by
  unfold mf_274
  exact mq_K_ite (fun hc => mq_K_call mk_274_j17 mq_kp_refl rfl) (fun _ => mq_K_ite (fun hc => mq_K_call mk_274_j18 mq_kp_refl rfl) (fun _ => mq_K_call mk_274_j17 mq_kp_refl rfl))
-- 25: PlainPacks.count
def mw_25 : List (Nat × Option Nat) := []
theorem mk_25 {v1 : Int32} {M : mm_M} : mq_K mw_25 M (mf_25 v1 M) := by
  unfold mf_25
  exact mq_K_ite (fun hc => mq_K_ret mq_kp_refl) (fun _ => mq_K_ite (fun hc => mq_K_ret mq_kp_refl) (fun _ => mq_K_ret (mq_kp_th mq_kp_refl)))
-- 179: PlainPacksModel.count
def mw_179_j15 : List (Nat × Option Nat) := [(84, some 0)]
theorem mk_179_j15 {v1 : Int32} {s1 : Int32} {M : mm_M} : mq_K mw_179_j15 M (mf_179_j15 v1 s1 M) := by
  unfold mf_179_j15
  exact mq_K_B (mq_K_call mk_174 mq_kp_refl rfl) (fun _ M2 hM2 => mq_K_ite (fun hc => mq_K_ret hM2) (fun _ => mq_K_ite (fun hc => mq_K_ret hM2) (fun _ => mq_K_ret hM2)))
def mw_179 : List (Nat × Option Nat) := [(84, some 0)]
theorem mk_179 {v1 : Int32} {M : mm_M} : mq_K mw_179 M (mf_179 v1 M) := by
  unfold mf_179
  exact mq_K_ite (fun hc => mq_K_call mk_179_j15 mq_kp_refl rfl) (fun _ => mq_K_ite (fun hc => mq_K_call mk_179_j15 mq_kp_refl rfl) (fun _ => mq_K_call mk_179_j15 mq_kp_refl rfl))
