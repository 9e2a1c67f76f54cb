/-! WHAT IS KEPT 3 -/
-- 208: PlainPacksModel.lettersTo
def mw_208 : List (Nat × Option Nat) := [(84, some 4), (84, some 5), (84, some 7), (84, some 8), (84, some 9), (84, some 10), (84, some 11), (84, some 14), (84, some 15), (86, none)]
theorem mk_208_j158 {v1 : Int32} {v2 : Int32} {v4 : Int32} {s0 : Int32} {M0 M : mm_M} (h : mq_kp mw_208 M0 M) : mq_K mw_208 M0 (mf_208_j158 v1 v2 v4 s0 M) := by
  unfold mf_208_j158
  exact mq_K_B (mq_K_call mk_198 h rfl) (fun _ M2 hM2 => mq_K_B (mq_K_call mk_209 hM2 rfl) (fun _ M3 hM3 => mq_K_ret hM3))
theorem mk_208_j114 {v1 : Int32} {v2 : Int32} {v3 : Int32} {s0 : Int32} {M0 M : mm_M} (h : mq_kp mw_208 M0 M) : mq_K mw_208 M0 (mf_208_j114 v1 v2 v3 s0 M) := by
  unfold mf_208_j114
  exact mq_K_ite (fun hc => mk_208_j158 h) (fun _ => mq_K_ite (fun hc => mk_208_j158 h) (fun _ => mk_208_j158 h))
theorem mk_208_b2 {v1 : Int32} {v2 : Int32} {M0 M : mm_M} (h : mq_kp mw_208 M0 M) : mq_K mw_208 M0 (mf_208_b2 v1 v2 M) := by
  unfold mf_208_b2
  exact mq_K_ite (fun hc => mq_K_ret h) (fun _ => mq_K_ite (fun hc => mq_K_B (mq_K_call mk_202 h rfl) (fun _ M2 hM2 => mq_K_ite (fun hc => mq_K_ite (fun hc => mq_K_B (mq_K_call mk_194 hM2 rfl) (fun _ M4 hM4 => mq_K_ite (fun hc => mq_K_ret (mq_kp_pi hM4 rfl)) (fun _ => mq_K_ret (mq_kp_pi hM4 rfl)))) (fun _ => mq_K_ite (fun hc => mq_K_ret hM2) (fun _ => mq_K_ite (fun hc => mq_K_B (mq_K_call mk_190 hM2 rfl) (fun _ M5 hM5 => mq_K_ret hM5)) (fun _ => mq_K_ite (fun hc => mk_208_j114 hM2) (fun _ => mq_K_ite (fun hc => mk_208_j114 hM2) (fun _ => mk_208_j114 hM2)))))) (fun _ => mq_K_ret hM2))) (fun _ => mq_K_ret h))
theorem mk_208_L2 {v1 : Int32} {s : Int32} {M0 M : mm_M} (h : mq_kp mw_208 M0 M) : mq_K mw_208 M0 (mf_208_L2 v1 s M) := by
  unfold mf_208_L2
  exact mq_K_L (fun s M h => mk_208_b2 h) h
theorem mk_208 {v1 : Int32} {M : mm_M} : mq_K mw_208 M (mf_208 v1 M) := by
  unfold mf_208
  exact mq_K_B (mk_208_L2 mq_kp_refl) (fun _ M1 hM1 => mq_K_sm (fun _ => mq_K_ret hM1) (fun _ => mq_K_ret hM1))
-- 203: PlainPacksModel.blocksTo
def mw_203 : List (Nat × Option Nat) := [(84, some 4), (84, some 5), (84, some 7), (84, some 8), (84, some 9), (84, some 10), (84, some 11), (84, some 12), (84, some 13), (84, some 14), (84, some 15), (84, some 20), (84, some 21), (86, none), (87, none), (88, none), (90, none)]
theorem mk_203_j107 {v1 : Int32} {v2 : Int32} {M0 M : mm_M} (h : mq_kp mw_203 M0 M) : mq_K mw_203 M0 (mf_203_j107 v1 v2 M) := by
  unfold mf_203_j107
  exact mq_K_B (mq_K_call mk_208 h rfl) (fun _ M1 hM1 => mq_K_ret hM1)
theorem mk_203_j62 {v1 : Int32} {v2 : Int32} {v3 : Int32} {M0 M : mm_M} (h : mq_kp mw_203 M0 M) : mq_K mw_203 M0 (mf_203_j62 v1 v2 v3 M) := by
  unfold mf_203_j62
  exact mq_K_ite (fun hc => mq_K_ite (fun hc => mq_K_B (mq_K_call mk_204 (mq_kp_pi h rfl) rfl) (fun _ M1 hM1 => mq_K_ret hM1)) (fun _ => mq_K_ite (fun hc => mq_K_B (mq_K_call mk_205 (mq_kp_pi h rfl) rfl) (fun _ M2 hM2 => mk_203_j107 hM2)) (fun _ => mq_K_B (mq_K_call mk_206 (mq_kp_pi h rfl) rfl) (fun _ M3 hM3 => mk_203_j107 hM3)))) (fun _ => mq_K_ret h)
theorem mk_203_j38 {v1 : Int32} {s0 : Int32} {M0 M : mm_M} (h : mq_kp mw_203 M0 M) : mq_K mw_203 M0 (mf_203_j38 v1 s0 M) := by
  unfold mf_203_j38
  exact mq_K_B (mq_K_call mk_198 h rfl) (fun _ M2 hM2 => mq_K_ite (fun hc => mq_K_ite (fun hc => mq_K_B (mq_K_call mk_190 hM2 rfl) (fun _ M3 hM3 => mk_203_j62 hM3)) (fun _ => mk_203_j62 hM2)) (fun _ => mk_203_j62 hM2))
theorem mk_203_b12 {v1 : Int32} {v2 : Int32} {M0 M : mm_M} (h : mq_kp mw_203 M0 M) : mq_K mw_203 M0 (mf_203_b12 v1 v2 M) := by
  unfold mf_203_b12
  exact mq_K_ite (fun hc => mq_K_ite (fun hc => mq_K_B (mq_K_call mk_198 h rfl) (fun _ M2 hM2 => mq_K_ite (fun hc => mk_203_j38 hM2) (fun _ => mk_203_j38 hM2))) (fun _ => mq_K_ret h)) (fun _ => mq_K_ret h)
theorem mk_203_L12 {v1 : Int32} {s : Int32} {M0 M : mm_M} (h : mq_kp mw_203 M0 M) : mq_K mw_203 M0 (mf_203_L12 v1 s M) := by
  unfold mf_203_L12
  exact mq_K_L (fun s M h => mk_203_b12 h) h
theorem mk_203 {v1 : Int32} {M : mm_M} : mq_K mw_203 M (mf_203 v1 M) := by
  unfold mf_203
  exact mq_K_B (mk_203_L12 (mq_kp_pi (mq_kp_pi mq_kp_refl rfl) rfl)) (fun _ M1 hM1 => mq_K_sm (fun _ => mq_K_ret hM1) (fun _ => mq_K_ret (mq_kp_pi hM1 rfl)))
-- 184: PlainPacksModel.adler
def mw_184 (p : Nat) : List (Nat × Option Nat) := []
theorem mk_184_b8 {p : Nat} {n : Nat} {v2 : Int32} {v3 : Int32} {v4 : Int32} {v5 : Int32} {M0 M : mm_M} (h : mq_kp (mw_184 p) M0 M) : mq_K (mw_184 p) M0 (mf_184_b8 p n v2 v3 v4 v5 M) := by
  unfold mf_184_b8
  exact mq_K_ite (fun hc => mq_K_ite (fun hc => mq_K_ret h) (fun _ => mq_K_none)) (fun _ => mq_K_ret h)
theorem mk_184_L8 {p : Nat} {n : Nat} {v2 : Int32} {s : Int32 × Int32 × Int32} {M0 M : mm_M} (h : mq_kp (mw_184 p) M0 M) : mq_K (mw_184 p) M0 (mf_184_L8 p n v2 s M) := by
  unfold mf_184_L8
  exact mq_K_L (fun s M h => mk_184_b8 h) h
theorem mk_184 {p : Nat} {n : Nat} {v1 : Int32} {v2 : Int32} {M : mm_M} : mq_K (mw_184 p) M (mf_184 p n v1 v2 M) := by
  unfold mf_184
  exact mq_K_B (mk_184_L8 mq_kp_refl) (fun _ M1 hM1 => mq_K_ret hM1)
-- 210: PlainPacksModel.wrapped
def mw_210 : List (Nat × Option Nat) := [(84, some 4), (84, some 5), (84, some 7), (84, some 8), (84, some 9), (84, some 10), (84, some 11), (84, some 12), (84, some 13), (84, some 14), (84, some 15), (84, some 20), (84, some 21), (86, none), (87, none), (88, none), (90, none)]
theorem mk_210_b77 {v3 : Int32} {v4 : Int32} {M0 M : mm_M} (h : mq_kp mw_210 M0 M) : mq_K mw_210 M0 (mf_210_b77 v3 v4 M) := by
  unfold mf_210_b77
  exact mq_K_ite (fun hc => mq_K_B (mq_K_call mk_191 h rfl) (fun _ M2 hM2 => mq_K_ret hM2)) (fun _ => mq_K_ret h)
theorem mk_210_L77 {s : Int32 × Int32} {M0 M : mm_M} (h : mq_kp mw_210 M0 M) : mq_K mw_210 M0 (mf_210_L77 s M) := by
  unfold mf_210_L77
  exact mq_K_L (fun s M h => mk_210_b77 h) h
theorem mk_210_j99 {v3 : Int32} {M0 M : mm_M} (h : mq_kp mw_210 M0 M) : mq_K mw_210 M0 (mf_210_j99 v3 M) := by
  unfold mf_210_j99
  exact mq_K_ite (fun hc => mq_K_B (mq_K_call mk_184 h rfl) (fun _ M2 hM2 => mq_K_ite (fun hc => mq_K_ret hM2) (fun _ => mq_K_B (mq_K_call mk_190 hM2 rfl) (fun _ M3 hM3 => mq_K_ret hM3)))) (fun _ => mq_K_ret h)
theorem mk_210_j59 {v1 : Int32} {M0 M : mm_M} (h : mq_kp mw_210 M0 M) : mq_K mw_210 M0 (mf_210_j59 v1 M) := by
  unfold mf_210_j59
  exact mq_K_B (mq_K_call mk_203 h rfl) (fun _ M1 hM1 => mq_K_B (mk_210_L77 hM1) (fun _ M2 hM2 => mk_210_j99 hM2))
theorem mk_210_j55 {v1 : Int32} {M0 M : mm_M} (h : mq_kp mw_210 M0 M) : mq_K mw_210 M0 (mf_210_j55 v1 M) := by
  unfold mf_210_j55
  exact mq_K_B (mq_K_call mk_190 h rfl) (fun _ M1 hM1 => mk_210_j59 hM1)
theorem mk_210 {M : mm_M} : mq_K mw_210 M (mf_210 M) := by
  unfold mf_210
  exact mq_K_B (mq_K_call mk_191 mq_kp_refl rfl) (fun _ M2 hM2 => mq_K_B (mq_K_call mk_191 hM2 rfl) (fun _ M4 hM4 => mq_K_ite (fun hc => mq_K_ite (fun hc => mq_K_ite (fun hc => mk_210_j55 hM4) (fun _ => mq_K_ite (fun hc => mq_K_ite (fun hc => mk_210_j59 hM4) (fun _ => mk_210_j55 hM4)) (fun _ => mk_210_j55 hM4))) (fun _ => mk_210_j55 hM4)) (fun _ => mk_210_j59 hM4)))
-- 192: PlainPacksModel.want
def mw_192 : List (Nat × Option Nat) := [(84, some 5), (84, some 7)]
theorem mk_192 {v1 : Int32} {M : mm_M} : mq_K mw_192 M (mf_192 v1 M) := by
  unfold mf_192
  exact mq_K_B (mq_K_call mk_191 mq_kp_refl rfl) (fun _ M2 hM2 => mq_K_ite (fun hc => mq_K_ite (fun hc => mq_K_ret hM2) (fun _ => mq_K_B (mq_K_call mk_190 hM2 rfl) (fun _ M3 hM3 => mq_K_ret hM3))) (fun _ => mq_K_ret hM2))
-- 211: PlainPacksModel.toZero
def mw_211 : List (Nat × Option Nat) := [(84, some 5), (84, some 7)]
theorem mk_211_b2 {v1 : Int32} {M0 M : mm_M} (h : mq_kp mw_211 M0 M) : mq_K mw_211 M0 (mf_211_b2 v1 M) := by
  unfold mf_211_b2
  exact mq_K_ite (fun hc => mq_K_ret h) (fun _ => mq_K_ite (fun hc => mq_K_B (mq_K_call mk_191 h rfl) (fun _ M2 hM2 => mq_K_ret hM2)) (fun _ => mq_K_ret h))
theorem mk_211_L2 {s : Int32} {M0 M : mm_M} (h : mq_kp mw_211 M0 M) : mq_K mw_211 M0 (mf_211_L2 s M) := by
  unfold mf_211_L2
  exact mq_K_L (fun s M h => mk_211_b2 h) h
theorem mk_211 {M : mm_M} : mq_K mw_211 M (mf_211 M) := by
  unfold mf_211
  exact mq_K_B (mk_211_L2 mq_kp_refl) (fun _ M1 hM1 => mq_K_ret hM1)
-- 182: PlainPacksModel.crc
def mw_182 (p : Nat) : List (Nat × Option Nat) := []
theorem mk_182_b21 {p : Nat} {n : Nat} {v2 : Int32} {v3 : Int32} {v4 : Int32} {v5 : Int32} {M0 M : mm_M} (h : mq_kp (mw_182 p) M0 M) : mq_K (mw_182 p) M0 (mf_182_b21 p n v2 v3 v4 v5 M) := by
  unfold mf_182_b21
  exact mq_K_ite (fun hc => mq_K_ite (fun hc => mq_K_ret h) (fun _ => mq_K_ret h)) (fun _ => mq_K_ret h)
theorem mk_182_L21 {p : Nat} {n : Nat} {v2 : Int32} {v4 : Int32} {s : Int32 × Int32} {M0 M : mm_M} (h : mq_kp (mw_182 p) M0 M) : mq_K (mw_182 p) M0 (mf_182_L21 p n v2 v4 s M) := by
  unfold mf_182_L21
  exact mq_K_L (fun s M h => mk_182_b21 h) h
theorem mk_182_b5 {p : Nat} {n : Nat} {v2 : Int32} {v3 : Int32} {v4 : Int32} {M0 M : mm_M} (h : mq_kp (mw_182 p) M0 M) : mq_K (mw_182 p) M0 (mf_182_b5 p n v2 v3 v4 M) := by
  unfold mf_182_b5
  exact mq_K_ite (fun hc => mq_K_ite (fun hc => mq_K_B (mk_182_L21 h) (fun _ M1 hM1 => mq_K_ret hM1)) (fun _ => mq_K_none)) (fun _ => mq_K_ret h)
theorem mk_182_L5 {p : Nat} {n : Nat} {v2 : Int32} {s : Int32 × Int32} {M0 M : mm_M} (h : mq_kp (mw_182 p) M0 M) : mq_K (mw_182 p) M0 (mf_182_L5 p n v2 s M) := by
  unfold mf_182_L5
  exact mq_K_L (fun s M h => mk_182_b5 h) h
theorem mk_182 {p : Nat} {n : Nat} {v1 : Int32} {v2 : Int32} {M : mm_M} : mq_K (mw_182 p) M (mf_182 p n v1 v2 M) := by
  unfold mf_182
  exact mq_K_B (mk_182_L5 mq_kp_refl) (fun _ M1 hM1 => mq_K_ret hM1)
-- 213: PlainPacksModel.sumIs
def mw_213 : List (Nat × Option Nat) := [(84, some 5), (84, some 7)]
theorem mk_213 {v1 : Int32} {M : mm_M} : mq_K mw_213 M (mf_213 v1 M) := by
  unfold mf_213
  exact mq_K_B (mq_K_call mk_193 mq_kp_refl rfl) (fun _ M2 hM2 => mq_K_ite (fun hc => mq_K_ite (fun hc => mq_K_ret hM2) (fun _ => mq_K_B (mq_K_call mk_190 hM2 rfl) (fun _ M3 hM3 => mq_K_ret hM3))) (fun _ => mq_K_ret hM2))
-- 212: PlainPacksModel.file
def mw_212 : List (Nat × Option Nat) := [(84, some 4), (84, some 5), (84, some 7), (84, some 8), (84, some 9), (84, some 10), (84, some 11), (84, some 12), (84, some 13), (84, some 14), (84, some 15), (84, some 20), (84, some 21), (86, none), (87, none), (88, none), (90, none)]
theorem mk_212_b43 {v1 : Int32} {v2 : Int32} {M0 M : mm_M} (h : mq_kp mw_212 M0 M) : mq_K mw_212 M0 (mf_212_b43 v1 v2 M) := by
  unfold mf_212_b43
  exact mq_K_ite (fun hc => mq_K_B (mq_K_call mk_191 h rfl) (fun _ M2 hM2 => mq_K_ret hM2)) (fun _ => mq_K_ret h)
theorem mk_212_L43 {v1 : Int32} {s : Int32} {M0 M : mm_M} (h : mq_kp mw_212 M0 M) : mq_K mw_212 M0 (mf_212_L43 v1 s M) := by
  unfold mf_212_L43
  exact mq_K_L (fun s M h => mk_212_b43 h) h
theorem mk_212_j165 {M0 M : mm_M} (h : mq_kp mw_212 M0 M) : mq_K mw_212 M0 (mf_212_j165 M) := by
  unfold mf_212_j165
  exact mq_K_B (mq_K_call mk_203 h rfl) (fun _ M1 hM1 => mq_K_B (mq_K_call mk_182 hM1 rfl) (fun _ M3 hM3 => mq_K_B (mq_K_call mk_213 hM3 rfl) (fun _ M4 hM4 => mq_K_B (mq_K_call mk_213 hM4 rfl) (fun _ M5 hM5 => mq_K_ret hM5))))
theorem mk_212_j120 {v1 : Int32} {M0 M : mm_M} (h : mq_kp mw_212 M0 M) : mq_K mw_212 M0 (mf_212_j120 v1 M) := by
  unfold mf_212_j120
  exact mq_K_ite (fun hc => mk_212_j165 h) (fun _ => mq_K_B (mq_K_call mk_182 h rfl) (fun _ M2 hM2 => mq_K_B (mq_K_call mk_193 hM2 rfl) (fun _ M4 hM4 => mq_K_ite (fun hc => mq_K_ite (fun hc => mk_212_j165 hM4) (fun _ => mq_K_B (mq_K_call mk_190 hM4 rfl) (fun _ M5 hM5 => mk_212_j165 hM5))) (fun _ => mk_212_j165 hM4))))
theorem mk_212_j109 {v1 : Int32} {M0 M : mm_M} (h : mq_kp mw_212 M0 M) : mq_K mw_212 M0 (mf_212_j109 v1 M) := by
  unfold mf_212_j109
  exact mq_K_ite (fun hc => mk_212_j120 h) (fun _ => mq_K_B (mq_K_call mk_211 h rfl) (fun _ M1 hM1 => mk_212_j120 hM1))
theorem mk_212_j98 {v1 : Int32} {M0 M : mm_M} (h : mq_kp mw_212 M0 M) : mq_K mw_212 M0 (mf_212_j98 v1 M) := by
  unfold mf_212_j98
  exact mq_K_ite (fun hc => mk_212_j109 h) (fun _ => mq_K_B (mq_K_call mk_211 h rfl) (fun _ M1 hM1 => mk_212_j109 hM1))
theorem mk_212_b75 {v1 : Int32} {v2 : Int32} {v3 : Int32} {M0 M : mm_M} (h : mq_kp mw_212 M0 M) : mq_K mw_212 M0 (mf_212_b75 v1 v2 v3 M) := by
  unfold mf_212_b75
  exact mq_K_ite (fun hc => mq_K_ite (fun hc => mq_K_B (mq_K_call mk_191 h rfl) (fun _ M2 hM2 => mq_K_ret hM2)) (fun _ => mq_K_ret h)) (fun _ => mq_K_ret h)
theorem mk_212_L75 {v1 : Int32} {v2 : Int32} {s : Int32} {M0 M : mm_M} (h : mq_kp mw_212 M0 M) : mq_K mw_212 M0 (mf_212_L75 v1 v2 s M) := by
  unfold mf_212_L75
  exact mq_K_L (fun s M h => mk_212_b75 h) h
theorem mk_212_j60 {v1 : Int32} {M0 M : mm_M} (h : mq_kp mw_212 M0 M) : mq_K mw_212 M0 (mf_212_j60 v1 M) := by
  unfold mf_212_j60
  exact mq_K_ite (fun hc => mk_212_j98 h) (fun _ => mq_K_B (mq_K_call mk_193 h rfl) (fun _ M2 hM2 => mq_K_B (mk_212_L75 hM2) (fun _ M3 hM3 => mk_212_j98 hM3)))
theorem mk_212 {M : mm_M} : mq_K mw_212 M (mf_212 M) := by
  unfold mf_212
  exact mq_K_B (mq_K_call mk_192 mq_kp_refl rfl) (fun _ M1 hM1 => mq_K_B (mq_K_call mk_192 hM1 rfl) (fun _ M2 hM2 => mq_K_B (mq_K_call mk_192 hM2 rfl) (fun _ M3 hM3 => mq_K_B (mq_K_call mk_191 hM3 rfl) (fun _ M5 hM5 => mq_K_ite (fun hc => mq_K_ite (fun hc => mq_K_B (mq_K_call mk_190 hM5 rfl) (fun _ M6 hM6 => mq_K_B (mk_212_L43 hM6) (fun _ M7 hM7 => mk_212_j60 hM7))) (fun _ => mq_K_B (mk_212_L43 hM5) (fun _ M11 hM11 => mk_212_j60 hM11))) (fun _ => mq_K_B (mk_212_L43 hM5) (fun _ M15 hM15 => mk_212_j60 hM15))))))
-- 215: PlainPacksModel.words
def mw_215 : List (Nat × Option Nat) := [(84, some 4), (84, some 5), (84, some 7), (84, some 14), (84, some 15), (86, none), (91, none), (92, none)]
theorem mk_215_j214 {v1 : Int32} {v2 : Int32} {v3 : Int32} {v4 : Int32} {v5 : Int32} {v6 : Int32} {v7 : Int32} {v8 : Int32} {v9 : Int32} {v10 : Int32} {s1 : Int32} {M0 M : mm_M} (h : mq_kp mw_215 M0 M) : mq_K mw_215 M0 (mf_215_j214 v1 v2 v3 v4 v5 v6 v7 v8 v9 v10 s1 M) := by
  unfold mf_215_j214
  exact mq_K_B (mq_K_call mk_194 h rfl) (fun _ M2 hM2 => mq_K_ret hM2)
theorem mk_215_b173 {v1 : Int32} {v2 : Int32} {v3 : Int32} {v4 : Int32} {v5 : Int32} {v6 : Int32} {v7 : Int32} {v8 : Int32} {v9 : Int32} {v10 : Int32} {M0 M : mm_M} (h : mq_kp mw_215 M0 M) : mq_K mw_215 M0 (mf_215_b173 v1 v2 v3 v4 v5 v6 v7 v8 v9 v10 M) := by
  unfold mf_215_b173
  exact mq_K_ite (fun hc => mq_K_ite (fun hc => mq_K_ite (fun hc => mk_215_j214 h) (fun _ => mq_K_ite (fun hc => mq_K_ite (fun hc => mk_215_j214 h) (fun _ => mq_K_none)) (fun _ => mq_K_none))) (fun _ => mq_K_ret h)) (fun _ => mq_K_ret h)
theorem mk_215_L173 {v1 : Int32} {v2 : Int32} {v3 : Int32} {v4 : Int32} {v5 : Int32} {v6 : Int32} {v7 : Int32} {v8 : Int32} {v9 : Int32} {s : Int32} {M0 M : mm_M} (h : mq_kp mw_215 M0 M) : mq_K mw_215 M0 (mf_215_L173 v1 v2 v3 v4 v5 v6 v7 v8 v9 s M) := by
  unfold mf_215_L173
  exact mq_K_L (fun s M h => mk_215_b173 h) h
theorem mk_215_j244 {v1 : Int32} {v2 : Int32} {v3 : Int32} {v4 : Int32} {v5 : Int32} {v6 : Int32} {v7 : Int32} {v8 : Int32} {s0 : Int32} {s1 : Int32} {s2 : Int32} {M0 M : mm_M} (h : mq_kp mw_215 M0 M) : mq_K mw_215 M0 (mf_215_j244 v1 v2 v3 v4 v5 v6 v7 v8 s0 s1 s2 M) := by
  unfold mf_215_j244
  exact mq_K_ite (fun hc => mq_K_ret h) (fun _ => mq_K_ret h)
theorem mk_215_j224 {v1 : Int32} {v2 : Int32} {v3 : Int32} {v4 : Int32} {v5 : Int32} {v6 : Int32} {v7 : Int32} {v8 : Int32} {M0 M : mm_M} (h : mq_kp mw_215 M0 M) : mq_K mw_215 M0 (mf_215_j224 v1 v2 v3 v4 v5 v6 v7 v8 M) := by
  unfold mf_215_j224
  exact mq_K_ite (fun hc => mq_K_ite (fun hc => mk_215_j244 h) (fun _ => mk_215_j244 h)) (fun _ => mq_K_ret h)
theorem mk_215_j134 {v1 : Int32} {v2 : Int32} {v3 : Int32} {v4 : Int32} {v5 : Int32} {v8 : Int32} {v9 : Int32} {M0 M : mm_M} (h : mq_kp mw_215 M0 M) : mq_K mw_215 M0 (mf_215_j134 v1 v2 v3 v4 v5 v8 v9 M) := by
  unfold mf_215_j134
  exact mq_K_ite (fun hc => mq_K_B (mk_215_L173 h) (fun _ M1 hM1 => mk_215_j224 hM1)) (fun _ => mq_K_ite (fun hc => mq_K_ite (fun hc => mq_K_B (mk_215_L173 h) (fun _ M5 hM5 => mk_215_j224 hM5)) (fun _ => mq_K_none)) (fun _ => mq_K_B (mk_215_L173 h) (fun _ M9 hM9 => mk_215_j224 hM9)))
theorem mk_215_j123 {v1 : Int32} {v2 : Int32} {v3 : Int32} {v4 : Int32} {v5 : Int32} {v8 : Int32} {v9 : Int32} {M0 M : mm_M} (h : mq_kp mw_215 M0 M) : mq_K mw_215 M0 (mf_215_j123 v1 v2 v3 v4 v5 v8 v9 M) := by
  unfold mf_215_j123
  exact mq_K_ite (fun hc => mk_215_j134 h) (fun _ => mq_K_B (mq_K_call mk_190 h rfl) (fun _ M1 hM1 => mk_215_j134 hM1))
theorem mk_215_b23 {v1 : Int32} {v2 : Int32} {v3 : Int32} {v4 : Int32} {v5 : Int32} {v6 : Int32} {v7 : Int32} {v8 : Int32} {M0 M : mm_M} (h : mq_kp mw_215 M0 M) : mq_K mw_215 M0 (mf_215_b23 v1 v2 v3 v4 v5 v6 v7 v8 M) := by
  unfold mf_215_b23
  exact mq_K_ite (fun hc => mq_K_ret h) (fun _ => mq_K_ite (fun hc => mq_K_B (mq_K_call mk_198 h rfl) (fun _ M2 hM2 => mq_K_ite (fun hc => mq_K_ite (fun hc => mq_K_ret hM2) (fun _ => mq_K_ite (fun hc => mq_K_ret hM2) (fun _ => mq_K_ite (fun hc => mq_K_ite (fun hc => mq_K_ite (fun hc => mq_K_ite (fun hc => mk_215_j123 (mq_kp_pi (mq_kp_pi hM2 rfl) rfl)) (fun _ => mq_K_none)) (fun _ => mq_K_none)) (fun _ => mk_215_j123 hM2)) (fun _ => mk_215_j123 hM2)))) (fun _ => mq_K_ret hM2))) (fun _ => mq_K_ret h))
theorem mk_215_L23 {v1 : Int32} {v2 : Int32} {v3 : Int32} {s : Int32 × Int32 × Int32 × Int32 × Int32} {M0 M : mm_M} (h : mq_kp mw_215 M0 M) : mq_K mw_215 M0 (mf_215_L23 v1 v2 v3 s M) := by
  unfold mf_215_L23
  exact mq_K_L (fun s M h => mk_215_b23 h) h
theorem mk_215 {v1 : Int32} {v2 : Int32} {M : mm_M} : mq_K mw_215 M (mf_215 v1 v2 M) := by
  unfold mf_215
  exact mq_K_B (mk_215_L23 mq_kp_refl) (fun _ M1 hM1 => mq_K_ret hM1)
-- 216: PlainPacksModel.wordsLow
def mw_216 : List (Nat × Option Nat) := [(84, some 4), (84, some 5), (84, some 7), (84, some 13), (84, some 14), (84, some 15), (86, none), (91, none), (92, none)]
theorem mk_216_j27 {v1 : Int32} {M0 M : mm_M} (h : mq_kp mw_216 M0 M) : mq_K mw_216 M0 (mf_216_j27 v1 M) := by
  unfold mf_216_j27
  exact mq_K_ite (fun hc => mq_K_B (mq_K_call mk_215 (mq_kp_pi h rfl) rfl) (fun _ M1 hM1 => mq_K_ret hM1)) (fun _ => mq_K_ret (mq_kp_pi h rfl))
theorem mk_216_j23 {v1 : Int32} {M0 M : mm_M} (h : mq_kp mw_216 M0 M) : mq_K mw_216 M0 (mf_216_j23 v1 M) := by
  unfold mf_216_j23
  exact mq_K_B (mq_K_call mk_190 h rfl) (fun _ M1 hM1 => mk_216_j27 hM1)
theorem mk_216 {M : mm_M} : mq_K mw_216 M (mf_216 M) := by
  unfold mf_216
  exact mq_K_B (mq_K_call mk_191 mq_kp_refl rfl) (fun _ M2 hM2 => mq_K_ite (fun hc => mq_K_ite (fun hc => mk_216_j23 hM2) (fun _ => mq_K_ite (fun hc => mk_216_j23 hM2) (fun _ => mk_216_j27 hM2))) (fun _ => mk_216_j27 hM2))
-- 217: PlainPacksModel.grown
def mw_217 : List (Nat × Option Nat) := [(84, some 5), (84, some 7)]
theorem mk_217_b16 {v2 : Int32} {v3 : Int32} {M0 M : mm_M} (h : mq_kp mw_217 M0 M) : mq_K mw_217 M0 (mf_217_b16 v2 v3 M) := by
  unfold mf_217_b16
  exact mq_K_ite (fun hc => mq_K_ite (fun hc => mq_K_B (mq_K_call mk_191 h rfl) (fun _ M2 hM2 => mq_K_ite (fun hc => mq_K_B (mq_K_call mk_190 hM2 rfl) (fun _ M3 hM3 => mq_K_ret hM3)) (fun _ => mq_K_ret hM2))) (fun _ => mq_K_ret h)) (fun _ => mq_K_ret h)
theorem mk_217_L16 {s : Int32 × Int32} {M0 M : mm_M} (h : mq_kp mw_217 M0 M) : mq_K mw_217 M0 (mf_217_L16 s M) := by
  unfold mf_217_L16
  exact mq_K_L (fun s M h => mk_217_b16 h) h
theorem mk_217 {v1 : Int32} {M : mm_M} : mq_K mw_217 M (mf_217 v1 M) := by
  unfold mf_217
  exact mq_K_ite (fun hc => mq_K_B (mk_217_L16 mq_kp_refl) (fun _ M1 hM1 => mq_K_ret hM1)) (fun _ => mq_K_B (mk_217_L16 mq_kp_refl) (fun _ M6 hM6 => mq_K_ret hM6))
-- 218: PlainPacksModel.pieces
def mw_218 : List (Nat × Option Nat) := [(84, some 4), (84, some 5), (84, some 7), (84, some 8), (84, some 9), (84, some 10), (84, some 11), (86, none)]
theorem mk_218_j109 {v1 : Int32} {v2 : Int32} {v3 : Int32} {v6 : Int64} {s0 : Int32} {M0 M : mm_M} (h : mq_kp mw_218 M0 M) : mq_K mw_218 M0 (mf_218_j109 v1 v2 v3 v6 s0 M) := by
  unfold mf_218_j109
  exact mq_K_B (mq_K_call mk_196 h rfl) (fun _ M1 hM1 => mq_K_ret hM1)
theorem mk_218_j87 {v1 : Int32} {v2 : Int32} {v3 : Int32} {v4 : Int32} {v6 : Int64} {M0 M : mm_M} (h : mq_kp mw_218 M0 M) : mq_K mw_218 M0 (mf_218_j87 v1 v2 v3 v4 v6 M) := by
  unfold mf_218_j87
  exact mq_K_ite (fun hc => mq_K_B (mq_K_call mk_217 h rfl) (fun _ M2 hM2 => mk_218_j109 hM2)) (fun _ => mk_218_j109 h)
theorem mk_218_j83 {v1 : Int32} {v2 : Int32} {v3 : Int32} {v4 : Int32} {v6 : Int64} {M0 M : mm_M} (h : mq_kp mw_218 M0 M) : mq_K mw_218 M0 (mf_218_j83 v1 v2 v3 v4 v6 M) := by
  unfold mf_218_j83
  exact mq_K_B (mq_K_call mk_190 h rfl) (fun _ M1 hM1 => mk_218_j87 hM1)
theorem mk_218_b2 {v1 : Int32} {v2 : Int32} {v3 : Int32} {M0 M : mm_M} (h : mq_kp mw_218 M0 M) : mq_K mw_218 M0 (mf_218_b2 v1 v2 v3 M) := by
  unfold mf_218_b2
  exact mq_K_ite (fun hc => mq_K_ret h) (fun _ => mq_K_ite (fun hc => mq_K_B (mq_K_call mk_191 h rfl) (fun _ M2 hM2 => mq_K_B (mq_K_call mk_217 hM2 rfl) (fun _ M4 hM4 => mq_K_B (mq_K_call mk_195 hM4 rfl) (fun _ M5 hM5 => mq_K_ite (fun hc => mq_K_ret hM5) (fun _ => mq_K_B (mq_K_call mk_193 hM5 rfl) (fun _ M7 hM7 => mq_K_ite (fun hc => mq_K_ite (fun hc => mk_218_j83 hM7) (fun _ => mq_K_ite (fun hc => mk_218_j83 hM7) (fun _ => mk_218_j87 hM7))) (fun _ => mk_218_j87 hM7))))))) (fun _ => mq_K_ret h))
theorem mk_218_L2 {v1 : Int32} {v2 : Int32} {s : Int32} {M0 M : mm_M} (h : mq_kp mw_218 M0 M) : mq_K mw_218 M0 (mf_218_L2 v1 v2 s M) := by
  unfold mf_218_L2
  exact mq_K_L (fun s M h => mk_218_b2 h) h
theorem mk_218 {v1 : Int32} {v2 : Int32} {M : mm_M} : mq_K mw_218 M (mf_218 v1 v2 M) := by
  unfold mf_218
  exact mq_K_B (mk_218_L2 mq_kp_refl) (fun _ M1 hM1 => mq_K_ret hM1)
-- 186: PlainPacksModel.word
def mw_186 (p : Nat) : List (Nat × Option Nat) := []
theorem mk_186 {p : Nat} {n : Nat} {v1 : Int32} {M : mm_M} : mq_K (mw_186 p) M (mf_186 p n v1 M) := by
  unfold mf_186
  exact mq_K_ite (fun hc => mq_K_ite (fun hc => mq_K_ite (fun hc => mq_K_ite (fun hc => mq_K_ret mq_kp_refl) (fun _ => mq_K_none)) (fun _ => mq_K_none)) (fun _ => mq_K_none)) (fun _ => mq_K_none)
-- 185: PlainPacksModel.left
def mw_185 : List (Nat × Option Nat) := []
theorem mk_185 {v0 : Int32} {v1 : Int32} {M : mm_M} : mq_K mw_185 M (mf_185 v0 v1 M) := by
  unfold mf_185
  exact mq_K_ret mq_kp_refl
-- 187: PlainPacksModel.lane
def mw_187 : List (Nat × Option Nat) := []
theorem mk_187 {v0 : Int32} {v1 : Int32} {M : mm_M} : mq_K mw_187 M (mf_187 v0 v1 M) := by
  unfold mf_187
  exact mq_K_B (mq_K_call mk_185 mq_kp_refl rfl) (fun _ M2 hM2 => mq_K_ret hM2)
-- 188: PlainPacksModel.xx
def mw_188 (p : Nat) : List (Nat × Option Nat) := []
theorem mk_188_b145 {p : Nat} {n : Nat} {v2 : Int32} {v4 : Int32} {v5 : Int32} {M0 M : mm_M} (h : mq_kp (mw_188 p) M0 M) : mq_K (mw_188 p) M0 (mf_188_b145 p n v2 v4 v5 M) := by
  unfold mf_188_b145
  exact mq_K_ite (fun hc => mq_K_ret h) (fun _ => mq_K_B (mq_K_call mk_186 h (by simp [mq_sub, mw_186, mw_188])) (fun _ M2 hM2 => mq_K_B (mq_K_call mk_185 hM2 (by simp [mq_sub, mw_185, mw_188])) (fun _ M4 hM4 => mq_K_ret hM4)))
theorem mk_188_L145 {p : Nat} {n : Nat} {v2 : Int32} {s : Int32 × Int32} {M0 M : mm_M} (h : mq_kp (mw_188 p) M0 M) : mq_K (mw_188 p) M0 (mf_188_L145 p n v2 s M) := by
  unfold mf_188_L145
  exact mq_K_L (fun s M h => mk_188_b145 h) h
theorem mk_188_b181 {p : Nat} {n : Nat} {v2 : Int32} {v4 : Int32} {v5 : Int32} {M0 M : mm_M} (h : mq_kp (mw_188 p) M0 M) : mq_K (mw_188 p) M0 (mf_188_b181 p n v2 v4 v5 M) := by
  unfold mf_188_b181
  exact mq_K_ite (fun hc => mq_K_ite (fun hc => mq_K_B (mq_K_call mk_185 h (by simp [mq_sub, mw_185, mw_188])) (fun _ M2 hM2 => mq_K_ret hM2)) (fun _ => mq_K_none)) (fun _ => mq_K_ret h)
theorem mk_188_L181 {p : Nat} {n : Nat} {v2 : Int32} {s : Int32 × Int32} {M0 M : mm_M} (h : mq_kp (mw_188 p) M0 M) : mq_K (mw_188 p) M0 (mf_188_L181 p n v2 s M) := by
  unfold mf_188_L181
  exact mq_K_L (fun s M h => mk_188_b181 h) h
theorem mk_188_j213 {p : Nat} {n : Nat} {v5 : Int32} {M0 M : mm_M} (h : mq_kp (mw_188 p) M0 M) : mq_K (mw_188 p) M0 (mf_188_j213 p n v5 M) := by
  unfold mf_188_j213
  exact mq_K_ret h
theorem mk_188_b32 {p : Nat} {n : Nat} {v2 : Int32} {v3 : Int32} {v4 : Int32} {v6 : Int32} {v7 : Int32} {v8 : Int32} {v9 : Int32} {M0 M : mm_M} (h : mq_kp (mw_188 p) M0 M) : mq_K (mw_188 p) M0 (mf_188_b32 p n v2 v3 v4 v6 v7 v8 v9 M) := by
  unfold mf_188_b32
  exact mq_K_ite (fun hc => mq_K_ret h) (fun _ => mq_K_B (mq_K_call mk_186 h (by simp [mq_sub, mw_186, mw_188])) (fun _ M2 hM2 => mq_K_B (mq_K_call mk_187 hM2 (by simp [mq_sub, mw_187, mw_188])) (fun _ M4 hM4 => mq_K_B (mq_K_call mk_186 hM4 (by simp [mq_sub, mw_186, mw_188])) (fun _ M6 hM6 => mq_K_B (mq_K_call mk_187 hM6 (by simp [mq_sub, mw_187, mw_188])) (fun _ M8 hM8 => mq_K_B (mq_K_call mk_186 hM8 (by simp [mq_sub, mw_186, mw_188])) (fun _ M10 hM10 => mq_K_B (mq_K_call mk_187 hM10 (by simp [mq_sub, mw_187, mw_188])) (fun _ M12 hM12 => mq_K_B (mq_K_call mk_186 hM12 (by simp [mq_sub, mw_186, mw_188])) (fun _ M14 hM14 => mq_K_B (mq_K_call mk_187 hM14 (by simp [mq_sub, mw_187, mw_188])) (fun _ M16 hM16 => mq_K_ret hM16)))))))))
theorem mk_188_L32 {p : Nat} {n : Nat} {v2 : Int32} {v3 : Int32} {s : Int32 × Int32 × Int32 × Int32 × Int32} {M0 M : mm_M} (h : mq_kp (mw_188 p) M0 M) : mq_K (mw_188 p) M0 (mf_188_L32 p n v2 v3 s M) := by
  unfold mf_188_L32
  exact mq_K_L (fun s M h => mk_188_b32 h) h
theorem mk_188_j107 {p : Nat} {n : Nat} {v2 : Int32} {v3 : Int32} {v4 : Int32} {v6 : Int32} {v7 : Int32} {v8 : Int32} {v9 : Int32} {M0 M : mm_M} (h : mq_kp (mw_188 p) M0 M) : mq_K (mw_188 p) M0 (mf_188_j107 p n v2 v3 v4 v6 v7 v8 v9 M) := by
  unfold mf_188_j107
  exact mq_K_B (mq_K_call mk_185 h (by simp [mq_sub, mw_185, mw_188])) (fun _ M2 hM2 => mq_K_B (mq_K_call mk_185 hM2 (by simp [mq_sub, mw_185, mw_188])) (fun _ M4 hM4 => mq_K_B (mq_K_call mk_185 hM4 (by simp [mq_sub, mw_185, mw_188])) (fun _ M6 hM6 => mq_K_B (mq_K_call mk_185 hM6 (by simp [mq_sub, mw_185, mw_188])) (fun _ M8 hM8 => mq_K_B (mk_188_L145 hM8) (fun _ M9 hM9 => mq_K_B (mk_188_L181 hM9) (fun _ M17 hM17 => mk_188_j213 hM17))))))
theorem mk_188 {p : Nat} {n : Nat} {v1 : Int32} {v2 : Int32} {M : mm_M} : mq_K (mw_188 p) M (mf_188 p n v1 v2 M) := by
  unfold mf_188
  exact mq_K_ite (fun hc => mq_K_B (mk_188_L145 mq_kp_refl) (fun _ M1 hM1 => mq_K_B (mk_188_L181 hM1) (fun _ M9 hM9 => mk_188_j213 hM9))) (fun _ => mq_K_B (mk_188_L32 mq_kp_refl) (fun _ M20 hM20 => mk_188_j107 hM20))
-- 220: PlainPacksModel.block
def mw_220 : List (Nat × Option Nat) := [(84, some 4), (84, some 5), (84, some 6), (84, some 7), (84, some 8), (84, some 9), (84, some 10), (84, some 11), (84, some 12), (86, none)]
theorem mk_220_j97 {v5 : Int32} {v8 : Int32} {v9 : Int32} {M0 M : mm_M} (h : mq_kp mw_220 M0 M) : mq_K mw_220 M0 (mf_220_j97 v5 v8 v9 M) := by
  unfold mf_220_j97
  exact mq_K_ite (fun hc => mq_K_ret h) (fun _ => mq_K_ite (fun hc => mq_K_B (mq_K_call mk_188 h rfl) (fun _ M2 hM2 => mq_K_B (mq_K_call mk_213 hM2 rfl) (fun _ M3 hM3 => mq_K_ret hM3))) (fun _ => mq_K_ret h))
theorem mk_220_j87 {v5 : Int32} {v8 : Int32} {v9 : Int32} {s1 : Int32} {s2 : Int32} {M0 M : mm_M} (h : mq_kp mw_220 M0 M) : mq_K mw_220 M0 (mf_220_j87 v5 v8 v9 s1 s2 M) := by
  unfold mf_220_j87
  exact mq_K_B (mq_K_call mk_218 h rfl) (fun _ M1 hM1 => mk_220_j97 (mq_kp_pi hM1 rfl))
theorem mk_220 {v1 : Int64} {v3 : Int64} {v5 : Int32} {M : mm_M} : mq_K mw_220 M (mf_220 v1 v3 v5 M) := by
  unfold mf_220
  exact mq_K_ite (fun hc => mq_K_B (mq_K_call mk_190 mq_kp_refl rfl) (fun _ M1 hM1 => mq_K_ret hM1)) (fun _ => mq_K_ite (fun hc => mq_K_B (mq_K_call mk_195 (mq_kp_pi mq_kp_refl rfl) rfl) (fun _ M2 hM2 => mk_220_j97 hM2)) (fun _ => mq_K_ite (fun hc => mk_220_j87 (mq_kp_pi (mq_kp_pi mq_kp_refl rfl) rfl)) (fun _ => mk_220_j87 (mq_kp_pi (mq_kp_pi mq_kp_refl rfl) rfl))))
-- 219: PlainPacksModel.frame
def mw_219 : List (Nat × Option Nat) := [(84, some 4), (84, some 5), (84, some 6), (84, some 7), (84, some 8), (84, some 9), (84, some 10), (84, some 11), (84, some 12), (86, none)]
theorem mk_219_j187 {v2 : Int32} {v4 : Int32} {v5 : Int64} {v9 : Int64} {s0 : Int32} {M0 M : mm_M} (h : mq_kp mw_219 M0 M) : mq_K mw_219 M0 (mf_219_j187 v2 v4 v5 v9 s0 M) := by
  unfold mf_219_j187
  exact mq_K_ite (fun hc => mq_K_ret h) (fun _ => mq_K_ite (fun hc => mq_K_B (mq_K_call mk_220 h rfl) (fun _ M1 hM1 => mq_K_ret hM1)) (fun _ => mq_K_ret h))
theorem mk_219_b156 {v2 : Int32} {v4 : Int32} {v5 : Int64} {v8 : Int32} {M0 M : mm_M} (h : mq_kp mw_219 M0 M) : mq_K mw_219 M0 (mf_219_b156 v2 v4 v5 v8 M) := by
  unfold mf_219_b156
  exact mq_K_ite (fun hc => mq_K_ret h) (fun _ => mq_K_ite (fun hc => mq_K_B (mq_K_call mk_193 h rfl) (fun _ M2 hM2 => mq_K_ite (fun hc => mk_219_j187 hM2) (fun _ => mk_219_j187 hM2))) (fun _ => mq_K_ret h))
theorem mk_219_L156 {v2 : Int32} {v4 : Int32} {v5 : Int64} {s : Int32} {M0 M : mm_M} (h : mq_kp mw_219 M0 M) : mq_K mw_219 M0 (mf_219_L156 v2 v4 v5 s M) := by
  unfold mf_219_L156
  exact mq_K_L (fun s M h => mk_219_b156 h) h
theorem mk_219_j249 {v2 : Int32} {M0 M : mm_M} (h : mq_kp mw_219 M0 M) : mq_K mw_219 M0 (mf_219_j249 v2 M) := by
  unfold mf_219_j249
  exact mq_K_ite (fun hc => mq_K_ret h) (fun _ => mq_K_B (mq_K_call mk_188 h rfl) (fun _ M2 hM2 => mq_K_B (mq_K_call mk_213 hM2 rfl) (fun _ M3 hM3 => mq_K_ret hM3)))
theorem mk_219_j220 {v2 : Int32} {v5 : Int64} {M0 M : mm_M} (h : mq_kp mw_219 M0 M) : mq_K mw_219 M0 (mf_219_j220 v2 v5 M) := by
  unfold mf_219_j220
  exact mq_K_ite (fun hc => mq_K_ite (fun hc => mk_219_j249 h) (fun _ => mq_K_ite (fun hc => mk_219_j249 h) (fun _ => mq_K_B (mq_K_call mk_190 h rfl) (fun _ M1 hM1 => mk_219_j249 hM1)))) (fun _ => mk_219_j249 h)
theorem mk_219_j145 {v2 : Int32} {v4 : Int32} {v5 : Int64} {s0 : Int32} {M0 M : mm_M} (h : mq_kp mw_219 M0 M) : mq_K mw_219 M0 (mf_219_j145 v2 v4 v5 s0 M) := by
  unfold mf_219_j145
  exact mq_K_B (mq_K_call mk_192 h rfl) (fun _ M1 hM1 => mq_K_B (mk_219_L156 hM1) (fun _ M2 hM2 => mk_219_j220 hM2))
theorem mk_219_j113 {v1 : Int32} {v2 : Int32} {v4 : Int32} {s0 : Int64} {M0 M : mm_M} (h : mq_kp mw_219 M0 M) : mq_K mw_219 M0 (mf_219_j113 v1 v2 v4 s0 M) := by
  unfold mf_219_j113
  exact mq_K_ite (fun hc => mq_K_B (mq_K_call mk_188 h rfl) (fun _ M2 hM2 => mk_219_j145 hM2)) (fun _ => mk_219_j145 h)
theorem mk_219_j96 {v1 : Int32} {v2 : Int32} {v4 : Int32} {M0 M : mm_M} (h : mq_kp mw_219 M0 M) : mq_K mw_219 M0 (mf_219_j96 v1 v2 v4 M) := by
  unfold mf_219_j96
  exact mq_K_ite (fun hc => mk_219_j113 h) (fun _ => mq_K_B (mq_K_call mk_193 h rfl) (fun _ M2 hM2 => mk_219_j113 hM2))
theorem mk_219_j92 {v1 : Int32} {v2 : Int32} {v4 : Int32} {M0 M : mm_M} (h : mq_kp mw_219 M0 M) : mq_K mw_219 M0 (mf_219_j92 v1 v2 v4 M) := by
  unfold mf_219_j92
  exact mq_K_B (mq_K_call mk_190 h rfl) (fun _ M1 hM1 => mk_219_j96 hM1)
theorem mk_219_j58 {v1 : Int32} {v2 : Int32} {M0 M : mm_M} (h : mq_kp mw_219 M0 M) : mq_K mw_219 M0 (mf_219_j58 v1 v2 M) := by
  unfold mf_219_j58
  exact mq_K_B (mq_K_call mk_191 h rfl) (fun _ M2 hM2 => mq_K_ite (fun hc => mq_K_ite (fun hc => mq_K_ite (fun hc => mk_219_j92 hM2) (fun _ => mk_219_j96 hM2)) (fun _ => mk_219_j92 hM2)) (fun _ => mk_219_j96 hM2))
theorem mk_219_j54 {v1 : Int32} {v2 : Int32} {M0 M : mm_M} (h : mq_kp mw_219 M0 M) : mq_K mw_219 M0 (mf_219_j54 v1 v2 M) := by
  unfold mf_219_j54
  exact mq_K_B (mq_K_call mk_190 h rfl) (fun _ M1 hM1 => mk_219_j58 hM1)
theorem mk_219 {M : mm_M} : mq_K mw_219 M (mf_219 M) := by
  unfold mf_219
  exact mq_K_B (mq_K_call mk_192 mq_kp_refl rfl) (fun _ M1 hM1 => mq_K_B (mq_K_call mk_192 hM1 rfl) (fun _ M2 hM2 => mq_K_B (mq_K_call mk_192 hM2 rfl) (fun _ M3 hM3 => mq_K_B (mq_K_call mk_192 hM3 rfl) (fun _ M4 hM4 => mq_K_B (mq_K_call mk_191 hM4 rfl) (fun _ M6 hM6 => mq_K_ite (fun hc => mq_K_ite (fun hc => mq_K_ite (fun hc => mk_219_j58 hM6) (fun _ => mk_219_j54 hM6)) (fun _ => mk_219_j54 hM6)) (fun _ => mk_219_j58 hM6))))))
-- 222: PlainPacksModel.tag
def mw_222 : List (Nat × Option Nat) := [(84, some 4), (84, some 5), (84, some 7), (84, some 8), (84, some 9), (84, some 10), (84, some 11), (86, none)]
theorem mk_222_j141 {v6 : Int64} {s0 : Int64} {M0 M : mm_M} (h : mq_kp mw_222 M0 M) : mq_K mw_222 M0 (mf_222_j141 v6 s0 M) := by
  unfold mf_222_j141
  exact mq_K_B (mq_K_call mk_196 h rfl) (fun _ M1 hM1 => mq_K_ret hM1)
theorem mk_222_j77 {v1 : Int32} {v4 : Int32} {v6 : Int64} {M0 M : mm_M} (h : mq_kp mw_222 M0 M) : mq_K mw_222 M0 (mf_222_j77 v1 v4 v6 M) := by
  unfold mf_222_j77
  exact mq_K_ite (fun hc => mq_K_B (mq_K_call mk_195 h rfl) (fun _ M1 hM1 => mq_K_ret hM1)) (fun _ => mq_K_ite (fun hc => mq_K_ite (fun hc => mq_K_B (mq_K_call mk_191 h rfl) (fun _ M3 hM3 => mk_222_j141 hM3)) (fun _ => mq_K_ite (fun hc => mq_K_B (mq_K_call mk_193 h rfl) (fun _ M5 hM5 => mk_222_j141 hM5)) (fun _ => mq_K_B (mq_K_call mk_193 h rfl) (fun _ M7 hM7 => mk_222_j141 hM7)))) (fun _ => mq_K_ret h))
theorem mk_222_j59 {v1 : Int32} {v2 : Int64} {v4 : Int32} {v6 : Int64} {M0 M : mm_M} (h : mq_kp mw_222 M0 M) : mq_K mw_222 M0 (mf_222_j59 v1 v2 v4 v6 M) := by
  unfold mf_222_j59
  exact mq_K_ite (fun hc => mq_K_ite (fun hc => mq_K_B (mq_K_call mk_190 h rfl) (fun _ M1 hM1 => mk_222_j77 hM1)) (fun _ => mk_222_j77 h)) (fun _ => mk_222_j77 h)
theorem mk_222_j32 {v1 : Int32} {v2 : Int64} {v4 : Int32} {v5 : Int32} {s0 : Int64} {M0 M : mm_M} (h : mq_kp mw_222 M0 M) : mq_K mw_222 M0 (mf_222_j32 v1 v2 v4 v5 s0 M) := by
  unfold mf_222_j32
  exact mq_K_ite (fun hc => mq_K_ite (fun hc => mk_222_j59 h) (fun _ => mq_K_B (mq_K_call mk_193 h rfl) (fun _ M2 hM2 => mk_222_j59 hM2))) (fun _ => mk_222_j59 h)
theorem mk_222 {v1 : Int32} {v2 : Int64} {M : mm_M} : mq_K mw_222 M (mf_222 v1 v2 M) := by
  unfold mf_222
  exact mq_K_ite (fun hc => mk_222_j32 mq_kp_refl) (fun _ => mk_222_j32 mq_kp_refl)
-- 221: PlainPacksModel.tags
def mw_221 : List (Nat × Option Nat) := [(84, some 4), (84, some 5), (84, some 7), (84, some 8), (84, some 9), (84, some 10), (84, some 11), (86, none)]
theorem mk_221_j74 {v1 : Int64} {v3 : Int32} {v4 : Int32} {M0 M : mm_M} (h : mq_kp mw_221 M0 M) : mq_K mw_221 M0 (mf_221_j74 v1 v3 v4 M) := by
  unfold mf_221_j74
  exact mq_K_B (mq_K_call mk_190 h rfl) (fun _ M1 hM1 => mq_K_ret hM1)
theorem mk_221_j54 {v1 : Int64} {v3 : Int32} {s0 : Int32} {M0 M : mm_M} (h : mq_kp mw_221 M0 M) : mq_K mw_221 M0 (mf_221_j54 v1 v3 s0 M) := by
  unfold mf_221_j54
  exact mq_K_ite (fun hc => mk_221_j74 h) (fun _ => mq_K_ite (fun hc => mq_K_ret h) (fun _ => mq_K_ite (fun hc => mk_221_j74 h) (fun _ => mq_K_ret h)))
theorem mk_221_b7 {v1 : Int64} {v3 : Int32} {v4 : Int32} {M0 M : mm_M} (h : mq_kp mw_221 M0 M) : mq_K mw_221 M0 (mf_221_b7 v1 v3 v4 M) := by
  unfold mf_221_b7
  exact mq_K_ite (fun hc => mq_K_ret h) (fun _ => mq_K_ite (fun hc => mq_K_B (mq_K_call mk_191 h rfl) (fun _ M2 hM2 => mq_K_ite (fun hc => mk_221_j54 hM2) (fun _ => mk_221_j54 hM2))) (fun _ => mq_K_ret h))
theorem mk_221_L7 {s : Int64 × Int32 × Int32} {M0 M : mm_M} (h : mq_kp mw_221 M0 M) : mq_K mw_221 M0 (mf_221_L7 s M) := by
  unfold mf_221_L7
  exact mq_K_L (fun s M h => mk_221_b7 h) h
theorem mk_221_b100 {v1 : Int64} {M0 M : mm_M} (h : mq_kp mw_221 M0 M) : mq_K mw_221 M0 (mf_221_b100 v1 M) := by
  unfold mf_221_b100
  exact mq_K_ite (fun hc => mq_K_ite (fun hc => mq_K_B (mq_K_call mk_191 h rfl) (fun _ M2 hM2 => mq_K_ite (fun hc => mq_K_B (mq_K_call mk_222 hM2 rfl) (fun _ M3 hM3 => mq_K_ret hM3)) (fun _ => mq_K_ret hM2))) (fun _ => mq_K_ret h)) (fun _ => mq_K_ret h)
theorem mk_221_L100 {v1 : Int64} {s : Unit} {M0 M : mm_M} (h : mq_kp mw_221 M0 M) : mq_K mw_221 M0 (mf_221_L100 v1 s M) := by
  unfold mf_221_L100
  exact mq_K_L (fun s M h => mk_221_b100 h) h
theorem mk_221_j81 {v1 : Int64} {M0 M : mm_M} (h : mq_kp mw_221 M0 M) : mq_K mw_221 M0 (mf_221_j81 v1 M) := by
  unfold mf_221_j81
  exact mq_K_ite (fun hc => mq_K_ite (fun hc => mq_K_B (mq_K_call mk_190 h rfl) (fun _ M1 hM1 => mq_K_B (mk_221_L100 hM1) (fun _ M2 hM2 => mq_K_ret hM2))) (fun _ => mq_K_B (mk_221_L100 h) (fun _ M10 hM10 => mq_K_ret hM10))) (fun _ => mq_K_B (mk_221_L100 h) (fun _ M18 hM18 => mq_K_ret hM18))
theorem mk_221 {M : mm_M} : mq_K mw_221 M (mf_221 M) := by
  unfold mf_221
  exact mq_K_B (mk_221_L7 mq_kp_refl) (fun _ M1 hM1 => mk_221_j81 hM1)
-- 225: PlainPacksModel.occurring
def mw_225 : List (Nat × Option Nat) := [(84, some 5), (84, some 7), (84, some 14), (84, some 15), (84, some 20), (94, none)]
theorem mk_225_b55 {v1 : Int32} {v2 : Int32} {v3 : Int32} {v4 : Int32} {M0 M : mm_M} (h : mq_kp mw_225 M0 M) : mq_K mw_225 M0 (mf_225_b55 v1 v2 v3 v4 M) := by
  unfold mf_225_b55
  exact mq_K_ite (fun hc => mq_K_ite (fun hc => mq_K_ite (fun hc => mq_K_ret (mq_kp_pi (mq_kp_pi h rfl) rfl)) (fun _ => mq_K_none)) (fun _ => mq_K_ret h)) (fun _ => mq_K_ret h)
theorem mk_225_L55 {v1 : Int32} {v2 : Int32} {v3 : Int32} {s : Int32} {M0 M : mm_M} (h : mq_kp mw_225 M0 M) : mq_K mw_225 M0 (mf_225_L55 v1 v2 v3 s M) := by
  unfold mf_225_L55
  exact mq_K_L (fun s M h => mk_225_b55 h) h
theorem mk_225_b15 {v1 : Int32} {v2 : Int32} {M0 M : mm_M} (h : mq_kp mw_225 M0 M) : mq_K mw_225 M0 (mf_225_b15 v1 v2 M) := by
  unfold mf_225_b15
  exact mq_K_ite (fun hc => mq_K_ite (fun hc => mq_K_ite (fun hc => mq_K_B (mq_K_call mk_198 h rfl) (fun _ M2 hM2 => mq_K_B (mk_225_L55 hM2) (fun _ M3 hM3 => mq_K_ret hM3))) (fun _ => mq_K_B (mk_225_L55 h) (fun _ M7 hM7 => mq_K_ret hM7))) (fun _ => mq_K_ret h)) (fun _ => mq_K_ret h)
theorem mk_225_L15 {v1 : Int32} {s : Int32} {M0 M : mm_M} (h : mq_kp mw_225 M0 M) : mq_K mw_225 M0 (mf_225_L15 v1 s M) := by
  unfold mf_225_L15
  exact mq_K_L (fun s M h => mk_225_b15 h) h
theorem mk_225_j113 {M0 M : mm_M} (h : mq_kp mw_225 M0 M) : mq_K mw_225 M0 (mf_225_j113 M) := by
  unfold mf_225_j113
  exact mq_K_ite (fun hc => mq_K_ite (fun hc => mq_K_B (mq_K_call mk_190 h rfl) (fun _ M1 hM1 => mq_K_ret hM1)) (fun _ => mq_K_ret h)) (fun _ => mq_K_ret h)
theorem mk_225 {M : mm_M} : mq_K mw_225 M (mf_225 M) := by
  unfold mf_225
  exact mq_K_B (mq_K_call mk_198 mq_kp_refl rfl) (fun _ M2 hM2 => mq_K_B (mk_225_L15 (mq_kp_pi hM2 rfl)) (fun _ M3 hM3 => mk_225_j113 hM3))
-- 226: PlainPacksModel.readSelectors
def mw_226 : List (Nat × Option Nat) := [(84, some 5), (84, some 7), (84, some 14), (84, some 15), (93, none), (97, none)]
theorem mk_226_b2 {v1 : Int32} {M0 M : mm_M} (h : mq_kp mw_226 M0 M) : mq_K mw_226 M0 (mf_226_b2 v1 M) := by
  unfold mf_226_b2
  exact mq_K_ite (fun hc => mq_K_ite (fun hc => mq_K_ret (mq_kp_pi h rfl)) (fun _ => mq_K_none)) (fun _ => mq_K_ret h)
theorem mk_226_L2 {s : Int32} {M0 M : mm_M} (h : mq_kp mw_226 M0 M) : mq_K mw_226 M0 (mf_226_L2 s M) := by
  unfold mf_226_L2
  exact mq_K_L (fun s M h => mk_226_b2 h) h
theorem mk_226_b40 {v1 : Int32} {v2 : Int32} {M0 M : mm_M} (h : mq_kp mw_226 M0 M) : mq_K mw_226 M0 (mf_226_b40 v1 v2 M) := by
  unfold mf_226_b40
  exact mq_K_ite (fun hc => mq_K_B (mq_K_call mk_197 h rfl) (fun _ M2 hM2 => mq_K_ite (fun hc => mq_K_ite (fun hc => mq_K_ret hM2) (fun _ => mq_K_B (mq_K_call mk_190 hM2 rfl) (fun _ M3 hM3 => mq_K_ret hM3))) (fun _ => mq_K_ret hM2))) (fun _ => mq_K_ret h)
theorem mk_226_L40 {v1 : Int32} {s : Int32} {M0 M : mm_M} (h : mq_kp mw_226 M0 M) : mq_K mw_226 M0 (mf_226_L40 v1 s M) := by
  unfold mf_226_L40
  exact mq_K_L (fun s M h => mk_226_b40 h) h
theorem mk_226_b90 {v1 : Int32} {v3 : Int32} {v4 : Int32} {M0 M : mm_M} (h : mq_kp mw_226 M0 M) : mq_K mw_226 M0 (mf_226_b90 v1 v3 v4 M) := by
  unfold mf_226_b90
  exact mq_K_ite (fun hc => mq_K_ite (fun hc => mq_K_ite (fun hc => mq_K_ret (mq_kp_pi h rfl)) (fun _ => mq_K_none)) (fun _ => mq_K_none)) (fun _ => mq_K_ret h)
theorem mk_226_L90 {v1 : Int32} {v3 : Int32} {s : Int32} {M0 M : mm_M} (h : mq_kp mw_226 M0 M) : mq_K mw_226 M0 (mf_226_L90 v1 v3 s M) := by
  unfold mf_226_L90
  exact mq_K_L (fun s M h => mk_226_b90 h) h
theorem mk_226_j117 {v1 : Int32} {v3 : Int32} {M0 M : mm_M} (h : mq_kp mw_226 M0 M) : mq_K mw_226 M0 (mf_226_j117 v1 v3 M) := by
  unfold mf_226_j117
  exact mq_K_ite (fun hc => mq_K_ite (fun hc => mq_K_ret (mq_kp_pi (mq_kp_pi h rfl) rfl)) (fun _ => mq_K_none)) (fun _ => mq_K_none)
theorem mk_226_j73 {v1 : Int32} {v2 : Int32} {M0 M : mm_M} (h : mq_kp mw_226 M0 M) : mq_K mw_226 M0 (mf_226_j73 v1 v2 M) := by
  unfold mf_226_j73
  exact mq_K_ite (fun hc => mq_K_ite (fun hc => mq_K_B (mk_226_L90 h) (fun _ M1 hM1 => mk_226_j117 hM1)) (fun _ => mq_K_none)) (fun _ => mq_K_ret h)
theorem mk_226_b23 {v1 : Int32} {M0 M : mm_M} (h : mq_kp mw_226 M0 M) : mq_K mw_226 M0 (mf_226_b23 v1 M) := by
  unfold mf_226_b23
  exact mq_K_ite (fun hc => mq_K_ite (fun hc => mq_K_B (mk_226_L40 h) (fun _ M1 hM1 => mk_226_j73 hM1)) (fun _ => mq_K_ret h)) (fun _ => mq_K_ret h)
theorem mk_226_L23 {s : Int32} {M0 M : mm_M} (h : mq_kp mw_226 M0 M) : mq_K mw_226 M0 (mf_226_L23 s M) := by
  unfold mf_226_L23
  exact mq_K_L (fun s M h => mk_226_b23 h) h
theorem mk_226 {M : mm_M} : mq_K mw_226 M (mf_226 M) := by
  unfold mf_226
  exact mq_K_B (mk_226_L2 mq_kp_refl) (fun _ M1 hM1 => mq_K_B (mk_226_L23 hM1) (fun _ M7 hM7 => mq_K_ret hM7))
-- 227: PlainPacksModel.readTable
def mw_227 : List (Nat × Option Nat) := [(84, some 5), (84, some 7), (84, some 14), (84, some 15), (87, none), (88, none)]
theorem mk_227_j93 {v1 : Int32} {v2 : Int32} {v3 : Int32} {v4 : Int32} {M0 M : mm_M} (h : mq_kp mw_227 M0 M) : mq_K mw_227 M0 (mf_227_j93 v1 v2 v3 v4 M) := by
  unfold mf_227_j93
  exact mq_K_B (mq_K_call mk_190 h rfl) (fun _ M1 hM1 => mq_K_ret hM1)
theorem mk_227_j73 {v1 : Int32} {v2 : Int32} {v4 : Int32} {s0 : Int32} {s1 : Int32} {M0 M : mm_M} (h : mq_kp mw_227 M0 M) : mq_K mw_227 M0 (mf_227_j73 v1 v2 v4 s0 s1 M) := by
  unfold mf_227_j73
  exact mq_K_ite (fun hc => mq_K_ite (fun hc => mk_227_j93 h) (fun _ => mq_K_ite (fun hc => mk_227_j93 h) (fun _ => mq_K_ret h))) (fun _ => mq_K_ret h)
theorem mk_227_b45 {v1 : Int32} {v2 : Int32} {v3 : Int32} {v4 : Int32} {M0 M : mm_M} (h : mq_kp mw_227 M0 M) : mq_K mw_227 M0 (mf_227_b45 v1 v2 v3 v4 M) := by
  unfold mf_227_b45
  exact mq_K_ite (fun hc => mq_K_B (mq_K_call mk_197 h rfl) (fun _ M2 hM2 => mq_K_ite (fun hc => mq_K_B (mq_K_call mk_197 hM2 rfl) (fun _ M4 hM4 => mq_K_ite (fun hc => mk_227_j73 hM4) (fun _ => mk_227_j73 hM4))) (fun _ => mq_K_ret hM2))) (fun _ => mq_K_ret h)
theorem mk_227_L45 {v1 : Int32} {v2 : Int32} {v4 : Int32} {s : Int32} {M0 M : mm_M} (h : mq_kp mw_227 M0 M) : mq_K mw_227 M0 (mf_227_L45 v1 v2 v4 s M) := by
  unfold mf_227_L45
  exact mq_K_L (fun s M h => mk_227_b45 h) h
theorem mk_227_j100 {v1 : Int32} {v2 : Int32} {v3 : Int32} {v4 : Int32} {M0 M : mm_M} (h : mq_kp mw_227 M0 M) : mq_K mw_227 M0 (mf_227_j100 v1 v2 v3 v4 M) := by
  unfold mf_227_j100
  exact mq_K_ite (fun hc => mq_K_ret (mq_kp_pi h rfl)) (fun _ => mq_K_none)
theorem mk_227_b32 {v1 : Int32} {v2 : Int32} {v3 : Int32} {v4 : Int32} {M0 M : mm_M} (h : mq_kp mw_227 M0 M) : mq_K mw_227 M0 (mf_227_b32 v1 v2 v3 v4 M) := by
  unfold mf_227_b32
  exact mq_K_ite (fun hc => mq_K_ite (fun hc => mq_K_B (mk_227_L45 h) (fun _ M1 hM1 => mk_227_j100 hM1)) (fun _ => mq_K_ret h)) (fun _ => mq_K_ret h)
theorem mk_227_L32 {v1 : Int32} {v2 : Int32} {s : Int32 × Int32} {M0 M : mm_M} (h : mq_kp mw_227 M0 M) : mq_K mw_227 M0 (mf_227_L32 v1 v2 s M) := by
  unfold mf_227_L32
  exact mq_K_L (fun s M h => mk_227_b32 h) h
theorem mk_227_j158 {s1 : Int32} {s2 : Int32} {M0 M : mm_M} (h : mq_kp mw_227 M0 M) : mq_K mw_227 M0 (mf_227_j158 s1 s2 M) := by
  unfold mf_227_j158
  exact mq_K_B (mq_K_call mk_199 h rfl) (fun _ M1 hM1 => mq_K_ret hM1)
theorem mk_227_j144 {v1 : Int32} {v2 : Int32} {M0 M : mm_M} (h : mq_kp mw_227 M0 M) : mq_K mw_227 M0 (mf_227_j144 v1 v2 M) := by
  unfold mf_227_j144
  exact mq_K_ite (fun hc => mk_227_j158 h) (fun _ => mk_227_j158 h)
theorem mk_227_j120 {v1 : Int32} {v2 : Int32} {M0 M : mm_M} (h : mq_kp mw_227 M0 M) : mq_K mw_227 M0 (mf_227_j120 v1 v2 M) := by
  unfold mf_227_j120
  exact mq_K_ite (fun hc => mq_K_B (mq_K_call mk_200 h rfl) (fun _ M2 hM2 => mq_K_ite (fun hc => mq_K_B (mq_K_call mk_190 hM2 rfl) (fun _ M3 hM3 => mk_227_j144 hM3)) (fun _ => mk_227_j144 hM2))) (fun _ => mk_227_j144 h)
theorem mk_227_j25 {v1 : Int32} {v2 : Int32} {v3 : Int32} {M0 M : mm_M} (h : mq_kp mw_227 M0 M) : mq_K mw_227 M0 (mf_227_j25 v1 v2 v3 M) := by
  unfold mf_227_j25
  exact mq_K_B (mq_K_call mk_190 h rfl) (fun _ M1 hM1 => mq_K_B (mk_227_L32 hM1) (fun _ M2 hM2 => mk_227_j120 hM2))
theorem mk_227 {v1 : Int32} {v2 : Int32} {M : mm_M} : mq_K mw_227 M (mf_227 v1 v2 M) := by
  unfold mf_227
  exact mq_K_B (mq_K_call mk_198 mq_kp_refl rfl) (fun _ M2 hM2 => mq_K_ite (fun hc => mq_K_ite (fun hc => mk_227_j25 hM2) (fun _ => mq_K_ite (fun hc => mk_227_j25 hM2) (fun _ => mq_K_B (mk_227_L32 hM2) (fun _ M3 hM3 => mk_227_j120 hM3)))) (fun _ => mq_K_B (mk_227_L32 hM2) (fun _ M7 hM7 => mk_227_j120 hM7)))
-- 229: PlainPacksModel.fill
def mw_229 : List (Nat × Option Nat) := [(84, some 7), (84, some 28), (95, none)]
theorem mk_229_b21 {v1 : Int64} {v3 : Int64} {M0 M : mm_M} (h : mq_kp mw_229 M0 M) : mq_K mw_229 M0 (mf_229_b21 v1 v3 M) := by
  unfold mf_229_b21
  exact mq_K_ite (fun hc => mq_K_ite (fun hc => mq_K_ite (fun hc => mq_K_ret (mq_kp_pi (mq_kp_pi h rfl) rfl)) (fun _ => mq_K_none)) (fun _ => mq_K_none)) (fun _ => mq_K_ret h)
theorem mk_229_L21 {v1 : Int64} {s : Int64} {M0 M : mm_M} (h : mq_kp mw_229 M0 M) : mq_K mw_229 M0 (mf_229_L21 v1 s M) := by
  unfold mf_229_L21
  exact mq_K_L (fun s M h => mk_229_b21 h) h
theorem mk_229 {v1 : Int64} {M : mm_M} : mq_K mw_229 M (mf_229 v1 M) := by
  unfold mf_229
  exact mq_K_ite (fun hc => mq_K_B (mq_K_call mk_190 mq_kp_refl rfl) (fun _ M1 hM1 => mq_K_ret hM1)) (fun _ => mq_K_B (mk_229_L21 mq_kp_refl) (fun _ M2 hM2 => mq_K_ret hM2))
-- 230: PlainPacksModel.toFront
def mw_230 : List (Nat × Option Nat) := [(84, some 7), (84, some 28), (94, none), (95, none)]
theorem mk_230_b24 {v2 : Int32} {v3 : Int32} {M0 M : mm_M} (h : mq_kp mw_230 M0 M) : mq_K mw_230 M0 (mf_230_b24 v2 v3 M) := by
  unfold mf_230_b24
  exact mq_K_ite (fun hc => mq_K_ite (fun hc => mq_K_ite (fun hc => mq_K_ret (mq_kp_pi h rfl)) (fun _ => mq_K_none)) (fun _ => mq_K_none)) (fun _ => mq_K_ret h)
theorem mk_230_L24 {v2 : Int32} {s : Int32} {M0 M : mm_M} (h : mq_kp mw_230 M0 M) : mq_K mw_230 M0 (mf_230_L24 v2 s M) := by
  unfold mf_230_L24
  exact mq_K_L (fun s M h => mk_230_b24 h) h
theorem mk_230_j48 {v2 : Int32} {M0 M : mm_M} (h : mq_kp mw_230 M0 M) : mq_K mw_230 M0 (mf_230_j48 v2 M) := by
  unfold mf_230_j48
  exact mq_K_ite (fun hc => mq_K_ite (fun hc => mq_K_ret (mq_kp_pi (mq_kp_pi (mq_kp_pi h rfl) rfl) rfl)) (fun _ => mq_K_none)) (fun _ => mq_K_none)
theorem mk_230 {v1 : Int32} {M : mm_M} : mq_K mw_230 M (mf_230 v1 M) := by
  unfold mf_230
  exact mq_K_ite (fun hc => mq_K_B (mq_K_call mk_190 mq_kp_refl rfl) (fun _ M1 hM1 => mq_K_ret hM1)) (fun _ => mq_K_ite (fun hc => mq_K_B (mk_230_L24 mq_kp_refl) (fun _ M2 hM2 => mk_230_j48 hM2)) (fun _ => mq_K_none))
-- 228: PlainPacksModel.readLetters
def mw_228 : List (Nat × Option Nat) := [(84, some 5), (84, some 7), (84, some 14), (84, some 15), (84, some 28), (94, none), (95, none)]
theorem mk_228_j155 {v1 : Int32} {v2 : Int32} {v3 : Int32} {v4 : Int64} {v6 : Int32} {v8 : Int32} {s0 : Int32} {M0 M : mm_M} (h : mq_kp mw_228 M0 M) : mq_K mw_228 M0 (mf_228_j155 v1 v2 v3 v4 v6 v8 s0 M) := by
  unfold mf_228_j155
  exact mq_K_ite (fun hc => mq_K_ret h) (fun _ => mq_K_ite (fun hc => mq_K_B (mq_K_call mk_230 h rfl) (fun _ M1 hM1 => mq_K_ret hM1)) (fun _ => mq_K_ret h))
theorem mk_228_j77 {v1 : Int32} {v2 : Int32} {v3 : Int32} {v4 : Int64} {v6 : Int32} {v7 : Int32} {s0 : Int32} {M0 M : mm_M} (h : mq_kp mw_228 M0 M) : mq_K mw_228 M0 (mf_228_j77 v1 v2 v3 v4 v6 v7 s0 M) := by
  unfold mf_228_j77
  exact mq_K_ite (fun hc => mq_K_ite (fun hc => mq_K_ite (fun hc => mq_K_ret h) (fun _ => mq_K_ret h)) (fun _ => mq_K_B (mq_K_call mk_229 h rfl) (fun _ M1 hM1 => mq_K_ite (fun hc => mk_228_j155 hM1) (fun _ => mk_228_j155 hM1)))) (fun _ => mq_K_ret h)
theorem mk_228_j52 {v1 : Int32} {v2 : Int32} {v3 : Int32} {v4 : Int64} {v6 : Int32} {v7 : Int32} {M0 M : mm_M} (h : mq_kp mw_228 M0 M) : mq_K mw_228 M0 (mf_228_j52 v1 v2 v3 v4 v6 v7 M) := by
  unfold mf_228_j52
  exact mq_K_ite (fun hc => mq_K_ite (fun hc => mq_K_B (mq_K_call mk_202 h rfl) (fun _ M2 hM2 => mk_228_j77 hM2)) (fun _ => mq_K_none)) (fun _ => mk_228_j77 h)
theorem mk_228_j40 {v1 : Int32} {v2 : Int32} {v3 : Int32} {v4 : Int64} {v6 : Int32} {v7 : Int32} {M0 M : mm_M} (h : mq_kp mw_228 M0 M) : mq_K mw_228 M0 (mf_228_j40 v1 v2 v3 v4 v6 v7 M) := by
  unfold mf_228_j40
  exact mq_K_ite (fun hc => mq_K_B (mq_K_call mk_190 h rfl) (fun _ M1 hM1 => mk_228_j52 hM1)) (fun _ => mk_228_j52 h)
theorem mk_228_b18 {v1 : Int32} {v2 : Int32} {v3 : Int32} {v4 : Int64} {v6 : Int32} {v7 : Int32} {M0 M : mm_M} (h : mq_kp mw_228 M0 M) : mq_K mw_228 M0 (mf_228_b18 v1 v2 v3 v4 v6 v7 M) := by
  unfold mf_228_b18
  exact mq_K_ite (fun hc => mq_K_ret h) (fun _ => mq_K_ite (fun hc => mq_K_ite (fun hc => mk_228_j40 h) (fun _ => mk_228_j40 h)) (fun _ => mq_K_ret h))
theorem mk_228_L18 {v1 : Int32} {s : Int32 × Int32 × Int64 × Int32 × Int32} {M0 M : mm_M} (h : mq_kp mw_228 M0 M) : mq_K mw_228 M0 (mf_228_L18 v1 s M) := by
  unfold mf_228_L18
  exact mq_K_L (fun s M h => mk_228_b18 h) h
theorem mk_228 {v1 : Int32} {M : mm_M} : mq_K mw_228 M (mf_228 v1 M) := by
  unfold mf_228
  exact mq_K_B (mk_228_L18 (mq_kp_pi mq_kp_refl rfl)) (fun _ M1 hM1 => mq_K_ret hM1)
-- 231: PlainPacksModel.walk
def mw_231 : List (Nat × Option Nat) := [(84, some 4), (84, some 7), (86, none), (96, none)]
theorem mk_231_b21 {v1 : Int32} {v2 : Int32} {v3 : Int32} {v4 : Int32} {M0 M : mm_M} (h : mq_kp mw_231 M0 M) : mq_K mw_231 M0 (mf_231_b21 v1 v2 v3 v4 M) := by
  unfold mf_231_b21
  exact mq_K_ite (fun hc => mq_K_ite (fun hc => mq_K_ite (fun hc => mq_K_ite (fun hc => mq_K_ret (mq_kp_pi h rfl)) (fun _ => mq_K_none)) (fun _ => mq_K_ret h)) (fun _ => mq_K_none)) (fun _ => mq_K_ret h)
theorem mk_231_L21 {v1 : Int32} {v3 : Int32} {s : Int32 × Int32} {M0 M : mm_M} (h : mq_kp mw_231 M0 M) : mq_K mw_231 M0 (mf_231_L21 v1 v3 s M) := by
  unfold mf_231_L21
  exact mq_K_L (fun s M h => mk_231_b21 h) h
theorem mk_231_b4 {v1 : Int32} {v2 : Int32} {v3 : Int32} {M0 M : mm_M} (h : mq_kp mw_231 M0 M) : mq_K mw_231 M0 (mf_231_b4 v1 v2 v3 M) := by
  unfold mf_231_b4
  exact mq_K_ite (fun hc => mq_K_ite (fun hc => mq_K_B (mk_231_L21 h) (fun _ M1 hM1 => mq_K_ret hM1)) (fun _ => mq_K_ret h)) (fun _ => mq_K_ret h)
theorem mk_231_L4 {v1 : Int32} {s : Int32 × Int32} {M0 M : mm_M} (h : mq_kp mw_231 M0 M) : mq_K mw_231 M0 (mf_231_L4 v1 s M) := by
  unfold mf_231_L4
  exact mq_K_L (fun s M h => mk_231_b4 h) h
theorem mk_231_b124 {v3 : Int32} {v5 : Int32} {v6 : Int32} {v7 : Int32} {v8 : Int32} {M0 M : mm_M} (h : mq_kp mw_231 M0 M) : mq_K mw_231 M0 (mf_231_b124 v3 v5 v6 v7 v8 M) := by
  unfold mf_231_b124
  exact mq_K_ite (fun hc => mq_K_ite (fun hc => mq_K_B (mq_K_call mk_194 h rfl) (fun _ M2 hM2 => mq_K_ret hM2)) (fun _ => mq_K_ret h)) (fun _ => mq_K_ret h)
theorem mk_231_L124 {v3 : Int32} {v5 : Int32} {v6 : Int32} {v7 : Int32} {s : Int32} {M0 M : mm_M} (h : mq_kp mw_231 M0 M) : mq_K mw_231 M0 (mf_231_L124 v3 v5 v6 v7 s M) := by
  unfold mf_231_L124
  exact mq_K_L (fun s M h => mk_231_b124 h) h
theorem mk_231_j188 {v3 : Int32} {v4 : Int32} {v5 : Int32} {v6 : Int32} {M0 M : mm_M} (h : mq_kp mw_231 M0 M) : mq_K mw_231 M0 (mf_231_j188 v3 v4 v5 v6 M) := by
  unfold mf_231_j188
  exact mq_K_ite (fun hc => mq_K_ret h) (fun _ => mq_K_none)
theorem mk_231_j175 {v3 : Int32} {v6 : Int32} {v7 : Int32} {s0 : Int32} {M0 M : mm_M} (h : mq_kp mw_231 M0 M) : mq_K mw_231 M0 (mf_231_j175 v3 v6 v7 s0 M) := by
  unfold mf_231_j175
  exact mq_K_B (mq_K_call mk_194 h rfl) (fun _ M2 hM2 => mk_231_j188 hM2)
theorem mk_231_b91 {v3 : Int32} {v4 : Int32} {v5 : Int32} {v6 : Int32} {M0 M : mm_M} (h : mq_kp mw_231 M0 M) : mq_K mw_231 M0 (mf_231_b91 v3 v4 v5 v6 M) := by
  unfold mf_231_b91
  exact mq_K_ite (fun hc => mq_K_ite (fun hc => mq_K_ite (fun hc => mq_K_ite (fun hc => mq_K_B (mk_231_L124 h) (fun _ M1 hM1 => mk_231_j188 hM1)) (fun _ => mq_K_ite (fun hc => mk_231_j175 h) (fun _ => mk_231_j175 h))) (fun _ => mq_K_none)) (fun _ => mq_K_ret h)) (fun _ => mq_K_ret h)
theorem mk_231_L91 {s : Int32 × Int32 × Int32 × Int32} {M0 M : mm_M} (h : mq_kp mw_231 M0 M) : mq_K mw_231 M0 (mf_231_L91 s M) := by
  unfold mf_231_L91
  exact mq_K_L (fun s M h => mk_231_b91 h) h
theorem mk_231_j64 {v1 : Int32} {M0 M : mm_M} (h : mq_kp mw_231 M0 M) : mq_K mw_231 M0 (mf_231_j64 v1 M) := by
  unfold mf_231_j64
  exact mq_K_ite (fun hc => mq_K_ite (fun hc => mq_K_B (mk_231_L91 h) (fun _ M1 hM1 => mq_K_ret hM1)) (fun _ => mq_K_none)) (fun _ => mq_K_B (mk_231_L91 h) (fun _ M12 hM12 => mq_K_ret hM12))
theorem mk_231 {v1 : Int32} {M : mm_M} : mq_K mw_231 M (mf_231 v1 M) := by
  unfold mf_231
  exact mq_K_B (mk_231_L4 mq_kp_refl) (fun _ M1 hM1 => mk_231_j64 hM1)
-- 183: PlainPacksModel.crcHigh
def mw_183 (p : Nat) : List (Nat × Option Nat) := []
theorem mk_183_b24 {p : Nat} {n : Nat} {v2 : Int32} {v3 : Int32} {v4 : Int32} {v5 : Int32} {M0 M : mm_M} (h : mq_kp (mw_183 p) M0 M) : mq_K (mw_183 p) M0 (mf_183_b24 p n v2 v3 v4 v5 M) := by
  unfold mf_183_b24
  exact mq_K_ite (fun hc => mq_K_ite (fun hc => mq_K_ret h) (fun _ => mq_K_ret h)) (fun _ => mq_K_ret h)
theorem mk_183_L24 {p : Nat} {n : Nat} {v2 : Int32} {v4 : Int32} {s : Int32 × Int32} {M0 M : mm_M} (h : mq_kp (mw_183 p) M0 M) : mq_K (mw_183 p) M0 (mf_183_L24 p n v2 v4 s M) := by
  unfold mf_183_L24
  exact mq_K_L (fun s M h => mk_183_b24 h) h
theorem mk_183_b5 {p : Nat} {n : Nat} {v2 : Int32} {v3 : Int32} {v4 : Int32} {M0 M : mm_M} (h : mq_kp (mw_183 p) M0 M) : mq_K (mw_183 p) M0 (mf_183_b5 p n v2 v3 v4 M) := by
  unfold mf_183_b5
  exact mq_K_ite (fun hc => mq_K_ite (fun hc => mq_K_B (mk_183_L24 h) (fun _ M1 hM1 => mq_K_ret hM1)) (fun _ => mq_K_none)) (fun _ => mq_K_ret h)
theorem mk_183_L5 {p : Nat} {n : Nat} {v2 : Int32} {s : Int32 × Int32} {M0 M : mm_M} (h : mq_kp (mw_183 p) M0 M) : mq_K (mw_183 p) M0 (mf_183_L5 p n v2 s M) := by
  unfold mf_183_L5
  exact mq_K_L (fun s M h => mk_183_b5 h) h
theorem mk_183 {p : Nat} {n : Nat} {v1 : Int32} {v2 : Int32} {M : mm_M} : mq_K (mw_183 p) M (mf_183 p n v1 v2 M) := by
  unfold mf_183
  exact mq_K_B (mk_183_L5 mq_kp_refl) (fun _ M1 hM1 => mq_K_ret hM1)
-- 224: PlainPacksModel.sortedBlock
def mw_224 : List (Nat × Option Nat) := [(84, some 4), (84, some 5), (84, some 7), (84, some 12), (84, some 14), (84, some 15), (84, some 20), (84, some 28), (84, some 29), (84, some 30), (86, none), (87, none), (88, none), (93, none), (94, none), (95, none), (96, none), (97, none)]
theorem mk_224_b132 {v1 : Int32} {v2 : Int32} {v3 : Int32} {v4 : Int32} {M0 M : mm_M} (h : mq_kp mw_224 M0 M) : mq_K mw_224 M0 (mf_224_b132 v1 v2 v3 v4 M) := by
  unfold mf_224_b132
  exact mq_K_ite (fun hc => mq_K_ite (fun hc => mq_K_B (mq_K_call mk_227 h rfl) (fun _ M1 hM1 => mq_K_ret hM1)) (fun _ => mq_K_ret h)) (fun _ => mq_K_ret h)
theorem mk_224_L132 {v1 : Int32} {v2 : Int32} {v3 : Int32} {s : Int32} {M0 M : mm_M} (h : mq_kp mw_224 M0 M) : mq_K mw_224 M0 (mf_224_L132 v1 v2 v3 s M) := by
  unfold mf_224_L132
  exact mq_K_L (fun s M h => mk_224_b132 h) h
theorem mk_224_j189 {v1 : Int32} {v2 : Int32} {M0 M : mm_M} (h : mq_kp mw_224 M0 M) : mq_K mw_224 M0 (mf_224_j189 v1 v2 M) := by
  unfold mf_224_j189
  exact mq_K_B (mq_K_call mk_231 h rfl) (fun _ M1 hM1 => mq_K_ite (fun hc => mq_K_B (mq_K_call mk_183 hM1 rfl) (fun _ M3 hM3 => mq_K_ite (fun hc => mq_K_ret hM3) (fun _ => mq_K_B (mq_K_call mk_190 hM3 rfl) (fun _ M4 hM4 => mq_K_ret hM4)))) (fun _ => mq_K_ret hM1))
theorem mk_224_j163 {v1 : Int32} {v2 : Int32} {v3 : Int32} {M0 M : mm_M} (h : mq_kp mw_224 M0 M) : mq_K mw_224 M0 (mf_224_j163 v1 v2 v3 M) := by
  unfold mf_224_j163
  exact mq_K_B (mq_K_call mk_228 h rfl) (fun _ M1 hM1 => mq_K_ite (fun hc => mq_K_ite (fun hc => mk_224_j189 hM1) (fun _ => mq_K_B (mq_K_call mk_190 hM1 rfl) (fun _ M2 hM2 => mk_224_j189 hM2))) (fun _ => mk_224_j189 hM1))
theorem mk_224_j125 {v1 : Int32} {v2 : Int32} {v3 : Int32} {M0 M : mm_M} (h : mq_kp mw_224 M0 M) : mq_K mw_224 M0 (mf_224_j125 v1 v2 v3 M) := by
  unfold mf_224_j125
  exact mq_K_B (mq_K_call mk_226 h rfl) (fun _ M1 hM1 => mq_K_B (mk_224_L132 hM1) (fun _ M2 hM2 => mk_224_j163 hM2))
theorem mk_224_j96 {v1 : Int32} {v2 : Int32} {v3 : Int32} {M0 M : mm_M} (h : mq_kp mw_224 M0 M) : mq_K mw_224 M0 (mf_224_j96 v1 v2 v3 M) := by
  unfold mf_224_j96
  exact mq_K_B (mq_K_call mk_198 h rfl) (fun _ M2 hM2 => mq_K_ite (fun hc => mq_K_ite (fun hc => mq_K_B (mq_K_call mk_190 (mq_kp_pi hM2 rfl) rfl) (fun _ M3 hM3 => mk_224_j125 hM3)) (fun _ => mk_224_j125 (mq_kp_pi hM2 rfl))) (fun _ => mk_224_j125 (mq_kp_pi hM2 rfl)))
theorem mk_224_j92 {v1 : Int32} {v2 : Int32} {v3 : Int32} {M0 M : mm_M} (h : mq_kp mw_224 M0 M) : mq_K mw_224 M0 (mf_224_j92 v1 v2 v3 M) := by
  unfold mf_224_j92
  exact mq_K_B (mq_K_call mk_190 h rfl) (fun _ M1 hM1 => mk_224_j96 hM1)
theorem mk_224_j41 {v1 : Int32} {M0 M : mm_M} (h : mq_kp mw_224 M0 M) : mq_K mw_224 M0 (mf_224_j41 v1 M) := by
  unfold mf_224_j41
  exact mq_K_B (mq_K_call mk_198 h rfl) (fun _ M2 hM2 => mq_K_B (mq_K_call mk_225 hM2 rfl) (fun _ M3 hM3 => mq_K_B (mq_K_call mk_198 hM3 rfl) (fun _ M5 hM5 => mq_K_ite (fun hc => mq_K_ite (fun hc => mk_224_j92 (mq_kp_pi hM5 rfl)) (fun _ => mq_K_ite (fun hc => mk_224_j92 (mq_kp_pi hM5 rfl)) (fun _ => mk_224_j96 (mq_kp_pi hM5 rfl)))) (fun _ => mk_224_j96 (mq_kp_pi hM5 rfl)))))
theorem mk_224 {M : mm_M} : mq_K mw_224 M (mf_224 M) := by
  unfold mf_224
  exact mq_K_B (mq_K_call mk_198 mq_kp_refl rfl) (fun _ M2 hM2 => mq_K_ite (fun hc => mq_K_B (mq_K_call mk_198 (mq_kp_pi hM2 rfl) rfl) (fun _ M4 hM4 => mq_K_ite (fun hc => mq_K_B (mq_K_call mk_190 hM4 rfl) (fun _ M5 hM5 => mk_224_j41 hM5)) (fun _ => mk_224_j41 hM4))) (fun _ => mq_K_ret hM2))
-- 223: PlainPacksModel.sorted
def mw_223 : List (Nat × Option Nat) := [(84, some 4), (84, some 5), (84, some 7), (84, some 12), (84, some 13), (84, some 14), (84, some 15), (84, some 20), (84, some 28), (84, some 29), (84, some 30), (86, none), (87, none), (88, none), (93, none), (94, none), (95, none), (96, none), (97, none)]
theorem mk_223_j116 {v2 : Int32} {v3 : Int32} {M0 M : mm_M} (h : mq_kp mw_223 M0 M) : mq_K mw_223 M0 (mf_223_j116 v2 v3 M) := by
  unfold mf_223_j116
  exact mq_K_ite (fun hc => mq_K_B (mq_K_call mk_224 h rfl) (fun _ M2 hM2 => mq_K_B (mq_K_call mk_185 hM2 rfl) (fun _ M4 hM4 => mq_K_ret hM4))) (fun _ => mq_K_ret h)
theorem mk_223_b60 {v2 : Int32} {v3 : Int32} {M0 M : mm_M} (h : mq_kp mw_223 M0 M) : mq_K mw_223 M0 (mf_223_b60 v2 v3 M) := by
  unfold mf_223_b60
  exact mq_K_ite (fun hc => mq_K_ret h) (fun _ => mq_K_ite (fun hc => mq_K_B (mq_K_call mk_198 h rfl) (fun _ M2 hM2 => mq_K_ite (fun hc => mq_K_ret hM2) (fun _ => mq_K_ite (fun hc => mq_K_ite (fun hc => mk_223_j116 hM2) (fun _ => mq_K_B (mq_K_call mk_190 hM2 rfl) (fun _ M3 hM3 => mq_K_ret hM3))) (fun _ => mk_223_j116 hM2)))) (fun _ => mq_K_ret h))
theorem mk_223_L60 {s : Int32 × Int32} {M0 M : mm_M} (h : mq_kp mw_223 M0 M) : mq_K mw_223 M0 (mf_223_L60 s M) := by
  unfold mf_223_L60
  exact mq_K_L (fun s M h => mk_223_b60 h) h
theorem mk_223_j141 {v2 : Int32} {M0 M : mm_M} (h : mq_kp mw_223 M0 M) : mq_K mw_223 M0 (mf_223_j141 v2 M) := by
  unfold mf_223_j141
  exact mq_K_B (mq_K_call mk_198 h rfl) (fun _ M2 hM2 => mq_K_ite (fun hc => mq_K_ite (fun hc => mq_K_ret hM2) (fun _ => mq_K_B (mq_K_call mk_190 hM2 rfl) (fun _ M3 hM3 => mq_K_ret hM3))) (fun _ => mq_K_ret hM2))
theorem mk_223_j42 {M0 M : mm_M} (h : mq_kp mw_223 M0 M) : mq_K mw_223 M0 (mf_223_j42 M) := by
  unfold mf_223_j42
  exact mq_K_B (mq_K_call mk_190 h rfl) (fun _ M1 hM1 => mq_K_B (mk_223_L60 (mq_kp_pi (mq_kp_pi hM1 rfl) rfl)) (fun _ M2 hM2 => mk_223_j141 hM2))
theorem mk_223 {M : mm_M} : mq_K mw_223 M (mf_223 M) := by
  unfold mf_223
  exact mq_K_B (mq_K_call mk_192 mq_kp_refl rfl) (fun _ M1 hM1 => mq_K_B (mq_K_call mk_192 hM1 rfl) (fun _ M2 hM2 => mq_K_B (mq_K_call mk_192 hM2 rfl) (fun _ M3 hM3 => mq_K_B (mq_K_call mk_191 hM3 rfl) (fun _ M5 hM5 => mq_K_ite (fun hc => mq_K_ite (fun hc => mk_223_j42 hM5) (fun _ => mq_K_ite (fun hc => mk_223_j42 hM5) (fun _ => mq_K_B (mk_223_L60 (mq_kp_pi (mq_kp_pi hM5 rfl) rfl)) (fun _ M6 hM6 => mk_223_j141 hM6)))) (fun _ => mq_K_B (mk_223_L60 (mq_kp_pi (mq_kp_pi hM5 rfl) rfl)) (fun _ M13 hM13 => mk_223_j141 hM13))))))
-- 232: PlainPacksModel.grow
def mw_232 : List (Nat × Option Nat) := [(84, some 5), (84, some 7), (84, some 33), (84, some 34)]
theorem mk_232 {M : mm_M} : mq_K mw_232 M (mf_232 M) := by
  unfold mf_232
  exact mq_K_ite (fun hc => mq_K_B (mq_K_call mk_191 (mq_kp_pl mq_kp_refl rfl) rfl) (fun _ M2 hM2 => mq_K_ret (mq_kp_pl hM2 rfl))) (fun _ => mq_K_ret mq_kp_refl)
-- 233: PlainPacksModel.chance
def mw_233 : List (Nat × Option Nat) := [(84, some 5), (84, some 7), (84, some 33), (84, some 34), (98, none)]
theorem mk_233_j115 {v4 : Int32} {M0 M : mm_M} (h : mq_kp mw_233 M0 M) : mq_K mw_233 M0 (mf_233_j115 v4 M) := by
  unfold mf_233_j115
  exact mq_K_B (mq_K_call mk_232 h rfl) (fun _ M1 hM1 => mq_K_ret hM1)
theorem mk_233_j40 {v1 : Int32} {v2 : Int64} {s0 : Int32} {M0 M : mm_M} (h : mq_kp mw_233 M0 M) : mq_K mw_233 M0 (mf_233_j40 v1 v2 s0 M) := by
  unfold mf_233_j40
  exact mq_K_ite (fun hc => mq_K_ite (fun hc => mq_K_ite (fun hc => mq_K_ite (fun hc => mk_233_j115 (mq_kp_pi (mq_kp_pl h rfl) rfl)) (fun _ => mq_K_none)) (fun _ => mq_K_none)) (fun _ => mq_K_none)) (fun _ => mq_K_ite (fun hc => mq_K_ite (fun hc => mq_K_ite (fun hc => mk_233_j115 (mq_kp_pi (mq_kp_pl (mq_kp_pl h rfl) rfl) rfl)) (fun _ => mq_K_none)) (fun _ => mq_K_none)) (fun _ => mq_K_none))
theorem mk_233 {v1 : Int32} {M : mm_M} : mq_K mw_233 M (mf_233 v1 M) := by
  unfold mf_233
  exact mq_K_ite (fun hc => mq_K_ite (fun hc => mq_K_ite (fun hc => mk_233_j40 mq_kp_refl) (fun _ => mk_233_j40 mq_kp_refl)) (fun _ => mq_K_none)) (fun _ => mq_K_ret mq_kp_refl)
-- 241: PlainPacksModel.byByte
def mw_241 : List (Nat × Option Nat) := [(84, some 4), (84, some 5), (84, some 7), (84, some 8), (84, some 33), (84, some 34), (86, none), (98, none)]
theorem mk_241_j152 {v2 : Int32} {v3 : Int32} {v4 : Int32} {v5 : Int32} {v6 : Int32} {v7 : Int32} {s1 : Int32} {s2 : Int32} {M0 M : mm_M} (h : mq_kp mw_241 M0 M) : mq_K mw_241 M0 (mf_241_j152 v2 v3 v4 v5 v6 v7 s1 s2 M) := by
  unfold mf_241_j152
  exact mq_K_B (mq_K_call mk_233 h rfl) (fun _ M2 hM2 => mq_K_ite (fun hc => mq_K_ret hM2) (fun _ => mq_K_ite (fun hc => mq_K_ret hM2) (fun _ => mq_K_ret hM2)))
theorem mk_241_b118 {v2 : Int32} {v3 : Int32} {v4 : Int32} {v5 : Int32} {v6 : Int32} {M0 M : mm_M} (h : mq_kp mw_241 M0 M) : mq_K mw_241 M0 (mf_241_b118 v2 v3 v4 v5 v6 M) := by
  unfold mf_241_b118
  exact mq_K_ite (fun hc => mq_K_ret h) (fun _ => mq_K_ite (fun hc => mk_241_j152 h) (fun _ => mk_241_j152 h))
theorem mk_241_L118 {v2 : Int32} {v4 : Int32} {s : Int32 × Int32 × Int32} {M0 M : mm_M} (h : mq_kp mw_241 M0 M) : mq_K mw_241 M0 (mf_241_L118 v2 v4 s M) := by
  unfold mf_241_L118
  exact mq_K_L (fun s M h => mk_241_b118 h) h
theorem mk_241_j193 {v5 : Int32} {M0 M : mm_M} (h : mq_kp mw_241 M0 M) : mq_K mw_241 M0 (mf_241_j193 v5 M) := by
  unfold mf_241_j193
  exact mq_K_B (mq_K_call mk_194 h rfl) (fun _ M2 hM2 => mq_K_ite (fun hc => mq_K_ret (mq_kp_pi hM2 rfl)) (fun _ => mq_K_ret (mq_kp_pi hM2 rfl)))
theorem mk_241_j76 {v2 : Int32} {s0 : Int32} {M0 M : mm_M} (h : mq_kp mw_241 M0 M) : mq_K mw_241 M0 (mf_241_j76 v2 s0 M) := by
  unfold mf_241_j76
  exact mq_K_ite (fun hc => mq_K_B (mk_241_L118 h) (fun _ M1 hM1 => mk_241_j193 hM1)) (fun _ => mq_K_ite (fun hc => mq_K_ite (fun hc => mq_K_ite (fun hc => mq_K_B (mk_241_L118 h) (fun _ M10 hM10 => mk_241_j193 hM10)) (fun _ => mq_K_none)) (fun _ => mq_K_none)) (fun _ => mq_K_B (mk_241_L118 h) (fun _ M19 hM19 => mk_241_j193 hM19)))
theorem mk_241_j22 {s0 : Int32} {M0 M : mm_M} (h : mq_kp mw_241 M0 M) : mq_K mw_241 M0 (mf_241_j22 s0 M) := by
  unfold mf_241_j22
  exact mq_K_ite (fun hc => mk_241_j76 h) (fun _ => mk_241_j76 h)
theorem mk_241 {M : mm_M} : mq_K mw_241 M (mf_241 M) := by
  unfold mf_241
  exact mq_K_ite (fun hc => mk_241_j22 mq_kp_refl) (fun _ => mq_K_ite (fun hc => mk_241_j22 mq_kp_refl) (fun _ => mq_K_none))
-- 234: PlainPacksModel.tree
def mw_234 : List (Nat × Option Nat) := [(84, some 5), (84, some 7), (84, some 33), (84, some 34), (98, none)]
theorem mk_234_b5 {v1 : Int32} {v2 : Int32} {v3 : Int32} {v4 : Int32} {M0 M : mm_M} (h : mq_kp mw_234 M0 M) : mq_K mw_234 M0 (mf_234_b5 v1 v2 v3 v4 M) := by
  unfold mf_234_b5
  exact mq_K_ite (fun hc => mq_K_B (mq_K_call mk_233 h rfl) (fun _ M2 hM2 => mq_K_ret hM2)) (fun _ => mq_K_ret h)
theorem mk_234_L5 {v1 : Int32} {v2 : Int32} {s : Int32 × Int32} {M0 M : mm_M} (h : mq_kp mw_234 M0 M) : mq_K mw_234 M0 (mf_234_L5 v1 v2 s M) := by
  unfold mf_234_L5
  exact mq_K_L (fun s M h => mk_234_b5 h) h
theorem mk_234 {v1 : Int32} {v2 : Int32} {M : mm_M} : mq_K mw_234 M (mf_234 v1 v2 M) := by
  unfold mf_234
  exact mq_K_B (mk_234_L5 mq_kp_refl) (fun _ M1 hM1 => mq_K_ret hM1)
-- 242: PlainPacksModel.lengthOf
def mw_242 : List (Nat × Option Nat) := [(84, some 5), (84, some 7), (84, some 33), (84, some 34), (98, none)]
theorem mk_242 {v1 : Int32} {v2 : Int32} {M : mm_M} : mq_K mw_242 M (mf_242 v1 v2 M) := by
  unfold mf_242
  exact mq_K_B (mq_K_call mk_233 mq_kp_refl rfl) (fun _ M2 hM2 => mq_K_ite (fun hc => mq_K_B (mq_K_call mk_234 hM2 rfl) (fun _ M4 hM4 => mq_K_ret hM4)) (fun _ => mq_K_B (mq_K_call mk_233 hM2 rfl) (fun _ M6 hM6 => mq_K_ite (fun hc => mq_K_B (mq_K_call mk_234 hM6 rfl) (fun _ M8 hM8 => mq_K_ret hM8)) (fun _ => mq_K_B (mq_K_call mk_234 hM6 rfl) (fun _ M10 hM10 => mq_K_ret hM10)))))
-- 240: PlainPacksModel.isRoom
def mw_240 : List (Nat × Option Nat) := [(84, some 7)]
theorem mk_240 {v1 : Int32} {v2 : Int64} {M : mm_M} : mq_K mw_240 M (mf_240 v1 v2 M) := by
  unfold mf_240
  exact mq_K_ite (fun hc => mq_K_ite (fun hc => mq_K_ret mq_kp_refl) (fun _ => mq_K_ite (fun hc => mq_K_B (mq_K_call mk_190 mq_kp_refl rfl) (fun _ M1 hM1 => mq_K_ret hM1)) (fun _ => mq_K_ret mq_kp_refl))) (fun _ => mq_K_ret mq_kp_refl)
-- 235: PlainPacksModel.turnedTree
def mw_235 : List (Nat × Option Nat) := [(84, some 5), (84, some 7), (84, some 33), (84, some 34), (98, none)]
theorem mk_235_b8 {v1 : Int32} {v2 : Int32} {v3 : Int32} {v4 : Int64} {v6 : Int32} {M0 M : mm_M} (h : mq_kp mw_235 M0 M) : mq_K mw_235 M0 (mf_235_b8 v1 v2 v3 v4 v6 M) := by
  unfold mf_235_b8
  exact mq_K_ite (fun hc => mq_K_B (mq_K_call mk_233 h rfl) (fun _ M2 hM2 => mq_K_ret hM2)) (fun _ => mq_K_ret h)
theorem mk_235_L8 {v1 : Int32} {v2 : Int32} {s : Int32 × Int64 × Int32} {M0 M : mm_M} (h : mq_kp mw_235 M0 M) : mq_K mw_235 M0 (mf_235_L8 v1 v2 s M) := by
  unfold mf_235_L8
  exact mq_K_L (fun s M h => mk_235_b8 h) h
theorem mk_235 {v1 : Int32} {v2 : Int32} {M : mm_M} : mq_K mw_235 M (mf_235 v1 v2 M) := by
  unfold mf_235
  exact mq_K_B (mk_235_L8 mq_kp_refl) (fun _ M1 hM1 => mq_K_ret hM1)
-- 236: PlainPacksModel.plainBits
def mw_236 : List (Nat × Option Nat) := [(84, some 5), (84, some 7), (84, some 33), (84, some 34)]
theorem mk_236_j68 {v1 : Int32} {v2 : Int64} {v4 : Int32} {v5 : Int32} {s1 : Int64} {s2 : Int64} {M0 M : mm_M} (h : mq_kp mw_236 M0 M) : mq_K mw_236 M0 (mf_236_j68 v1 v2 v4 v5 s1 s2 M) := by
  unfold mf_236_j68
  exact mq_K_B (mq_K_call mk_232 (mq_kp_pl h rfl) rfl) (fun _ M1 hM1 => mq_K_ret hM1)
theorem mk_236_j47 {v1 : Int32} {v2 : Int64} {v4 : Int32} {s0 : Int32} {M0 M : mm_M} (h : mq_kp mw_236 M0 M) : mq_K mw_236 M0 (mf_236_j47 v1 v2 v4 s0 M) := by
  unfold mf_236_j47
  exact mq_K_ite (fun hc => mk_236_j68 h) (fun _ => mk_236_j68 h)
theorem mk_236_b5 {v1 : Int32} {v2 : Int64} {v4 : Int32} {M0 M : mm_M} (h : mq_kp mw_236 M0 M) : mq_K mw_236 M0 (mf_236_b5 v1 v2 v4 M) := by
  unfold mf_236_b5
  exact mq_K_ite (fun hc => mq_K_ite (fun hc => mq_K_ite (fun hc => mk_236_j47 (mq_kp_pl h rfl)) (fun _ => mk_236_j47 (mq_kp_pl h rfl))) (fun _ => mq_K_ret h)) (fun _ => mq_K_ret h)
theorem mk_236_L5 {v1 : Int32} {s : Int64 × Int32} {M0 M : mm_M} (h : mq_kp mw_236 M0 M) : mq_K mw_236 M0 (mf_236_L5 v1 s M) := by
  unfold mf_236_L5
  exact mq_K_L (fun s M h => mk_236_b5 h) h
theorem mk_236 {v1 : Int32} {M : mm_M} : mq_K mw_236 M (mf_236 v1 M) := by
  unfold mf_236
  exact mq_K_B (mk_236_L5 mq_kp_refl) (fun _ M1 hM1 => mq_K_ret hM1)
-- 243: PlainPacksModel.distanceOf
def mw_243 : List (Nat × Option Nat) := [(84, some 5), (84, some 7), (84, some 33), (84, some 34), (98, none)]
theorem mk_243_j14 {s0 : Int32} {M0 M : mm_M} (h : mq_kp mw_243 M0 M) : mq_K mw_243 M0 (mf_243_j14 s0 M) := by
  unfold mf_243_j14
  exact mq_K_B (mq_K_call mk_234 h rfl) (fun _ M2 hM2 => mq_K_ite (fun hc => mq_K_ret hM2) (fun _ => mq_K_ite (fun hc => mq_K_B (mq_K_call mk_235 hM2 rfl) (fun _ M4 hM4 => mq_K_ret hM4)) (fun _ => mq_K_B (mq_K_call mk_236 hM2 rfl) (fun _ M6 hM6 => mq_K_B (mq_K_call mk_235 hM6 rfl) (fun _ M8 hM8 => mq_K_ret hM8)))))
theorem mk_243 {v1 : Int32} {M : mm_M} : mq_K mw_243 M (mf_243 v1 M) := by
  unfold mf_243
  exact mq_K_ite (fun hc => mk_243_j14 mq_kp_refl) (fun _ => mk_243_j14 mq_kp_refl)
-- 239: PlainPacksModel.isThere
def mw_239 : List (Nat × Option Nat) := [(84, some 7)]
theorem mk_239 {v1 : Int32} {M : mm_M} : mq_K mw_239 M (mf_239 v1 M) := by
  unfold mf_239
  exact mq_K_ite (fun hc => mq_K_ite (fun hc => mq_K_ite (fun hc => mq_K_B (mq_K_call mk_190 mq_kp_refl rfl) (fun _ M1 hM1 => mq_K_ret hM1)) (fun _ => mq_K_ret mq_kp_refl)) (fun _ => mq_K_none)) (fun _ => mq_K_ret mq_kp_refl)
-- 238: PlainPacksModel.place
def mw_238 : List (Nat × Option Nat) := [(84, some 4), (84, some 5), (84, some 7), (84, some 8), (84, some 9), (84, some 10), (84, some 11), (84, some 33), (84, some 34), (84, some 35), (86, none), (98, none), (99, none)]
theorem mk_238_b136 {v1 : Int64} {v4 : Int32} {v5 : Int64} {v7 : Int32} {M0 M : mm_M} (h : mq_kp mw_238 M0 M) : mq_K mw_238 M0 (mf_238_b136 v1 v4 v5 v7 M) := by
  unfold mf_238_b136
  exact mq_K_ite (fun hc => mq_K_ite (fun hc => mq_K_ite (fun hc => mq_K_ret (mq_kp_pl h rfl)) (fun _ => mq_K_none)) (fun _ => mq_K_none)) (fun _ => mq_K_ret h)
theorem mk_238_L136 {v1 : Int64} {v4 : Int32} {v5 : Int64} {s : Int32} {M0 M : mm_M} (h : mq_kp mw_238 M0 M) : mq_K mw_238 M0 (mf_238_L136 v1 v4 v5 s M) := by
  unfold mf_238_L136
  exact mq_K_L (fun s M h => mk_238_b136 h) h
theorem mk_238_j450 {v1 : Int64} {v4 : Int32} {M0 M : mm_M} (h : mq_kp mw_238 M0 M) : mq_K mw_238 M0 (mf_238_j450 v1 v4 M) := by
  unfold mf_238_j450
  exact mq_K_B (mq_K_call mk_240 h rfl) (fun _ M1 hM1 => mq_K_ite (fun hc => mq_K_B (mq_K_call mk_196 hM1 rfl) (fun _ M2 hM2 => mq_K_ret hM2)) (fun _ => mq_K_none))
theorem mk_238_j188 {v1 : Int64} {v4 : Int32} {v5 : Int64} {s1 : Int32} {M0 M : mm_M} (h : mq_kp mw_238 M0 M) : mq_K mw_238 M0 (mf_238_j188 v1 v4 v5 s1 M) := by
  unfold mf_238_j188
  exact mq_K_ite (fun hc => mq_K_ite (fun hc => mq_K_ite (fun hc => mq_K_ret (mq_kp_pi h rfl)) (fun _ => mk_238_j450 (mq_kp_pi h rfl))) (fun _ => mk_238_j450 (mq_kp_pi h rfl))) (fun _ => mk_238_j450 (mq_kp_pi h rfl))
theorem mk_238_j163 {v1 : Int64} {v4 : Int32} {v5 : Int64} {M0 M : mm_M} (h : mq_kp mw_238 M0 M) : mq_K mw_238 M0 (mf_238_j163 v1 v4 v5 M) := by
  unfold mf_238_j163
  exact mq_K_ite (fun hc => mq_K_ite (fun hc => mk_238_j188 (mq_kp_pl h rfl)) (fun _ => mk_238_j188 (mq_kp_pl h rfl))) (fun _ => mq_K_none)
theorem mk_238_j282 {v1 : Int64} {v5 : Int32} {s0 : Int32} {M0 M : mm_M} (h : mq_kp mw_238 M0 M) : mq_K mw_238 M0 (mf_238_j282 v1 v5 s0 M) := by
  unfold mf_238_j282
  exact mq_K_ite (fun hc => mq_K_ite (fun hc => mk_238_j450 (mq_kp_pi h rfl)) (fun _ => mk_238_j450 (mq_kp_pi h rfl))) (fun _ => mq_K_ite (fun hc => mk_238_j450 (mq_kp_pi h rfl)) (fun _ => mk_238_j450 (mq_kp_pi h rfl)))
theorem mk_238_j263 {v1 : Int64} {v3 : Int32} {s0 : Int32} {M0 M : mm_M} (h : mq_kp mw_238 M0 M) : mq_K mw_238 M0 (mf_238_j263 v1 v3 s0 M) := by
  unfold mf_238_j263
  exact mq_K_ite (fun hc => mq_K_B (mq_K_call mk_242 h rfl) (fun _ M2 hM2 => mk_238_j282 hM2)) (fun _ => mk_238_j282 h)
theorem mk_238_b385 {v1 : Int64} {v3 : Int32} {v6 : Int64} {v8 : Int32} {M0 M : mm_M} (h : mq_kp mw_238 M0 M) : mq_K mw_238 M0 (mf_238_b385 v1 v3 v6 v8 M) := by
  unfold mf_238_b385
  exact mq_K_ite (fun hc => mq_K_ite (fun hc => mq_K_ite (fun hc => mq_K_ret (mq_kp_pl h rfl)) (fun _ => mq_K_none)) (fun _ => mq_K_none)) (fun _ => mq_K_ret h)
theorem mk_238_L385 {v1 : Int64} {v3 : Int32} {v6 : Int64} {s : Int32} {M0 M : mm_M} (h : mq_kp mw_238 M0 M) : mq_K mw_238 M0 (mf_238_L385 v1 v3 v6 s M) := by
  unfold mf_238_L385
  exact mq_K_L (fun s M h => mk_238_b385 h) h
theorem mk_238_j447 {v1 : Int64} {v4 : Int32} {s1 : Int32} {M0 M : mm_M} (h : mq_kp mw_238 M0 M) : mq_K mw_238 M0 (mf_238_j447 v1 v4 s1 M) := by
  unfold mf_238_j447
  exact mk_238_j450 (mq_kp_pi h rfl)
theorem mk_238_j412 {v1 : Int64} {v3 : Int32} {v6 : Int64} {M0 M : mm_M} (h : mq_kp mw_238 M0 M) : mq_K mw_238 M0 (mf_238_j412 v1 v3 v6 M) := by
  unfold mf_238_j412
  exact mq_K_ite (fun hc => mq_K_B (mq_K_call mk_242 (mq_kp_pl h rfl) rfl) (fun _ M2 hM2 => mq_K_ite (fun hc => mk_238_j447 hM2) (fun _ => mk_238_j447 hM2))) (fun _ => mq_K_none)
theorem mk_238_j364 {v1 : Int64} {v3 : Int32} {s0 : Int32} {M0 M : mm_M} (h : mq_kp mw_238 M0 M) : mq_K mw_238 M0 (mf_238_j364 v1 v3 s0 M) := by
  unfold mf_238_j364
  exact mq_K_B (mq_K_call mk_239 h rfl) (fun _ M1 hM1 => mq_K_ite (fun hc => mq_K_B (mk_238_L385 hM1) (fun _ M2 hM2 => mk_238_j412 hM2)) (fun _ => mq_K_none))
theorem mk_238 {v1 : Int64} {M : mm_M} : mq_K mw_238 M (mf_238 v1 M) := by
  unfold mf_238
  exact mq_K_B (mq_K_call mk_233 mq_kp_refl rfl) (fun _ M2 hM2 => mq_K_ite (fun hc => mq_K_B (mq_K_call mk_241 hM2 rfl) (fun _ M3 hM3 => mq_K_ite (fun hc => mq_K_ret (mq_kp_pi hM3 rfl)) (fun _ => mq_K_ite (fun hc => mq_K_ret (mq_kp_pi hM3 rfl)) (fun _ => mq_K_ret (mq_kp_pi hM3 rfl))))) (fun _ => mq_K_B (mq_K_call mk_233 hM2 rfl) (fun _ M5 hM5 => mq_K_ite (fun hc => mq_K_B (mq_K_call mk_242 hM5 rfl) (fun _ M7 hM7 => mq_K_B (mq_K_call mk_240 hM7 rfl) (fun _ M8 hM8 => mq_K_ite (fun hc => mq_K_B (mq_K_call mk_243 hM8 rfl) (fun _ M10 hM10 => mq_K_B (mk_238_L136 hM10) (fun _ M11 hM11 => mk_238_j163 hM11))) (fun _ => mq_K_B (mk_238_L136 hM8) (fun _ M18 hM18 => mk_238_j163 hM18))))) (fun _ => mq_K_B (mq_K_call mk_233 hM5 rfl) (fun _ M26 hM26 => mq_K_ite (fun hc => mq_K_B (mq_K_call mk_239 hM26 rfl) (fun _ M27 hM27 => mq_K_B (mq_K_call mk_233 hM27 rfl) (fun _ M29 hM29 => mq_K_ite (fun hc => mk_238_j263 hM29) (fun _ => mk_238_j263 hM29)))) (fun _ => mq_K_B (mq_K_call mk_233 hM26 rfl) (fun _ M31 hM31 => mq_K_ite (fun hc => mk_238_j364 hM31) (fun _ => mq_K_B (mq_K_call mk_233 hM31 rfl) (fun _ M33 hM33 => mk_238_j364 hM33)))))))))
