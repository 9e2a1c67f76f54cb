/-! WHAT IS KEPT 4 -/
-- 216: PlainPacksModel.wordsLow
def mw_216_j27 : List (Nat × Option Nat) := [(84, some 4), (84, some 5), (84, some 7), (84, some 13), (84, some 14), (84, some 15), (86, none), (91, none), (92, none)]
theorem mk_216_j27 {v1 : Int32} {M : mm_M} : mq_K mw_216_j27 M (mf_216_j27 v1 M) := by
  unfold mf_216_j27
  exact mq_K_ite (fun hc => mq_K_B (mq_K_call mk_215 (mq_kp_pi mq_kp_refl rfl) rfl) (fun _ M1 hM1 => mq_K_ret hM1)) (fun _ => mq_K_ret (mq_kp_pi mq_kp_refl rfl))
def mw_216_j23 : List (Nat × Option Nat) := [(84, some 4), (84, some 5), (84, some 7), (84, some 13), (84, some 14), (84, some 15), (86, none), (91, none), (92, none)]
theorem mk_216_j23 {v1 : Int32} {M : mm_M} : mq_K mw_216_j23 M (mf_216_j23 v1 M) := by
  unfold mf_216_j23
  exact mq_K_B (mq_K_call mk_190 mq_kp_refl rfl) (fun _ M1 hM1 => mq_K_call mk_216_j27 hM1 rfl)
def mw_216 : List (Nat × Option Nat) := [(84, some 4), (84, some 5), (84, some 7), (84, some 13), (84, some 14), (84, some 15), (86, none), (91, none), (92, none)]
theorem mk_216 {M : mm_M} : mq_K mw_216 M (mf_216 M) := by
  unfold mf_216
  exact mq_K_B (mq_K_call mk_191 mq_kp_refl rfl) (fun _ M2 hM2 => mq_K_ite (fun hc => mq_K_ite (fun hc => mq_K_call mk_216_j23 hM2 rfl) (fun _ => mq_K_ite (fun hc => mq_K_call mk_216_j23 hM2 rfl) (fun _ => mq_K_call mk_216_j27 hM2 rfl))) (fun _ => mq_K_call mk_216_j27 hM2 rfl))
-- 217: PlainPacksModel.grown
def mw_217_b16 : List (Nat × Option Nat) := [(84, some 5), (84, some 7)]
theorem mk_217_b16 {v2 : Int32} {v3 : Int32} {M : mm_M} : mq_K mw_217_b16 M (mf_217_b16 v2 v3 M) := by
  unfold mf_217_b16
  exact mq_K_ite (fun hc => mq_K_ite (fun hc => mq_K_B (mq_K_call mk_191 mq_kp_refl rfl) (fun _ M2 hM2 => mq_K_ite (fun hc => mq_K_B (mq_K_call mk_190 hM2 rfl) (fun _ M3 hM3 => mq_K_ret hM3)) (fun _ => mq_K_ret hM2))) (fun _ => mq_K_ret mq_kp_refl)) (fun _ => mq_K_ret mq_kp_refl)
def mw_217_L16 : List (Nat × Option Nat) := [(84, some 5), (84, some 7)]
theorem mk_217_L16 {s : Int32 × Int32} {M : mm_M} : mq_K mw_217_L16 M (mf_217_L16 s M) := by
  unfold mf_217_L16
  exact mq_K_L (fun s M h => mq_K_call mk_217_b16 h rfl) mq_kp_refl
def mw_217 : List (Nat × Option Nat) := [(84, some 5), (84, some 7)]
theorem mk_217 {v1 : Int32} {M : mm_M} : mq_K mw_217 M (mf_217 v1 M) := by
  unfold mf_217
  exact mq_K_ite (fun hc => mq_K_B (mq_K_call mk_217_L16 mq_kp_refl rfl) (fun _ M1 hM1 => mq_K_ret hM1)) (fun _ => mq_K_B (mq_K_call mk_217_L16 mq_kp_refl rfl) (fun _ M6 hM6 => mq_K_ret hM6))
-- 218: PlainPacksModel.pieces
def mw_218_j109 : List (Nat × Option Nat) := [(84, some 4), (84, some 7), (84, some 9), (84, some 10), (84, some 11), (86, none)]
theorem mk_218_j109 {v1 : Int32} {v2 : Int32} {v3 : Int32} {v6 : Int64} {s0 : Int32} {M : mm_M} : mq_K mw_218_j109 M (mf_218_j109 v1 v2 v3 v6 s0 M) := by
  unfold mf_218_j109
  exact mq_K_B (mq_K_call mk_196 mq_kp_refl rfl) (fun _ M1 hM1 => mq_K_ret hM1)
def mw_218_j87 : List (Nat × Option Nat) := [(84, some 4), (84, some 5), (84, some 7), (84, some 9), (84, some 10), (84, some 11), (86, none)]
theorem mk_218_j87 {v1 : Int32} {v2 : Int32} {v3 : Int32} {v4 : Int32} {v6 : Int64} {M : mm_M} : mq_K mw_218_j87 M (mf_218_j87 v1 v2 v3 v4 v6 M) := by
  unfold mf_218_j87
  exact mq_K_ite (fun hc => mq_K_B (mq_K_call mk_217 mq_kp_refl rfl) (fun _ M2 hM2 => mq_K_call mk_218_j109 hM2 rfl)) (fun _ => mq_K_call mk_218_j109 mq_kp_refl rfl)
def mw_218_j83 : List (Nat × Option Nat) := [(84, some 4), (84, some 5), (84, some 7), (84, some 9), (84, some 10), (84, some 11), (86, none)]
theorem mk_218_j83 {v1 : Int32} {v2 : Int32} {v3 : Int32} {v4 : Int32} {v6 : Int64} {M : mm_M} : mq_K mw_218_j83 M (mf_218_j83 v1 v2 v3 v4 v6 M) := by
  unfold mf_218_j83
  exact mq_K_B (mq_K_call mk_190 mq_kp_refl rfl) (fun _ M1 hM1 => mq_K_call mk_218_j87 hM1 rfl)
def mw_218_b2 : List (Nat × Option Nat) := [(84, some 4), (84, some 5), (84, some 7), (84, some 8), (84, some 9), (84, some 10), (84, some 11), (86, none)]
theorem mk_218_b2 {v1 : Int32} {v2 : Int32} {v3 : Int32} {M : mm_M} : mq_K mw_218_b2 M (mf_218_b2 v1 v2 v3 M) := by
  unfold mf_218_b2
  exact mq_K_ite (fun hc => mq_K_ret mq_kp_refl) (fun _ => mq_K_ite (fun hc => mq_K_B (mq_K_call mk_191 mq_kp_refl rfl) (fun _ M2 hM2 => mq_K_B (mq_K_call mk_217 hM2 rfl) (fun _ M4 hM4 => mq_K_B (mq_K_call mk_195 hM4 rfl) (fun _ M5 hM5 => mq_K_ite (fun hc => mq_K_ret hM5) (fun _ => mq_K_B (mq_K_call mk_193 hM5 rfl) (fun _ M7 hM7 => mq_K_ite (fun hc => mq_K_ite (fun hc => mq_K_call mk_218_j83 hM7 rfl) (fun _ => mq_K_ite (fun hc => mq_K_call mk_218_j83 hM7 rfl) (fun _ => mq_K_call mk_218_j87 hM7 rfl))) (fun _ => mq_K_call mk_218_j87 hM7 rfl))))))) (fun _ => mq_K_ret mq_kp_refl))
def mw_218_L2 : List (Nat × Option Nat) := [(84, some 4), (84, some 5), (84, some 7), (84, some 8), (84, some 9), (84, some 10), (84, some 11), (86, none)]
theorem mk_218_L2 {v1 : Int32} {v2 : Int32} {s : Int32} {M : mm_M} : mq_K mw_218_L2 M (mf_218_L2 v1 v2 s M) := by
  unfold mf_218_L2
  exact mq_K_L (fun s M h => mq_K_call mk_218_b2 h rfl) mq_kp_refl
def mw_218 : List (Nat × Option Nat) := [(84, some 4), (84, some 5), (84, some 7), (84, some 8), (84, some 9), (84, some 10), (84, some 11), (86, none)]
theorem mk_218 {v1 : Int32} {v2 : Int32} {M : mm_M} : mq_K mw_218 M (mf_218 v1 v2 M) := by
  unfold mf_218
  exact mq_K_B (mq_K_call mk_218_L2 mq_kp_refl rfl) (fun _ M1 hM1 => mq_K_ret hM1)
-- 186: PlainPacksModel.word
def mw_186 (p : Nat) : List (Nat × Option Nat) := []
theorem mk_186 {p : Nat} {n : Nat} {v1 : Int32} {M : mm_M} : mq_K (mw_186 p) M (mf_186 p n v1 M) := by
  unfold mf_186
  exact mq_K_ite (fun hc => mq_K_ite (fun hc => mq_K_ite (fun hc => mq_K_ite (fun hc => mq_K_ret mq_kp_refl) (fun _ => mq_K_none)) (fun _ => mq_K_none)) (fun _ => mq_K_none)) (fun _ => mq_K_none)
-- 185: PlainPacksModel.left
def mw_185 : List (Nat × Option Nat) := []
theorem mk_185 {v0 : Int32} {v1 : Int32} {M : mm_M} : mq_K mw_185 M (mf_185 v0 v1 M) := by
  unfold mf_185
  exact mq_K_ret mq_kp_refl
-- 187: PlainPacksModel.lane
def mw_187 : List (Nat × Option Nat) := []
theorem mk_187 {v0 : Int32} {v1 : Int32} {M : mm_M} : mq_K mw_187 M (mf_187 v0 v1 M) := by
  unfold mf_187
  exact mq_K_B (mq_K_call mk_185 mq_kp_refl rfl) (fun _ M2 hM2 => mq_K_ret hM2)
-- 188: PlainPacksModel.xx
def mw_188_b145 (p : Nat) : List (Nat × Option Nat) := []
theorem mk_188_b145 {p : Nat} {n : Nat} {v2 : Int32} {v4 : Int32} {v5 : Int32} {M : mm_M} : mq_K (mw_188_b145 p) M (mf_188_b145 p n v2 v4 v5 M) := by
  unfold mf_188_b145
  exact mq_K_ite (fun hc => mq_K_ret mq_kp_refl) (fun _ => mq_K_B (mq_K_call mk_186 mq_kp_refl (by simp [mq_sub, mw_186, mw_188_b145])) (fun _ M2 hM2 => mq_K_B (mq_K_call mk_185 hM2 (by simp [mq_sub, mw_185, mw_188_b145])) (fun _ M4 hM4 => mq_K_ret hM4)))
def mw_188_L145 (p : Nat) : List (Nat × Option Nat) := []
theorem mk_188_L145 {p : Nat} {n : Nat} {v2 : Int32} {s : Int32 × Int32} {M : mm_M} : mq_K (mw_188_L145 p) M (mf_188_L145 p n v2 s M) := by
  unfold mf_188_L145
  exact mq_K_L (fun s M h => mq_K_call mk_188_b145 h (by simp [mq_sub, mw_188_b145, mw_188_L145])) mq_kp_refl
def mw_188_b181 (p : Nat) : List (Nat × Option Nat) := []
theorem mk_188_b181 {p : Nat} {n : Nat} {v2 : Int32} {v4 : Int32} {v5 : Int32} {M : mm_M} : mq_K (mw_188_b181 p) M (mf_188_b181 p n v2 v4 v5 M) := by
  unfold mf_188_b181
  exact mq_K_ite (fun hc => mq_K_ite (fun hc => mq_K_B (mq_K_call mk_185 mq_kp_refl (by simp [mq_sub, mw_185, mw_188_b181])) (fun _ M2 hM2 => mq_K_ret hM2)) (fun _ => mq_K_none)) (fun _ => mq_K_ret mq_kp_refl)
def mw_188_L181 (p : Nat) : List (Nat × Option Nat) := []
theorem mk_188_L181 {p : Nat} {n : Nat} {v2 : Int32} {s : Int32 × Int32} {M : mm_M} : mq_K (mw_188_L181 p) M (mf_188_L181 p n v2 s M) := by
  unfold mf_188_L181
  exact mq_K_L (fun s M h => mq_K_call mk_188_b181 h (by simp [mq_sub, mw_188_b181, mw_188_L181])) mq_kp_refl
def mw_188_j213 (p : Nat) : List (Nat × Option Nat) := []
theorem mk_188_j213 {p : Nat} {n : Nat} {v5 : Int32} {M : mm_M} : mq_K (mw_188_j213 p) M (mf_188_j213 p n v5 M) := by
  unfold mf_188_j213
  exact mq_K_ret mq_kp_refl
def mw_188_b32 (p : Nat) : List (Nat × Option Nat) := []
theorem mk_188_b32 {p : Nat} {n : Nat} {v2 : Int32} {v3 : Int32} {v4 : Int32} {v6 : Int32} {v7 : Int32} {v8 : Int32} {v9 : Int32} {M : mm_M} : mq_K (mw_188_b32 p) M (mf_188_b32 p n v2 v3 v4 v6 v7 v8 v9 M) := by
  unfold mf_188_b32
  exact mq_K_ite (fun hc => mq_K_ret mq_kp_refl) (fun _ => mq_K_B (mq_K_call mk_186 mq_kp_refl (by simp [mq_sub, mw_186, mw_188_b32])) (fun _ M2 hM2 => mq_K_B (mq_K_call mk_187 hM2 (by simp [mq_sub, mw_187, mw_188_b32])) (fun _ M4 hM4 => mq_K_B (mq_K_call mk_186 hM4 (by simp [mq_sub, mw_186, mw_188_b32])) (fun _ M6 hM6 => mq_K_B (mq_K_call mk_187 hM6 (by simp [mq_sub, mw_187, mw_188_b32])) (fun _ M8 hM8 => mq_K_B (mq_K_call mk_186 hM8 (by simp [mq_sub, mw_186, mw_188_b32])) (fun _ M10 hM10 => mq_K_B (mq_K_call mk_187 hM10 (by simp [mq_sub, mw_187, mw_188_b32])) (fun _ M12 hM12 => mq_K_B (mq_K_call mk_186 hM12 (by simp [mq_sub, mw_186, mw_188_b32])) (fun _ M14 hM14 => mq_K_B (mq_K_call mk_187 hM14 (by simp [mq_sub, mw_187, mw_188_b32])) (fun _ M16 hM16 => mq_K_ret hM16)))))))))
def mw_188_L32 (p : Nat) : List (Nat × Option Nat) := []
theorem mk_188_L32 {p : Nat} {n : Nat} {v2 : Int32} {v3 : Int32} {s : Int32 × Int32 × Int32 × Int32 × Int32} {M : mm_M} : mq_K (mw_188_L32 p) M (mf_188_L32 p n v2 v3 s M) := by
  unfold mf_188_L32
  exact mq_K_L (fun s M h => mq_K_call mk_188_b32 h (by simp [mq_sub, mw_188_b32, mw_188_L32])) mq_kp_refl
def mw_188_j107 (p : Nat) : List (Nat × Option Nat) := []
theorem mk_188_j107 {p : Nat} {n : Nat} {v2 : Int32} {v3 : Int32} {v4 : Int32} {v6 : Int32} {v7 : Int32} {v8 : Int32} {v9 : Int32} {M : mm_M} : mq_K (mw_188_j107 p) M (mf_188_j107 p n v2 v3 v4 v6 v7 v8 v9 M) := by
  unfold mf_188_j107
  exact mq_K_B (mq_K_call mk_185 mq_kp_refl (by simp [mq_sub, mw_185, mw_188_j107])) (fun _ M2 hM2 => mq_K_B (mq_K_call mk_185 hM2 (by simp [mq_sub, mw_185, mw_188_j107])) (fun _ M4 hM4 => mq_K_B (mq_K_call mk_185 hM4 (by simp [mq_sub, mw_185, mw_188_j107])) (fun _ M6 hM6 => mq_K_B (mq_K_call mk_185 hM6 (by simp [mq_sub, mw_185, mw_188_j107])) (fun _ M8 hM8 => mq_K_B (mq_K_call mk_188_L145 hM8 (by simp [mq_sub, mw_188_L145, mw_188_j107])) (fun _ M9 hM9 => mq_K_B (mq_K_call mk_188_L181 hM9 (by simp [mq_sub, mw_188_L181, mw_188_j107])) (fun _ M17 hM17 => mq_K_call mk_188_j213 hM17 (by simp [mq_sub, mw_188_j213, mw_188_j107])))))))
def mw_188 (p : Nat) : List (Nat × Option Nat) := []
theorem mk_188 {p : Nat} {n : Nat} {v1 : Int32} {v2 : Int32} {M : mm_M} : mq_K (mw_188 p) M (mf_188 p n v1 v2 M) := by
  unfold mf_188
  exact mq_K_ite (fun hc => mq_K_B (mq_K_call mk_188_L145 mq_kp_refl (by simp [mq_sub, mw_188_L145, mw_188])) (fun _ M1 hM1 => mq_K_B (mq_K_call mk_188_L181 hM1 (by simp [mq_sub, mw_188_L181, mw_188])) (fun _ M9 hM9 => mq_K_call mk_188_j213 hM9 (by simp [mq_sub, mw_188_j213, mw_188])))) (fun _ => mq_K_B (mq_K_call mk_188_L32 mq_kp_refl (by simp [mq_sub, mw_188_L32, mw_188])) (fun _ M20 hM20 => mq_K_call mk_188_j107 hM20 (by simp [mq_sub, mw_188_j107, mw_188])))
-- 220: PlainPacksModel.block
def mw_220_j97 : List (Nat × Option Nat) := [(84, some 5), (84, some 7)]
theorem mk_220_j97 {v5 : Int32} {v8 : Int32} {v9 : Int32} {M : mm_M} : mq_K mw_220_j97 M (mf_220_j97 v5 v8 v9 M) := by
  unfold mf_220_j97
  exact mq_K_ite (fun hc => mq_K_ret mq_kp_refl) (fun _ => mq_K_ite (fun hc => mq_K_B (mq_K_call mk_188 mq_kp_refl rfl) (fun _ M2 hM2 => mq_K_B (mq_K_call mk_213 hM2 rfl) (fun _ M3 hM3 => mq_K_ret hM3))) (fun _ => mq_K_ret mq_kp_refl))
def mw_220_j87 : List (Nat × Option Nat) := [(84, some 4), (84, some 5), (84, some 6), (84, some 7), (84, some 8), (84, some 9), (84, some 10), (84, some 11), (86, none)]
theorem mk_220_j87 {v5 : Int32} {v8 : Int32} {v9 : Int32} {s1 : Int32} {s2 : Int32} {M : mm_M} : mq_K mw_220_j87 M (mf_220_j87 v5 v8 v9 s1 s2 M) := by
  unfold mf_220_j87
  exact mq_K_B (mq_K_call mk_218 mq_kp_refl rfl) (fun _ M1 hM1 => mq_K_call mk_220_j97 (mq_kp_pi hM1 rfl) rfl)
def mw_220 : List (Nat × Option Nat) := [(84, some 4), (84, some 5), (84, some 6), (84, some 7), (84, some 8), (84, some 9), (84, some 10), (84, some 11), (84, some 12), (86, none)]
theorem mk_220 {v1 : Int64} {v3 : Int64} {v5 : Int32} {M : mm_M} : mq_K mw_220 M (mf_220 v1 v3 v5 M) := by
  unfold mf_220
  exact mq_K_ite (fun hc => mq_K_B (mq_K_call mk_190 mq_kp_refl rfl) (fun _ M1 hM1 => mq_K_ret hM1)) (fun _ => mq_K_ite (fun hc => mq_K_B (mq_K_call mk_195 (mq_kp_pi mq_kp_refl rfl) rfl) (fun _ M2 hM2 => mq_K_call mk_220_j97 hM2 rfl)) (fun _ => mq_K_ite (fun hc => mq_K_call mk_220_j87 (mq_kp_pi (mq_kp_pi mq_kp_refl rfl) rfl) rfl) (fun _ => mq_K_call mk_220_j87 (mq_kp_pi (mq_kp_pi mq_kp_refl rfl) rfl) rfl)))
-- 219: PlainPacksModel.frame
def mw_219_j187 : List (Nat × Option Nat) := [(84, some 4), (84, some 5), (84, some 6), (84, some 7), (84, some 8), (84, some 9), (84, some 10), (84, some 11), (84, some 12), (86, none)]
theorem mk_219_j187 {v2 : Int32} {v4 : Int32} {v5 : Int64} {v9 : Int64} {s0 : Int32} {M : mm_M} : mq_K mw_219_j187 M (mf_219_j187 v2 v4 v5 v9 s0 M) := by
  unfold mf_219_j187
  exact mq_K_ite (fun hc => mq_K_ret mq_kp_refl) (fun _ => mq_K_ite (fun hc => mq_K_B (mq_K_call mk_220 mq_kp_refl rfl) (fun _ M1 hM1 => mq_K_ret hM1)) (fun _ => mq_K_ret mq_kp_refl))
def mw_219_b156 : List (Nat × Option Nat) := [(84, some 4), (84, some 5), (84, some 6), (84, some 7), (84, some 8), (84, some 9), (84, some 10), (84, some 11), (84, some 12), (86, none)]
theorem mk_219_b156 {v2 : Int32} {v4 : Int32} {v5 : Int64} {v8 : Int32} {M : mm_M} : mq_K mw_219_b156 M (mf_219_b156 v2 v4 v5 v8 M) := by
  unfold mf_219_b156
  exact mq_K_ite (fun hc => mq_K_ret mq_kp_refl) (fun _ => mq_K_ite (fun hc => mq_K_B (mq_K_call mk_193 mq_kp_refl rfl) (fun _ M2 hM2 => mq_K_ite (fun hc => mq_K_call mk_219_j187 hM2 rfl) (fun _ => mq_K_call mk_219_j187 hM2 rfl))) (fun _ => mq_K_ret mq_kp_refl))
def mw_219_L156 : List (Nat × Option Nat) := [(84, some 4), (84, some 5), (84, some 6), (84, some 7), (84, some 8), (84, some 9), (84, some 10), (84, some 11), (84, some 12), (86, none)]
theorem mk_219_L156 {v2 : Int32} {v4 : Int32} {v5 : Int64} {s : Int32} {M : mm_M} : mq_K mw_219_L156 M (mf_219_L156 v2 v4 v5 s M) := by
  unfold mf_219_L156
  exact mq_K_L (fun s M h => mq_K_call mk_219_b156 h rfl) mq_kp_refl
def mw_219_j249 : List (Nat × Option Nat) := [(84, some 5), (84, some 7)]
theorem mk_219_j249 {v2 : Int32} {M : mm_M} : mq_K mw_219_j249 M (mf_219_j249 v2 M) := by
  unfold mf_219_j249
  exact mq_K_ite (fun hc => mq_K_ret mq_kp_refl) (fun _ => mq_K_B (mq_K_call mk_188 mq_kp_refl rfl) (fun _ M2 hM2 => mq_K_B (mq_K_call mk_213 hM2 rfl) (fun _ M3 hM3 => mq_K_ret hM3)))
def mw_219_j220 : List (Nat × Option Nat) := [(84, some 5), (84, some 7)]
theorem mk_219_j220 {v2 : Int32} {v5 : Int64} {M : mm_M} : mq_K mw_219_j220 M (mf_219_j220 v2 v5 M) := by
  unfold mf_219_j220
  exact mq_K_ite (fun hc => mq_K_ite (fun hc => mq_K_call mk_219_j249 mq_kp_refl rfl) (fun _ => mq_K_ite (fun hc => mq_K_call mk_219_j249 mq_kp_refl rfl) (fun _ => mq_K_B (mq_K_call mk_190 mq_kp_refl rfl) (fun _ M1 hM1 => mq_K_call mk_219_j249 hM1 rfl)))) (fun _ => mq_K_call mk_219_j249 mq_kp_refl rfl)
def mw_219_j145 : List (Nat × Option Nat) := [(84, some 4), (84, some 5), (84, some 6), (84, some 7), (84, some 8), (84, some 9), (84, some 10), (84, some 11), (84, some 12), (86, none)]
theorem mk_219_j145 {v2 : Int32} {v4 : Int32} {v5 : Int64} {s0 : Int32} {M : mm_M} : mq_K mw_219_j145 M (mf_219_j145 v2 v4 v5 s0 M) := by
  unfold mf_219_j145
  exact mq_K_B (mq_K_call mk_192 mq_kp_refl rfl) (fun _ M1 hM1 => mq_K_B (mq_K_call mk_219_L156 hM1 rfl) (fun _ M2 hM2 => mq_K_call mk_219_j220 hM2 rfl))
def mw_219_j113 : List (Nat × Option Nat) := [(84, some 4), (84, some 5), (84, some 6), (84, some 7), (84, some 8), (84, some 9), (84, some 10), (84, some 11), (84, some 12), (86, none)]
theorem mk_219_j113 {v1 : Int32} {v2 : Int32} {v4 : Int32} {s0 : Int64} {M : mm_M} : mq_K mw_219_j113 M (mf_219_j113 v1 v2 v4 s0 M) := by
  unfold mf_219_j113
  exact mq_K_ite (fun hc => mq_K_B (mq_K_call mk_188 mq_kp_refl rfl) (fun _ M2 hM2 => mq_K_call mk_219_j145 hM2 rfl)) (fun _ => mq_K_call mk_219_j145 mq_kp_refl rfl)
def mw_219_j96 : List (Nat × Option Nat) := [(84, some 4), (84, some 5), (84, some 6), (84, some 7), (84, some 8), (84, some 9), (84, some 10), (84, some 11), (84, some 12), (86, none)]
theorem mk_219_j96 {v1 : Int32} {v2 : Int32} {v4 : Int32} {M : mm_M} : mq_K mw_219_j96 M (mf_219_j96 v1 v2 v4 M) := by
  unfold mf_219_j96
  exact mq_K_ite (fun hc => mq_K_call mk_219_j113 mq_kp_refl rfl) (fun _ => mq_K_B (mq_K_call mk_193 mq_kp_refl rfl) (fun _ M2 hM2 => mq_K_call mk_219_j113 hM2 rfl))
def mw_219_j92 : List (Nat × Option Nat) := [(84, some 4), (84, some 5), (84, some 6), (84, some 7), (84, some 8), (84, some 9), (84, some 10), (84, some 11), (84, some 12), (86, none)]
theorem mk_219_j92 {v1 : Int32} {v2 : Int32} {v4 : Int32} {M : mm_M} : mq_K mw_219_j92 M (mf_219_j92 v1 v2 v4 M) := by
  unfold mf_219_j92
  exact mq_K_B (mq_K_call mk_190 mq_kp_refl rfl) (fun _ M1 hM1 => mq_K_call mk_219_j96 hM1 rfl)
def mw_219_j58 : List (Nat × Option Nat) := [(84, some 4), (84, some 5), (84, some 6), (84, some 7), (84, some 8), (84, some 9), (84, some 10), (84, some 11), (84, some 12), (86, none)]
theorem mk_219_j58 {v1 : Int32} {v2 : Int32} {M : mm_M} : mq_K mw_219_j58 M (mf_219_j58 v1 v2 M) := by
  unfold mf_219_j58
  exact mq_K_B (mq_K_call mk_191 mq_kp_refl rfl) (fun _ M2 hM2 => mq_K_ite (fun hc => mq_K_ite (fun hc => mq_K_ite (fun hc => mq_K_call mk_219_j92 hM2 rfl) (fun _ => mq_K_call mk_219_j96 hM2 rfl)) (fun _ => mq_K_call mk_219_j92 hM2 rfl)) (fun _ => mq_K_call mk_219_j96 hM2 rfl))
def mw_219_j54 : List (Nat × Option Nat) := [(84, some 4), (84, some 5), (84, some 6), (84, some 7), (84, some 8), (84, some 9), (84, some 10), (84, some 11), (84, some 12), (86, none)]
theorem mk_219_j54 {v1 : Int32} {v2 : Int32} {M : mm_M} : mq_K mw_219_j54 M (mf_219_j54 v1 v2 M) := by
  unfold mf_219_j54
  exact mq_K_B (mq_K_call mk_190 mq_kp_refl rfl) (fun _ M1 hM1 => mq_K_call mk_219_j58 hM1 rfl)
def mw_219 : List (Nat × Option Nat) := [(84, some 4), (84, some 5), (84, some 6), (84, some 7), (84, some 8), (84, some 9), (84, some 10), (84, some 11), (84, some 12), (86, none)]
theorem mk_219 {M : mm_M} : mq_K mw_219 M (mf_219 M) := by
  unfold mf_219
  exact mq_K_B (mq_K_call mk_192 mq_kp_refl rfl) (fun _ M1 hM1 => mq_K_B (mq_K_call mk_192 hM1 rfl) (fun _ M2 hM2 => mq_K_B (mq_K_call mk_192 hM2 rfl) (fun _ M3 hM3 => mq_K_B (mq_K_call mk_192 hM3 rfl) (fun _ M4 hM4 => mq_K_B (mq_K_call mk_191 hM4 rfl) (fun _ M6 hM6 => mq_K_ite (fun hc => mq_K_ite (fun hc => mq_K_ite (fun hc => mq_K_call mk_219_j58 hM6 rfl) (fun _ => mq_K_call mk_219_j54 hM6 rfl)) (fun _ => mq_K_call mk_219_j54 hM6 rfl)) (fun _ => mq_K_call mk_219_j58 hM6 rfl))))))
-- 222: PlainPacksModel.tag
def mw_222_j141 : List (Nat × Option Nat) := [(84, some 4), (84, some 7), (84, some 9), (84, some 10), (84, some 11), (86, none)]
theorem mk_222_j141 {v6 : Int64} {s0 : Int64} {M : mm_M} : mq_K mw_222_j141 M (mf_222_j141 v6 s0 M) := by
  unfold mf_222_j141
  exact mq_K_B (mq_K_call mk_196 mq_kp_refl rfl) (fun _ M1 hM1 => mq_K_ret hM1)
def mw_222_j77 : List (Nat × Option Nat) := [(84, some 4), (84, some 5), (84, some 7), (84, some 8), (84, some 9), (84, some 10), (84, some 11), (86, none)]
theorem mk_222_j77 {v1 : Int32} {v4 : Int32} {v6 : Int64} {M : mm_M} : mq_K mw_222_j77 M (mf_222_j77 v1 v4 v6 M) := by
  unfold mf_222_j77
  exact mq_K_ite (fun hc => mq_K_B (mq_K_call mk_195 mq_kp_refl rfl) (fun _ M1 hM1 => mq_K_ret hM1)) (fun _ => mq_K_ite (fun hc => mq_K_ite (fun hc => mq_K_B (mq_K_call mk_191 mq_kp_refl rfl) (fun _ M3 hM3 => mq_K_call mk_222_j141 hM3 rfl)) (fun _ => mq_K_ite (fun hc => mq_K_B (mq_K_call mk_193 mq_kp_refl rfl) (fun _ M5 hM5 => mq_K_call mk_222_j141 hM5 rfl)) (fun _ => mq_K_B (mq_K_call mk_193 mq_kp_refl rfl) (fun _ M7 hM7 => mq_K_call mk_222_j141 hM7 rfl)))) (fun _ => mq_K_ret mq_kp_refl))
def mw_222_j59 : List (Nat × Option Nat) := [(84, some 4), (84, some 5), (84, some 7), (84, some 8), (84, some 9), (84, some 10), (84, some 11), (86, none)]
theorem mk_222_j59 {v1 : Int32} {v2 : Int64} {v4 : Int32} {v6 : Int64} {M : mm_M} : mq_K mw_222_j59 M (mf_222_j59 v1 v2 v4 v6 M) := by
  unfold mf_222_j59
  exact mq_K_ite (fun hc => mq_K_ite (fun hc => mq_K_B (mq_K_call mk_190 mq_kp_refl rfl) (fun _ M1 hM1 => mq_K_call mk_222_j77 hM1 rfl)) (fun _ => mq_K_call mk_222_j77 mq_kp_refl rfl)) (fun _ => mq_K_call mk_222_j77 mq_kp_refl rfl)
def mw_222_j32 : List (Nat × Option Nat) := [(84, some 4), (84, some 5), (84, some 7), (84, some 8), (84, some 9), (84, some 10), (84, some 11), (86, none)]
theorem mk_222_j32 {v1 : Int32} {v2 : Int64} {v4 : Int32} {v5 : Int32} {s0 : Int64} {M : mm_M} : mq_K mw_222_j32 M (mf_222_j32 v1 v2 v4 v5 s0 M) := by
  unfold mf_222_j32
  exact mq_K_ite (fun hc => mq_K_ite (fun hc => mq_K_call mk_222_j59 mq_kp_refl rfl) (fun _ => mq_K_B (mq_K_call mk_193 mq_kp_refl rfl) (fun _ M2 hM2 => mq_K_call mk_222_j59 hM2 rfl))) (fun _ => mq_K_call mk_222_j59 mq_kp_refl rfl)
def mw_222 : List (Nat × Option Nat) := [(84, some 4), (84, some 5), (84, some 7), (84, some 8), (84, some 9), (84, some 10), (84, some 11), (86, none)]
theorem mk_222 {v1 : Int32} {v2 : Int64} {M : mm_M} : mq_K mw_222 M (mf_222 v1 v2 M) := by
  unfold mf_222
  exact mq_K_ite (fun hc => mq_K_call mk_222_j32 mq_kp_refl rfl) (fun _ => mq_K_call mk_222_j32 mq_kp_refl rfl)
-- 221: PlainPacksModel.tags
def mw_221_j74 : List (Nat × Option Nat) := [(84, some 7)]
theorem mk_221_j74 {v1 : Int64} {v3 : Int32} {v4 : Int32} {M : mm_M} : mq_K mw_221_j74 M (mf_221_j74 v1 v3 v4 M) := by
  unfold mf_221_j74
  exact mq_K_B (mq_K_call mk_190 mq_kp_refl rfl) (fun _ M1 hM1 => mq_K_ret hM1)
def mw_221_j54 : List (Nat × Option Nat) := [(84, some 7)]
theorem mk_221_j54 {v1 : Int64} {v3 : Int32} {s0 : Int32} {M : mm_M} : mq_K mw_221_j54 M (mf_221_j54 v1 v3 s0 M) := by
  unfold mf_221_j54
  exact mq_K_ite (fun hc => mq_K_call mk_221_j74 mq_kp_refl rfl) (fun _ => mq_K_ite (fun hc => mq_K_ret mq_kp_refl) (fun _ => mq_K_ite (fun hc => mq_K_call mk_221_j74 mq_kp_refl rfl) (fun _ => mq_K_ret mq_kp_refl)))
def mw_221_b7 : List (Nat × Option Nat) := [(84, some 5), (84, some 7)]
theorem mk_221_b7 {v1 : Int64} {v3 : Int32} {v4 : Int32} {M : mm_M} : mq_K mw_221_b7 M (mf_221_b7 v1 v3 v4 M) := by
  unfold mf_221_b7
  exact mq_K_ite (fun hc => mq_K_ret mq_kp_refl) (fun _ => mq_K_ite (fun hc => mq_K_B (mq_K_call mk_191 mq_kp_refl rfl) (fun _ M2 hM2 => mq_K_ite (fun hc => mq_K_call mk_221_j54 hM2 rfl) (fun _ => mq_K_call mk_221_j54 hM2 rfl))) (fun _ => mq_K_ret mq_kp_refl))
def mw_221_L7 : List (Nat × Option Nat) := [(84, some 5), (84, some 7)]
theorem mk_221_L7 {s : Int64 × Int32 × Int32} {M : mm_M} : mq_K mw_221_L7 M (mf_221_L7 s M) := by
  unfold mf_221_L7
  exact mq_K_L (fun s M h => mq_K_call mk_221_b7 h rfl) mq_kp_refl
def mw_221_b100 : List (Nat × Option Nat) := [(84, some 4), (84, some 5), (84, some 7), (84, some 8), (84, some 9), (84, some 10), (84, some 11), (86, none)]
theorem mk_221_b100 {v1 : Int64} {M : mm_M} : mq_K mw_221_b100 M (mf_221_b100 v1 M) := by
  unfold mf_221_b100
  exact mq_K_ite (fun hc => mq_K_ite (fun hc => mq_K_B (mq_K_call mk_191 mq_kp_refl rfl) (fun _ M2 hM2 => mq_K_ite (fun hc => mq_K_B (mq_K_call mk_222 hM2 rfl) (fun _ M3 hM3 => mq_K_ret hM3)) (fun _ => mq_K_ret hM2))) (fun _ => mq_K_ret mq_kp_refl)) (fun _ => mq_K_ret mq_kp_refl)
def mw_221_L100 : List (Nat × Option Nat) := [(84, some 4), (84, some 5), (84, some 7), (84, some 8), (84, some 9), (84, some 10), (84, some 11), (86, none)]
theorem mk_221_L100 {v1 : Int64} {s : Unit} {M : mm_M} : mq_K mw_221_L100 M (mf_221_L100 v1 s M) := by
  unfold mf_221_L100
  exact mq_K_L (fun s M h => mq_K_call mk_221_b100 h rfl) mq_kp_refl
def mw_221_j81 : List (Nat × Option Nat) := [(84, some 4), (84, some 5), (84, some 7), (84, some 8), (84, some 9), (84, some 10), (84, some 11), (86, none)]
theorem mk_221_j81 {v1 : Int64} {M : mm_M} : mq_K mw_221_j81 M (mf_221_j81 v1 M) := by
  unfold mf_221_j81
  exact mq_K_ite (fun hc => mq_K_ite (fun hc => mq_K_B (mq_K_call mk_190 mq_kp_refl rfl) (fun _ M1 hM1 => mq_K_B (mq_K_call mk_221_L100 hM1 rfl) (fun _ M2 hM2 => mq_K_ret hM2))) (fun _ => mq_K_B (mq_K_call mk_221_L100 mq_kp_refl rfl) (fun _ M10 hM10 => mq_K_ret hM10))) (fun _ => mq_K_B (mq_K_call mk_221_L100 mq_kp_refl rfl) (fun _ M18 hM18 => mq_K_ret hM18))
def mw_221 : List (Nat × Option Nat) := [(84, some 4), (84, some 5), (84, some 7), (84, some 8), (84, some 9), (84, some 10), (84, some 11), (86, none)]
theorem mk_221 {M : mm_M} : mq_K mw_221 M (mf_221 M) := by
  unfold mf_221
  exact mq_K_B (mq_K_call mk_221_L7 mq_kp_refl rfl) (fun _ M1 hM1 => mq_K_call mk_221_j81 hM1 rfl)
-- 225: PlainPacksModel.occurring
def mw_225_b55 : List (Nat × Option Nat) := [(84, some 20), (94, none)]
theorem mk_225_b55 {v1 : Int32} {v2 : Int32} {v3 : Int32} {v4 : Int32} {M : mm_M} : mq_K mw_225_b55 M (mf_225_b55 v1 v2 v3 v4 M) := by
  unfold mf_225_b55
  exact mq_K_ite (fun hc => mq_K_ite (fun hc => mq_K_ite (fun hc => mq_K_ret (mq_kp_pi (mq_kp_pi mq_kp_refl rfl) rfl)) (fun _ => mq_K_none)) (fun _ => mq_K_ret mq_kp_refl)) (fun _ => mq_K_ret mq_kp_refl)
def mw_225_L55 : List (Nat × Option Nat) := [(84, some 20), (94, none)]
theorem mk_225_L55 {v1 : Int32} {v2 : Int32} {v3 : Int32} {s : Int32} {M : mm_M} : mq_K mw_225_L55 M (mf_225_L55 v1 v2 v3 s M) := by
  unfold mf_225_L55
  exact mq_K_L (fun s M h => mq_K_call mk_225_b55 h rfl) mq_kp_refl
def mw_225_b15 : List (Nat × Option Nat) := [(84, some 5), (84, some 7), (84, some 14), (84, some 15), (84, some 20), (94, none)]
theorem mk_225_b15 {v1 : Int32} {v2 : Int32} {M : mm_M} : mq_K mw_225_b15 M (mf_225_b15 v1 v2 M) := by
  unfold mf_225_b15
  exact mq_K_ite (fun hc => mq_K_ite (fun hc => mq_K_ite (fun hc => mq_K_B (mq_K_call mk_198 mq_kp_refl rfl) (fun _ M2 hM2 => mq_K_B (mq_K_call mk_225_L55 hM2 rfl) (fun _ M3 hM3 => mq_K_ret hM3))) (fun _ => mq_K_B (mq_K_call mk_225_L55 mq_kp_refl rfl) (fun _ M7 hM7 => mq_K_ret hM7))) (fun _ => mq_K_ret mq_kp_refl)) (fun _ => mq_K_ret mq_kp_refl)
def mw_225_L15 : List (Nat × Option Nat) := [(84, some 5), (84, some 7), (84, some 14), (84, some 15), (84, some 20), (94, none)]
theorem mk_225_L15 {v1 : Int32} {s : Int32} {M : mm_M} : mq_K mw_225_L15 M (mf_225_L15 v1 s M) := by
  unfold mf_225_L15
  exact mq_K_L (fun s M h => mq_K_call mk_225_b15 h rfl) mq_kp_refl
def mw_225_j113 : List (Nat × Option Nat) := [(84, some 7)]
theorem mk_225_j113 {M : mm_M} : mq_K mw_225_j113 M (mf_225_j113 M) := by
  unfold mf_225_j113
  exact mq_K_ite (fun hc => mq_K_ite (fun hc => mq_K_B (mq_K_call mk_190 mq_kp_refl rfl) (fun _ M1 hM1 => mq_K_ret hM1)) (fun _ => mq_K_ret mq_kp_refl)) (fun _ => mq_K_ret mq_kp_refl)
def mw_225 : List (Nat × Option Nat) := [(84, some 5), (84, some 7), (84, some 14), (84, some 15), (84, some 20), (94, none)]
theorem mk_225 {M : mm_M} : mq_K mw_225 M (mf_225 M) := by
  unfold mf_225
  exact mq_K_B (mq_K_call mk_198 mq_kp_refl rfl) (fun _ M2 hM2 => mq_K_B (mq_K_call mk_225_L15 (mq_kp_pi hM2 rfl) rfl) (fun _ M3 hM3 => mq_K_call mk_225_j113 hM3 rfl))
-- 226: PlainPacksModel.readSelectors
def mw_226_b2 : List (Nat × Option Nat) := [(97, none)]
theorem mk_226_b2 {v1 : Int32} {M : mm_M} : mq_K mw_226_b2 M (mf_226_b2 v1 M) := by
  unfold mf_226_b2
  exact mq_K_ite (fun hc => mq_K_ite (fun hc => mq_K_ret (mq_kp_pi mq_kp_refl rfl)) (fun _ => mq_K_none)) (fun _ => mq_K_ret mq_kp_refl)
def mw_226_L2 : List (Nat × Option Nat) := [(97, none)]
theorem mk_226_L2 {s : Int32} {M : mm_M} : mq_K mw_226_L2 M (mf_226_L2 s M) := by
  unfold mf_226_L2
  exact mq_K_L (fun s M h => mq_K_call mk_226_b2 h rfl) mq_kp_refl
def mw_226_b40 : List (Nat × Option Nat) := [(84, some 5), (84, some 7), (84, some 14), (84, some 15)]
theorem mk_226_b40 {v1 : Int32} {v2 : Int32} {M : mm_M} : mq_K mw_226_b40 M (mf_226_b40 v1 v2 M) := by
  unfold mf_226_b40
  exact mq_K_ite (fun hc => mq_K_B (mq_K_call mk_197 mq_kp_refl rfl) (fun _ M2 hM2 => mq_K_ite (fun hc => mq_K_ite (fun hc => mq_K_ret hM2) (fun _ => mq_K_B (mq_K_call mk_190 hM2 rfl) (fun _ M3 hM3 => mq_K_ret hM3))) (fun _ => mq_K_ret hM2))) (fun _ => mq_K_ret mq_kp_refl)
def mw_226_L40 : List (Nat × Option Nat) := [(84, some 5), (84, some 7), (84, some 14), (84, some 15)]
theorem mk_226_L40 {v1 : Int32} {s : Int32} {M : mm_M} : mq_K mw_226_L40 M (mf_226_L40 v1 s M) := by
  unfold mf_226_L40
  exact mq_K_L (fun s M h => mq_K_call mk_226_b40 h rfl) mq_kp_refl
def mw_226_b90 : List (Nat × Option Nat) := [(97, none)]
theorem mk_226_b90 {v1 : Int32} {v3 : Int32} {v4 : Int32} {M : mm_M} : mq_K mw_226_b90 M (mf_226_b90 v1 v3 v4 M) := by
  unfold mf_226_b90
  exact mq_K_ite (fun hc => mq_K_ite (fun hc => mq_K_ite (fun hc => mq_K_ret (mq_kp_pi mq_kp_refl rfl)) (fun _ => mq_K_none)) (fun _ => mq_K_none)) (fun _ => mq_K_ret mq_kp_refl)
def mw_226_L90 : List (Nat × Option Nat) := [(97, none)]
theorem mk_226_L90 {v1 : Int32} {v3 : Int32} {s : Int32} {M : mm_M} : mq_K mw_226_L90 M (mf_226_L90 v1 v3 s M) := by
  unfold mf_226_L90
  exact mq_K_L (fun s M h => mq_K_call mk_226_b90 h rfl) mq_kp_refl
def mw_226_j117 : List (Nat × Option Nat) := [(93, none), (97, none)]
theorem mk_226_j117 {v1 : Int32} {v3 : Int32} {M : mm_M} : mq_K mw_226_j117 M (mf_226_j117 v1 v3 M) := by
  unfold mf_226_j117
  exact mq_K_ite (fun hc => mq_K_ite (fun hc => mq_K_ret (mq_kp_pi (mq_kp_pi mq_kp_refl rfl) rfl)) (fun _ => mq_K_none)) (fun _ => mq_K_none)
def mw_226_j73 : List (Nat × Option Nat) := [(93, none), (97, none)]
theorem mk_226_j73 {v1 : Int32} {v2 : Int32} {M : mm_M} : mq_K mw_226_j73 M (mf_226_j73 v1 v2 M) := by
  unfold mf_226_j73
  exact mq_K_ite (fun hc => mq_K_ite (fun hc => mq_K_B (mq_K_call mk_226_L90 mq_kp_refl rfl) (fun _ M1 hM1 => mq_K_call mk_226_j117 hM1 rfl)) (fun _ => mq_K_none)) (fun _ => mq_K_ret mq_kp_refl)
def mw_226_b23 : List (Nat × Option Nat) := [(84, some 5), (84, some 7), (84, some 14), (84, some 15), (93, none), (97, none)]
theorem mk_226_b23 {v1 : Int32} {M : mm_M} : mq_K mw_226_b23 M (mf_226_b23 v1 M) := by
  unfold mf_226_b23
  exact mq_K_ite (fun hc => mq_K_ite (fun hc => mq_K_B (mq_K_call mk_226_L40 mq_kp_refl rfl) (fun _ M1 hM1 => mq_K_call mk_226_j73 hM1 rfl)) (fun _ => mq_K_ret mq_kp_refl)) (fun _ => mq_K_ret mq_kp_refl)
def mw_226_L23 : List (Nat × Option Nat) := [(84, some 5), (84, some 7), (84, some 14), (84, some 15), (93, none), (97, none)]
theorem mk_226_L23 {s : Int32} {M : mm_M} : mq_K mw_226_L23 M (mf_226_L23 s M) := by
  unfold mf_226_L23
  exact mq_K_L (fun s M h => mq_K_call mk_226_b23 h rfl) mq_kp_refl
def mw_226 : List (Nat × Option Nat) := [(84, some 5), (84, some 7), (84, some 14), (84, some 15), (93, none), (97, none)]
theorem mk_226 {M : mm_M} : mq_K mw_226 M (mf_226 M) := by
  unfold mf_226
  exact mq_K_B (mq_K_call mk_226_L2 mq_kp_refl rfl) (fun _ M1 hM1 => mq_K_B (mq_K_call mk_226_L23 hM1 rfl) (fun _ M7 hM7 => mq_K_ret hM7))
-- 227: PlainPacksModel.readTable
def mw_227_j93 : List (Nat × Option Nat) := [(84, some 7)]
theorem mk_227_j93 {v1 : Int32} {v2 : Int32} {v3 : Int32} {v4 : Int32} {M : mm_M} : mq_K mw_227_j93 M (mf_227_j93 v1 v2 v3 v4 M) := by
  unfold mf_227_j93
  exact mq_K_B (mq_K_call mk_190 mq_kp_refl rfl) (fun _ M1 hM1 => mq_K_ret hM1)
def mw_227_j73 : List (Nat × Option Nat) := [(84, some 7)]
theorem mk_227_j73 {v1 : Int32} {v2 : Int32} {v4 : Int32} {s0 : Int32} {s1 : Int32} {M : mm_M} : mq_K mw_227_j73 M (mf_227_j73 v1 v2 v4 s0 s1 M) := by
  unfold mf_227_j73
  exact mq_K_ite (fun hc => mq_K_ite (fun hc => mq_K_call mk_227_j93 mq_kp_refl rfl) (fun _ => mq_K_ite (fun hc => mq_K_call mk_227_j93 mq_kp_refl rfl) (fun _ => mq_K_ret mq_kp_refl))) (fun _ => mq_K_ret mq_kp_refl)
def mw_227_b45 : List (Nat × Option Nat) := [(84, some 5), (84, some 7), (84, some 14), (84, some 15)]
theorem mk_227_b45 {v1 : Int32} {v2 : Int32} {v3 : Int32} {v4 : Int32} {M : mm_M} : mq_K mw_227_b45 M (mf_227_b45 v1 v2 v3 v4 M) := by
  unfold mf_227_b45
  exact mq_K_ite (fun hc => mq_K_B (mq_K_call mk_197 mq_kp_refl rfl) (fun _ M2 hM2 => mq_K_ite (fun hc => mq_K_B (mq_K_call mk_197 hM2 rfl) (fun _ M4 hM4 => mq_K_ite (fun hc => mq_K_call mk_227_j73 hM4 rfl) (fun _ => mq_K_call mk_227_j73 hM4 rfl))) (fun _ => mq_K_ret hM2))) (fun _ => mq_K_ret mq_kp_refl)
def mw_227_L45 : List (Nat × Option Nat) := [(84, some 5), (84, some 7), (84, some 14), (84, some 15)]
theorem mk_227_L45 {v1 : Int32} {v2 : Int32} {v4 : Int32} {s : Int32} {M : mm_M} : mq_K mw_227_L45 M (mf_227_L45 v1 v2 v4 s M) := by
  unfold mf_227_L45
  exact mq_K_L (fun s M h => mq_K_call mk_227_b45 h rfl) mq_kp_refl
def mw_227_j100 : List (Nat × Option Nat) := [(87, none)]
theorem mk_227_j100 {v1 : Int32} {v2 : Int32} {v3 : Int32} {v4 : Int32} {M : mm_M} : mq_K mw_227_j100 M (mf_227_j100 v1 v2 v3 v4 M) := by
  unfold mf_227_j100
  exact mq_K_ite (fun hc => mq_K_ret (mq_kp_pi mq_kp_refl rfl)) (fun _ => mq_K_none)
def mw_227_b32 : List (Nat × Option Nat) := [(84, some 5), (84, some 7), (84, some 14), (84, some 15), (87, none)]
theorem mk_227_b32 {v1 : Int32} {v2 : Int32} {v3 : Int32} {v4 : Int32} {M : mm_M} : mq_K mw_227_b32 M (mf_227_b32 v1 v2 v3 v4 M) := by
  unfold mf_227_b32
  exact mq_K_ite (fun hc => mq_K_ite (fun hc => mq_K_B (mq_K_call mk_227_L45 mq_kp_refl rfl) (fun _ M1 hM1 => mq_K_call mk_227_j100 hM1 rfl)) (fun _ => mq_K_ret mq_kp_refl)) (fun _ => mq_K_ret mq_kp_refl)
def mw_227_L32 : List (Nat × Option Nat) := [(84, some 5), (84, some 7), (84, some 14), (84, some 15), (87, none)]
theorem mk_227_L32 {v1 : Int32} {v2 : Int32} {s : Int32 × Int32} {M : mm_M} : mq_K mw_227_L32 M (mf_227_L32 v1 v2 s M) := by
  unfold mf_227_L32
  exact mq_K_L (fun s M h => mq_K_call mk_227_b32 h rfl) mq_kp_refl
def mw_227_j158 : List (Nat × Option Nat) := [(88, none)]
theorem mk_227_j158 {s1 : Int32} {s2 : Int32} {M : mm_M} : mq_K mw_227_j158 M (mf_227_j158 s1 s2 M) := by
  unfold mf_227_j158
  exact mq_K_B (mq_K_call mk_199 mq_kp_refl rfl) (fun _ M1 hM1 => mq_K_ret hM1)
def mw_227_j144 : List (Nat × Option Nat) := [(88, none)]
theorem mk_227_j144 {v1 : Int32} {v2 : Int32} {M : mm_M} : mq_K mw_227_j144 M (mf_227_j144 v1 v2 M) := by
  unfold mf_227_j144
  exact mq_K_ite (fun hc => mq_K_call mk_227_j158 mq_kp_refl rfl) (fun _ => mq_K_call mk_227_j158 mq_kp_refl rfl)
def mw_227_j120 : List (Nat × Option Nat) := [(84, some 7), (88, none)]
theorem mk_227_j120 {v1 : Int32} {v2 : Int32} {M : mm_M} : mq_K mw_227_j120 M (mf_227_j120 v1 v2 M) := by
  unfold mf_227_j120
  exact mq_K_ite (fun hc => mq_K_B (mq_K_call mk_200 mq_kp_refl rfl) (fun _ M2 hM2 => mq_K_ite (fun hc => mq_K_B (mq_K_call mk_190 hM2 rfl) (fun _ M3 hM3 => mq_K_call mk_227_j144 hM3 rfl)) (fun _ => mq_K_call mk_227_j144 hM2 rfl))) (fun _ => mq_K_call mk_227_j144 mq_kp_refl rfl)
def mw_227_j25 : List (Nat × Option Nat) := [(84, some 5), (84, some 7), (84, some 14), (84, some 15), (87, none), (88, none)]
theorem mk_227_j25 {v1 : Int32} {v2 : Int32} {v3 : Int32} {M : mm_M} : mq_K mw_227_j25 M (mf_227_j25 v1 v2 v3 M) := by
  unfold mf_227_j25
  exact mq_K_B (mq_K_call mk_190 mq_kp_refl rfl) (fun _ M1 hM1 => mq_K_B (mq_K_call mk_227_L32 hM1 rfl) (fun _ M2 hM2 => mq_K_call mk_227_j120 hM2 rfl))
def mw_227 : List (Nat × Option Nat) := [(84, some 5), (84, some 7), (84, some 14), (84, some 15), (87, none), (88, none)]
theorem mk_227 {v1 : Int32} {v2 : Int32} {M : mm_M} : mq_K mw_227 M (mf_227 v1 v2 M) := by
  unfold mf_227
  exact mq_K_B (mq_K_call mk_198 mq_kp_refl rfl) (fun _ M2 hM2 => mq_K_ite (fun hc => mq_K_ite (fun hc => mq_K_call mk_227_j25 hM2 rfl) (fun _ => mq_K_ite (fun hc => mq_K_call mk_227_j25 hM2 rfl) (fun _ => mq_K_B (mq_K_call mk_227_L32 hM2 rfl) (fun _ M3 hM3 => mq_K_call mk_227_j120 hM3 rfl)))) (fun _ => mq_K_B (mq_K_call mk_227_L32 hM2 rfl) (fun _ M7 hM7 => mq_K_call mk_227_j120 hM7 rfl)))
-- 229: PlainPacksModel.fill
def mw_229_b21 : List (Nat × Option Nat) := [(84, some 28), (95, none)]
theorem mk_229_b21 {v1 : Int64} {v3 : Int64} {M : mm_M} : mq_K mw_229_b21 M (mf_229_b21 v1 v3 M) := by
  unfold mf_229_b21
  exact mq_K_ite (fun hc => mq_K_ite (fun hc => mq_K_ite (fun hc => mq_K_ret (mq_kp_pi (mq_kp_pi mq_kp_refl rfl) rfl)) (fun _ => mq_K_none)) (fun _ => mq_K_none)) (fun _ => mq_K_ret mq_kp_refl)
def mw_229_L21 : List (Nat × Option Nat) := [(84, some 28), (95, none)]
theorem mk_229_L21 {v1 : Int64} {s : Int64} {M : mm_M} : mq_K mw_229_L21 M (mf_229_L21 v1 s M) := by
  unfold mf_229_L21
  exact mq_K_L (fun s M h => mq_K_call mk_229_b21 h rfl) mq_kp_refl
def mw_229 : List (Nat × Option Nat) := [(84, some 7), (84, some 28), (95, none)]
theorem mk_229 {v1 : Int64} {M : mm_M} : mq_K mw_229 M (mf_229 v1 M) := by
  unfold mf_229
  exact mq_K_ite (fun hc => mq_K_B (mq_K_call mk_190 mq_kp_refl rfl) (fun _ M1 hM1 => mq_K_ret hM1)) (fun _ => mq_K_B (mq_K_call mk_229_L21 mq_kp_refl rfl) (fun _ M2 hM2 => mq_K_ret hM2))
-- 230: PlainPacksModel.toFront
def mw_230_b24 : List (Nat × Option Nat) := [(94, none)]
theorem mk_230_b24 {v2 : Int32} {v3 : Int32} {M : mm_M} : mq_K mw_230_b24 M (mf_230_b24 v2 v3 M) := by
  unfold mf_230_b24
  exact mq_K_ite (fun hc => mq_K_ite (fun hc => mq_K_ite (fun hc => mq_K_ret (mq_kp_pi mq_kp_refl rfl)) (fun _ => mq_K_none)) (fun _ => mq_K_none)) (fun _ => mq_K_ret mq_kp_refl)
def mw_230_L24 : List (Nat × Option Nat) := [(94, none)]
theorem mk_230_L24 {v2 : Int32} {s : Int32} {M : mm_M} : mq_K mw_230_L24 M (mf_230_L24 v2 s M) := by
  unfold mf_230_L24
  exact mq_K_L (fun s M h => mq_K_call mk_230_b24 h rfl) mq_kp_refl
def mw_230_j48 : List (Nat × Option Nat) := [(84, some 28), (94, none), (95, none)]
theorem mk_230_j48 {v2 : Int32} {M : mm_M} : mq_K mw_230_j48 M (mf_230_j48 v2 M) := by
  unfold mf_230_j48
  exact mq_K_ite (fun hc => mq_K_ite (fun hc => mq_K_ret (mq_kp_pi (mq_kp_pi (mq_kp_pi mq_kp_refl rfl) rfl) rfl)) (fun _ => mq_K_none)) (fun _ => mq_K_none)
def mw_230 : List (Nat × Option Nat) := [(84, some 7), (84, some 28), (94, none), (95, none)]
theorem mk_230 {v1 : Int32} {M : mm_M} : mq_K mw_230 M (mf_230 v1 M) := by
  unfold mf_230
  exact mq_K_ite (fun hc => mq_K_B (mq_K_call mk_190 mq_kp_refl rfl) (fun _ M1 hM1 => mq_K_ret hM1)) (fun _ => mq_K_ite (fun hc => mq_K_B (mq_K_call mk_230_L24 mq_kp_refl rfl) (fun _ M2 hM2 => mq_K_call mk_230_j48 hM2 rfl)) (fun _ => mq_K_none))
-- 228: PlainPacksModel.readLetters
def mw_228_j155 : List (Nat × Option Nat) := [(84, some 7), (84, some 28), (94, none), (95, none)]
theorem mk_228_j155 {v1 : Int32} {v2 : Int32} {v3 : Int32} {v4 : Int64} {v6 : Int32} {v8 : Int32} {s0 : Int32} {M : mm_M} : mq_K mw_228_j155 M (mf_228_j155 v1 v2 v3 v4 v6 v8 s0 M) := by
  unfold mf_228_j155
  exact mq_K_ite (fun hc => mq_K_ret mq_kp_refl) (fun _ => mq_K_ite (fun hc => mq_K_B (mq_K_call mk_230 mq_kp_refl rfl) (fun _ M1 hM1 => mq_K_ret hM1)) (fun _ => mq_K_ret mq_kp_refl))
def mw_228_j77 : List (Nat × Option Nat) := [(84, some 7), (84, some 28), (94, none), (95, none)]
theorem mk_228_j77 {v1 : Int32} {v2 : Int32} {v3 : Int32} {v4 : Int64} {v6 : Int32} {v7 : Int32} {s0 : Int32} {M : mm_M} : mq_K mw_228_j77 M (mf_228_j77 v1 v2 v3 v4 v6 v7 s0 M) := by
  unfold mf_228_j77
  exact mq_K_ite (fun hc => mq_K_ite (fun hc => mq_K_ite (fun hc => mq_K_ret mq_kp_refl) (fun _ => mq_K_ret mq_kp_refl)) (fun _ => mq_K_B (mq_K_call mk_229 mq_kp_refl rfl) (fun _ M1 hM1 => mq_K_ite (fun hc => mq_K_call mk_228_j155 hM1 rfl) (fun _ => mq_K_call mk_228_j155 hM1 rfl)))) (fun _ => mq_K_ret mq_kp_refl)
def mw_228_j52 : List (Nat × Option Nat) := [(84, some 5), (84, some 7), (84, some 14), (84, some 15), (84, some 28), (94, none), (95, none)]
theorem mk_228_j52 {v1 : Int32} {v2 : Int32} {v3 : Int32} {v4 : Int64} {v6 : Int32} {v7 : Int32} {M : mm_M} : mq_K mw_228_j52 M (mf_228_j52 v1 v2 v3 v4 v6 v7 M) := by
  unfold mf_228_j52
  exact mq_K_ite (fun hc => mq_K_ite (fun hc => mq_K_B (mq_K_call mk_202 mq_kp_refl rfl) (fun _ M2 hM2 => mq_K_call mk_228_j77 hM2 rfl)) (fun _ => mq_K_none)) (fun _ => mq_K_call mk_228_j77 mq_kp_refl rfl)
def mw_228_j40 : List (Nat × Option Nat) := [(84, some 5), (84, some 7), (84, some 14), (84, some 15), (84, some 28), (94, none), (95, none)]
theorem mk_228_j40 {v1 : Int32} {v2 : Int32} {v3 : Int32} {v4 : Int64} {v6 : Int32} {v7 : Int32} {M : mm_M} : mq_K mw_228_j40 M (mf_228_j40 v1 v2 v3 v4 v6 v7 M) := by
  unfold mf_228_j40
  exact mq_K_ite (fun hc => mq_K_B (mq_K_call mk_190 mq_kp_refl rfl) (fun _ M1 hM1 => mq_K_call mk_228_j52 hM1 rfl)) (fun _ => mq_K_call mk_228_j52 mq_kp_refl rfl)
def mw_228_b18 : List (Nat × Option Nat) := [(84, some 5), (84, some 7), (84, some 14), (84, some 15), (84, some 28), (94, none), (95, none)]
theorem mk_228_b18 {v1 : Int32} {v2 : Int32} {v3 : Int32} {v4 : Int64} {v6 : Int32} {v7 : Int32} {M : mm_M} : mq_K mw_228_b18 M (mf_228_b18 v1 v2 v3 v4 v6 v7 M) := by
  unfold mf_228_b18
  exact mq_K_ite (fun hc => mq_K_ret mq_kp_refl) (fun _ => mq_K_ite (fun hc => mq_K_ite (fun hc => mq_K_call mk_228_j40 mq_kp_refl rfl) (fun _ => mq_K_call mk_228_j40 mq_kp_refl rfl)) (fun _ => mq_K_ret mq_kp_refl))
def mw_228_L18 : List (Nat × Option Nat) := [(84, some 5), (84, some 7), (84, some 14), (84, some 15), (84, some 28), (94, none), (95, none)]
theorem mk_228_L18 {v1 : Int32} {s : Int32 × Int32 × Int64 × Int32 × Int32} {M : mm_M} : mq_K mw_228_L18 M (mf_228_L18 v1 s M) := by
  unfold mf_228_L18
  exact mq_K_L (fun s M h => mq_K_call mk_228_b18 h rfl) mq_kp_refl
def mw_228 : List (Nat × Option Nat) := [(84, some 5), (84, some 7), (84, some 14), (84, some 15), (84, some 28), (94, none), (95, none)]
theorem mk_228 {v1 : Int32} {M : mm_M} : mq_K mw_228 M (mf_228 v1 M) := by
  unfold mf_228
  exact mq_K_B (mq_K_call mk_228_L18 (mq_kp_pi mq_kp_refl rfl) rfl) (fun _ M1 hM1 => mq_K_ret hM1)
-- 231: PlainPacksModel.walk
def mw_231_b21 : List (Nat × Option Nat) := [(96, none)]
theorem mk_231_b21 {v1 : Int32} {v2 : Int32} {v3 : Int32} {v4 : Int32} {M : mm_M} : mq_K mw_231_b21 M (mf_231_b21 v1 v2 v3 v4 M) := by
  unfold mf_231_b21
  exact mq_K_ite (fun hc => mq_K_ite (fun hc => mq_K_ite (fun hc => mq_K_ite (fun hc => mq_K_ret (mq_kp_pi mq_kp_refl rfl)) (fun _ => mq_K_none)) (fun _ => mq_K_ret mq_kp_refl)) (fun _ => mq_K_none)) (fun _ => mq_K_ret mq_kp_refl)
def mw_231_L21 : List (Nat × Option Nat) := [(96, none)]
theorem mk_231_L21 {v1 : Int32} {v3 : Int32} {s : Int32 × Int32} {M : mm_M} : mq_K mw_231_L21 M (mf_231_L21 v1 v3 s M) := by
  unfold mf_231_L21
  exact mq_K_L (fun s M h => mq_K_call mk_231_b21 h rfl) mq_kp_refl
def mw_231_b4 : List (Nat × Option Nat) := [(96, none)]
theorem mk_231_b4 {v1 : Int32} {v2 : Int32} {v3 : Int32} {M : mm_M} : mq_K mw_231_b4 M (mf_231_b4 v1 v2 v3 M) := by
  unfold mf_231_b4
  exact mq_K_ite (fun hc => mq_K_ite (fun hc => mq_K_B (mq_K_call mk_231_L21 mq_kp_refl rfl) (fun _ M1 hM1 => mq_K_ret hM1)) (fun _ => mq_K_ret mq_kp_refl)) (fun _ => mq_K_ret mq_kp_refl)
def mw_231_L4 : List (Nat × Option Nat) := [(96, none)]
theorem mk_231_L4 {v1 : Int32} {s : Int32 × Int32} {M : mm_M} : mq_K mw_231_L4 M (mf_231_L4 v1 s M) := by
  unfold mf_231_L4
  exact mq_K_L (fun s M h => mq_K_call mk_231_b4 h rfl) mq_kp_refl
def mw_231_b124 : List (Nat × Option Nat) := [(84, some 4), (84, some 7), (86, none)]
theorem mk_231_b124 {v3 : Int32} {v5 : Int32} {v6 : Int32} {v7 : Int32} {v8 : Int32} {M : mm_M} : mq_K mw_231_b124 M (mf_231_b124 v3 v5 v6 v7 v8 M) := by
  unfold mf_231_b124
  exact mq_K_ite (fun hc => mq_K_ite (fun hc => mq_K_B (mq_K_call mk_194 mq_kp_refl rfl) (fun _ M2 hM2 => mq_K_ret hM2)) (fun _ => mq_K_ret mq_kp_refl)) (fun _ => mq_K_ret mq_kp_refl)
def mw_231_L124 : List (Nat × Option Nat) := [(84, some 4), (84, some 7), (86, none)]
theorem mk_231_L124 {v3 : Int32} {v5 : Int32} {v6 : Int32} {v7 : Int32} {s : Int32} {M : mm_M} : mq_K mw_231_L124 M (mf_231_L124 v3 v5 v6 v7 s M) := by
  unfold mf_231_L124
  exact mq_K_L (fun s M h => mq_K_call mk_231_b124 h rfl) mq_kp_refl
def mw_231_j188 : List (Nat × Option Nat) := []
theorem mk_231_j188 {v3 : Int32} {v4 : Int32} {v5 : Int32} {v6 : Int32} {M : mm_M} : mq_K mw_231_j188 M (mf_231_j188 v3 v4 v5 v6 M) := by
  unfold mf_231_j188
  exact mq_K_ite (fun hc => mq_K_ret mq_kp_refl) (fun _ => mq_K_none)
def mw_231_j175 : List (Nat × Option Nat) := [(84, some 4), (84, some 7), (86, none)]
theorem mk_231_j175 {v3 : Int32} {v6 : Int32} {v7 : Int32} {s0 : Int32} {M : mm_M} : mq_K mw_231_j175 M (mf_231_j175 v3 v6 v7 s0 M) := by
  unfold mf_231_j175
  exact mq_K_B (mq_K_call mk_194 mq_kp_refl rfl) (fun _ M2 hM2 => mq_K_call mk_231_j188 hM2 rfl)
def mw_231_b91 : List (Nat × Option Nat) := [(84, some 4), (84, some 7), (86, none)]
theorem mk_231_b91 {v3 : Int32} {v4 : Int32} {v5 : Int32} {v6 : Int32} {M : mm_M} : mq_K mw_231_b91 M (mf_231_b91 v3 v4 v5 v6 M) := by
  unfold mf_231_b91
  exact mq_K_ite (fun hc => mq_K_ite (fun hc => mq_K_ite (fun hc => mq_K_ite (fun hc => mq_K_B (mq_K_call mk_231_L124 mq_kp_refl rfl) (fun _ M1 hM1 => mq_K_call mk_231_j188 hM1 rfl)) (fun _ => mq_K_ite (fun hc => mq_K_call mk_231_j175 mq_kp_refl rfl) (fun _ => mq_K_call mk_231_j175 mq_kp_refl rfl))) (fun _ => mq_K_none)) (fun _ => mq_K_ret mq_kp_refl)) (fun _ => mq_K_ret mq_kp_refl)
def mw_231_L91 : List (Nat × Option Nat) := [(84, some 4), (84, some 7), (86, none)]
theorem mk_231_L91 {s : Int32 × Int32 × Int32 × Int32} {M : mm_M} : mq_K mw_231_L91 M (mf_231_L91 s M) := by
  unfold mf_231_L91
  exact mq_K_L (fun s M h => mq_K_call mk_231_b91 h rfl) mq_kp_refl
def mw_231_j64 : List (Nat × Option Nat) := [(84, some 4), (84, some 7), (86, none)]
theorem mk_231_j64 {v1 : Int32} {M : mm_M} : mq_K mw_231_j64 M (mf_231_j64 v1 M) := by
  unfold mf_231_j64
  exact mq_K_ite (fun hc => mq_K_ite (fun hc => mq_K_B (mq_K_call mk_231_L91 mq_kp_refl rfl) (fun _ M1 hM1 => mq_K_ret hM1)) (fun _ => mq_K_none)) (fun _ => mq_K_B (mq_K_call mk_231_L91 mq_kp_refl rfl) (fun _ M12 hM12 => mq_K_ret hM12))
def mw_231 : List (Nat × Option Nat) := [(84, some 4), (84, some 7), (86, none), (96, none)]
theorem mk_231 {v1 : Int32} {M : mm_M} : mq_K mw_231 M (mf_231 v1 M) := by
  unfold mf_231
  exact mq_K_B (mq_K_call mk_231_L4 mq_kp_refl rfl) (fun _ M1 hM1 => mq_K_call mk_231_j64 hM1 rfl)
-- 183: PlainPacksModel.crcHigh
def mw_183_b24 (p : Nat) : List (Nat × Option Nat) := []
theorem mk_183_b24 {p : Nat} {n : Nat} {v2 : Int32} {v3 : Int32} {v4 : Int32} {v5 : Int32} {M : mm_M} : mq_K (mw_183_b24 p) M (mf_183_b24 p n v2 v3 v4 v5 M) := by
  unfold mf_183_b24
  exact mq_K_ite (fun hc => mq_K_ite (fun hc => mq_K_ret mq_kp_refl) (fun _ => mq_K_ret mq_kp_refl)) (fun _ => mq_K_ret mq_kp_refl)
def mw_183_L24 (p : Nat) : List (Nat × Option Nat) := []
theorem mk_183_L24 {p : Nat} {n : Nat} {v2 : Int32} {v4 : Int32} {s : Int32 × Int32} {M : mm_M} : mq_K (mw_183_L24 p) M (mf_183_L24 p n v2 v4 s M) := by
  unfold mf_183_L24
  exact mq_K_L (fun s M h => mq_K_call mk_183_b24 h (by simp [mq_sub, mw_183_b24, mw_183_L24])) mq_kp_refl
def mw_183_b5 (p : Nat) : List (Nat × Option Nat) := []
theorem mk_183_b5 {p : Nat} {n : Nat} {v2 : Int32} {v3 : Int32} {v4 : Int32} {M : mm_M} : mq_K (mw_183_b5 p) M (mf_183_b5 p n v2 v3 v4 M) := by
  unfold mf_183_b5
  exact mq_K_ite (fun hc => mq_K_ite (fun hc => mq_K_B (mq_K_call mk_183_L24 mq_kp_refl (by simp [mq_sub, mw_183_L24, mw_183_b5])) (fun _ M1 hM1 => mq_K_ret hM1)) (fun _ => mq_K_none)) (fun _ => mq_K_ret mq_kp_refl)
def mw_183_L5 (p : Nat) : List (Nat × Option Nat) := []
theorem mk_183_L5 {p : Nat} {n : Nat} {v2 : Int32} {s : Int32 × Int32} {M : mm_M} : mq_K (mw_183_L5 p) M (mf_183_L5 p n v2 s M) := by
  unfold mf_183_L5
  exact mq_K_L (fun s M h => mq_K_call mk_183_b5 h (by simp [mq_sub, mw_183_b5, mw_183_L5])) mq_kp_refl
def mw_183 (p : Nat) : List (Nat × Option Nat) := []
theorem mk_183 {p : Nat} {n : Nat} {v1 : Int32} {v2 : Int32} {M : mm_M} : mq_K (mw_183 p) M (mf_183 p n v1 v2 M) := by
  unfold mf_183
  exact mq_K_B (mq_K_call mk_183_L5 mq_kp_refl (by simp [mq_sub, mw_183_L5, mw_183])) (fun _ M1 hM1 => mq_K_ret hM1)
-- 224: PlainPacksModel.sortedBlock
def mw_224_b132 : List (Nat × Option Nat) := [(84, some 5), (84, some 7), (84, some 14), (84, some 15), (87, none), (88, none)]
theorem mk_224_b132 {v1 : Int32} {v2 : Int32} {v3 : Int32} {v4 : Int32} {M : mm_M} : mq_K mw_224_b132 M (mf_224_b132 v1 v2 v3 v4 M) := by
  unfold mf_224_b132
  exact mq_K_ite (fun hc => mq_K_ite (fun hc => mq_K_B (mq_K_call mk_227 mq_kp_refl rfl) (fun _ M1 hM1 => mq_K_ret hM1)) (fun _ => mq_K_ret mq_kp_refl)) (fun _ => mq_K_ret mq_kp_refl)
def mw_224_L132 : List (Nat × Option Nat) := [(84, some 5), (84, some 7), (84, some 14), (84, some 15), (87, none), (88, none)]
theorem mk_224_L132 {v1 : Int32} {v2 : Int32} {v3 : Int32} {s : Int32} {M : mm_M} : mq_K mw_224_L132 M (mf_224_L132 v1 v2 v3 s M) := by
  unfold mf_224_L132
  exact mq_K_L (fun s M h => mq_K_call mk_224_b132 h rfl) mq_kp_refl
def mw_224_j189 : List (Nat × Option Nat) := [(84, some 4), (84, some 7), (86, none), (96, none)]
theorem mk_224_j189 {v1 : Int32} {v2 : Int32} {M : mm_M} : mq_K mw_224_j189 M (mf_224_j189 v1 v2 M) := by
  unfold mf_224_j189
  exact mq_K_B (mq_K_call mk_231 mq_kp_refl rfl) (fun _ M1 hM1 => mq_K_ite (fun hc => mq_K_B (mq_K_call mk_183 hM1 rfl) (fun _ M3 hM3 => mq_K_ite (fun hc => mq_K_ret hM3) (fun _ => mq_K_B (mq_K_call mk_190 hM3 rfl) (fun _ M4 hM4 => mq_K_ret hM4)))) (fun _ => mq_K_ret hM1))
def mw_224_j163 : List (Nat × Option Nat) := [(84, some 4), (84, some 5), (84, some 7), (84, some 14), (84, some 15), (84, some 28), (86, none), (94, none), (95, none), (96, none)]
theorem mk_224_j163 {v1 : Int32} {v2 : Int32} {v3 : Int32} {M : mm_M} : mq_K mw_224_j163 M (mf_224_j163 v1 v2 v3 M) := by
  unfold mf_224_j163
  exact mq_K_B (mq_K_call mk_228 mq_kp_refl rfl) (fun _ M1 hM1 => mq_K_ite (fun hc => mq_K_ite (fun hc => mq_K_call mk_224_j189 hM1 rfl) (fun _ => mq_K_B (mq_K_call mk_190 hM1 rfl) (fun _ M2 hM2 => mq_K_call mk_224_j189 hM2 rfl))) (fun _ => mq_K_call mk_224_j189 hM1 rfl))
def mw_224_j125 : List (Nat × Option Nat) := [(84, some 4), (84, some 5), (84, some 7), (84, some 14), (84, some 15), (84, some 28), (86, none), (87, none), (88, none), (93, none), (94, none), (95, none), (96, none), (97, none)]
theorem mk_224_j125 {v1 : Int32} {v2 : Int32} {v3 : Int32} {M : mm_M} : mq_K mw_224_j125 M (mf_224_j125 v1 v2 v3 M) := by
  unfold mf_224_j125
  exact mq_K_B (mq_K_call mk_226 mq_kp_refl rfl) (fun _ M1 hM1 => mq_K_B (mq_K_call mk_224_L132 hM1 rfl) (fun _ M2 hM2 => mq_K_call mk_224_j163 hM2 rfl))
def mw_224_j96 : List (Nat × Option Nat) := [(84, some 4), (84, some 5), (84, some 7), (84, some 14), (84, some 15), (84, some 28), (84, some 30), (86, none), (87, none), (88, none), (93, none), (94, none), (95, none), (96, none), (97, none)]
theorem mk_224_j96 {v1 : Int32} {v2 : Int32} {v3 : Int32} {M : mm_M} : mq_K mw_224_j96 M (mf_224_j96 v1 v2 v3 M) := by
  unfold mf_224_j96
  exact mq_K_B (mq_K_call mk_198 mq_kp_refl rfl) (fun _ M2 hM2 => mq_K_ite (fun hc => mq_K_ite (fun hc => mq_K_B (mq_K_call mk_190 (mq_kp_pi hM2 rfl) rfl) (fun _ M3 hM3 => mq_K_call mk_224_j125 hM3 rfl)) (fun _ => mq_K_call mk_224_j125 (mq_kp_pi hM2 rfl) rfl)) (fun _ => mq_K_call mk_224_j125 (mq_kp_pi hM2 rfl) rfl))
def mw_224_j92 : List (Nat × Option Nat) := [(84, some 4), (84, some 5), (84, some 7), (84, some 14), (84, some 15), (84, some 28), (84, some 30), (86, none), (87, none), (88, none), (93, none), (94, none), (95, none), (96, none), (97, none)]
theorem mk_224_j92 {v1 : Int32} {v2 : Int32} {v3 : Int32} {M : mm_M} : mq_K mw_224_j92 M (mf_224_j92 v1 v2 v3 M) := by
  unfold mf_224_j92
  exact mq_K_B (mq_K_call mk_190 mq_kp_refl rfl) (fun _ M1 hM1 => mq_K_call mk_224_j96 hM1 rfl)
def mw_224_j41 : List (Nat × Option Nat) := [(84, some 4), (84, some 5), (84, some 7), (84, some 14), (84, some 15), (84, some 20), (84, some 28), (84, some 29), (84, some 30), (86, none), (87, none), (88, none), (93, none), (94, none), (95, none), (96, none), (97, none)]
theorem mk_224_j41 {v1 : Int32} {M : mm_M} : mq_K mw_224_j41 M (mf_224_j41 v1 M) := by
  unfold mf_224_j41
  exact mq_K_B (mq_K_call mk_198 mq_kp_refl rfl) (fun _ M2 hM2 => mq_K_B (mq_K_call mk_225 hM2 rfl) (fun _ M3 hM3 => mq_K_B (mq_K_call mk_198 hM3 rfl) (fun _ M5 hM5 => mq_K_ite (fun hc => mq_K_ite (fun hc => mq_K_call mk_224_j92 (mq_kp_pi hM5 rfl) rfl) (fun _ => mq_K_ite (fun hc => mq_K_call mk_224_j92 (mq_kp_pi hM5 rfl) rfl) (fun _ => mq_K_call mk_224_j96 (mq_kp_pi hM5 rfl) rfl))) (fun _ => mq_K_call mk_224_j96 (mq_kp_pi hM5 rfl) rfl))))
def mw_224 : List (Nat × Option Nat) := [(84, some 4), (84, some 5), (84, some 7), (84, some 12), (84, some 14), (84, some 15), (84, some 20), (84, some 28), (84, some 29), (84, some 30), (86, none), (87, none), (88, none), (93, none), (94, none), (95, none), (96, none), (97, none)]
theorem mk_224 {M : mm_M} : mq_K mw_224 M (mf_224 M) := by
  unfold mf_224
  exact mq_K_B (mq_K_call mk_198 mq_kp_refl rfl) (fun _ M2 hM2 => mq_K_ite (fun hc => mq_K_B (mq_K_call mk_198 (mq_kp_pi hM2 rfl) rfl) (fun _ M4 hM4 => mq_K_ite (fun hc => mq_K_B (mq_K_call mk_190 hM4 rfl) (fun _ M5 hM5 => mq_K_call mk_224_j41 hM5 rfl)) (fun _ => mq_K_call mk_224_j41 hM4 rfl))) (fun _ => mq_K_ret hM2))
-- 223: PlainPacksModel.sorted
def mw_223_j116 : List (Nat × Option Nat) := [(84, some 4), (84, some 5), (84, some 7), (84, some 12), (84, some 14), (84, some 15), (84, some 20), (84, some 28), (84, some 29), (84, some 30), (86, none), (87, none), (88, none), (93, none), (94, none), (95, none), (96, none), (97, none)]
theorem mk_223_j116 {v2 : Int32} {v3 : Int32} {M : mm_M} : mq_K mw_223_j116 M (mf_223_j116 v2 v3 M) := by
  unfold mf_223_j116
  exact mq_K_ite (fun hc => mq_K_B (mq_K_call mk_224 mq_kp_refl rfl) (fun _ M2 hM2 => mq_K_B (mq_K_call mk_185 hM2 rfl) (fun _ M4 hM4 => mq_K_ret hM4))) (fun _ => mq_K_ret mq_kp_refl)
def mw_223_b60 : List (Nat × Option Nat) := [(84, some 4), (84, some 5), (84, some 7), (84, some 12), (84, some 14), (84, some 15), (84, some 20), (84, some 28), (84, some 29), (84, some 30), (86, none), (87, none), (88, none), (93, none), (94, none), (95, none), (96, none), (97, none)]
theorem mk_223_b60 {v2 : Int32} {v3 : Int32} {M : mm_M} : mq_K mw_223_b60 M (mf_223_b60 v2 v3 M) := by
  unfold mf_223_b60
  exact mq_K_ite (fun hc => mq_K_ret mq_kp_refl) (fun _ => mq_K_ite (fun hc => mq_K_B (mq_K_call mk_198 mq_kp_refl rfl) (fun _ M2 hM2 => mq_K_ite (fun hc => mq_K_ret hM2) (fun _ => mq_K_ite (fun hc => mq_K_ite (fun hc => mq_K_call mk_223_j116 hM2 rfl) (fun _ => mq_K_B (mq_K_call mk_190 hM2 rfl) (fun _ M3 hM3 => mq_K_ret hM3))) (fun _ => mq_K_call mk_223_j116 hM2 rfl)))) (fun _ => mq_K_ret mq_kp_refl))
def mw_223_L60 : List (Nat × Option Nat) := [(84, some 4), (84, some 5), (84, some 7), (84, some 12), (84, some 14), (84, some 15), (84, some 20), (84, some 28), (84, some 29), (84, some 30), (86, none), (87, none), (88, none), (93, none), (94, none), (95, none), (96, none), (97, none)]
theorem mk_223_L60 {s : Int32 × Int32} {M : mm_M} : mq_K mw_223_L60 M (mf_223_L60 s M) := by
  unfold mf_223_L60
  exact mq_K_L (fun s M h => mq_K_call mk_223_b60 h rfl) mq_kp_refl
def mw_223_j141 : List (Nat × Option Nat) := [(84, some 5), (84, some 7), (84, some 14), (84, some 15)]
theorem mk_223_j141 {v2 : Int32} {M : mm_M} : mq_K mw_223_j141 M (mf_223_j141 v2 M) := by
  unfold mf_223_j141
  exact mq_K_B (mq_K_call mk_198 mq_kp_refl rfl) (fun _ M2 hM2 => mq_K_ite (fun hc => mq_K_ite (fun hc => mq_K_ret hM2) (fun _ => mq_K_B (mq_K_call mk_190 hM2 rfl) (fun _ M3 hM3 => mq_K_ret hM3))) (fun _ => mq_K_ret hM2))
def mw_223_j42 : List (Nat × Option Nat) := [(84, some 4), (84, some 5), (84, some 7), (84, some 12), (84, some 13), (84, some 14), (84, some 15), (84, some 20), (84, some 28), (84, some 29), (84, some 30), (86, none), (87, none), (88, none), (93, none), (94, none), (95, none), (96, none), (97, none)]
theorem mk_223_j42 {M : mm_M} : mq_K mw_223_j42 M (mf_223_j42 M) := by
  unfold mf_223_j42
  exact mq_K_B (mq_K_call mk_190 mq_kp_refl rfl) (fun _ M1 hM1 => mq_K_B (mq_K_call mk_223_L60 (mq_kp_pi (mq_kp_pi hM1 rfl) rfl) rfl) (fun _ M2 hM2 => mq_K_call mk_223_j141 hM2 rfl))
def mw_223 : List (Nat × Option Nat) := [(84, some 4), (84, some 5), (84, some 7), (84, some 12), (84, some 13), (84, some 14), (84, some 15), (84, some 20), (84, some 28), (84, some 29), (84, some 30), (86, none), (87, none), (88, none), (93, none), (94, none), (95, none), (96, none), (97, none)]
theorem mk_223 {M : mm_M} : mq_K mw_223 M (mf_223 M) := by
  unfold mf_223
  exact mq_K_B (mq_K_call mk_192 mq_kp_refl rfl) (fun _ M1 hM1 => mq_K_B (mq_K_call mk_192 hM1 rfl) (fun _ M2 hM2 => mq_K_B (mq_K_call mk_192 hM2 rfl) (fun _ M3 hM3 => mq_K_B (mq_K_call mk_191 hM3 rfl) (fun _ M5 hM5 => mq_K_ite (fun hc => mq_K_ite (fun hc => mq_K_call mk_223_j42 hM5 rfl) (fun _ => mq_K_ite (fun hc => mq_K_call mk_223_j42 hM5 rfl) (fun _ => mq_K_B (mq_K_call mk_223_L60 (mq_kp_pi (mq_kp_pi hM5 rfl) rfl) rfl) (fun _ M6 hM6 => mq_K_call mk_223_j141 hM6 rfl)))) (fun _ => mq_K_B (mq_K_call mk_223_L60 (mq_kp_pi (mq_kp_pi hM5 rfl) rfl) rfl) (fun _ M13 hM13 => mq_K_call mk_223_j141 hM13 rfl))))))
-- 232: PlainPacksModel.grow
def mw_232 : List (Nat × Option Nat) := [(84, some 5), (84, some 7), (84, some 33), (84, some 34)]
theorem mk_232 {M : mm_M} : mq_K mw_232 M (mf_232 M) := by
  unfold mf_232
  exact mq_K_ite (fun hc => mq_K_B (mq_K_call mk_191 (mq_kp_pl mq_kp_refl rfl) rfl) (fun _ M2 hM2 => mq_K_ret (mq_kp_pl hM2 rfl))) (fun _ => mq_K_ret mq_kp_refl)
-- 233: PlainPacksModel.chance
def mw_233_j115 : List (Nat × Option Nat) := [(84, some 5), (84, some 7), (84, some 33), (84, some 34)]
theorem mk_233_j115 {v4 : Int32} {M : mm_M} : mq_K mw_233_j115 M (mf_233_j115 v4 M) := by
  unfold mf_233_j115
  exact mq_K_B (mq_K_call mk_232 mq_kp_refl rfl) (fun _ M1 hM1 => mq_K_ret hM1)
def mw_233_j40 : List (Nat × Option Nat) := [(84, some 5), (84, some 7), (84, some 33), (84, some 34), (98, none)]
theorem mk_233_j40 {v1 : Int32} {v2 : Int64} {s0 : Int32} {M : mm_M} : mq_K mw_233_j40 M (mf_233_j40 v1 v2 s0 M) := by
  unfold mf_233_j40
  exact mq_K_ite (fun hc => mq_K_ite (fun hc => mq_K_ite (fun hc => mq_K_ite (fun hc => mq_K_call mk_233_j115 (mq_kp_pi (mq_kp_pl mq_kp_refl rfl) rfl) rfl) (fun _ => mq_K_none)) (fun _ => mq_K_none)) (fun _ => mq_K_none)) (fun _ => mq_K_ite (fun hc => mq_K_ite (fun hc => mq_K_ite (fun hc => mq_K_call mk_233_j115 (mq_kp_pi (mq_kp_pl (mq_kp_pl mq_kp_refl rfl) rfl) rfl) rfl) (fun _ => mq_K_none)) (fun _ => mq_K_none)) (fun _ => mq_K_none))
def mw_233 : List (Nat × Option Nat) := [(84, some 5), (84, some 7), (84, some 33), (84, some 34), (98, none)]
theorem mk_233 {v1 : Int32} {M : mm_M} : mq_K mw_233 M (mf_233 v1 M) := by
  unfold mf_233
  exact mq_K_ite (fun hc => mq_K_ite (fun hc => mq_K_ite (fun hc => mq_K_call mk_233_j40 mq_kp_refl rfl) (fun _ => mq_K_call mk_233_j40 mq_kp_refl rfl)) (fun _ => mq_K_none)) (fun _ => mq_K_ret mq_kp_refl)
-- 241: PlainPacksModel.byByte
def mw_241_j152 : List (Nat × Option Nat) := [(84, some 5), (84, some 7), (84, some 33), (84, some 34), (98, none)]
theorem mk_241_j152 {v2 : Int32} {v3 : Int32} {v4 : Int32} {v5 : Int32} {v6 : Int32} {v7 : Int32} {s1 : Int32} {s2 : Int32} {M : mm_M} : mq_K mw_241_j152 M (mf_241_j152 v2 v3 v4 v5 v6 v7 s1 s2 M) := by
  unfold mf_241_j152
  exact mq_K_B (mq_K_call mk_233 mq_kp_refl rfl) (fun _ M2 hM2 => mq_K_ite (fun hc => mq_K_ret hM2) (fun _ => mq_K_ite (fun hc => mq_K_ret hM2) (fun _ => mq_K_ret hM2)))
def mw_241_b118 : List (Nat × Option Nat) := [(84, some 5), (84, some 7), (84, some 33), (84, some 34), (98, none)]
theorem mk_241_b118 {v2 : Int32} {v3 : Int32} {v4 : Int32} {v5 : Int32} {v6 : Int32} {M : mm_M} : mq_K mw_241_b118 M (mf_241_b118 v2 v3 v4 v5 v6 M) := by
  unfold mf_241_b118
  exact mq_K_ite (fun hc => mq_K_ret mq_kp_refl) (fun _ => mq_K_ite (fun hc => mq_K_call mk_241_j152 mq_kp_refl rfl) (fun _ => mq_K_call mk_241_j152 mq_kp_refl rfl))
def mw_241_L118 : List (Nat × Option Nat) := [(84, some 5), (84, some 7), (84, some 33), (84, some 34), (98, none)]
theorem mk_241_L118 {v2 : Int32} {v4 : Int32} {s : Int32 × Int32 × Int32} {M : mm_M} : mq_K mw_241_L118 M (mf_241_L118 v2 v4 s M) := by
  unfold mf_241_L118
  exact mq_K_L (fun s M h => mq_K_call mk_241_b118 h rfl) mq_kp_refl
def mw_241_j193 : List (Nat × Option Nat) := [(84, some 4), (84, some 7), (84, some 8), (86, none)]
theorem mk_241_j193 {v5 : Int32} {M : mm_M} : mq_K mw_241_j193 M (mf_241_j193 v5 M) := by
  unfold mf_241_j193
  exact mq_K_B (mq_K_call mk_194 mq_kp_refl rfl) (fun _ M2 hM2 => mq_K_ite (fun hc => mq_K_ret (mq_kp_pi hM2 rfl)) (fun _ => mq_K_ret (mq_kp_pi hM2 rfl)))
def mw_241_j76 : List (Nat × Option Nat) := [(84, some 4), (84, some 5), (84, some 7), (84, some 8), (84, some 33), (84, some 34), (86, none), (98, none)]
theorem mk_241_j76 {v2 : Int32} {s0 : Int32} {M : mm_M} : mq_K mw_241_j76 M (mf_241_j76 v2 s0 M) := by
  unfold mf_241_j76
  exact mq_K_ite (fun hc => mq_K_B (mq_K_call mk_241_L118 mq_kp_refl rfl) (fun _ M1 hM1 => mq_K_call mk_241_j193 hM1 rfl)) (fun _ => mq_K_ite (fun hc => mq_K_ite (fun hc => mq_K_ite (fun hc => mq_K_B (mq_K_call mk_241_L118 mq_kp_refl rfl) (fun _ M10 hM10 => mq_K_call mk_241_j193 hM10 rfl)) (fun _ => mq_K_none)) (fun _ => mq_K_none)) (fun _ => mq_K_B (mq_K_call mk_241_L118 mq_kp_refl rfl) (fun _ M19 hM19 => mq_K_call mk_241_j193 hM19 rfl)))
def mw_241_j22 : List (Nat × Option Nat) := [(84, some 4), (84, some 5), (84, some 7), (84, some 8), (84, some 33), (84, some 34), (86, none), (98, none)]
theorem mk_241_j22 {s0 : Int32} {M : mm_M} : mq_K mw_241_j22 M (mf_241_j22 s0 M) := by
  unfold mf_241_j22
  exact mq_K_ite (fun hc => mq_K_call mk_241_j76 mq_kp_refl rfl) (fun _ => mq_K_call mk_241_j76 mq_kp_refl rfl)
def mw_241 : List (Nat × Option Nat) := [(84, some 4), (84, some 5), (84, some 7), (84, some 8), (84, some 33), (84, some 34), (86, none), (98, none)]
theorem mk_241 {M : mm_M} : mq_K mw_241 M (mf_241 M) := by
  unfold mf_241
  exact mq_K_ite (fun hc => mq_K_call mk_241_j22 mq_kp_refl rfl) (fun _ => mq_K_ite (fun hc => mq_K_call mk_241_j22 mq_kp_refl rfl) (fun _ => mq_K_none))
-- 234: PlainPacksModel.tree
def mw_234_b5 : List (Nat × Option Nat) := [(84, some 5), (84, some 7), (84, some 33), (84, some 34), (98, none)]
theorem mk_234_b5 {v1 : Int32} {v2 : Int32} {v3 : Int32} {v4 : Int32} {M : mm_M} : mq_K mw_234_b5 M (mf_234_b5 v1 v2 v3 v4 M) := by
  unfold mf_234_b5
  exact mq_K_ite (fun hc => mq_K_B (mq_K_call mk_233 mq_kp_refl rfl) (fun _ M2 hM2 => mq_K_ret hM2)) (fun _ => mq_K_ret mq_kp_refl)
def mw_234_L5 : List (Nat × Option Nat) := [(84, some 5), (84, some 7), (84, some 33), (84, some 34), (98, none)]
theorem mk_234_L5 {v1 : Int32} {v2 : Int32} {s : Int32 × Int32} {M : mm_M} : mq_K mw_234_L5 M (mf_234_L5 v1 v2 s M) := by
  unfold mf_234_L5
  exact mq_K_L (fun s M h => mq_K_call mk_234_b5 h rfl) mq_kp_refl
def mw_234 : List (Nat × Option Nat) := [(84, some 5), (84, some 7), (84, some 33), (84, some 34), (98, none)]
theorem mk_234 {v1 : Int32} {v2 : Int32} {M : mm_M} : mq_K mw_234 M (mf_234 v1 v2 M) := by
  unfold mf_234
  exact mq_K_B (mq_K_call mk_234_L5 mq_kp_refl rfl) (fun _ M1 hM1 => mq_K_ret hM1)
-- 242: PlainPacksModel.lengthOf
def mw_242 : List (Nat × Option Nat) := [(84, some 5), (84, some 7), (84, some 33), (84, some 34), (98, none)]
theorem mk_242 {v1 : Int32} {v2 : Int32} {M : mm_M} : mq_K mw_242 M (mf_242 v1 v2 M) := by
  unfold mf_242
  exact mq_K_B (mq_K_call mk_233 mq_kp_refl rfl) (fun _ M2 hM2 => mq_K_ite (fun hc => mq_K_B (mq_K_call mk_234 hM2 rfl) (fun _ M4 hM4 => mq_K_ret hM4)) (fun _ => mq_K_B (mq_K_call mk_233 hM2 rfl) (fun _ M6 hM6 => mq_K_ite (fun hc => mq_K_B (mq_K_call mk_234 hM6 rfl) (fun _ M8 hM8 => mq_K_ret hM8)) (fun _ => mq_K_B (mq_K_call mk_234 hM6 rfl) (fun _ M10 hM10 => mq_K_ret hM10)))))
-- 240: PlainPacksModel.isRoom
def mw_240 : List (Nat × Option Nat) := [(84, some 7)]
theorem mk_240 {v1 : Int32} {v2 : Int64} {M : mm_M} : mq_K mw_240 M (mf_240 v1 v2 M) := by
  unfold mf_240
  exact mq_K_ite (fun hc => mq_K_ite (fun hc => mq_K_ret mq_kp_refl) (fun _ => mq_K_ite (fun hc => mq_K_B (mq_K_call mk_190 mq_kp_refl rfl) (fun _ M1 hM1 => mq_K_ret hM1)) (fun _ => mq_K_ret mq_kp_refl))) (fun _ => mq_K_ret mq_kp_refl)
-- 235: PlainPacksModel.turnedTree
def mw_235_b8 : List (Nat × Option Nat) := [(84, some 5), (84, some 7), (84, some 33), (84, some 34), (98, none)]
theorem mk_235_b8 {v1 : Int32} {v2 : Int32} {v3 : Int32} {v4 : Int64} {v6 : Int32} {M : mm_M} : mq_K mw_235_b8 M (mf_235_b8 v1 v2 v3 v4 v6 M) := by
  unfold mf_235_b8
  exact mq_K_ite (fun hc => mq_K_B (mq_K_call mk_233 mq_kp_refl rfl) (fun _ M2 hM2 => mq_K_ret hM2)) (fun _ => mq_K_ret mq_kp_refl)
def mw_235_L8 : List (Nat × Option Nat) := [(84, some 5), (84, some 7), (84, some 33), (84, some 34), (98, none)]
theorem mk_235_L8 {v1 : Int32} {v2 : Int32} {s : Int32 × Int64 × Int32} {M : mm_M} : mq_K mw_235_L8 M (mf_235_L8 v1 v2 s M) := by
  unfold mf_235_L8
  exact mq_K_L (fun s M h => mq_K_call mk_235_b8 h rfl) mq_kp_refl
def mw_235 : List (Nat × Option Nat) := [(84, some 5), (84, some 7), (84, some 33), (84, some 34), (98, none)]
theorem mk_235 {v1 : Int32} {v2 : Int32} {M : mm_M} : mq_K mw_235 M (mf_235 v1 v2 M) := by
  unfold mf_235
  exact mq_K_B (mq_K_call mk_235_L8 mq_kp_refl rfl) (fun _ M1 hM1 => mq_K_ret hM1)
-- 236: PlainPacksModel.plainBits
def mw_236_j68 : List (Nat × Option Nat) := [(84, some 5), (84, some 7), (84, some 33), (84, some 34)]
theorem mk_236_j68 {v1 : Int32} {v2 : Int64} {v4 : Int32} {v5 : Int32} {s1 : Int64} {s2 : Int64} {M : mm_M} : mq_K mw_236_j68 M (mf_236_j68 v1 v2 v4 v5 s1 s2 M) := by
  unfold mf_236_j68
  exact mq_K_B (mq_K_call mk_232 (mq_kp_pl mq_kp_refl rfl) rfl) (fun _ M1 hM1 => mq_K_ret hM1)
def mw_236_j47 : List (Nat × Option Nat) := [(84, some 5), (84, some 7), (84, some 33), (84, some 34)]
theorem mk_236_j47 {v1 : Int32} {v2 : Int64} {v4 : Int32} {s0 : Int32} {M : mm_M} : mq_K mw_236_j47 M (mf_236_j47 v1 v2 v4 s0 M) := by
  unfold mf_236_j47
  exact mq_K_ite (fun hc => mq_K_call mk_236_j68 mq_kp_refl rfl) (fun _ => mq_K_call mk_236_j68 mq_kp_refl rfl)
def mw_236_b5 : List (Nat × Option Nat) := [(84, some 5), (84, some 7), (84, some 33), (84, some 34)]
theorem mk_236_b5 {v1 : Int32} {v2 : Int64} {v4 : Int32} {M : mm_M} : mq_K mw_236_b5 M (mf_236_b5 v1 v2 v4 M) := by
  unfold mf_236_b5
  exact mq_K_ite (fun hc => mq_K_ite (fun hc => mq_K_ite (fun hc => mq_K_call mk_236_j47 (mq_kp_pl mq_kp_refl rfl) rfl) (fun _ => mq_K_call mk_236_j47 (mq_kp_pl mq_kp_refl rfl) rfl)) (fun _ => mq_K_ret mq_kp_refl)) (fun _ => mq_K_ret mq_kp_refl)
def mw_236_L5 : List (Nat × Option Nat) := [(84, some 5), (84, some 7), (84, some 33), (84, some 34)]
theorem mk_236_L5 {v1 : Int32} {s : Int64 × Int32} {M : mm_M} : mq_K mw_236_L5 M (mf_236_L5 v1 s M) := by
  unfold mf_236_L5
  exact mq_K_L (fun s M h => mq_K_call mk_236_b5 h rfl) mq_kp_refl
def mw_236 : List (Nat × Option Nat) := [(84, some 5), (84, some 7), (84, some 33), (84, some 34)]
theorem mk_236 {v1 : Int32} {M : mm_M} : mq_K mw_236 M (mf_236 v1 M) := by
  unfold mf_236
  exact mq_K_B (mq_K_call mk_236_L5 mq_kp_refl rfl) (fun _ M1 hM1 => mq_K_ret hM1)
-- 243: PlainPacksModel.distanceOf
def mw_243_j14 : List (Nat × Option Nat) := [(84, some 5), (84, some 7), (84, some 33), (84, some 34), (98, none)]
theorem mk_243_j14 {s0 : Int32} {M : mm_M} : mq_K mw_243_j14 M (mf_243_j14 s0 M) := by
  unfold mf_243_j14
  exact mq_K_B (mq_K_call mk_234 mq_kp_refl rfl) (fun _ M2 hM2 => mq_K_ite (fun hc => mq_K_ret hM2) (fun _ => mq_K_ite (fun hc => mq_K_B (mq_K_call mk_235 hM2 rfl) (fun _ M4 hM4 => mq_K_ret hM4)) (fun _ => mq_K_B (mq_K_call mk_236 hM2 rfl) (fun _ M6 hM6 => mq_K_B (mq_K_call mk_235 hM6 rfl) (fun _ M8 hM8 => mq_K_ret hM8)))))
def mw_243 : List (Nat × Option Nat) := [(84, some 5), (84, some 7), (84, some 33), (84, some 34), (98, none)]
theorem mk_243 {v1 : Int32} {M : mm_M} : mq_K mw_243 M (mf_243 v1 M) := by
  unfold mf_243
  exact mq_K_ite (fun hc => mq_K_call mk_243_j14 mq_kp_refl rfl) (fun _ => mq_K_call mk_243_j14 mq_kp_refl rfl)
-- 239: PlainPacksModel.isThere
def mw_239 : List (Nat × Option Nat) := [(84, some 7)]
theorem mk_239 {v1 : Int32} {M : mm_M} : mq_K mw_239 M (mf_239 v1 M) := by
  unfold mf_239
  exact mq_K_ite (fun hc => mq_K_ite (fun hc => mq_K_ite (fun hc => mq_K_B (mq_K_call mk_190 mq_kp_refl rfl) (fun _ M1 hM1 => mq_K_ret hM1)) (fun _ => mq_K_ret mq_kp_refl)) (fun _ => mq_K_none)) (fun _ => mq_K_ret mq_kp_refl)
-- 238: PlainPacksModel.place
def mw_238_b136 : List (Nat × Option Nat) := [(99, none)]
theorem mk_238_b136 {v1 : Int64} {v4 : Int32} {v5 : Int64} {v7 : Int32} {M : mm_M} : mq_K mw_238_b136 M (mf_238_b136 v1 v4 v5 v7 M) := by
  unfold mf_238_b136
  exact mq_K_ite (fun hc => mq_K_ite (fun hc => mq_K_ite (fun hc => mq_K_ret (mq_kp_pl mq_kp_refl rfl)) (fun _ => mq_K_none)) (fun _ => mq_K_none)) (fun _ => mq_K_ret mq_kp_refl)
def mw_238_L136 : List (Nat × Option Nat) := [(99, none)]
theorem mk_238_L136 {v1 : Int64} {v4 : Int32} {v5 : Int64} {s : Int32} {M : mm_M} : mq_K mw_238_L136 M (mf_238_L136 v1 v4 v5 s M) := by
  unfold mf_238_L136
  exact mq_K_L (fun s M h => mq_K_call mk_238_b136 h rfl) mq_kp_refl
def mw_238_j450 : List (Nat × Option Nat) := [(84, some 4), (84, some 7), (84, some 9), (84, some 10), (84, some 11), (86, none)]
theorem mk_238_j450 {v1 : Int64} {v4 : Int32} {M : mm_M} : mq_K mw_238_j450 M (mf_238_j450 v1 v4 M) := by
  unfold mf_238_j450
  exact mq_K_B (mq_K_call mk_240 mq_kp_refl rfl) (fun _ M1 hM1 => mq_K_ite (fun hc => mq_K_B (mq_K_call mk_196 hM1 rfl) (fun _ M2 hM2 => mq_K_ret hM2)) (fun _ => mq_K_none))
def mw_238_j188 : List (Nat × Option Nat) := [(84, some 4), (84, some 7), (84, some 9), (84, some 10), (84, some 11), (84, some 35), (86, none)]
theorem mk_238_j188 {v1 : Int64} {v4 : Int32} {v5 : Int64} {s1 : Int32} {M : mm_M} : mq_K mw_238_j188 M (mf_238_j188 v1 v4 v5 s1 M) := by
  unfold mf_238_j188
  exact mq_K_ite (fun hc => mq_K_ite (fun hc => mq_K_ite (fun hc => mq_K_ret (mq_kp_pi mq_kp_refl rfl)) (fun _ => mq_K_call mk_238_j450 (mq_kp_pi mq_kp_refl rfl) rfl)) (fun _ => mq_K_call mk_238_j450 (mq_kp_pi mq_kp_refl rfl) rfl)) (fun _ => mq_K_call mk_238_j450 (mq_kp_pi mq_kp_refl rfl) rfl)
def mw_238_j163 : List (Nat × Option Nat) := [(84, some 4), (84, some 7), (84, some 9), (84, some 10), (84, some 11), (84, some 35), (86, none), (99, none)]
theorem mk_238_j163 {v1 : Int64} {v4 : Int32} {v5 : Int64} {M : mm_M} : mq_K mw_238_j163 M (mf_238_j163 v1 v4 v5 M) := by
  unfold mf_238_j163
  exact mq_K_ite (fun hc => mq_K_ite (fun hc => mq_K_call mk_238_j188 (mq_kp_pl mq_kp_refl rfl) rfl) (fun _ => mq_K_call mk_238_j188 (mq_kp_pl mq_kp_refl rfl) rfl)) (fun _ => mq_K_none)
def mw_238_j282 : List (Nat × Option Nat) := [(84, some 4), (84, some 7), (84, some 9), (84, some 10), (84, some 11), (84, some 35), (86, none)]
theorem mk_238_j282 {v1 : Int64} {v5 : Int32} {s0 : Int32} {M : mm_M} : mq_K mw_238_j282 M (mf_238_j282 v1 v5 s0 M) := by
  unfold mf_238_j282
  exact mq_K_ite (fun hc => mq_K_ite (fun hc => mq_K_call mk_238_j450 (mq_kp_pi mq_kp_refl rfl) rfl) (fun _ => mq_K_call mk_238_j450 (mq_kp_pi mq_kp_refl rfl) rfl)) (fun _ => mq_K_ite (fun hc => mq_K_call mk_238_j450 (mq_kp_pi mq_kp_refl rfl) rfl) (fun _ => mq_K_call mk_238_j450 (mq_kp_pi mq_kp_refl rfl) rfl))
def mw_238_j263 : List (Nat × Option Nat) := [(84, some 4), (84, some 5), (84, some 7), (84, some 9), (84, some 10), (84, some 11), (84, some 33), (84, some 34), (84, some 35), (86, none), (98, none)]
theorem mk_238_j263 {v1 : Int64} {v3 : Int32} {s0 : Int32} {M : mm_M} : mq_K mw_238_j263 M (mf_238_j263 v1 v3 s0 M) := by
  unfold mf_238_j263
  exact mq_K_ite (fun hc => mq_K_B (mq_K_call mk_242 mq_kp_refl rfl) (fun _ M2 hM2 => mq_K_call mk_238_j282 hM2 rfl)) (fun _ => mq_K_call mk_238_j282 mq_kp_refl rfl)
def mw_238_b385 : List (Nat × Option Nat) := [(99, none)]
theorem mk_238_b385 {v1 : Int64} {v3 : Int32} {v6 : Int64} {v8 : Int32} {M : mm_M} : mq_K mw_238_b385 M (mf_238_b385 v1 v3 v6 v8 M) := by
  unfold mf_238_b385
  exact mq_K_ite (fun hc => mq_K_ite (fun hc => mq_K_ite (fun hc => mq_K_ret (mq_kp_pl mq_kp_refl rfl)) (fun _ => mq_K_none)) (fun _ => mq_K_none)) (fun _ => mq_K_ret mq_kp_refl)
def mw_238_L385 : List (Nat × Option Nat) := [(99, none)]
theorem mk_238_L385 {v1 : Int64} {v3 : Int32} {v6 : Int64} {s : Int32} {M : mm_M} : mq_K mw_238_L385 M (mf_238_L385 v1 v3 v6 s M) := by
  unfold mf_238_L385
  exact mq_K_L (fun s M h => mq_K_call mk_238_b385 h rfl) mq_kp_refl
def mw_238_j447 : List (Nat × Option Nat) := [(84, some 4), (84, some 7), (84, some 9), (84, some 10), (84, some 11), (84, some 35), (86, none)]
theorem mk_238_j447 {v1 : Int64} {v4 : Int32} {s1 : Int32} {M : mm_M} : mq_K mw_238_j447 M (mf_238_j447 v1 v4 s1 M) := by
  unfold mf_238_j447
  exact mq_K_call mk_238_j450 (mq_kp_pi mq_kp_refl rfl) rfl
def mw_238_j412 : List (Nat × Option Nat) := [(84, some 4), (84, some 5), (84, some 7), (84, some 9), (84, some 10), (84, some 11), (84, some 33), (84, some 34), (84, some 35), (86, none), (98, none), (99, none)]
theorem mk_238_j412 {v1 : Int64} {v3 : Int32} {v6 : Int64} {M : mm_M} : mq_K mw_238_j412 M (mf_238_j412 v1 v3 v6 M) := by
  unfold mf_238_j412
  exact mq_K_ite (fun hc => mq_K_B (mq_K_call mk_242 (mq_kp_pl mq_kp_refl rfl) rfl) (fun _ M2 hM2 => mq_K_ite (fun hc => mq_K_call mk_238_j447 hM2 rfl) (fun _ => mq_K_call mk_238_j447 hM2 rfl))) (fun _ => mq_K_none)
def mw_238_j364 : List (Nat × Option Nat) := [(84, some 4), (84, some 5), (84, some 7), (84, some 9), (84, some 10), (84, some 11), (84, some 33), (84, some 34), (84, some 35), (86, none), (98, none), (99, none)]
theorem mk_238_j364 {v1 : Int64} {v3 : Int32} {s0 : Int32} {M : mm_M} : mq_K mw_238_j364 M (mf_238_j364 v1 v3 s0 M) := by
  unfold mf_238_j364
  exact mq_K_B (mq_K_call mk_239 mq_kp_refl rfl) (fun _ M1 hM1 => mq_K_ite (fun hc => mq_K_B (mq_K_call mk_238_L385 hM1 rfl) (fun _ M2 hM2 => mq_K_call mk_238_j412 hM2 rfl)) (fun _ => mq_K_none))
def mw_238 : List (Nat × Option Nat) := [(84, some 4), (84, some 5), (84, some 7), (84, some 8), (84, some 9), (84, some 10), (84, some 11), (84, some 33), (84, some 34), (84, some 35), (86, none), (98, none), (99, none)]
theorem mk_238 {v1 : Int64} {M : mm_M} : mq_K mw_238 M (mf_238 v1 M) := by
  unfold mf_238
  exact mq_K_B (mq_K_call mk_233 mq_kp_refl rfl) (fun _ M2 hM2 => mq_K_ite (fun hc => mq_K_B (mq_K_call mk_241 hM2 rfl) (fun _ M3 hM3 => mq_K_ite (fun hc => mq_K_ret (mq_kp_pi hM3 rfl)) (fun _ => mq_K_ite (fun hc => mq_K_ret (mq_kp_pi hM3 rfl)) (fun _ => mq_K_ret (mq_kp_pi hM3 rfl))))) (fun _ => mq_K_B (mq_K_call mk_233 hM2 rfl) (fun _ M5 hM5 => mq_K_ite (fun hc => mq_K_B (mq_K_call mk_242 hM5 rfl) (fun _ M7 hM7 => mq_K_B (mq_K_call mk_240 hM7 rfl) (fun _ M8 hM8 => mq_K_ite (fun hc => mq_K_B (mq_K_call mk_243 hM8 rfl) (fun _ M10 hM10 => mq_K_B (mq_K_call mk_238_L136 hM10 rfl) (fun _ M11 hM11 => mq_K_call mk_238_j163 hM11 rfl))) (fun _ => mq_K_B (mq_K_call mk_238_L136 hM8 rfl) (fun _ M18 hM18 => mq_K_call mk_238_j163 hM18 rfl))))) (fun _ => mq_K_B (mq_K_call mk_233 hM5 rfl) (fun _ M26 hM26 => mq_K_ite (fun hc => mq_K_B (mq_K_call mk_239 hM26 rfl) (fun _ M27 hM27 => mq_K_B (mq_K_call mk_233 hM27 rfl) (fun _ M29 hM29 => mq_K_ite (fun hc => mq_K_call mk_238_j263 hM29 rfl) (fun _ => mq_K_call mk_238_j263 hM29 rfl)))) (fun _ => mq_K_B (mq_K_call mk_233 hM26 rfl) (fun _ M31 hM31 => mq_K_ite (fun hc => mq_K_call mk_238_j364 hM31 rfl) (fun _ => mq_K_B (mq_K_call mk_233 hM31 rfl) (fun _ M33 hM33 => mq_K_call mk_238_j364 hM33 rfl)))))))))
