/-! WHAT IS KEPT 2 -/
-- 118: PlainPacks$Pieces.readPieces
def mw_118_j74 : List (Nat × Option Nat) := [(1, some 2), (1, some 6), (3, some 1), (3, some 3), (3, some 4), (3, some 5), (4, none)]
theorem mk_118_j74 {v1 : Int32} {v2 : Int32} {v3 : Int32} {v4 : Int32} {s0 : Int32} {M : mm_M} : mq_K mw_118_j74 M (mf_118_j74 v1 v2 v3 v4 s0 M) := by
  unfold mf_118_j74
  exact mq_K_B (mq_K_call mk_27 mq_kp_refl rfl) (fun _ M1 hM1 => mq_K_B (mq_K_call mk_119 hM1 rfl) (fun _ M3 hM3 => mq_K_B (mq_K_call mk_53 hM3 rfl) (fun _ M4 hM4 => mq_K_ret hM4)))
def mw_118_b2 : List (Nat × Option Nat) := [(1, some 2), (1, some 6), (3, some 1), (3, some 2), (3, some 3), (3, some 4), (3, some 5), (4, none)]
theorem mk_118_b2 {v1 : Int32} {v2 : Int32} {M : mm_M} : mq_K mw_118_b2 M (mf_118_b2 v1 v2 M) := by
  unfold mf_118_b2
  exact mq_K_ite (fun hc => mq_K_B (mq_K_call mk_44 mq_kp_refl rfl) (fun _ M2 hM2 => mq_K_B (mq_K_call mk_119 hM2 rfl) (fun _ M4 hM4 => mq_K_B (mq_K_call mk_120 hM4 rfl) (fun _ M5 hM5 => mq_K_B (mq_K_call mk_43 hM5 rfl) (fun _ M7 hM7 => mq_K_ite (fun hc => mq_K_B (mq_K_call mk_47 hM7 rfl) (fun _ M9 hM9 => mq_K_ite (fun hc => mq_K_call mk_118_j74 hM9 rfl) (fun _ => mq_K_ite (fun hc => mq_K_call mk_118_j74 hM9 rfl) (fun _ => mq_K_call mk_118_j74 hM9 rfl)))) (fun _ => mq_K_ret hM7)))))) (fun _ => mq_K_ret mq_kp_refl)
def mw_118_L2 : List (Nat × Option Nat) := [(1, some 2), (1, some 6), (3, some 1), (3, some 2), (3, some 3), (3, some 4), (3, some 5), (4, none)]
theorem mk_118_L2 {v1 : Int32} {s : Int32} {M : mm_M} : mq_K mw_118_L2 M (mf_118_L2 v1 s M) := by
  unfold mf_118_L2
  exact mq_K_L (fun s M h => mq_K_call mk_118_b2 h rfl) mq_kp_refl
def mw_118 : List (Nat × Option Nat) := [(1, some 2), (1, some 6), (3, some 1), (3, some 2), (3, some 3), (3, some 4), (3, some 5), (4, none)]
theorem mk_118 {v1 : Int32} {M : mm_M} : mq_K mw_118 M (mf_118 v1 M) := by
  unfold mf_118
  exact mq_K_B (mq_K_call mk_118_L2 mq_kp_refl rfl) (fun _ M1 hM1 => mq_K_sm (fun _ => mq_K_ret hM1) (fun _ => mq_K_ret hM1))
-- 33: PlainPacks.lowWord
def mw_33 (p : Nat) : List (Nat × Option Nat) := []
theorem mk_33 {p : Nat} {n : Nat} {v1 : Int32} {M : mm_M} : mq_K (mw_33 p) M (mf_33 p n v1 M) := by
  unfold mf_33
  exact mq_K_ite (fun hc => mq_K_ite (fun hc => mq_K_ite (fun hc => mq_K_ite (fun hc => mq_K_ret mq_kp_refl) (fun _ => mq_K_none)) (fun _ => mq_K_none)) (fun _ => mq_K_none)) (fun _ => mq_K_none)
-- 32: PlainPacks.turnedLeft
def mw_32 : List (Nat × Option Nat) := []
theorem mk_32 {v0 : Int32} {v1 : Int32} {M : mm_M} : mq_K mw_32 M (mf_32 v0 v1 M) := by
  unfold mf_32
  exact mq_K_ret mq_kp_refl
-- 31: PlainPacks.xxOf
def mw_31_b187 (p : Nat) : List (Nat × Option Nat) := []
theorem mk_31_b187 {p : Nat} {n : Nat} {v2 : Int32} {v3 : Int32} {v4 : Int32} {M : mm_M} : mq_K (mw_31_b187 p) M (mf_31_b187 p n v2 v3 v4 M) := by
  unfold mf_31_b187
  exact mq_K_ite (fun hc => mq_K_ret mq_kp_refl) (fun _ => mq_K_B (mq_K_call mk_33 mq_kp_refl (by simp [mq_sub, mw_33, mw_31_b187])) (fun _ M2 hM2 => mq_K_B (mq_K_call mk_32 hM2 (by simp [mq_sub, mw_32, mw_31_b187])) (fun _ M4 hM4 => mq_K_ret hM4)))
def mw_31_L187 (p : Nat) : List (Nat × Option Nat) := []
theorem mk_31_L187 {p : Nat} {n : Nat} {v2 : Int32} {s : Int32 × Int32} {M : mm_M} : mq_K (mw_31_L187 p) M (mf_31_L187 p n v2 s M) := by
  unfold mf_31_L187
  exact mq_K_L (fun s M h => mq_K_call mk_31_b187 h (by simp [mq_sub, mw_31_b187, mw_31_L187])) mq_kp_refl
def mw_31_b223 (p : Nat) : List (Nat × Option Nat) := []
theorem mk_31_b223 {p : Nat} {n : Nat} {v2 : Int32} {v3 : Int32} {v4 : Int32} {M : mm_M} : mq_K (mw_31_b223 p) M (mf_31_b223 p n v2 v3 v4 M) := by
  unfold mf_31_b223
  exact mq_K_ite (fun hc => mq_K_ite (fun hc => mq_K_B (mq_K_call mk_32 mq_kp_refl (by simp [mq_sub, mw_32, mw_31_b223])) (fun _ M2 hM2 => mq_K_ret hM2)) (fun _ => mq_K_none)) (fun _ => mq_K_ret mq_kp_refl)
def mw_31_L223 (p : Nat) : List (Nat × Option Nat) := []
theorem mk_31_L223 {p : Nat} {n : Nat} {v2 : Int32} {s : Int32 × Int32} {M : mm_M} : mq_K (mw_31_L223 p) M (mf_31_L223 p n v2 s M) := by
  unfold mf_31_L223
  exact mq_K_L (fun s M h => mq_K_call mk_31_b223 h (by simp [mq_sub, mw_31_b223, mw_31_L223])) mq_kp_refl
def mw_31_j255 (p : Nat) : List (Nat × Option Nat) := []
theorem mk_31_j255 {p : Nat} {n : Nat} {v4 : Int32} {M : mm_M} : mq_K (mw_31_j255 p) M (mf_31_j255 p n v4 M) := by
  unfold mf_31_j255
  exact mq_K_ret mq_kp_refl
def mw_31_b33 (p : Nat) : List (Nat × Option Nat) := []
theorem mk_31_b33 {p : Nat} {n : Nat} {v1 : Int32} {v2 : Int32} {v3 : Int32} {v5 : Int32} {v6 : Int32} {v7 : Int32} {v8 : Int32} {M : mm_M} : mq_K (mw_31_b33 p) M (mf_31_b33 p n v1 v2 v3 v5 v6 v7 v8 M) := by
  unfold mf_31_b33
  exact mq_K_ite (fun hc => mq_K_ret mq_kp_refl) (fun _ => mq_K_B (mq_K_call mk_33 mq_kp_refl (by simp [mq_sub, mw_33, mw_31_b33])) (fun _ M2 hM2 => mq_K_B (mq_K_call mk_32 hM2 (by simp [mq_sub, mw_32, mw_31_b33])) (fun _ M4 hM4 => mq_K_B (mq_K_call mk_33 hM4 (by simp [mq_sub, mw_33, mw_31_b33])) (fun _ M6 hM6 => mq_K_B (mq_K_call mk_32 hM6 (by simp [mq_sub, mw_32, mw_31_b33])) (fun _ M8 hM8 => mq_K_B (mq_K_call mk_33 hM8 (by simp [mq_sub, mw_33, mw_31_b33])) (fun _ M10 hM10 => mq_K_B (mq_K_call mk_32 hM10 (by simp [mq_sub, mw_32, mw_31_b33])) (fun _ M12 hM12 => mq_K_B (mq_K_call mk_33 hM12 (by simp [mq_sub, mw_33, mw_31_b33])) (fun _ M14 hM14 => mq_K_B (mq_K_call mk_32 hM14 (by simp [mq_sub, mw_32, mw_31_b33])) (fun _ M16 hM16 => mq_K_ret hM16)))))))))
def mw_31_L33 (p : Nat) : List (Nat × Option Nat) := []
theorem mk_31_L33 {p : Nat} {n : Nat} {v1 : Int32} {v2 : Int32} {s : Int32 × Int32 × Int32 × Int32 × Int32} {M : mm_M} : mq_K (mw_31_L33 p) M (mf_31_L33 p n v1 v2 s M) := by
  unfold mf_31_L33
  exact mq_K_L (fun s M h => mq_K_call mk_31_b33 h (by simp [mq_sub, mw_31_b33, mw_31_L33])) mq_kp_refl
def mw_31_j147 (p : Nat) : List (Nat × Option Nat) := []
theorem mk_31_j147 {p : Nat} {n : Nat} {v1 : Int32} {v2 : Int32} {v3 : Int32} {v5 : Int32} {v6 : Int32} {v7 : Int32} {v8 : Int32} {M : mm_M} : mq_K (mw_31_j147 p) M (mf_31_j147 p n v1 v2 v3 v5 v6 v7 v8 M) := by
  unfold mf_31_j147
  exact mq_K_B (mq_K_call mk_32 mq_kp_refl (by simp [mq_sub, mw_32, mw_31_j147])) (fun _ M2 hM2 => mq_K_B (mq_K_call mk_32 hM2 (by simp [mq_sub, mw_32, mw_31_j147])) (fun _ M4 hM4 => mq_K_B (mq_K_call mk_32 hM4 (by simp [mq_sub, mw_32, mw_31_j147])) (fun _ M6 hM6 => mq_K_B (mq_K_call mk_32 hM6 (by simp [mq_sub, mw_32, mw_31_j147])) (fun _ M8 hM8 => mq_K_B (mq_K_call mk_31_L187 hM8 (by simp [mq_sub, mw_31_L187, mw_31_j147])) (fun _ M9 hM9 => mq_K_B (mq_K_call mk_31_L223 hM9 (by simp [mq_sub, mw_31_L223, mw_31_j147])) (fun _ M16 hM16 => mq_K_call mk_31_j255 hM16 (by simp [mq_sub, mw_31_j255, mw_31_j147])))))))
def mw_31 (p : Nat) : List (Nat × Option Nat) := []
theorem mk_31 {p : Nat} {n : Nat} {v1 : Int32} {v2 : Int32} {M : mm_M} : mq_K (mw_31 p) M (mf_31 p n v1 v2 M) := by
  unfold mf_31
  exact mq_K_ite (fun hc => mq_K_B (mq_K_call mk_31_L187 mq_kp_refl (by simp [mq_sub, mw_31_L187, mw_31])) (fun _ M1 hM1 => mq_K_B (mq_K_call mk_31_L223 hM1 (by simp [mq_sub, mw_31_L223, mw_31])) (fun _ M8 hM8 => mq_K_call mk_31_j255 hM8 (by simp [mq_sub, mw_31_j255, mw_31])))) (fun _ => mq_K_B (mq_K_call mk_31_L33 mq_kp_refl (by simp [mq_sub, mw_31_L33, mw_31])) (fun _ M18 hM18 => mq_K_call mk_31_j147 hM18 (by simp [mq_sub, mw_31_j147, mw_31])))
-- 122: PlainPacks$Pieces.readFrameHead
def mw_122_j166 : List (Nat × Option Nat) := []
theorem mk_122_j166 {v4 : Int64} {s0 : Int32} {M : mm_M} : mq_K mw_122_j166 M (mf_122_j166 v4 s0 M) := by
  unfold mf_122_j166
  exact mq_K_B (mq_K_call mk_27 mq_kp_refl rfl) (fun _ M1 hM1 => mq_K_ret hM1)
def mw_122_j120 : List (Nat × Option Nat) := [(1, some 2), (1, some 6)]
theorem mk_122_j120 {v1 : Int32} {s0 : Int64} {M : mm_M} : mq_K mw_122_j120 M (mf_122_j120 v1 s0 M) := by
  unfold mf_122_j120
  exact mq_K_B (mq_K_call mk_31 mq_kp_refl rfl) (fun _ M2 hM2 => mq_K_B (mq_K_call mk_44 hM2 rfl) (fun _ M4 hM4 => mq_K_ite (fun hc => mq_K_call mk_122_j166 hM4 rfl) (fun _ => mq_K_call mk_122_j166 hM4 rfl)))
def mw_122_j82 : List (Nat × Option Nat) := [(1, some 2), (1, some 6), (41, some 5)]
theorem mk_122_j82 {v1 : Int32} {v3 : Int32} {s0 : Int32} {M : mm_M} : mq_K mw_122_j82 M (mf_122_j82 v1 v3 s0 M) := by
  unfold mf_122_j82
  exact mq_K_B (mq_K_call mk_27 mq_kp_refl rfl) (fun _ M1 hM1 => mq_K_ite (fun hc => mq_K_call mk_122_j120 (mq_kp_pl hM1 rfl) rfl) (fun _ => mq_K_B (mq_K_call mk_47 (mq_kp_pl hM1 rfl) rfl) (fun _ M3 hM3 => mq_K_call mk_122_j120 hM3 rfl)))
def mw_122_j44 : List (Nat × Option Nat) := [(1, some 2), (1, some 6), (41, some 5)]
theorem mk_122_j44 {v1 : Int32} {s0 : Int32} {M : mm_M} : mq_K mw_122_j44 M (mf_122_j44 v1 s0 M) := by
  unfold mf_122_j44
  exact mq_K_B (mq_K_call mk_27 mq_kp_refl rfl) (fun _ M1 hM1 => mq_K_B (mq_K_call mk_44 hM1 rfl) (fun _ M3 hM3 => mq_K_ite (fun hc => mq_K_ite (fun hc => mq_K_call mk_122_j82 hM3 rfl) (fun _ => mq_K_ite (fun hc => mq_K_call mk_122_j82 hM3 rfl) (fun _ => mq_K_call mk_122_j82 hM3 rfl))) (fun _ => mq_K_call mk_122_j82 hM3 rfl)))
def mw_122 : List (Nat × Option Nat) := [(1, some 2), (1, some 6), (41, some 4), (41, some 5)]
theorem mk_122 {M : mm_M} : mq_K mw_122 M (mf_122 M) := by
  unfold mf_122
  exact mq_K_B (mq_K_call mk_44 mq_kp_refl rfl) (fun _ M2 hM2 => mq_K_ite (fun hc => mq_K_ite (fun hc => mq_K_call mk_122_j44 (mq_kp_pi hM2 rfl) rfl) (fun _ => mq_K_call mk_122_j44 (mq_kp_pi hM2 rfl) rfl)) (fun _ => mq_K_call mk_122_j44 (mq_kp_pi hM2 rfl) rfl))
-- 41: PlainPacks$Source.closeBehind
def mw_41 : List (Nat × Option Nat) := [(1, some 3)]
theorem mk_41 {v1 : Int32} {M : mm_M} : mq_K mw_41 M (mf_41 v1 M) := by
  unfold mf_41
  exact mq_K_ite (fun hc => mq_K_ret (mq_kp_pi mq_kp_refl rfl)) (fun _ => mq_K_ret (mq_kp_pi mq_kp_refl rfl))
-- 42: PlainPacks$Source.reopen
def mw_42 : List (Nat × Option Nat) := [(1, some 3)]
theorem mk_42 {M : mm_M} : mq_K mw_42 M (mf_42 M) := by
  unfold mf_42
  exact mq_K_ret (mq_kp_pi mq_kp_refl rfl)
-- 123: PlainPacks$Pieces.readFrameBlock
def mw_123_j174 : List (Nat × Option Nat) := []
theorem mk_123_j174 {s0 : Int32} {M : mm_M} : mq_K mw_123_j174 M (mf_123_j174 s0 M) := by
  unfold mf_123_j174
  exact mq_K_B (mq_K_call mk_27 mq_kp_refl rfl) (fun _ M1 hM1 => mq_K_ret hM1)
def mw_123_j124 : List (Nat × Option Nat) := [(1, some 2), (1, some 6)]
theorem mk_123_j124 {v6 : Int32} {M : mm_M} : mq_K mw_123_j124 M (mf_123_j124 v6 M) := by
  unfold mf_123_j124
  exact mq_K_ite (fun hc => mq_K_ret mq_kp_refl) (fun _ => mq_K_B (mq_K_call mk_47 mq_kp_refl rfl) (fun _ M2 hM2 => mq_K_B (mq_K_call mk_31 hM2 rfl) (fun _ M4 hM4 => mq_K_ite (fun hc => mq_K_call mk_123_j174 hM4 rfl) (fun _ => mq_K_call mk_123_j174 hM4 rfl))))
def mw_123_j114 : List (Nat × Option Nat) := [(1, some 2), (1, some 3), (1, some 6), (3, some 1), (3, some 2), (3, some 3), (3, some 4), (3, some 5), (4, none)]
theorem mk_123_j114 {v6 : Int32} {s1 : Int32} {M : mm_M} : mq_K mw_123_j114 M (mf_123_j114 v6 s1 M) := by
  unfold mf_123_j114
  exact mq_K_B (mq_K_call mk_118 mq_kp_refl rfl) (fun _ M1 hM1 => mq_K_B (mq_K_call mk_42 hM1 rfl) (fun _ M2 hM2 => mq_K_call mk_123_j124 hM2 rfl))
def mw_123_j44 : List (Nat × Option Nat) := [(1, some 2), (1, some 3), (1, some 6), (3, some 1), (3, some 2), (3, some 3), (3, some 4), (3, some 5), (3, some 6), (4, none)]
theorem mk_123_j44 {v3 : Int32} {v4 : Int64} {s0 : Int32} {M : mm_M} : mq_K mw_123_j44 M (mf_123_j44 v3 v4 s0 M) := by
  unfold mf_123_j44
  exact mq_K_B (mq_K_call mk_27 mq_kp_refl rfl) (fun _ M1 hM1 => mq_K_ite (fun hc => mq_K_B (mq_K_call mk_41 (mq_kp_pi hM1 rfl) rfl) (fun _ M2 hM2 => mq_K_ite (fun hc => mq_K_call mk_123_j114 hM2 rfl) (fun _ => mq_K_call mk_123_j114 hM2 rfl))) (fun _ => mq_K_B (mq_K_call mk_120 (mq_kp_pi hM1 rfl) rfl) (fun _ M3 hM3 => mq_K_call mk_123_j124 hM3 rfl)))
def mw_123_j27 : List (Nat × Option Nat) := [(1, some 2), (1, some 3), (1, some 6), (3, some 1), (3, some 2), (3, some 3), (3, some 4), (3, some 5), (3, some 6), (4, none)]
theorem mk_123_j27 {v3 : Int32} {s0 : Int64} {M : mm_M} : mq_K mw_123_j27 M (mf_123_j27 v3 s0 M) := by
  unfold mf_123_j27
  exact mq_K_ite (fun hc => mq_K_call mk_123_j44 mq_kp_refl rfl) (fun _ => mq_K_call mk_123_j44 mq_kp_refl rfl)
def mw_123_j13 : List (Nat × Option Nat) := [(1, some 2), (1, some 3), (1, some 6), (3, some 1), (3, some 2), (3, some 3), (3, some 4), (3, some 5), (3, some 6), (4, none)]
theorem mk_123_j13 {v1 : Int64} {s0 : Int32} {M : mm_M} : mq_K mw_123_j13 M (mf_123_j13 v1 s0 M) := by
  unfold mf_123_j13
  exact mq_K_ite (fun hc => mq_K_call mk_123_j27 mq_kp_refl rfl) (fun _ => mq_K_call mk_123_j27 mq_kp_refl rfl)
def mw_123 : List (Nat × Option Nat) := [(1, some 2), (1, some 3), (1, some 6), (3, some 1), (3, some 2), (3, some 3), (3, some 4), (3, some 5), (3, some 6), (4, none)]
theorem mk_123 {v1 : Int64} {M : mm_M} : mq_K mw_123 M (mf_123 v1 M) := by
  unfold mf_123
  exact mq_K_ite (fun hc => mq_K_call mk_123_j13 mq_kp_refl rfl) (fun _ => mq_K_call mk_123_j13 mq_kp_refl rfl)
-- 121: PlainPacks$Pieces.readFrame
def mw_121_j122 : List (Nat × Option Nat) := [(1, some 2), (1, some 3), (1, some 6), (3, some 1), (3, some 2), (3, some 3), (3, some 4), (3, some 5), (3, some 6), (4, none)]
theorem mk_121_j122 {v1 : Int64} {v4 : Int32} {v5 : Int64} {s0 : Int32} {M : mm_M} : mq_K mw_121_j122 M (mf_121_j122 v1 v4 v5 s0 M) := by
  unfold mf_121_j122
  exact mq_K_ite (fun hc => mq_K_ret mq_kp_refl) (fun _ => mq_K_B (mq_K_call mk_123 mq_kp_refl rfl) (fun _ M1 hM1 => mq_K_ret hM1))
def mw_121_b89 : List (Nat × Option Nat) := [(1, some 2), (1, some 3), (1, some 6), (3, some 1), (3, some 2), (3, some 3), (3, some 4), (3, some 5), (3, some 6), (4, none)]
theorem mk_121_b89 {v1 : Int64} {v3 : Int32} {v4 : Int32} {M : mm_M} : mq_K mw_121_b89 M (mf_121_b89 v1 v3 v4 M) := by
  unfold mf_121_b89
  exact mq_K_ite (fun hc => mq_K_ite (fun hc => mq_K_ret mq_kp_refl) (fun _ => mq_K_B (mq_K_call mk_47 mq_kp_refl rfl) (fun _ M2 hM2 => mq_K_ite (fun hc => mq_K_call mk_121_j122 hM2 rfl) (fun _ => mq_K_call mk_121_j122 hM2 rfl)))) (fun _ => mq_K_ret mq_kp_refl)
def mw_121_L89 : List (Nat × Option Nat) := [(1, some 2), (1, some 3), (1, some 6), (3, some 1), (3, some 2), (3, some 3), (3, some 4), (3, some 5), (3, some 6), (4, none)]
theorem mk_121_L89 {v1 : Int64} {s : Int32 × Int32} {M : mm_M} : mq_K mw_121_L89 M (mf_121_L89 v1 s M) := by
  unfold mf_121_L89
  exact mq_K_L (fun s M h => mq_K_call mk_121_b89 h rfl) mq_kp_refl
def mw_121_j214 : List (Nat × Option Nat) := []
theorem mk_121_j214 {s0 : Int32} {M : mm_M} : mq_K mw_121_j214 M (mf_121_j214 s0 M) := by
  unfold mf_121_j214
  exact mq_K_B (mq_K_call mk_27 mq_kp_refl rfl) (fun _ M1 hM1 => mq_K_ret hM1)
def mw_121_j167 : List (Nat × Option Nat) := [(1, some 2), (1, some 6)]
theorem mk_121_j167 {s0 : Int32} {M : mm_M} : mq_K mw_121_j167 M (mf_121_j167 s0 M) := by
  unfold mf_121_j167
  exact mq_K_B (mq_K_call mk_27 mq_kp_refl rfl) (fun _ M1 hM1 => mq_K_ite (fun hc => mq_K_ret hM1) (fun _ => mq_K_B (mq_K_call mk_47 hM1 rfl) (fun _ M3 hM3 => mq_K_B (mq_K_call mk_31 hM3 rfl) (fun _ M5 hM5 => mq_K_ite (fun hc => mq_K_call mk_121_j214 hM5 rfl) (fun _ => mq_K_call mk_121_j214 hM5 rfl)))))
def mw_121_j166 : List (Nat × Option Nat) := [(1, some 2), (1, some 6)]
theorem mk_121_j166 {M : mm_M} : mq_K mw_121_j166 M (mf_121_j166 M) := by
  unfold mf_121_j166
  exact mq_K_call mk_121_j167 mq_kp_refl rfl
def mw_121_j139 : List (Nat × Option Nat) := [(1, some 2), (1, some 6)]
theorem mk_121_j139 {v1 : Int64} {M : mm_M} : mq_K mw_121_j139 M (mf_121_j139 v1 M) := by
  unfold mf_121_j139
  exact mq_K_ite (fun hc => mq_K_call mk_121_j166 mq_kp_refl rfl) (fun _ => mq_K_ite (fun hc => mq_K_call mk_121_j166 mq_kp_refl rfl) (fun _ => mq_K_call mk_121_j167 mq_kp_refl rfl))
def mw_121_j76 : List (Nat × Option Nat) := [(1, some 2), (1, some 3), (1, some 6), (3, some 1), (3, some 2), (3, some 3), (3, some 4), (3, some 5), (3, some 6), (4, none), (41, some 4), (41, some 5)]
theorem mk_121_j76 {s0 : Int32} {M : mm_M} : mq_K mw_121_j76 M (mf_121_j76 s0 M) := by
  unfold mf_121_j76
  exact mq_K_B (mq_K_call mk_27 mq_kp_refl rfl) (fun _ M1 hM1 => mq_K_B (mq_K_call mk_122 hM1 rfl) (fun _ M3 hM3 => mq_K_B (mq_K_call mk_121_L89 hM3 rfl) (fun _ M4 hM4 => mq_K_call mk_121_j139 hM4 rfl)))
def mw_121_j56 : List (Nat × Option Nat) := [(1, some 2), (1, some 3), (1, some 6), (3, some 1), (3, some 2), (3, some 3), (3, some 4), (3, some 5), (3, some 6), (4, none), (41, some 4), (41, some 5)]
theorem mk_121_j56 {s0 : Int32} {M : mm_M} : mq_K mw_121_j56 M (mf_121_j56 s0 M) := by
  unfold mf_121_j56
  exact mq_K_B (mq_K_call mk_27 mq_kp_refl rfl) (fun _ M1 hM1 => mq_K_B (mq_K_call mk_44 hM1 rfl) (fun _ M3 hM3 => mq_K_ite (fun hc => mq_K_call mk_121_j76 hM3 rfl) (fun _ => mq_K_call mk_121_j76 hM3 rfl)))
def mw_121_j36 : List (Nat × Option Nat) := [(1, some 2), (1, some 3), (1, some 6), (3, some 1), (3, some 2), (3, some 3), (3, some 4), (3, some 5), (3, some 6), (4, none), (41, some 4), (41, some 5)]
theorem mk_121_j36 {s0 : Int32} {M : mm_M} : mq_K mw_121_j36 M (mf_121_j36 s0 M) := by
  unfold mf_121_j36
  exact mq_K_B (mq_K_call mk_27 mq_kp_refl rfl) (fun _ M1 hM1 => mq_K_B (mq_K_call mk_44 hM1 rfl) (fun _ M3 hM3 => mq_K_ite (fun hc => mq_K_call mk_121_j56 hM3 rfl) (fun _ => mq_K_call mk_121_j56 hM3 rfl)))
def mw_121_j16 : List (Nat × Option Nat) := [(1, some 2), (1, some 3), (1, some 6), (3, some 1), (3, some 2), (3, some 3), (3, some 4), (3, some 5), (3, some 6), (4, none), (41, some 4), (41, some 5)]
theorem mk_121_j16 {s0 : Int32} {M : mm_M} : mq_K mw_121_j16 M (mf_121_j16 s0 M) := by
  unfold mf_121_j16
  exact mq_K_B (mq_K_call mk_27 mq_kp_refl rfl) (fun _ M1 hM1 => mq_K_B (mq_K_call mk_44 hM1 rfl) (fun _ M3 hM3 => mq_K_ite (fun hc => mq_K_call mk_121_j36 hM3 rfl) (fun _ => mq_K_call mk_121_j36 hM3 rfl)))
def mw_121 : List (Nat × Option Nat) := [(1, some 2), (1, some 3), (1, some 6), (3, some 1), (3, some 2), (3, some 3), (3, some 4), (3, some 5), (3, some 6), (4, none), (41, some 4), (41, some 5)]
theorem mk_121 {M : mm_M} : mq_K mw_121 M (mf_121 M) := by
  unfold mf_121
  exact mq_K_B (mq_K_call mk_44 mq_kp_refl rfl) (fun _ M2 hM2 => mq_K_ite (fun hc => mq_K_call mk_121_j16 hM2 rfl) (fun _ => mq_K_call mk_121_j16 hM2 rfl))
-- 125: PlainPacks$Pieces.readTagCount
def mw_125_b7 : List (Nat × Option Nat) := [(1, some 2), (1, some 6)]
theorem mk_125_b7 {v1 : Int64} {v3 : Int32} {v4 : Int32} {M : mm_M} : mq_K mw_125_b7 M (mf_125_b7 v1 v3 v4 M) := by
  unfold mf_125_b7
  exact mq_K_ite (fun hc => mq_K_ite (fun hc => mq_K_ret mq_kp_refl) (fun _ => mq_K_B (mq_K_call mk_44 mq_kp_refl rfl) (fun _ M2 hM2 => mq_K_ite (fun hc => mq_K_ret hM2) (fun _ => mq_K_ret hM2)))) (fun _ => mq_K_ret mq_kp_refl)
def mw_125_L7 : List (Nat × Option Nat) := [(1, some 2), (1, some 6)]
theorem mk_125_L7 {s : Int64 × Int32 × Int32} {M : mm_M} : mq_K mw_125_L7 M (mf_125_L7 s M) := by
  unfold mf_125_L7
  exact mq_K_L (fun s M h => mq_K_call mk_125_b7 h rfl) mq_kp_refl
def mw_125_j78 : List (Nat × Option Nat) := []
theorem mk_125_j78 {v1 : Int64} {s0 : Int32} {M : mm_M} : mq_K mw_125_j78 M (mf_125_j78 v1 s0 M) := by
  unfold mf_125_j78
  exact mq_K_B (mq_K_call mk_27 mq_kp_refl rfl) (fun _ M1 hM1 => mq_K_ret hM1)
def mw_125_j61 : List (Nat × Option Nat) := []
theorem mk_125_j61 {v1 : Int64} {v3 : Int32} {M : mm_M} : mq_K mw_125_j61 M (mf_125_j61 v1 v3 M) := by
  unfold mf_125_j61
  exact mq_K_ite (fun hc => mq_K_ite (fun hc => mq_K_call mk_125_j78 mq_kp_refl rfl) (fun _ => mq_K_call mk_125_j78 mq_kp_refl rfl)) (fun _ => mq_K_call mk_125_j78 mq_kp_refl rfl)
def mw_125 : List (Nat × Option Nat) := [(1, some 2), (1, some 6)]
theorem mk_125 {M : mm_M} : mq_K mw_125 M (mf_125 M) := by
  unfold mf_125
  exact mq_K_B (mq_K_call mk_125_L7 mq_kp_refl rfl) (fun _ M1 hM1 => mq_K_call mk_125_j61 hM1 rfl)
-- 126: PlainPacks$Pieces.readTagDistance
def mw_126_j41 : List (Nat × Option Nat) := [(1, some 2), (1, some 6)]
theorem mk_126_j41 {s1 : Int32} {M : mm_M} : mq_K mw_126_j41 M (mf_126_j41 s1 M) := by
  unfold mf_126_j41
  exact mq_K_B (mq_K_call mk_47 mq_kp_refl rfl) (fun _ M2 hM2 => mq_K_ret hM2)
def mw_126 : List (Nat × Option Nat) := [(1, some 2), (1, some 6)]
theorem mk_126 {v1 : Int32} {M : mm_M} : mq_K mw_126 M (mf_126 v1 M) := by
  unfold mf_126
  exact mq_K_ite (fun hc => mq_K_B (mq_K_call mk_44 mq_kp_refl rfl) (fun _ M2 hM2 => mq_K_ret hM2)) (fun _ => mq_K_ite (fun hc => mq_K_call mk_126_j41 mq_kp_refl rfl) (fun _ => mq_K_call mk_126_j41 mq_kp_refl rfl))
-- 124: PlainPacks$Pieces.readTags
def mw_124_j114 : List (Nat × Option Nat) := [(1, some 2), (1, some 6), (3, some 1), (3, some 2), (4, none)]
theorem mk_124_j114 {v1 : Int64} {v3 : Int32} {v6 : Int64} {s0 : Int32} {M : mm_M} : mq_K mw_124_j114 M (mf_124_j114 v1 v3 v6 s0 M) := by
  unfold mf_124_j114
  exact mq_K_B (mq_K_call mk_27 mq_kp_refl rfl) (fun _ M1 hM1 => mq_K_B (mq_K_call mk_120 hM1 rfl) (fun _ M2 hM2 => mq_K_ret hM2))
def mw_124_j90 : List (Nat × Option Nat) := [(1, some 2), (1, some 6), (3, some 1), (3, some 2), (4, none)]
theorem mk_124_j90 {v1 : Int64} {v3 : Int32} {s0 : Int64} {s1 : Int64} {M : mm_M} : mq_K mw_124_j90 M (mf_124_j90 v1 v3 s0 s1 M) := by
  unfold mf_124_j90
  exact mq_K_ite (fun hc => mq_K_call mk_124_j114 mq_kp_refl rfl) (fun _ => mq_K_call mk_124_j114 mq_kp_refl rfl)
def mw_124_j171 : List (Nat × Option Nat) := [(1, some 2), (1, some 6), (3, some 1), (3, some 3), (3, some 4), (3, some 5), (4, none)]
theorem mk_124_j171 {v1 : Int64} {v3 : Int32} {v4 : Int32} {v6 : Int32} {s0 : Int32} {M : mm_M} : mq_K mw_124_j171 M (mf_124_j171 v1 v3 v4 v6 s0 M) := by
  unfold mf_124_j171
  exact mq_K_B (mq_K_call mk_27 mq_kp_refl rfl) (fun _ M1 hM1 => mq_K_B (mq_K_call mk_126 hM1 rfl) (fun _ M3 hM3 => mq_K_B (mq_K_call mk_53 hM3 rfl) (fun _ M4 hM4 => mq_K_ret hM4)))
def mw_124_j148 : List (Nat × Option Nat) := [(1, some 2), (1, some 6), (3, some 1), (3, some 3), (3, some 4), (3, some 5), (4, none)]
theorem mk_124_j148 {v1 : Int64} {v3 : Int32} {v4 : Int32} {s0 : Int32} {M : mm_M} : mq_K mw_124_j148 M (mf_124_j148 v1 v3 v4 s0 M) := by
  unfold mf_124_j148
  exact mq_K_ite (fun hc => mq_K_call mk_124_j171 mq_kp_refl rfl) (fun _ => mq_K_call mk_124_j171 mq_kp_refl rfl)
def mw_124_b23 : List (Nat × Option Nat) := [(1, some 2), (1, some 6), (3, some 1), (3, some 2), (3, some 3), (3, some 4), (3, some 5), (4, none)]
theorem mk_124_b23 {v1 : Int64} {v3 : Int32} {M : mm_M} : mq_K mw_124_b23 M (mf_124_b23 v1 v3 M) := by
  unfold mf_124_b23
  exact mq_K_ite (fun hc => mq_K_ite (fun hc => mq_K_B (mq_K_call mk_44 mq_kp_refl rfl) (fun _ M2 hM2 => mq_K_ite (fun hc => mq_K_ite (fun hc => mq_K_call mk_124_j90 hM2 rfl) (fun _ => mq_K_B (mq_K_call mk_47 hM2 rfl) (fun _ M4 hM4 => mq_K_call mk_124_j90 hM4 rfl))) (fun _ => mq_K_ite (fun hc => mq_K_call mk_124_j148 hM2 rfl) (fun _ => mq_K_call mk_124_j148 hM2 rfl)))) (fun _ => mq_K_ret mq_kp_refl)) (fun _ => mq_K_ret mq_kp_refl)
def mw_124_L23 : List (Nat × Option Nat) := [(1, some 2), (1, some 6), (3, some 1), (3, some 2), (3, some 3), (3, some 4), (3, some 5), (4, none)]
theorem mk_124_L23 {v1 : Int64} {s : Int32} {M : mm_M} : mq_K mw_124_L23 M (mf_124_L23 v1 s M) := by
  unfold mf_124_L23
  exact mq_K_L (fun s M h => mq_K_call mk_124_b23 h rfl) mq_kp_refl
def mw_124_j18 : List (Nat × Option Nat) := [(1, some 2), (1, some 6), (3, some 1), (3, some 2), (3, some 3), (3, some 4), (3, some 5), (4, none)]
theorem mk_124_j18 {v1 : Int64} {s0 : Int32} {M : mm_M} : mq_K mw_124_j18 M (mf_124_j18 v1 s0 M) := by
  unfold mf_124_j18
  exact mq_K_B (mq_K_call mk_27 mq_kp_refl rfl) (fun _ M1 hM1 => mq_K_B (mq_K_call mk_124_L23 hM1 rfl) (fun _ M2 hM2 => mq_K_ret hM2))
def mw_124 : List (Nat × Option Nat) := [(1, some 2), (1, some 6), (3, some 1), (3, some 2), (3, some 3), (3, some 4), (3, some 5), (4, none)]
theorem mk_124 {M : mm_M} : mq_K mw_124 M (mf_124 M) := by
  unfold mf_124
  exact mq_K_B (mq_K_call mk_125 mq_kp_refl rfl) (fun _ M2 hM2 => mq_K_ite (fun hc => mq_K_call mk_124_j18 hM2 rfl) (fun _ => mq_K_call mk_124_j18 hM2 rfl))
-- 139: PlainPacks$Sorted.readOccurring
def mw_139_b53 : List (Nat × Option Nat) := [(42, some 9), (46, none)]
theorem mk_139_b53 {v1 : Int32} {v2 : Int32} {v3 : Int32} {v4 : Int32} {M : mm_M} : mq_K mw_139_b53 M (mf_139_b53 v1 v2 v3 v4 M) := by
  unfold mf_139_b53
  exact mq_K_ite (fun hc => mq_K_ite (fun hc => mq_K_ret mq_kp_refl) (fun _ => mq_K_ite (fun hc => mq_K_ret (mq_kp_pi (mq_kp_pi mq_kp_refl rfl) rfl)) (fun _ => mq_K_none))) (fun _ => mq_K_ret mq_kp_refl)
def mw_139_L53 : List (Nat × Option Nat) := [(42, some 9), (46, none)]
theorem mk_139_L53 {v1 : Int32} {v2 : Int32} {v3 : Int32} {s : Int32} {M : mm_M} : mq_K mw_139_L53 M (mf_139_L53 v1 v2 v3 s M) := by
  unfold mf_139_L53
  exact mq_K_L (fun s M h => mq_K_call mk_139_b53 h rfl) mq_kp_refl
def mw_139_b18 : List (Nat × Option Nat) := [(1, some 2), (1, some 5), (1, some 6), (42, some 9), (46, none)]
theorem mk_139_b18 {v1 : Int32} {v2 : Int32} {M : mm_M} : mq_K mw_139_b18 M (mf_139_b18 v1 v2 M) := by
  unfold mf_139_b18
  exact mq_K_ite (fun hc => mq_K_ite (fun hc => mq_K_B (mq_K_call mk_139_L53 mq_kp_refl rfl) (fun _ M1 hM1 => mq_K_ret hM1)) (fun _ => mq_K_B (mq_K_call mk_46 mq_kp_refl rfl) (fun _ M6 hM6 => mq_K_B (mq_K_call mk_139_L53 hM6 rfl) (fun _ M7 hM7 => mq_K_ret hM7)))) (fun _ => mq_K_ret mq_kp_refl)
def mw_139_L18 : List (Nat × Option Nat) := [(1, some 2), (1, some 5), (1, some 6), (42, some 9), (46, none)]
theorem mk_139_L18 {v1 : Int32} {s : Int32} {M : mm_M} : mq_K mw_139_L18 M (mf_139_L18 v1 s M) := by
  unfold mf_139_L18
  exact mq_K_L (fun s M h => mq_K_call mk_139_b18 h rfl) mq_kp_refl
def mw_139_j122 : List (Nat × Option Nat) := []
theorem mk_139_j122 {s0 : Int32} {M : mm_M} : mq_K mw_139_j122 M (mf_139_j122 s0 M) := by
  unfold mf_139_j122
  exact mq_K_B (mq_K_call mk_27 mq_kp_refl rfl) (fun _ M1 hM1 => mq_K_ret hM1)
def mw_139_j110 : List (Nat × Option Nat) := []
theorem mk_139_j110 {M : mm_M} : mq_K mw_139_j110 M (mf_139_j110 M) := by
  unfold mf_139_j110
  exact mq_K_ite (fun hc => mq_K_call mk_139_j122 mq_kp_refl rfl) (fun _ => mq_K_call mk_139_j122 mq_kp_refl rfl)
def mw_139 : List (Nat × Option Nat) := [(1, some 2), (1, some 5), (1, some 6), (42, some 9), (46, none)]
theorem mk_139 {M : mm_M} : mq_K mw_139 M (mf_139 M) := by
  unfold mf_139
  exact mq_K_B (mq_K_call mk_46 mq_kp_refl rfl) (fun _ M2 hM2 => mq_K_B (mq_K_call mk_139_L18 (mq_kp_pi hM2 rfl) rfl) (fun _ M3 hM3 => mq_K_call mk_139_j110 hM3 rfl))
-- 141: PlainPacks$Sorted.moveToFront
def mw_141_b17 (p : Nat) : List (Nat × Option Nat) := [(p, none)]
theorem mk_141_b17 {p : Nat} {n : Nat} {v2 : Int32} {v3 : Int32} {M : mm_M} : mq_K (mw_141_b17 p) M (mf_141_b17 p n v2 v3 M) := by
  unfold mf_141_b17
  exact mq_K_ite (fun hc => mq_K_ite (fun hc => mq_K_ite (fun hc => mq_K_ret (mq_kp_pi mq_kp_refl (by simp [mq_ws, mw_141_b17]))) (fun _ => mq_K_none)) (fun _ => mq_K_none)) (fun _ => mq_K_ret mq_kp_refl)
def mw_141_L17 (p : Nat) : List (Nat × Option Nat) := [(p, none)]
theorem mk_141_L17 {p : Nat} {n : Nat} {v2 : Int32} {s : Int32} {M : mm_M} : mq_K (mw_141_L17 p) M (mf_141_L17 p n v2 s M) := by
  unfold mf_141_L17
  exact mq_K_L (fun s M h => mq_K_call mk_141_b17 h (by simp [mq_sub, mw_141_b17, mw_141_L17])) mq_kp_refl
def mw_141_j35 (p : Nat) : List (Nat × Option Nat) := [(p, none)]
theorem mk_141_j35 {p : Nat} {n : Nat} {v2 : Int32} {M : mm_M} : mq_K (mw_141_j35 p) M (mf_141_j35 p n v2 M) := by
  unfold mf_141_j35
  exact mq_K_ite (fun hc => mq_K_ret (mq_kp_pi mq_kp_refl (by simp [mq_ws, mw_141_j35]))) (fun _ => mq_K_none)
def mw_141 (p : Nat) : List (Nat × Option Nat) := [(p, none)]
theorem mk_141 {p : Nat} {n : Nat} {v1 : Int32} {M : mm_M} : mq_K (mw_141 p) M (mf_141 p n v1 M) := by
  unfold mf_141
  exact mq_K_ite (fun hc => mq_K_ret mq_kp_refl) (fun _ => mq_K_ite (fun hc => mq_K_ite (fun hc => mq_K_B (mq_K_call mk_141_L17 mq_kp_refl (by simp [mq_sub, mw_141_L17, mw_141])) (fun _ M1 hM1 => mq_K_call mk_141_j35 hM1 (by simp [mq_sub, mw_141_j35, mw_141]))) (fun _ => mq_K_none)) (fun _ => mq_K_ret mq_kp_refl))
-- 140: PlainPacks$Sorted.readSelectors
def mw_140_b32 : List (Nat × Option Nat) := [(44, none)]
theorem mk_140_b32 {v1 : Int32} {v2 : Int32} {M : mm_M} : mq_K mw_140_b32 M (mf_140_b32 v1 v2 M) := by
  unfold mf_140_b32
  exact mq_K_ite (fun hc => mq_K_ite (fun hc => mq_K_ret (mq_kp_pi mq_kp_refl rfl)) (fun _ => mq_K_none)) (fun _ => mq_K_ret mq_kp_refl)
def mw_140_L32 : List (Nat × Option Nat) := [(44, none)]
theorem mk_140_L32 {v1 : Int32} {s : Int32} {M : mm_M} : mq_K mw_140_L32 M (mf_140_L32 v1 s M) := by
  unfold mf_140_L32
  exact mq_K_L (fun s M h => mq_K_call mk_140_b32 h rfl) mq_kp_refl
def mw_140_b63 : List (Nat × Option Nat) := [(1, some 2), (1, some 5), (1, some 6)]
theorem mk_140_b63 {v1 : Int32} {v2 : Int32} {v3 : Int32} {M : mm_M} : mq_K mw_140_b63 M (mf_140_b63 v1 v2 v3 M) := by
  unfold mf_140_b63
  exact mq_K_ite (fun hc => mq_K_B (mq_K_call mk_45 mq_kp_refl rfl) (fun _ M2 hM2 => mq_K_ite (fun hc => mq_K_ret hM2) (fun _ => mq_K_ret hM2))) (fun _ => mq_K_ret mq_kp_refl)
def mw_140_L63 : List (Nat × Option Nat) := [(1, some 2), (1, some 5), (1, some 6)]
theorem mk_140_L63 {v1 : Int32} {v2 : Int32} {s : Int32} {M : mm_M} : mq_K mw_140_L63 M (mf_140_L63 v1 v2 s M) := by
  unfold mf_140_L63
  exact mq_K_L (fun s M h => mq_K_call mk_140_b63 h rfl) mq_kp_refl
def mw_140_j95 : List (Nat × Option Nat) := [(44, none), (45, none)]
theorem mk_140_j95 {v1 : Int32} {v2 : Int32} {v3 : Int32} {s0 : Int32} {M : mm_M} : mq_K mw_140_j95 M (mf_140_j95 v1 v2 v3 s0 M) := by
  unfold mf_140_j95
  exact mq_K_B (mq_K_call mk_27 mq_kp_refl rfl) (fun _ M1 hM1 => mq_K_B (mq_K_call mk_141 hM1 rfl) (fun _ M2 hM2 => mq_K_ite (fun hc => mq_K_ite (fun hc => mq_K_ite (fun hc => mq_K_ret (mq_kp_pi hM2 rfl)) (fun _ => mq_K_none)) (fun _ => mq_K_none)) (fun _ => mq_K_ret hM2)))
def mw_140_j85 : List (Nat × Option Nat) := [(44, none), (45, none)]
theorem mk_140_j85 {v1 : Int32} {v2 : Int32} {v3 : Int32} {M : mm_M} : mq_K mw_140_j85 M (mf_140_j85 v1 v2 v3 M) := by
  unfold mf_140_j85
  exact mq_K_ite (fun hc => mq_K_call mk_140_j95 mq_kp_refl rfl) (fun _ => mq_K_call mk_140_j95 mq_kp_refl rfl)
def mw_140_b53 : List (Nat × Option Nat) := [(1, some 2), (1, some 5), (1, some 6), (44, none), (45, none)]
theorem mk_140_b53 {v1 : Int32} {v2 : Int32} {M : mm_M} : mq_K mw_140_b53 M (mf_140_b53 v1 v2 M) := by
  unfold mf_140_b53
  exact mq_K_ite (fun hc => mq_K_B (mq_K_call mk_140_L63 mq_kp_refl rfl) (fun _ M1 hM1 => mq_K_call mk_140_j85 hM1 rfl)) (fun _ => mq_K_ret mq_kp_refl)
def mw_140_L53 : List (Nat × Option Nat) := [(1, some 2), (1, some 5), (1, some 6), (44, none), (45, none)]
theorem mk_140_L53 {v1 : Int32} {s : Int32} {M : mm_M} : mq_K mw_140_L53 M (mf_140_L53 v1 s M) := by
  unfold mf_140_L53
  exact mq_K_L (fun s M h => mq_K_call mk_140_b53 h rfl) mq_kp_refl
def mw_140_j27 : List (Nat × Option Nat) := [(1, some 2), (1, some 5), (1, some 6), (44, none), (45, none)]
theorem mk_140_j27 {v1 : Int32} {s0 : Int32} {M : mm_M} : mq_K mw_140_j27 M (mf_140_j27 v1 s0 M) := by
  unfold mf_140_j27
  exact mq_K_B (mq_K_call mk_27 mq_kp_refl rfl) (fun _ M1 hM1 => mq_K_B (mq_K_call mk_140_L32 hM1 rfl) (fun _ M2 hM2 => mq_K_B (mq_K_call mk_140_L53 hM2 rfl) (fun _ M6 hM6 => mq_K_ret hM6)))
def mw_140 : List (Nat × Option Nat) := [(1, some 2), (1, some 5), (1, some 6), (42, some 7), (44, none), (45, none)]
theorem mk_140 {v1 : Int32} {M : mm_M} : mq_K mw_140 M (mf_140 v1 M) := by
  unfold mf_140
  exact mq_K_B (mq_K_call mk_46 mq_kp_refl rfl) (fun _ M2 hM2 => mq_K_ite (fun hc => mq_K_call mk_140_j27 (mq_kp_pi hM2 rfl) rfl) (fun _ => mq_K_call mk_140_j27 (mq_kp_pi hM2 rfl) rfl))
-- 100: PlainPacks$Codes.isOver
def mw_100 (p : Nat) : List (Nat × Option Nat) := []
theorem mk_100 {p : Nat} {n : Nat} {M : mm_M} : mq_K (mw_100 p) M (mf_100 p n M) := by
  unfold mf_100
  exact mq_K_ite (fun hc => mq_K_ret mq_kp_refl) (fun _ => mq_K_ret mq_kp_refl)
-- 142: PlainPacks$Sorted.readTable
def mw_142_j96 (p : Nat) : List (Nat × Option Nat) := []
theorem mk_142_j96 {p : Nat} {n : Nat} {v2 : Int32} {v3 : Int32} {v4 : Int32} {s0 : Int32} {M : mm_M} : mq_K (mw_142_j96 p) M (mf_142_j96 p n v2 v3 v4 s0 M) := by
  unfold mf_142_j96
  exact mq_K_B (mq_K_call mk_27 mq_kp_refl (by simp [mq_sub, mw_27, mw_142_j96])) (fun _ M1 hM1 => mq_K_ret hM1)
def mw_142_j78 (p : Nat) : List (Nat × Option Nat) := []
theorem mk_142_j78 {p : Nat} {n : Nat} {v3 : Int32} {v4 : Int32} {s0 : Int32} {s1 : Int32} {M : mm_M} : mq_K (mw_142_j78 p) M (mf_142_j78 p n v3 v4 s0 s1 M) := by
  unfold mf_142_j78
  exact mq_K_ite (fun hc => mq_K_call mk_142_j96 mq_kp_refl (by simp [mq_sub, mw_142_j96, mw_142_j78])) (fun _ => mq_K_ite (fun hc => mq_K_call mk_142_j96 mq_kp_refl (by simp [mq_sub, mw_142_j96, mw_142_j78])) (fun _ => mq_K_call mk_142_j96 mq_kp_refl (by simp [mq_sub, mw_142_j96, mw_142_j78])))
def mw_142_b44 (p : Nat) : List (Nat × Option Nat) := [(1, some 2), (1, some 5), (1, some 6)]
theorem mk_142_b44 {p : Nat} {n : Nat} {v2 : Int32} {v3 : Int32} {v4 : Int32} {M : mm_M} : mq_K (mw_142_b44 p) M (mf_142_b44 p n v2 v3 v4 M) := by
  unfold mf_142_b44
  exact mq_K_ite (fun hc => mq_K_B (mq_K_call mk_45 mq_kp_refl (by simp [mq_sub, mw_45, mw_142_b44])) (fun _ M2 hM2 => mq_K_ite (fun hc => mq_K_B (mq_K_call mk_45 hM2 (by simp [mq_sub, mw_45, mw_142_b44])) (fun _ M4 hM4 => mq_K_ite (fun hc => mq_K_call mk_142_j78 hM4 (by simp [mq_sub, mw_142_j78, mw_142_b44])) (fun _ => mq_K_call mk_142_j78 hM4 (by simp [mq_sub, mw_142_j78, mw_142_b44])))) (fun _ => mq_K_ret hM2))) (fun _ => mq_K_ret mq_kp_refl)
def mw_142_L44 (p : Nat) : List (Nat × Option Nat) := [(1, some 2), (1, some 5), (1, some 6)]
theorem mk_142_L44 {p : Nat} {n : Nat} {v3 : Int32} {s : Int32 × Int32} {M : mm_M} : mq_K (mw_142_L44 p) M (mf_142_L44 p n v3 s M) := by
  unfold mf_142_L44
  exact mq_K_L (fun s M h => mq_K_call mk_142_b44 h (by simp [mq_sub, mw_142_b44, mw_142_L44])) mq_kp_refl
def mw_142_j105 (p : Nat) : List (Nat × Option Nat) := [((p + 1), none)]
theorem mk_142_j105 {p : Nat} {n : Nat} {v2 : Int32} {v3 : Int32} {M : mm_M} : mq_K (mw_142_j105 p) M (mf_142_j105 p n v2 v3 M) := by
  unfold mf_142_j105
  exact mq_K_ite (fun hc => mq_K_ret (mq_kp_pi mq_kp_refl (by simp [mq_ws, mw_142_j105]))) (fun _ => mq_K_none)
def mw_142_b31 (p : Nat) : List (Nat × Option Nat) := [(1, some 2), (1, some 5), (1, some 6), ((p + 1), none)]
theorem mk_142_b31 {p : Nat} {n : Nat} {v2 : Int32} {v3 : Int32} {M : mm_M} : mq_K (mw_142_b31 p) M (mf_142_b31 p n v2 v3 M) := by
  unfold mf_142_b31
  exact mq_K_ite (fun hc => mq_K_B (mq_K_call mk_142_L44 mq_kp_refl (by simp [mq_sub, mw_142_L44, mw_142_b31])) (fun _ M1 hM1 => mq_K_call mk_142_j105 hM1 (by simp [mq_sub, mw_142_j105, mw_142_b31]))) (fun _ => mq_K_ret mq_kp_refl)
def mw_142_L31 (p : Nat) : List (Nat × Option Nat) := [(1, some 2), (1, some 5), (1, some 6), ((p + 1), none)]
theorem mk_142_L31 {p : Nat} {n : Nat} {s : Int32 × Int32} {M : mm_M} : mq_K (mw_142_L31 p) M (mf_142_L31 p n s M) := by
  unfold mf_142_L31
  exact mq_K_L (fun s M h => mq_K_call mk_142_b31 h (by simp [mq_sub, mw_142_b31, mw_142_L31])) mq_kp_refl
def mw_142_j118 (p : Nat) : List (Nat × Option Nat) := [((p + 2), none), ((p + 3), none), ((p + 4), none), (p, some 4), (p, some 5)]
theorem mk_142_j118 {p : Nat} {n : Nat} {M : mm_M} : mq_K (mw_142_j118 p) M (mf_142_j118 p n M) := by
  unfold mf_142_j118
  exact mq_K_B (mq_K_call mk_99 mq_kp_refl (by simp [mq_sub, mw_99, mw_142_j118])) (fun _ M1 hM1 => mq_K_B (mq_K_call mk_100 hM1 (by simp [mq_sub, mw_100, mw_142_j118])) (fun _ M3 hM3 => mq_K_B (mq_K_call mk_27 hM3 (by simp [mq_sub, mw_27, mw_142_j118])) (fun _ M4 hM4 => mq_K_ret hM4)))
def mw_142_j26 (p : Nat) : List (Nat × Option Nat) := [(1, some 2), (1, some 5), (1, some 6), ((p + 1), none), ((p + 2), none), ((p + 3), none), ((p + 4), none), (p, some 4), (p, some 5)]
theorem mk_142_j26 {p : Nat} {n : Nat} {v2 : Int32} {s0 : Int32} {M : mm_M} : mq_K (mw_142_j26 p) M (mf_142_j26 p n v2 s0 M) := by
  unfold mf_142_j26
  exact mq_K_B (mq_K_call mk_27 mq_kp_refl (by simp [mq_sub, mw_27, mw_142_j26])) (fun _ M1 hM1 => mq_K_B (mq_K_call mk_142_L31 hM1 (by simp [mq_sub, mw_142_L31, mw_142_j26])) (fun _ M2 hM2 => mq_K_call mk_142_j118 hM2 (by simp [mq_sub, mw_142_j118, mw_142_j26])))
def mw_142 (p : Nat) : List (Nat × Option Nat) := [(1, some 2), (1, some 5), (1, some 6), ((p + 1), none), ((p + 2), none), ((p + 3), none), ((p + 4), none), (p, some 4), (p, some 5)]
theorem mk_142 {p : Nat} {n : Nat} {M : mm_M} : mq_K (mw_142 p) M (mf_142 p n M) := by
  unfold mf_142
  exact mq_K_B (mq_K_call mk_46 mq_kp_refl (by simp [mq_sub, mw_46, mw_142])) (fun _ M2 hM2 => mq_K_ite (fun hc => mq_K_call mk_142_j26 hM2 (by simp [mq_sub, mw_142_j26, mw_142])) (fun _ => mq_K_ite (fun hc => mq_K_call mk_142_j26 hM2 (by simp [mq_sub, mw_142_j26, mw_142])) (fun _ => mq_K_call mk_142_j26 hM2 (by simp [mq_sub, mw_142_j26, mw_142]))))
-- 144: PlainPacks$Sorted.addBytes
def mw_144_b25 : List (Nat × Option Nat) := [(42, some 12), (47, none)]
theorem mk_144_b25 {v1 : Int32} {v2 : Int64} {v4 : Int32} {M : mm_M} : mq_K mw_144_b25 M (mf_144_b25 v1 v2 v4 M) := by
  unfold mf_144_b25
  exact mq_K_ite (fun hc => mq_K_ite (fun hc => mq_K_ret (mq_kp_pi (mq_kp_pi mq_kp_refl rfl) rfl)) (fun _ => mq_K_none)) (fun _ => mq_K_ret mq_kp_refl)
def mw_144_L25 : List (Nat × Option Nat) := [(42, some 12), (47, none)]
theorem mk_144_L25 {v1 : Int32} {v2 : Int64} {s : Int32} {M : mm_M} : mq_K mw_144_L25 M (mf_144_L25 v1 v2 s M) := by
  unfold mf_144_L25
  exact mq_K_L (fun s M h => mq_K_call mk_144_b25 h rfl) mq_kp_refl
def mw_144_j19 : List (Nat × Option Nat) := [(42, some 12), (47, none)]
theorem mk_144_j19 {v1 : Int32} {v2 : Int64} {s0 : Int32} {M : mm_M} : mq_K mw_144_j19 M (mf_144_j19 v1 v2 s0 M) := by
  unfold mf_144_j19
  exact mq_K_B (mq_K_call mk_27 mq_kp_refl rfl) (fun _ M1 hM1 => mq_K_B (mq_K_call mk_144_L25 hM1 rfl) (fun _ M2 hM2 => mq_K_ret hM2))
def mw_144 : List (Nat × Option Nat) := [(42, some 12), (47, none)]
theorem mk_144 {v1 : Int32} {v2 : Int64} {M : mm_M} : mq_K mw_144 M (mf_144 v1 v2 M) := by
  unfold mf_144
  exact mq_K_ite (fun hc => mq_K_call mk_144_j19 mq_kp_refl rfl) (fun _ => mq_K_call mk_144_j19 mq_kp_refl rfl)
-- 143: PlainPacks$Sorted.readLetters
def mw_143_j81 : List (Nat × Option Nat) := [(1, some 2), (1, some 5), (1, some 6), (42, some 12), (46, none), (47, none)]
theorem mk_143_j81 {v1 : Int64} {v3 : Int32} {t4 : Nat} {v5 : Int32} {M : mm_M} : mq_K mw_143_j81 M (mf_143_j81 v1 v3 t4 v5 M) := by
  unfold mf_143_j81
  exact mq_K_ite (fun hc => mq_K_B (mq_K_call mk_103 mq_kp_refl (mq_tab6 (P := fun q => mq_sub (mw_103 q) mw_143_j81 = true) hc rfl rfl rfl rfl rfl rfl)) (fun _ M2 hM2 => mq_K_ite (fun hc => mq_K_ite (fun hc => mq_K_ret hM2) (fun _ => mq_K_ret hM2)) (fun _ => mq_K_ite (fun hc => mq_K_B (mq_K_call mk_144 hM2 rfl) (fun _ M3 hM3 => mq_K_ite (fun hc => mq_K_ret hM3) (fun _ => mq_K_B (mq_K_call mk_141 hM3 rfl) (fun _ M4 hM4 => mq_K_ite (fun hc => mq_K_B (mq_K_call mk_144 hM4 rfl) (fun _ M5 hM5 => mq_K_ret hM5)) (fun _ => mq_K_none))))) (fun _ => mq_K_none)))) (fun _ => mq_K_none)
def mw_143_j64 : List (Nat × Option Nat) := [(1, some 2), (1, some 5), (1, some 6), (42, some 12), (46, none), (47, none)]
theorem mk_143_j64 {v1 : Int64} {v3 : Int32} {v5 : Int32} {v6 : Int32} {s0 : Int32} {M : mm_M} : mq_K mw_143_j64 M (mf_143_j64 v1 v3 v5 v6 s0 M) := by
  unfold mf_143_j64
  exact mq_K_B (mq_K_call mk_27 mq_kp_refl rfl) (fun _ M1 hM1 => mq_K_ite (fun hc => mq_K_ite (fun hc => mq_K_call mk_143_j81 hM1 rfl) (fun _ => mq_K_none)) (fun _ => mq_K_none))
def mw_143_b20 : List (Nat × Option Nat) := [(1, some 2), (1, some 5), (1, some 6), (42, some 12), (46, none), (47, none)]
theorem mk_143_b20 {v1 : Int64} {v3 : Int32} {t4 : Nat} {v5 : Int32} {M : mm_M} : mq_K mw_143_b20 M (mf_143_b20 v1 v3 t4 v5 M) := by
  unfold mf_143_b20
  exact mq_K_ite (fun hc => mq_K_ite (fun hc => mq_K_ite (fun hc => mq_K_ite (fun hc => mq_K_call mk_143_j64 mq_kp_refl rfl) (fun _ => mq_K_call mk_143_j64 mq_kp_refl rfl)) (fun _ => mq_K_call mk_143_j64 mq_kp_refl rfl)) (fun _ => mq_K_call mk_143_j81 mq_kp_refl rfl)) (fun _ => mq_K_ret mq_kp_refl)
def mw_143_L20 : List (Nat × Option Nat) := [(1, some 2), (1, some 5), (1, some 6), (42, some 12), (46, none), (47, none)]
theorem mk_143_L20 {s : Int64 × Int32 × Nat × Int32} {M : mm_M} : mq_K mw_143_L20 M (mf_143_L20 s M) := by
  unfold mf_143_L20
  exact mq_K_L (fun s M h => mq_K_call mk_143_b20 h rfl) mq_kp_refl
def mw_143 : List (Nat × Option Nat) := [(1, some 2), (1, some 5), (1, some 6), (42, some 12), (46, none), (47, none)]
theorem mk_143 {M : mm_M} : mq_K mw_143 M (mf_143 M) := by
  unfold mf_143
  exact mq_K_ite (fun hc => mq_K_B (mq_K_call mk_143_L20 (mq_kp_pi mq_kp_refl rfl) rfl) (fun _ M1 hM1 => mq_K_sm (fun _ => mq_K_ret hM1) (fun _ => mq_K_ret hM1))) (fun _ => mq_K_none)
-- 138: PlainPacks$Sorted.readBlock
def mw_138_b72 : List (Nat × Option Nat) := [(1, some 2), (1, some 5), (1, some 6), (50, some 4), (50, some 5), (51, none), (52, none), (53, none), (54, none), (55, some 4), (55, some 5), (56, none), (57, none), (58, none), (59, none), (60, some 4), (60, some 5), (61, none), (62, none), (63, none), (64, none), (65, some 4), (65, some 5), (66, none), (67, none), (68, none), (69, none), (70, some 4), (70, some 5), (71, none), (72, none), (73, none), (74, none), (75, some 4), (75, some 5), (76, none), (77, none), (78, none), (79, none)]
theorem mk_138_b72 {v1 : Int32} {v2 : Int32} {M : mm_M} : mq_K mw_138_b72 M (mf_138_b72 v1 v2 M) := by
  unfold mf_138_b72
  exact mq_K_ite (fun hc => mq_K_ite (fun hc => mq_K_ite (fun hc => mq_K_B (mq_K_call mk_142 mq_kp_refl (mq_tab6 (P := fun q => mq_sub (mw_142 q) mw_138_b72 = true) hc rfl rfl rfl rfl rfl rfl)) (fun _ M1 hM1 => mq_K_ret hM1)) (fun _ => mq_K_none)) (fun _ => mq_K_none)) (fun _ => mq_K_ret mq_kp_refl)
def mw_138_L72 : List (Nat × Option Nat) := [(1, some 2), (1, some 5), (1, some 6), (50, some 4), (50, some 5), (51, none), (52, none), (53, none), (54, none), (55, some 4), (55, some 5), (56, none), (57, none), (58, none), (59, none), (60, some 4), (60, some 5), (61, none), (62, none), (63, none), (64, none), (65, some 4), (65, some 5), (66, none), (67, none), (68, none), (69, none), (70, some 4), (70, some 5), (71, none), (72, none), (73, none), (74, none), (75, some 4), (75, some 5), (76, none), (77, none), (78, none), (79, none)]
theorem mk_138_L72 {v1 : Int32} {s : Int32} {M : mm_M} : mq_K mw_138_L72 M (mf_138_L72 v1 s M) := by
  unfold mf_138_L72
  exact mq_K_L (fun s M h => mq_K_call mk_138_b72 h rfl) mq_kp_refl
def mw_138_j113 : List (Nat × Option Nat) := []
theorem mk_138_j113 {s0 : Int32} {M : mm_M} : mq_K mw_138_j113 M (mf_138_j113 s0 M) := by
  unfold mf_138_j113
  exact mq_K_B (mq_K_call mk_27 mq_kp_refl rfl) (fun _ M1 hM1 => mq_K_ret hM1)
def mw_138_j93 : List (Nat × Option Nat) := [(1, some 2), (1, some 5), (1, some 6), (42, some 12), (46, none), (47, none)]
theorem mk_138_j93 {M : mm_M} : mq_K mw_138_j93 M (mf_138_j93 M) := by
  unfold mf_138_j93
  exact mq_K_B (mq_K_call mk_143 mq_kp_refl rfl) (fun _ M1 hM1 => mq_K_ite (fun hc => mq_K_call mk_138_j113 hM1 rfl) (fun _ => mq_K_call mk_138_j113 hM1 rfl))
def mw_138_j62 : List (Nat × Option Nat) := [(1, some 2), (1, some 5), (1, some 6), (42, some 7), (42, some 12), (44, none), (45, none), (46, none), (47, none), (50, some 4), (50, some 5), (51, none), (52, none), (53, none), (54, none), (55, some 4), (55, some 5), (56, none), (57, none), (58, none), (59, none), (60, some 4), (60, some 5), (61, none), (62, none), (63, none), (64, none), (65, some 4), (65, some 5), (66, none), (67, none), (68, none), (69, none), (70, some 4), (70, some 5), (71, none), (72, none), (73, none), (74, none), (75, some 4), (75, some 5), (76, none), (77, none), (78, none), (79, none)]
theorem mk_138_j62 {v1 : Int32} {s0 : Int32} {M : mm_M} : mq_K mw_138_j62 M (mf_138_j62 v1 s0 M) := by
  unfold mf_138_j62
  exact mq_K_B (mq_K_call mk_27 mq_kp_refl rfl) (fun _ M1 hM1 => mq_K_B (mq_K_call mk_140 hM1 rfl) (fun _ M2 hM2 => mq_K_B (mq_K_call mk_138_L72 hM2 rfl) (fun _ M3 hM3 => mq_K_call mk_138_j93 hM3 rfl)))
def mw_138_j15 : List (Nat × Option Nat) := [(1, some 2), (1, some 5), (1, some 6), (42, some 7), (42, some 9), (42, some 10), (42, some 12), (44, none), (45, none), (46, none), (47, none), (50, some 4), (50, some 5), (51, none), (52, none), (53, none), (54, none), (55, some 4), (55, some 5), (56, none), (57, none), (58, none), (59, none), (60, some 4), (60, some 5), (61, none), (62, none), (63, none), (64, none), (65, some 4), (65, some 5), (66, none), (67, none), (68, none), (69, none), (70, some 4), (70, some 5), (71, none), (72, none), (73, none), (74, none), (75, some 4), (75, some 5), (76, none), (77, none), (78, none), (79, none)]
theorem mk_138_j15 {s0 : Int32} {M : mm_M} : mq_K mw_138_j15 M (mf_138_j15 s0 M) := by
  unfold mf_138_j15
  exact mq_K_B (mq_K_call mk_27 mq_kp_refl rfl) (fun _ M1 hM1 => mq_K_B (mq_K_call mk_46 hM1 rfl) (fun _ M3 hM3 => mq_K_B (mq_K_call mk_139 (mq_kp_pi hM3 rfl) rfl) (fun _ M4 hM4 => mq_K_B (mq_K_call mk_46 hM4 rfl) (fun _ M6 hM6 => mq_K_ite (fun hc => mq_K_call mk_138_j62 hM6 rfl) (fun _ => mq_K_ite (fun hc => mq_K_call mk_138_j62 hM6 rfl) (fun _ => mq_K_call mk_138_j62 hM6 rfl))))))
def mw_138 : List (Nat × Option Nat) := [(1, some 2), (1, some 5), (1, some 6), (42, some 7), (42, some 9), (42, some 10), (42, some 12), (44, none), (45, none), (46, none), (47, none), (50, some 4), (50, some 5), (51, none), (52, none), (53, none), (54, none), (55, some 4), (55, some 5), (56, none), (57, none), (58, none), (59, none), (60, some 4), (60, some 5), (61, none), (62, none), (63, none), (64, none), (65, some 4), (65, some 5), (66, none), (67, none), (68, none), (69, none), (70, some 4), (70, some 5), (71, none), (72, none), (73, none), (74, none), (75, some 4), (75, some 5), (76, none), (77, none), (78, none), (79, none)]
theorem mk_138 {M : mm_M} : mq_K mw_138 M (mf_138 M) := by
  unfold mf_138
  exact mq_K_B (mq_K_call mk_45 mq_kp_refl rfl) (fun _ M2 hM2 => mq_K_ite (fun hc => mq_K_call mk_138_j15 hM2 rfl) (fun _ => mq_K_call mk_138_j15 hM2 rfl))
-- 145: PlainPacks$Sorted.sortSteps
def mw_145_b10 : List (Nat × Option Nat) := [(49, none)]
theorem mk_145_b10 {v1 : Int32} {M : mm_M} : mq_K mw_145_b10 M (mf_145_b10 v1 M) := by
  unfold mf_145_b10
  exact mq_K_ite (fun hc => mq_K_ite (fun hc => mq_K_ite (fun hc => mq_K_ite (fun hc => mq_K_ret (mq_kp_pi mq_kp_refl rfl)) (fun _ => mq_K_none)) (fun _ => mq_K_none)) (fun _ => mq_K_none)) (fun _ => mq_K_ret mq_kp_refl)
def mw_145_L10 : List (Nat × Option Nat) := [(49, none)]
theorem mk_145_L10 {s : Int32} {M : mm_M} : mq_K mw_145_L10 M (mf_145_L10 s M) := by
  unfold mf_145_L10
  exact mq_K_L (fun s M h => mq_K_call mk_145_b10 h rfl) mq_kp_refl
def mw_145_b43 : List (Nat × Option Nat) := [(49, none)]
theorem mk_145_b43 {v1 : Int32} {M : mm_M} : mq_K mw_145_b43 M (mf_145_b43 v1 M) := by
  unfold mf_145_b43
  exact mq_K_ite (fun hc => mq_K_ite (fun hc => mq_K_ite (fun hc => mq_K_ite (fun hc => mq_K_ret (mq_kp_pi mq_kp_refl rfl)) (fun _ => mq_K_none)) (fun _ => mq_K_none)) (fun _ => mq_K_none)) (fun _ => mq_K_ret mq_kp_refl)
def mw_145_L43 : List (Nat × Option Nat) := [(49, none)]
theorem mk_145_L43 {s : Int32} {M : mm_M} : mq_K mw_145_L43 M (mf_145_L43 s M) := by
  unfold mf_145_L43
  exact mq_K_L (fun s M h => mq_K_call mk_145_b43 h rfl) mq_kp_refl
def mw_145_b77 : List (Nat × Option Nat) := [(48, none), (49, none)]
theorem mk_145_b77 {v1 : Int32} {M : mm_M} : mq_K mw_145_b77 M (mf_145_b77 v1 M) := by
  unfold mf_145_b77
  exact mq_K_ite (fun hc => mq_K_ite (fun hc => mq_K_ite (fun hc => mq_K_ite (fun hc => mq_K_ite (fun hc => mq_K_ite (fun hc => mq_K_ret (mq_kp_pi (mq_kp_pi mq_kp_refl rfl) rfl)) (fun _ => mq_K_none)) (fun _ => mq_K_none)) (fun _ => mq_K_none)) (fun _ => mq_K_none)) (fun _ => mq_K_none)) (fun _ => mq_K_ret mq_kp_refl)
def mw_145_L77 : List (Nat × Option Nat) := [(48, none), (49, none)]
theorem mk_145_L77 {s : Int32} {M : mm_M} : mq_K mw_145_L77 M (mf_145_L77 s M) := by
  unfold mf_145_L77
  exact mq_K_L (fun s M h => mq_K_call mk_145_b77 h rfl) mq_kp_refl
def mw_145 : List (Nat × Option Nat) := [(48, none), (49, none)]
theorem mk_145 {M : mm_M} : mq_K mw_145 M (mf_145 M) := by
  unfold mf_145
  exact mq_K_B (mq_K_call mk_290 mq_kp_refl rfl) (fun _ M1 hM1 => mq_K_B (mq_K_call mk_145_L10 hM1 rfl) (fun _ M2 hM2 => mq_K_B (mq_K_call mk_145_L43 hM2 rfl) (fun _ M6 hM6 => mq_K_B (mq_K_call mk_145_L77 hM6 rfl) (fun _ M10 hM10 => mq_K_ret hM10))))
-- 146: PlainPacks$Sorted.putText
def mw_146_b49 : List (Nat × Option Nat) := [(3, some 1), (4, none)]
theorem mk_146_b49 {v1 : Int32} {v3 : Int32} {v4 : Int32} {v5 : Int32} {v6 : Int32} {M : mm_M} : mq_K mw_146_b49 M (mf_146_b49 v1 v3 v4 v5 v6 M) := by
  unfold mf_146_b49
  exact mq_K_ite (fun hc => mq_K_B (mq_K_call mk_51 mq_kp_refl rfl) (fun _ M1 hM1 => mq_K_ret hM1)) (fun _ => mq_K_ret mq_kp_refl)
def mw_146_L49 : List (Nat × Option Nat) := [(3, some 1), (4, none)]
theorem mk_146_L49 {v1 : Int32} {v3 : Int32} {v4 : Int32} {v5 : Int32} {s : Int32} {M : mm_M} : mq_K mw_146_L49 M (mf_146_L49 v1 v3 v4 v5 s M) := by
  unfold mf_146_L49
  exact mq_K_L (fun s M h => mq_K_call mk_146_b49 h rfl) mq_kp_refl
def mw_146_j90 : List (Nat × Option Nat) := [(3, some 1), (4, none)]
theorem mk_146_j90 {v3 : Int32} {v4 : Int32} {v5 : Int32} {s0 : Int32} {M : mm_M} : mq_K mw_146_j90 M (mf_146_j90 v3 v4 v5 s0 M) := by
  unfold mf_146_j90
  exact mq_K_B (mq_K_call mk_51 mq_kp_refl rfl) (fun _ M1 hM1 => mq_K_ret hM1)
def mw_146_b17 : List (Nat × Option Nat) := [(3, some 1), (4, none)]
theorem mk_146_b17 {v1 : Int32} {v2 : Int32} {v3 : Int32} {v4 : Int32} {M : mm_M} : mq_K mw_146_b17 M (mf_146_b17 v1 v2 v3 v4 M) := by
  unfold mf_146_b17
  exact mq_K_ite (fun hc => mq_K_ite (fun hc => mq_K_ite (fun hc => mq_K_ite (fun hc => mq_K_B (mq_K_call mk_146_L49 mq_kp_refl rfl) (fun _ M1 hM1 => mq_K_ret hM1)) (fun _ => mq_K_ite (fun hc => mq_K_call mk_146_j90 mq_kp_refl rfl) (fun _ => mq_K_call mk_146_j90 mq_kp_refl rfl))) (fun _ => mq_K_none)) (fun _ => mq_K_none)) (fun _ => mq_K_ret mq_kp_refl)
def mw_146_L17 : List (Nat × Option Nat) := [(3, some 1), (4, none)]
theorem mk_146_L17 {s : Int32 × Int32 × Int32 × Int32} {M : mm_M} : mq_K mw_146_L17 M (mf_146_L17 s M) := by
  unfold mf_146_L17
  exact mq_K_L (fun s M h => mq_K_call mk_146_b17 h rfl) mq_kp_refl
def mw_146 : List (Nat × Option Nat) := [(3, some 1), (4, none)]
theorem mk_146 {M : mm_M} : mq_K mw_146 M (mf_146 M) := by
  unfold mf_146
  exact mq_K_ite (fun hc => mq_K_B (mq_K_call mk_146_L17 mq_kp_refl rfl) (fun _ M1 hM1 => mq_K_ret hM1)) (fun _ => mq_K_none)
-- 29: PlainPacks.crcHighOf
def mw_29_b24 (p : Nat) : List (Nat × Option Nat) := []
theorem mk_29_b24 {p : Nat} {n : Nat} {v2 : Int32} {v3 : Int32} {v4 : Int32} {v5 : Int32} {M : mm_M} : mq_K (mw_29_b24 p) M (mf_29_b24 p n v2 v3 v4 v5 M) := by
  unfold mf_29_b24
  exact mq_K_ite (fun hc => mq_K_ite (fun hc => mq_K_ret mq_kp_refl) (fun _ => mq_K_ret mq_kp_refl)) (fun _ => mq_K_ret mq_kp_refl)
def mw_29_L24 (p : Nat) : List (Nat × Option Nat) := []
theorem mk_29_L24 {p : Nat} {n : Nat} {v2 : Int32} {v4 : Int32} {s : Int32 × Int32} {M : mm_M} : mq_K (mw_29_L24 p) M (mf_29_L24 p n v2 v4 s M) := by
  unfold mf_29_L24
  exact mq_K_L (fun s M h => mq_K_call mk_29_b24 h (by simp [mq_sub, mw_29_b24, mw_29_L24])) mq_kp_refl
def mw_29_b5 (p : Nat) : List (Nat × Option Nat) := []
theorem mk_29_b5 {p : Nat} {n : Nat} {v2 : Int32} {v3 : Int32} {v4 : Int32} {M : mm_M} : mq_K (mw_29_b5 p) M (mf_29_b5 p n v2 v3 v4 M) := by
  unfold mf_29_b5
  exact mq_K_ite (fun hc => mq_K_ite (fun hc => mq_K_B (mq_K_call mk_29_L24 mq_kp_refl (by simp [mq_sub, mw_29_L24, mw_29_b5])) (fun _ M1 hM1 => mq_K_ret hM1)) (fun _ => mq_K_none)) (fun _ => mq_K_ret mq_kp_refl)
def mw_29_L5 (p : Nat) : List (Nat × Option Nat) := []
theorem mk_29_L5 {p : Nat} {n : Nat} {v2 : Int32} {s : Int32 × Int32} {M : mm_M} : mq_K (mw_29_L5 p) M (mf_29_L5 p n v2 s M) := by
  unfold mf_29_L5
  exact mq_K_L (fun s M h => mq_K_call mk_29_b5 h (by simp [mq_sub, mw_29_b5, mw_29_L5])) mq_kp_refl
def mw_29 (p : Nat) : List (Nat × Option Nat) := []
theorem mk_29 {p : Nat} {n : Nat} {v1 : Int32} {v2 : Int32} {M : mm_M} : mq_K (mw_29 p) M (mf_29 p n v1 v2 M) := by
  unfold mf_29
  exact mq_K_B (mq_K_call mk_29_L5 mq_kp_refl (by simp [mq_sub, mw_29_L5, mw_29])) (fun _ M1 hM1 => mq_K_ret hM1)
-- 137: PlainPacks$Sorted.readSorted
def mw_137_j241 : List (Nat × Option Nat) := []
theorem mk_137_j241 {v2 : Int32} {v3 : Int32} {v6 : Int32} {s0 : Int32} {M : mm_M} : mq_K mw_137_j241 M (mf_137_j241 v2 v3 v6 s0 M) := by
  unfold mf_137_j241
  exact mq_K_B (mq_K_call mk_27 mq_kp_refl rfl) (fun _ M1 hM1 => mq_K_B (mq_K_call mk_32 hM1 rfl) (fun _ M3 hM3 => mq_K_ret hM3))
def mw_137_j163 : List (Nat × Option Nat) := [(1, some 2), (1, some 5), (1, some 6), (3, some 1), (3, some 6), (4, none), (42, some 7), (42, some 9), (42, some 10), (42, some 12), (44, none), (45, none), (46, none), (47, none), (48, none), (49, none), (50, some 4), (50, some 5), (51, none), (52, none), (53, none), (54, none), (55, some 4), (55, some 5), (56, none), (57, none), (58, none), (59, none), (60, some 4), (60, some 5), (61, none), (62, none), (63, none), (64, none), (65, some 4), (65, some 5), (66, none), (67, none), (68, none), (69, none), (70, some 4), (70, some 5), (71, none), (72, none), (73, none), (74, none), (75, some 4), (75, some 5), (76, none), (77, none), (78, none), (79, none)]
theorem mk_137_j163 {v2 : Int32} {v3 : Int32} {s0 : Int32} {M : mm_M} : mq_K mw_137_j163 M (mf_137_j163 v2 v3 s0 M) := by
  unfold mf_137_j163
  exact mq_K_B (mq_K_call mk_27 mq_kp_refl rfl) (fun _ M1 hM1 => mq_K_B (mq_K_call mk_46 hM1 rfl) (fun _ M3 hM3 => mq_K_B (mq_K_call mk_138 (mq_kp_pi hM3 rfl) rfl) (fun _ M4 hM4 => mq_K_B (mq_K_call mk_145 hM4 rfl) (fun _ M5 hM5 => mq_K_B (mq_K_call mk_146 hM5 rfl) (fun _ M6 hM6 => mq_K_B (mq_K_call mk_29 hM6 rfl) (fun _ M8 hM8 => mq_K_ite (fun hc => mq_K_call mk_137_j241 hM8 rfl) (fun _ => mq_K_call mk_137_j241 hM8 rfl)))))))
def mw_137_b100 : List (Nat × Option Nat) := [(1, some 2), (1, some 5), (1, some 6), (3, some 1), (3, some 6), (4, none), (42, some 7), (42, some 9), (42, some 10), (42, some 12), (44, none), (45, none), (46, none), (47, none), (48, none), (49, none), (50, some 4), (50, some 5), (51, none), (52, none), (53, none), (54, none), (55, some 4), (55, some 5), (56, none), (57, none), (58, none), (59, none), (60, some 4), (60, some 5), (61, none), (62, none), (63, none), (64, none), (65, some 4), (65, some 5), (66, none), (67, none), (68, none), (69, none), (70, some 4), (70, some 5), (71, none), (72, none), (73, none), (74, none), (75, some 4), (75, some 5), (76, none), (77, none), (78, none), (79, none)]
theorem mk_137_b100 {v2 : Int32} {v3 : Int32} {M : mm_M} : mq_K mw_137_b100 M (mf_137_b100 v2 v3 M) := by
  unfold mf_137_b100
  exact mq_K_ite (fun hc => mq_K_B (mq_K_call mk_46 mq_kp_refl rfl) (fun _ M2 hM2 => mq_K_ite (fun hc => mq_K_ret hM2) (fun _ => mq_K_ite (fun hc => mq_K_call mk_137_j163 hM2 rfl) (fun _ => mq_K_call mk_137_j163 hM2 rfl)))) (fun _ => mq_K_ret mq_kp_refl)
def mw_137_L100 : List (Nat × Option Nat) := [(1, some 2), (1, some 5), (1, some 6), (3, some 1), (3, some 6), (4, none), (42, some 7), (42, some 9), (42, some 10), (42, some 12), (44, none), (45, none), (46, none), (47, none), (48, none), (49, none), (50, some 4), (50, some 5), (51, none), (52, none), (53, none), (54, none), (55, some 4), (55, some 5), (56, none), (57, none), (58, none), (59, none), (60, some 4), (60, some 5), (61, none), (62, none), (63, none), (64, none), (65, some 4), (65, some 5), (66, none), (67, none), (68, none), (69, none), (70, some 4), (70, some 5), (71, none), (72, none), (73, none), (74, none), (75, some 4), (75, some 5), (76, none), (77, none), (78, none), (79, none)]
theorem mk_137_L100 {s : Int32 × Int32} {M : mm_M} : mq_K mw_137_L100 M (mf_137_L100 s M) := by
  unfold mf_137_L100
  exact mq_K_L (fun s M h => mq_K_call mk_137_b100 h rfl) mq_kp_refl
def mw_137_j145 : List (Nat × Option Nat) := []
theorem mk_137_j145 {s0 : Int32} {M : mm_M} : mq_K mw_137_j145 M (mf_137_j145 s0 M) := by
  unfold mf_137_j145
  exact mq_K_B (mq_K_call mk_27 mq_kp_refl rfl) (fun _ M1 hM1 => mq_K_ret hM1)
def mw_137_j126 : List (Nat × Option Nat) := [(1, some 2), (1, some 5), (1, some 6)]
theorem mk_137_j126 {v2 : Int32} {M : mm_M} : mq_K mw_137_j126 M (mf_137_j126 v2 M) := by
  unfold mf_137_j126
  exact mq_K_B (mq_K_call mk_46 mq_kp_refl rfl) (fun _ M2 hM2 => mq_K_ite (fun hc => mq_K_call mk_137_j145 hM2 rfl) (fun _ => mq_K_call mk_137_j145 hM2 rfl))
def mw_137_j85 : List (Nat × Option Nat) := [(1, some 2), (1, some 4), (1, some 5), (1, some 6), (3, some 1), (3, some 6), (4, none), (42, some 7), (42, some 9), (42, some 10), (42, some 12), (44, none), (45, none), (46, none), (47, none), (48, none), (49, none), (50, some 4), (50, some 5), (51, none), (52, none), (53, none), (54, none), (55, some 4), (55, some 5), (56, none), (57, none), (58, none), (59, none), (60, some 4), (60, some 5), (61, none), (62, none), (63, none), (64, none), (65, some 4), (65, some 5), (66, none), (67, none), (68, none), (69, none), (70, some 4), (70, some 5), (71, none), (72, none), (73, none), (74, none), (75, some 4), (75, some 5), (76, none), (77, none), (78, none), (79, none)]
theorem mk_137_j85 {s0 : Int32} {M : mm_M} : mq_K mw_137_j85 M (mf_137_j85 s0 M) := by
  unfold mf_137_j85
  exact mq_K_B (mq_K_call mk_27 mq_kp_refl rfl) (fun _ M1 hM1 => mq_K_B (mq_K_call mk_137_L100 (mq_kp_pi hM1 rfl) rfl) (fun _ M2 hM2 => mq_K_sm (fun _ => mq_K_call mk_137_j126 hM2 rfl) (fun _ => mq_K_ret hM2)))
def mw_137_j57 : List (Nat × Option Nat) := [(1, some 2), (1, some 4), (1, some 5), (1, some 6), (3, some 1), (3, some 6), (4, none), (42, some 7), (42, some 9), (42, some 10), (42, some 12), (44, none), (45, none), (46, none), (47, none), (48, none), (49, none), (50, some 4), (50, some 5), (51, none), (52, none), (53, none), (54, none), (55, some 4), (55, some 5), (56, none), (57, none), (58, none), (59, none), (60, some 4), (60, some 5), (61, none), (62, none), (63, none), (64, none), (65, some 4), (65, some 5), (66, none), (67, none), (68, none), (69, none), (70, some 4), (70, some 5), (71, none), (72, none), (73, none), (74, none), (75, some 4), (75, some 5), (76, none), (77, none), (78, none), (79, none)]
theorem mk_137_j57 {s0 : Int32} {M : mm_M} : mq_K mw_137_j57 M (mf_137_j57 s0 M) := by
  unfold mf_137_j57
  exact mq_K_B (mq_K_call mk_27 mq_kp_refl rfl) (fun _ M1 hM1 => mq_K_B (mq_K_call mk_44 hM1 rfl) (fun _ M3 hM3 => mq_K_ite (fun hc => mq_K_call mk_137_j85 hM3 rfl) (fun _ => mq_K_ite (fun hc => mq_K_call mk_137_j85 hM3 rfl) (fun _ => mq_K_call mk_137_j85 hM3 rfl))))
def mw_137_j37 : List (Nat × Option Nat) := [(1, some 2), (1, some 4), (1, some 5), (1, some 6), (3, some 1), (3, some 6), (4, none), (42, some 7), (42, some 9), (42, some 10), (42, some 12), (44, none), (45, none), (46, none), (47, none), (48, none), (49, none), (50, some 4), (50, some 5), (51, none), (52, none), (53, none), (54, none), (55, some 4), (55, some 5), (56, none), (57, none), (58, none), (59, none), (60, some 4), (60, some 5), (61, none), (62, none), (63, none), (64, none), (65, some 4), (65, some 5), (66, none), (67, none), (68, none), (69, none), (70, some 4), (70, some 5), (71, none), (72, none), (73, none), (74, none), (75, some 4), (75, some 5), (76, none), (77, none), (78, none), (79, none)]
theorem mk_137_j37 {s0 : Int32} {M : mm_M} : mq_K mw_137_j37 M (mf_137_j37 s0 M) := by
  unfold mf_137_j37
  exact mq_K_B (mq_K_call mk_27 mq_kp_refl rfl) (fun _ M1 hM1 => mq_K_B (mq_K_call mk_44 hM1 rfl) (fun _ M3 hM3 => mq_K_ite (fun hc => mq_K_call mk_137_j57 hM3 rfl) (fun _ => mq_K_call mk_137_j57 hM3 rfl)))
def mw_137_j17 : List (Nat × Option Nat) := [(1, some 2), (1, some 4), (1, some 5), (1, some 6), (3, some 1), (3, some 6), (4, none), (42, some 7), (42, some 9), (42, some 10), (42, some 12), (44, none), (45, none), (46, none), (47, none), (48, none), (49, none), (50, some 4), (50, some 5), (51, none), (52, none), (53, none), (54, none), (55, some 4), (55, some 5), (56, none), (57, none), (58, none), (59, none), (60, some 4), (60, some 5), (61, none), (62, none), (63, none), (64, none), (65, some 4), (65, some 5), (66, none), (67, none), (68, none), (69, none), (70, some 4), (70, some 5), (71, none), (72, none), (73, none), (74, none), (75, some 4), (75, some 5), (76, none), (77, none), (78, none), (79, none)]
theorem mk_137_j17 {s0 : Int32} {M : mm_M} : mq_K mw_137_j17 M (mf_137_j17 s0 M) := by
  unfold mf_137_j17
  exact mq_K_B (mq_K_call mk_27 mq_kp_refl rfl) (fun _ M1 hM1 => mq_K_B (mq_K_call mk_44 hM1 rfl) (fun _ M3 hM3 => mq_K_ite (fun hc => mq_K_call mk_137_j37 hM3 rfl) (fun _ => mq_K_call mk_137_j37 hM3 rfl)))
def mw_137 : List (Nat × Option Nat) := [(1, some 2), (1, some 4), (1, some 5), (1, some 6), (3, some 1), (3, some 6), (4, none), (42, some 7), (42, some 9), (42, some 10), (42, some 12), (44, none), (45, none), (46, none), (47, none), (48, none), (49, none), (50, some 4), (50, some 5), (51, none), (52, none), (53, none), (54, none), (55, some 4), (55, some 5), (56, none), (57, none), (58, none), (59, none), (60, some 4), (60, some 5), (61, none), (62, none), (63, none), (64, none), (65, some 4), (65, some 5), (66, none), (67, none), (68, none), (69, none), (70, some 4), (70, some 5), (71, none), (72, none), (73, none), (74, none), (75, some 4), (75, some 5), (76, none), (77, none), (78, none), (79, none)]
theorem mk_137 {M : mm_M} : mq_K mw_137 M (mf_137 M) := by
  unfold mf_137
  exact mq_K_B (mq_K_call mk_44 mq_kp_refl rfl) (fun _ M2 hM2 => mq_K_ite (fun hc => mq_K_call mk_137_j17 hM2 rfl) (fun _ => mq_K_call mk_137_j17 hM2 rfl))
-- 160: PlainPacks$Chances.readHead
def mw_160_j119 : List (Nat × Option Nat) := []
theorem mk_160_j119 {s0 : Int32} {M : mm_M} : mq_K mw_160_j119 M (mf_160_j119 s0 M) := by
  unfold mf_160_j119
  exact mq_K_B (mq_K_call mk_27 mq_kp_refl rfl) (fun _ M1 hM1 => mq_K_ret hM1)
def mw_160_j67 : List (Nat × Option Nat) := [(1, some 2), (1, some 6), (80, some 14)]
theorem mk_160_j67 {s0 : Int32} {M : mm_M} : mq_K mw_160_j67 M (mf_160_j67 s0 M) := by
  unfold mf_160_j67
  exact mq_K_B (mq_K_call mk_27 mq_kp_refl rfl) (fun _ M1 hM1 => mq_K_B (mq_K_call mk_47 hM1 rfl) (fun _ M3 hM3 => mq_K_B (mq_K_call mk_47 hM3 rfl) (fun _ M5 hM5 => mq_K_ite (fun hc => mq_K_call mk_160_j119 (mq_kp_pl hM5 rfl) rfl) (fun _ => mq_K_ite (fun hc => mq_K_call mk_160_j119 (mq_kp_pl hM5 rfl) rfl) (fun _ => mq_K_call mk_160_j119 (mq_kp_pl hM5 rfl) rfl)))))
def mw_160_j20 : List (Nat × Option Nat) := [(1, some 2), (1, some 6), (80, some 6), (80, some 7), (80, some 8), (80, some 14)]
theorem mk_160_j20 {v1 : Int32} {s0 : Int32} {M : mm_M} : mq_K mw_160_j20 M (mf_160_j20 v1 s0 M) := by
  unfold mf_160_j20
  exact mq_K_B (mq_K_call mk_27 mq_kp_refl rfl) (fun _ M1 hM1 => mq_K_ite (fun hc => mq_K_call mk_160_j67 (mq_kp_pi (mq_kp_pi (mq_kp_pi hM1 rfl) rfl) rfl) rfl) (fun _ => mq_K_call mk_160_j67 (mq_kp_pi (mq_kp_pi (mq_kp_pi hM1 rfl) rfl) rfl) rfl))
def mw_160 : List (Nat × Option Nat) := [(1, some 2), (1, some 6), (80, some 6), (80, some 7), (80, some 8), (80, some 14)]
theorem mk_160 {M : mm_M} : mq_K mw_160 M (mf_160 M) := by
  unfold mf_160
  exact mq_K_B (mq_K_call mk_44 mq_kp_refl rfl) (fun _ M2 hM2 => mq_K_ite (fun hc => mq_K_call mk_160_j20 hM2 rfl) (fun _ => mq_K_call mk_160_j20 hM2 rfl))
-- 158: PlainPacks$Chances.begin
def mw_158 : List (Nat × Option Nat) := [(80, some 4), (80, some 9), (80, some 10), (80, some 11), (80, some 12), (80, some 13), (81, none)]
theorem mk_158 {M : mm_M} : mq_K mw_158 M (mf_158 M) := by
  unfold mf_158
  exact mq_K_B (mq_K_call mk_290 mq_kp_refl rfl) (fun _ M1 hM1 => mq_K_ret (mq_kp_pi (mq_kp_pi (mq_kp_pi (mq_kp_pi (mq_kp_pi (mq_kp_pl hM1 rfl) rfl) rfl) rfl) rfl) rfl))
-- 161: PlainPacks$Chances.bit
def mw_161_j90 : List (Nat × Option Nat) := [(1, some 2), (1, some 6), (80, some 4), (80, some 5)]
theorem mk_161_j90 {v5 : Int32} {M : mm_M} : mq_K mw_161_j90 M (mf_161_j90 v5 M) := by
  unfold mf_161_j90
  exact mq_K_ite (fun hc => mq_K_B (mq_K_call mk_44 (mq_kp_pl mq_kp_refl rfl) rfl) (fun _ M2 hM2 => mq_K_ret (mq_kp_pl hM2 rfl))) (fun _ => mq_K_ret mq_kp_refl)
def mw_161 : List (Nat × Option Nat) := [(1, some 2), (1, some 6), (80, some 4), (80, some 5), (81, none)]
theorem mk_161 {v1 : Int32} {M : mm_M} : mq_K mw_161 M (mf_161 v1 M) := by
  unfold mf_161
  exact mq_K_ite (fun hc => mq_K_ite (fun hc => mq_K_ite (fun hc => mq_K_call mk_161_j90 (mq_kp_pi (mq_kp_pl mq_kp_refl rfl) rfl) rfl) (fun _ => mq_K_none)) (fun _ => mq_K_ite (fun hc => mq_K_call mk_161_j90 (mq_kp_pi (mq_kp_pl (mq_kp_pl mq_kp_refl rfl) rfl) rfl) rfl) (fun _ => mq_K_none))) (fun _ => mq_K_none)
-- 165: PlainPacks$Chances.readByte
def mw_165_b178 : List (Nat × Option Nat) := [(1, some 2), (1, some 6), (80, some 4), (80, some 5), (81, none)]
theorem mk_165_b178 {v4 : Int32} {v5 : Int32} {M : mm_M} : mq_K mw_165_b178 M (mf_165_b178 v4 v5 M) := by
  unfold mf_165_b178
  exact mq_K_ite (fun hc => mq_K_B (mq_K_call mk_161 mq_kp_refl rfl) (fun _ M2 hM2 => mq_K_ret hM2)) (fun _ => mq_K_ret mq_kp_refl)
def mw_165_L178 : List (Nat × Option Nat) := [(1, some 2), (1, some 6), (80, some 4), (80, some 5), (81, none)]
theorem mk_165_L178 {v4 : Int32} {s : Int32} {M : mm_M} : mq_K mw_165_L178 M (mf_165_L178 v4 s M) := by
  unfold mf_165_L178
  exact mq_K_L (fun s M h => mq_K_call mk_165_b178 h rfl) mq_kp_refl
def mw_165_j245 : List (Nat × Option Nat) := [(3, some 1), (3, some 2), (4, none)]
theorem mk_165_j245 {v5 : Int32} {M : mm_M} : mq_K mw_165_j245 M (mf_165_j245 v5 M) := by
  unfold mf_165_j245
  exact mq_K_B (mq_K_call mk_52 mq_kp_refl rfl) (fun _ M1 hM1 => mq_K_ret hM1)
def mw_165_j241 : List (Nat × Option Nat) := [(3, some 1), (3, some 2), (4, none), (80, some 9)]
theorem mk_165_j241 {v5 : Int32} {s1 : Int32} {s2 : Int32} {M : mm_M} : mq_K mw_165_j241 M (mf_165_j241 v5 s1 s2 M) := by
  unfold mf_165_j241
  exact mq_K_call mk_165_j245 (mq_kp_pi mq_kp_refl rfl) rfl
def mw_165_j205 : List (Nat × Option Nat) := [(3, some 1), (3, some 2), (4, none), (80, some 9)]
theorem mk_165_j205 {v5 : Int32} {M : mm_M} : mq_K mw_165_j205 M (mf_165_j205 v5 M) := by
  unfold mf_165_j205
  exact mq_K_ite (fun hc => mq_K_call mk_165_j245 (mq_kp_pi mq_kp_refl rfl) rfl) (fun _ => mq_K_ite (fun hc => mq_K_call mk_165_j241 mq_kp_refl rfl) (fun _ => mq_K_call mk_165_j241 mq_kp_refl rfl))
def mw_165_b108 : List (Nat × Option Nat) := [(1, some 2), (1, some 6), (80, some 4), (80, some 5), (81, none)]
theorem mk_165_b108 {v4 : Int32} {v5 : Int32} {v6 : Int32} {v7 : Int32} {v8 : Int32} {M : mm_M} : mq_K mw_165_b108 M (mf_165_b108 v4 v5 v6 v7 v8 M) := by
  unfold mf_165_b108
  exact mq_K_ite (fun hc => mq_K_ret mq_kp_refl) (fun _ => mq_K_ite (fun hc => mq_K_ret mq_kp_refl) (fun _ => mq_K_B (mq_K_call mk_161 mq_kp_refl rfl) (fun _ M2 hM2 => mq_K_ite (fun hc => mq_K_ret hM2) (fun _ => mq_K_ret hM2))))
def mw_165_L108 : List (Nat × Option Nat) := [(1, some 2), (1, some 6), (80, some 4), (80, some 5), (81, none)]
theorem mk_165_L108 {v4 : Int32} {v6 : Int32} {s : Int32 × Int32 × Int32} {M : mm_M} : mq_K mw_165_L108 M (mf_165_L108 v4 v6 s M) := by
  unfold mf_165_L108
  exact mq_K_L (fun s M h => mq_K_call mk_165_b108 h rfl) mq_kp_refl
def mw_165_j27 : List (Nat × Option Nat) := [(1, some 2), (1, some 6), (3, some 1), (3, some 2), (4, none), (80, some 4), (80, some 5), (80, some 9), (81, none)]
theorem mk_165_j27 {v1 : Int32} {s0 : Int32} {M : mm_M} : mq_K mw_165_j27 M (mf_165_j27 v1 s0 M) := by
  unfold mf_165_j27
  exact mq_K_ite (fun hc => mq_K_B (mq_K_call mk_165_L178 mq_kp_refl rfl) (fun _ M1 hM1 => mq_K_call mk_165_j205 hM1 rfl)) (fun _ => mq_K_ite (fun hc => mq_K_B (mq_K_call mk_165_L178 mq_kp_refl rfl) (fun _ M12 hM12 => mq_K_call mk_165_j205 hM12 rfl)) (fun _ => mq_K_ite (fun hc => mq_K_B (mq_K_call mk_165_L108 mq_kp_refl rfl) (fun _ M23 hM23 => mq_K_B (mq_K_call mk_165_L178 hM23 rfl) (fun _ M33 hM33 => mq_K_call mk_165_j205 hM33 rfl))) (fun _ => mq_K_none)))
def mw_165 : List (Nat × Option Nat) := [(1, some 2), (1, some 6), (3, some 1), (3, some 2), (4, none), (80, some 4), (80, some 5), (80, some 9), (81, none)]
theorem mk_165 {M : mm_M} : mq_K mw_165 M (mf_165 M) := by
  unfold mf_165
  exact mq_K_ite (fun hc => mq_K_ite (fun hc => mq_K_call mk_165_j27 mq_kp_refl rfl) (fun _ => mq_K_none)) (fun _ => mq_K_call mk_165_j27 mq_kp_refl rfl)
-- 163: PlainPacks$Chances.tree
def mw_163_b5 : List (Nat × Option Nat) := [(1, some 2), (1, some 6), (80, some 4), (80, some 5), (81, none)]
theorem mk_163_b5 {v1 : Int32} {v2 : Int32} {v3 : Int32} {v4 : Int32} {M : mm_M} : mq_K mw_163_b5 M (mf_163_b5 v1 v2 v3 v4 M) := by
  unfold mf_163_b5
  exact mq_K_ite (fun hc => mq_K_B (mq_K_call mk_161 mq_kp_refl rfl) (fun _ M2 hM2 => mq_K_ret hM2)) (fun _ => mq_K_ret mq_kp_refl)
def mw_163_L5 : List (Nat × Option Nat) := [(1, some 2), (1, some 6), (80, some 4), (80, some 5), (81, none)]
theorem mk_163_L5 {v1 : Int32} {v2 : Int32} {s : Int32 × Int32} {M : mm_M} : mq_K mw_163_L5 M (mf_163_L5 v1 v2 s M) := by
  unfold mf_163_L5
  exact mq_K_L (fun s M h => mq_K_call mk_163_b5 h rfl) mq_kp_refl
def mw_163 : List (Nat × Option Nat) := [(1, some 2), (1, some 6), (80, some 4), (80, some 5), (81, none)]
theorem mk_163 {v1 : Int32} {v2 : Int32} {M : mm_M} : mq_K mw_163 M (mf_163 v1 v2 M) := by
  unfold mf_163
  exact mq_K_B (mq_K_call mk_163_L5 mq_kp_refl rfl) (fun _ M1 hM1 => mq_K_ret hM1)
-- 169: PlainPacks$Chances.readLength
def mw_169_j106 : List (Nat × Option Nat) := []
theorem mk_169_j106 {v3 : Int32} {s0 : Int32} {M : mm_M} : mq_K mw_169_j106 M (mf_169_j106 v3 s0 M) := by
  unfold mf_169_j106
  exact mq_K_B (mq_K_call mk_27 mq_kp_refl rfl) (fun _ M1 hM1 => mq_K_ret hM1)
def mw_169_j105 : List (Nat × Option Nat) := []
theorem mk_169_j105 {v3 : Int32} {M : mm_M} : mq_K mw_169_j105 M (mf_169_j105 v3 M) := by
  unfold mf_169_j105
  exact mq_K_call mk_169_j106 mq_kp_refl rfl
def mw_169_j74 : List (Nat × Option Nat) := []
theorem mk_169_j74 {v3 : Int32} {M : mm_M} : mq_K mw_169_j74 M (mf_169_j74 v3 M) := by
  unfold mf_169_j74
  exact mq_K_ite (fun hc => mq_K_call mk_169_j105 mq_kp_refl rfl) (fun _ => mq_K_ite (fun hc => mq_K_call mk_169_j106 mq_kp_refl rfl) (fun _ => mq_K_call mk_169_j105 mq_kp_refl rfl))
def mw_169 : List (Nat × Option Nat) := [(1, some 2), (1, some 6), (80, some 4), (80, some 5), (81, none)]
theorem mk_169 {v1 : Int32} {v2 : Int32} {M : mm_M} : mq_K mw_169 M (mf_169 v1 v2 M) := by
  unfold mf_169
  exact mq_K_B (mq_K_call mk_161 mq_kp_refl rfl) (fun _ M2 hM2 => mq_K_ite (fun hc => mq_K_B (mq_K_call mk_163 hM2 rfl) (fun _ M4 hM4 => mq_K_call mk_169_j74 hM4 rfl)) (fun _ => mq_K_B (mq_K_call mk_161 hM2 rfl) (fun _ M6 hM6 => mq_K_ite (fun hc => mq_K_B (mq_K_call mk_163 hM6 rfl) (fun _ M8 hM8 => mq_K_call mk_169_j74 hM8 rfl)) (fun _ => mq_K_B (mq_K_call mk_163 hM6 rfl) (fun _ M10 hM10 => mq_K_call mk_169_j74 hM10 rfl)))))
