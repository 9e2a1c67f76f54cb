/-! WHAT IS KEPT 3 -/
-- 164: PlainPacks$Chances.turnedTree
def mw_164_b8 : List (Nat × Option Nat) := [(1, some 2), (1, some 6), (80, some 4), (80, some 5), (81, none)]
theorem mk_164_b8 {v1 : Int32} {v2 : Int32} {v3 : Int32} {v4 : Int32} {v5 : Int32} {M : mm_M} : mq_K mw_164_b8 M (mf_164_b8 v1 v2 v3 v4 v5 M) := by
  unfold mf_164_b8
  exact mq_K_ite (fun hc => mq_K_B (mq_K_call mk_161 mq_kp_refl rfl) (fun _ M2 hM2 => mq_K_ret hM2)) (fun _ => mq_K_ret mq_kp_refl)
def mw_164_L8 : List (Nat × Option Nat) := [(1, some 2), (1, some 6), (80, some 4), (80, some 5), (81, none)]
theorem mk_164_L8 {v1 : Int32} {v2 : Int32} {s : Int32 × Int32 × Int32} {M : mm_M} : mq_K mw_164_L8 M (mf_164_L8 v1 v2 s M) := by
  unfold mf_164_L8
  exact mq_K_L (fun s M h => mq_K_call mk_164_b8 h rfl) mq_kp_refl
def mw_164 : List (Nat × Option Nat) := [(1, some 2), (1, some 6), (80, some 4), (80, some 5), (81, none)]
theorem mk_164 {v1 : Int32} {v2 : Int32} {M : mm_M} : mq_K mw_164 M (mf_164 v1 v2 M) := by
  unfold mf_164
  exact mq_K_B (mq_K_call mk_164_L8 mq_kp_refl rfl) (fun _ M1 hM1 => mq_K_ret hM1)
-- 162: PlainPacks$Chances.plainBit
def mw_162_j41 : List (Nat × Option Nat) := [(1, some 2), (1, some 6), (80, some 4), (80, some 5)]
theorem mk_162_j41 {v1 : Int32} {M : mm_M} : mq_K mw_162_j41 M (mf_162_j41 v1 M) := by
  unfold mf_162_j41
  exact mq_K_ite (fun hc => mq_K_B (mq_K_call mk_44 (mq_kp_pl mq_kp_refl rfl) rfl) (fun _ M2 hM2 => mq_K_ret (mq_kp_pl hM2 rfl))) (fun _ => mq_K_ret mq_kp_refl)
def mw_162 : List (Nat × Option Nat) := [(1, some 2), (1, some 6), (80, some 4), (80, some 5)]
theorem mk_162 {M : mm_M} : mq_K mw_162 M (mf_162 M) := by
  unfold mf_162
  exact mq_K_ite (fun hc => mq_K_call mk_162_j41 (mq_kp_pl mq_kp_refl rfl) rfl) (fun _ => mq_K_call mk_162_j41 (mq_kp_pl (mq_kp_pl mq_kp_refl rfl) rfl) rfl)
-- 170: PlainPacks$Chances.readDistance
def mw_170_b82 : List (Nat × Option Nat) := [(1, some 2), (1, some 6), (80, some 4), (80, some 5)]
theorem mk_170_b82 {v4 : Int64} {v6 : Int32} {M : mm_M} : mq_K mw_170_b82 M (mf_170_b82 v4 v6 M) := by
  unfold mf_170_b82
  exact mq_K_ite (fun hc => mq_K_ret mq_kp_refl) (fun _ => mq_K_B (mq_K_call mk_162 mq_kp_refl rfl) (fun _ M2 hM2 => mq_K_ret hM2))
def mw_170_L82 : List (Nat × Option Nat) := [(1, some 2), (1, some 6), (80, some 4), (80, some 5)]
theorem mk_170_L82 {s : Int64 × Int32} {M : mm_M} : mq_K mw_170_L82 M (mf_170_L82 s M) := by
  unfold mf_170_L82
  exact mq_K_L (fun s M h => mq_K_call mk_170_b82 h rfl) mq_kp_refl
def mw_170_j107 : List (Nat × Option Nat) := [(1, some 2), (1, some 6), (80, some 4), (80, some 5), (81, none)]
theorem mk_170_j107 {v4 : Int64} {M : mm_M} : mq_K mw_170_j107 M (mf_170_j107 v4 M) := by
  unfold mf_170_j107
  exact mq_K_B (mq_K_call mk_164 mq_kp_refl rfl) (fun _ M2 hM2 => mq_K_ret hM2)
def mw_170 : List (Nat × Option Nat) := [(1, some 2), (1, some 6), (80, some 4), (80, some 5), (81, none)]
theorem mk_170 {v1 : Int32} {M : mm_M} : mq_K mw_170 M (mf_170 v1 M) := by
  unfold mf_170
  exact mq_K_B (mq_K_call mk_163 mq_kp_refl rfl) (fun _ M2 hM2 => mq_K_ite (fun hc => mq_K_ret hM2) (fun _ => mq_K_ite (fun hc => mq_K_B (mq_K_call mk_164 hM2 rfl) (fun _ M4 hM4 => mq_K_ret hM4)) (fun _ => mq_K_B (mq_K_call mk_170_L82 hM2 rfl) (fun _ M5 hM5 => mq_K_call mk_170_j107 hM5 rfl))))
-- 166: PlainPacks$Chances.readMatch
def mw_166_j102 : List (Nat × Option Nat) := [(3, some 1), (3, some 3), (3, some 4), (3, some 5), (4, none), (80, some 9)]
theorem mk_166_j102 {v2 : Int32} {s1 : Int32} {M : mm_M} : mq_K mw_166_j102 M (mf_166_j102 v2 s1 M) := by
  unfold mf_166_j102
  exact mq_K_B (mq_K_call mk_53 (mq_kp_pi mq_kp_refl rfl) rfl) (fun _ M1 hM1 => mq_K_ret hM1)
def mw_166_j52 : List (Nat × Option Nat) := [(3, some 1), (3, some 3), (3, some 4), (3, some 5), (4, none), (80, some 9), (80, some 10), (80, some 11), (80, some 12), (80, some 13)]
theorem mk_166_j52 {v2 : Int32} {v3 : Int64} {s0 : Int32} {M : mm_M} : mq_K mw_166_j52 M (mf_166_j52 v2 v3 s0 M) := by
  unfold mf_166_j52
  exact mq_K_B (mq_K_call mk_27 mq_kp_refl rfl) (fun _ M1 hM1 => mq_K_ite (fun hc => mq_K_call mk_166_j102 (mq_kp_pi (mq_kp_pi (mq_kp_pi (mq_kp_pi hM1 rfl) rfl) rfl) rfl) rfl) (fun _ => mq_K_call mk_166_j102 (mq_kp_pi (mq_kp_pi (mq_kp_pi (mq_kp_pi hM1 rfl) rfl) rfl) rfl) rfl))
def mw_166_j34 : List (Nat × Option Nat) := [(3, some 1), (3, some 3), (3, some 4), (3, some 5), (4, none), (80, some 9), (80, some 10), (80, some 11), (80, some 12), (80, some 13)]
theorem mk_166_j34 {v2 : Int32} {v3 : Int64} {M : mm_M} : mq_K mw_166_j34 M (mf_166_j34 v2 v3 M) := by
  unfold mf_166_j34
  exact mq_K_ite (fun hc => mq_K_call mk_166_j52 mq_kp_refl rfl) (fun _ => mq_K_call mk_166_j52 mq_kp_refl rfl)
def mw_166 : List (Nat × Option Nat) := [(1, some 2), (1, some 6), (3, some 1), (3, some 3), (3, some 4), (3, some 5), (4, none), (80, some 4), (80, some 5), (80, some 9), (80, some 10), (80, some 11), (80, some 12), (80, some 13), (81, none)]
theorem mk_166 {v1 : Int32} {M : mm_M} : mq_K mw_166 M (mf_166 v1 M) := by
  unfold mf_166
  exact mq_K_B (mq_K_call mk_169 mq_kp_refl rfl) (fun _ M2 hM2 => mq_K_B (mq_K_call mk_170 hM2 rfl) (fun _ M4 hM4 => mq_K_ite (fun hc => mq_K_ite (fun hc => mq_K_ret hM4) (fun _ => mq_K_call mk_166_j34 hM4 rfl)) (fun _ => mq_K_call mk_166_j34 hM4 rfl)))
-- 168: PlainPacks$Chances.bringToFront
def mw_168_j55 : List (Nat × Option Nat) := [(80, some 10), (80, some 11), (80, some 12)]
theorem mk_168_j55 {v1 : Int32} {M : mm_M} : mq_K mw_168_j55 M (mf_168_j55 v1 M) := by
  unfold mf_168_j55
  exact mq_K_ret (mq_kp_pi (mq_kp_pi (mq_kp_pi mq_kp_refl rfl) rfl) rfl)
def mw_168 : List (Nat × Option Nat) := [(1, some 2), (1, some 6), (80, some 4), (80, some 5), (80, some 10), (80, some 11), (80, some 12), (80, some 13), (81, none)]
theorem mk_168 {M : mm_M} : mq_K mw_168 M (mf_168 M) := by
  unfold mf_168
  exact mq_K_B (mq_K_call mk_161 mq_kp_refl rfl) (fun _ M2 hM2 => mq_K_ite (fun hc => mq_K_B (mq_K_call mk_161 hM2 rfl) (fun _ M4 hM4 => mq_K_ite (fun hc => mq_K_call mk_168_j55 (mq_kp_pi hM4 rfl) rfl) (fun _ => mq_K_call mk_168_j55 hM4 rfl))) (fun _ => mq_K_ret (mq_kp_pi (mq_kp_pi hM2 rfl) rfl)))
-- 167: PlainPacks$Chances.readRepeat
def mw_167_j160 : List (Nat × Option Nat) := [(3, some 1), (3, some 3), (3, some 4), (3, some 5), (4, none), (80, some 9)]
theorem mk_167_j160 {v3 : Int32} {s1 : Int32} {M : mm_M} : mq_K mw_167_j160 M (mf_167_j160 v3 s1 M) := by
  unfold mf_167_j160
  exact mq_K_B (mq_K_call mk_53 (mq_kp_pi mq_kp_refl rfl) rfl) (fun _ M1 hM1 => mq_K_ret hM1)
def mw_167_j115 : List (Nat × Option Nat) := [(3, some 1), (3, some 3), (3, some 4), (3, some 5), (4, none), (80, some 9)]
theorem mk_167_j115 {s1 : Int32} {M : mm_M} : mq_K mw_167_j115 M (mf_167_j115 s1 M) := by
  unfold mf_167_j115
  exact mq_K_B (mq_K_call mk_53 (mq_kp_pi mq_kp_refl rfl) rfl) (fun _ M1 hM1 => mq_K_ret hM1)
def mw_167_j94 : List (Nat × Option Nat) := [(1, some 2), (1, some 6), (3, some 1), (3, some 3), (3, some 4), (3, some 5), (4, none), (80, some 4), (80, some 5), (80, some 9), (81, none)]
theorem mk_167_j94 {v1 : Int32} {v2 : Int32} {M : mm_M} : mq_K mw_167_j94 M (mf_167_j94 v1 v2 M) := by
  unfold mf_167_j94
  exact mq_K_ite (fun hc => mq_K_B (mq_K_call mk_169 mq_kp_refl rfl) (fun _ M2 hM2 => mq_K_ite (fun hc => mq_K_call mk_167_j160 hM2 rfl) (fun _ => mq_K_call mk_167_j160 hM2 rfl))) (fun _ => mq_K_ite (fun hc => mq_K_call mk_167_j115 mq_kp_refl rfl) (fun _ => mq_K_call mk_167_j115 mq_kp_refl rfl))
def mw_167_j36 : List (Nat × Option Nat) := [(1, some 2), (1, some 6), (3, some 1), (3, some 3), (3, some 4), (3, some 5), (4, none), (80, some 4), (80, some 5), (80, some 9), (81, none)]
theorem mk_167_j36 {v1 : Int32} {s0 : Int32} {M : mm_M} : mq_K mw_167_j36 M (mf_167_j36 v1 s0 M) := by
  unfold mf_167_j36
  exact mq_K_B (mq_K_call mk_27 mq_kp_refl rfl) (fun _ M1 hM1 => mq_K_B (mq_K_call mk_161 hM1 rfl) (fun _ M3 hM3 => mq_K_ite (fun hc => mq_K_call mk_167_j94 hM3 rfl) (fun _ => mq_K_call mk_167_j94 hM3 rfl)))
def mw_167_j91 : List (Nat × Option Nat) := [(1, some 2), (1, some 6), (3, some 1), (3, some 3), (3, some 4), (3, some 5), (4, none), (80, some 4), (80, some 5), (80, some 9), (81, none)]
theorem mk_167_j91 {v1 : Int32} {v2 : Int32} {s0 : Int32} {M : mm_M} : mq_K mw_167_j91 M (mf_167_j91 v1 v2 s0 M) := by
  unfold mf_167_j91
  exact mq_K_B (mq_K_call mk_27 mq_kp_refl rfl) (fun _ M1 hM1 => mq_K_call mk_167_j94 hM1 rfl)
def mw_167 : List (Nat × Option Nat) := [(1, some 2), (1, some 6), (3, some 1), (3, some 3), (3, some 4), (3, some 5), (4, none), (80, some 4), (80, some 5), (80, some 9), (80, some 10), (80, some 11), (80, some 12), (80, some 13), (81, none)]
theorem mk_167 {v1 : Int32} {M : mm_M} : mq_K mw_167 M (mf_167 v1 M) := by
  unfold mf_167
  exact mq_K_B (mq_K_call mk_161 mq_kp_refl rfl) (fun _ M2 hM2 => mq_K_ite (fun hc => mq_K_ite (fun hc => mq_K_call mk_167_j36 hM2 rfl) (fun _ => mq_K_call mk_167_j36 hM2 rfl)) (fun _ => mq_K_B (mq_K_call mk_168 hM2 rfl) (fun _ M3 hM3 => mq_K_ite (fun hc => mq_K_call mk_167_j91 hM3 rfl) (fun _ => mq_K_call mk_167_j91 hM3 rfl))))
-- 159: PlainPacks$Chances.readChances
def mw_159_b42 : List (Nat × Option Nat) := [(1, some 2), (1, some 6), (3, some 1), (3, some 2), (3, some 3), (3, some 4), (3, some 5), (4, none), (80, some 4), (80, some 5), (80, some 9), (80, some 10), (80, some 11), (80, some 12), (80, some 13), (81, none)]
theorem mk_159_b42 {v1 : Int32} {v2 : Int32} {M : mm_M} : mq_K mw_159_b42 M (mf_159_b42 v1 v2 M) := by
  unfold mf_159_b42
  exact mq_K_ite (fun hc => mq_K_ret mq_kp_refl) (fun _ => mq_K_ite (fun hc => mq_K_ret mq_kp_refl) (fun _ => mq_K_ite (fun hc => mq_K_ret mq_kp_refl) (fun _ => mq_K_B (mq_K_call mk_161 mq_kp_refl rfl) (fun _ M2 hM2 => mq_K_ite (fun hc => mq_K_B (mq_K_call mk_165 hM2 rfl) (fun _ M3 hM3 => mq_K_ret hM3)) (fun _ => mq_K_B (mq_K_call mk_161 hM2 rfl) (fun _ M5 hM5 => mq_K_ite (fun hc => mq_K_B (mq_K_call mk_166 hM5 rfl) (fun _ M7 hM7 => mq_K_ret hM7)) (fun _ => mq_K_B (mq_K_call mk_167 hM5 rfl) (fun _ M8 hM8 => mq_K_ret hM8))))))))
def mw_159_L42 : List (Nat × Option Nat) := [(1, some 2), (1, some 6), (3, some 1), (3, some 2), (3, some 3), (3, some 4), (3, some 5), (4, none), (80, some 4), (80, some 5), (80, some 9), (80, some 10), (80, some 11), (80, some 12), (80, some 13), (81, none)]
theorem mk_159_L42 {s : Int32 × Int32} {M : mm_M} : mq_K mw_159_L42 M (mf_159_L42 s M) := by
  unfold mf_159_L42
  exact mq_K_L (fun s M h => mq_K_call mk_159_b42 h rfl) mq_kp_refl
def mw_159_j160 : List (Nat × Option Nat) := []
theorem mk_159_j160 {s0 : Int32} {M : mm_M} : mq_K mw_159_j160 M (mf_159_j160 s0 M) := by
  unfold mf_159_j160
  exact mq_K_B (mq_K_call mk_27 mq_kp_refl rfl) (fun _ M1 hM1 => mq_K_ret hM1)
def mw_159_j146 : List (Nat × Option Nat) := []
theorem mk_159_j146 {M : mm_M} : mq_K mw_159_j146 M (mf_159_j146 M) := by
  unfold mf_159_j146
  exact mq_K_ite (fun hc => mq_K_call mk_159_j160 mq_kp_refl rfl) (fun _ => mq_K_call mk_159_j160 mq_kp_refl rfl)
def mw_159_j23 : List (Nat × Option Nat) := [(1, some 2), (1, some 6), (3, some 1), (3, some 2), (3, some 3), (3, some 4), (3, some 5), (4, none), (80, some 4), (80, some 5), (80, some 9), (80, some 10), (80, some 11), (80, some 12), (80, some 13), (81, none)]
theorem mk_159_j23 {s0 : Int32} {M : mm_M} : mq_K mw_159_j23 M (mf_159_j23 s0 M) := by
  unfold mf_159_j23
  exact mq_K_B (mq_K_call mk_27 mq_kp_refl rfl) (fun _ M1 hM1 => mq_K_B (mq_K_call mk_48 hM1 rfl) (fun _ M3 hM3 => mq_K_B (mq_K_call mk_159_L42 (mq_kp_pl hM3 rfl) rfl) (fun _ M4 hM4 => mq_K_call mk_159_j146 hM4 rfl)))
def mw_159 : List (Nat × Option Nat) := [(1, some 2), (1, some 6), (3, some 1), (3, some 2), (3, some 3), (3, some 4), (3, some 5), (4, none), (80, some 4), (80, some 5), (80, some 6), (80, some 7), (80, some 8), (80, some 9), (80, some 10), (80, some 11), (80, some 12), (80, some 13), (80, some 14), (81, none)]
theorem mk_159 {M : mm_M} : mq_K mw_159 M (mf_159 M) := by
  unfold mf_159
  exact mq_K_B (mq_K_call mk_160 mq_kp_refl rfl) (fun _ M1 hM1 => mq_K_B (mq_K_call mk_158 hM1 rfl) (fun _ M2 hM2 => mq_K_B (mq_K_call mk_44 hM2 rfl) (fun _ M4 hM4 => mq_K_ite (fun hc => mq_K_call mk_159_j23 hM4 rfl) (fun _ => mq_K_call mk_159_j23 hM4 rfl))))
-- 17: PlainPacks.open
def mw_17 : List (Nat × Option Nat) := [(1, some 2), (1, some 3), (1, some 4), (1, some 5), (1, some 6), (3, some 1), (3, some 2), (3, some 3), (3, some 4), (3, some 5), (3, some 6), (4, none), (16, some 8), (16, some 9), (17, some 4), (17, some 5), (18, none), (19, none), (20, none), (21, none), (22, some 4), (22, some 5), (23, none), (24, none), (25, none), (26, none), (27, some 4), (27, some 5), (28, none), (29, none), (30, none), (31, none), (32, none), (35, some 8), (35, some 9), (35, some 10), (35, some 11), (35, some 12), (35, some 13), (35, some 14), (36, none), (37, none), (41, some 4), (41, some 5), (42, some 7), (42, some 9), (42, some 10), (42, some 12), (44, none), (45, none), (46, none), (47, none), (48, none), (49, none), (50, some 4), (50, some 5), (51, none), (52, none), (53, none), (54, none), (55, some 4), (55, some 5), (56, none), (57, none), (58, none), (59, none), (60, some 4), (60, some 5), (61, none), (62, none), (63, none), (64, none), (65, some 4), (65, some 5), (66, none), (67, none), (68, none), (69, none), (70, some 4), (70, some 5), (71, none), (72, none), (73, none), (74, none), (75, some 4), (75, some 5), (76, none), (77, none), (78, none), (79, none), (80, some 4), (80, some 5), (80, some 6), (80, some 7), (80, some 8), (80, some 9), (80, some 10), (80, some 11), (80, some 12), (80, some 13), (80, some 14), (81, none)]
theorem mk_17 {v1 : Int32} {M : mm_M} : mq_K mw_17 M (mf_17 v1 M) := by
  unfold mf_17
  exact mq_K_B (mq_K_call mk_26 mq_kp_refl rfl) (fun _ M1 hM1 => mq_K_B (mq_K_call mk_40 hM1 rfl) (fun _ M2 hM2 => mq_K_B (mq_K_call mk_49 hM2 rfl) (fun _ M3 hM3 => mq_K_ite (fun hc => mq_K_Bc (mq_K_call mk_117 hM3 rfl) (fun _ M4 hM4 => mq_K_ret hM4) (fun M5 hM5 => mq_K_ret hM5)) (fun _ => mq_K_ite (fun hc => mq_K_Bc (mq_K_call mk_79 hM3 rfl) (fun _ M6 hM6 => mq_K_ret hM6) (fun M7 hM7 => mq_K_ret hM7)) (fun _ => mq_K_ite (fun hc => mq_K_Bc (mq_K_call mk_75 hM3 rfl) (fun _ M8 hM8 => mq_K_ret hM8) (fun M9 hM9 => mq_K_ret hM9)) (fun _ => mq_K_ite (fun hc => mq_K_Bc (mq_K_call mk_76 hM3 rfl) (fun _ M10 hM10 => mq_K_ret hM10) (fun M11 hM11 => mq_K_ret hM11)) (fun _ => mq_K_ite (fun hc => mq_K_Bc (mq_K_call mk_107 hM3 rfl) (fun _ M12 hM12 => mq_K_ret hM12) (fun M13 hM13 => mq_K_ret hM13)) (fun _ => mq_K_ite (fun hc => mq_K_Bc (mq_K_call mk_108 hM3 rfl) (fun _ M14 hM14 => mq_K_ret hM14) (fun M15 hM15 => mq_K_ret hM15)) (fun _ => mq_K_ite (fun hc => mq_K_Bc (mq_K_call mk_118 hM3 rfl) (fun _ M16 hM16 => mq_K_ret hM16) (fun M17 hM17 => mq_K_ret hM17)) (fun _ => mq_K_ite (fun hc => mq_K_Bc (mq_K_call mk_121 hM3 rfl) (fun _ M18 hM18 => mq_K_ret hM18) (fun M19 hM19 => mq_K_ret hM19)) (fun _ => mq_K_ite (fun hc => mq_K_Bc (mq_K_call mk_124 hM3 rfl) (fun _ M20 hM20 => mq_K_ret hM20) (fun M21 hM21 => mq_K_ret hM21)) (fun _ => mq_K_ite (fun hc => mq_K_Bc (mq_K_call mk_137 hM3 rfl) (fun _ M22 hM22 => mq_K_ret hM22) (fun M23 hM23 => mq_K_ret hM23)) (fun _ => mq_K_Bc (mq_K_call mk_159 hM3 rfl) (fun _ M24 hM24 => mq_K_ret hM24) (fun M25 hM25 => mq_K_ret hM25))))))))))))))
-- 190: PlainPacksModel.bad
def mw_190 : List (Nat × Option Nat) := [(84, some 7)]
theorem mk_190 {M : mm_M} : mq_K mw_190 M (mf_190 M) := by
  unfold mf_190
  exact mq_K_ret (mq_kp_pi mq_kp_refl rfl)
-- 191: PlainPacksModel.next
def mw_191_j29 : List (Nat × Option Nat) := [(84, some 7)]
theorem mk_191_j29 {M : mm_M} : mq_K mw_191_j29 M (mf_191_j29 M) := by
  unfold mf_191_j29
  exact mq_K_B (mq_K_call mk_190 mq_kp_refl rfl) (fun _ M1 hM1 => mq_K_ret hM1)
def mw_191 : List (Nat × Option Nat) := [(84, some 5), (84, some 7)]
theorem mk_191 {M : mm_M} : mq_K mw_191 M (mf_191 M) := by
  unfold mf_191
  exact mq_K_ite (fun hc => mq_K_ite (fun hc => mq_K_ite (fun hc => mq_K_ite (fun hc => mq_K_ret (mq_kp_pi mq_kp_refl rfl)) (fun _ => mq_K_none)) (fun _ => mq_K_call mk_191_j29 mq_kp_refl rfl)) (fun _ => mq_K_call mk_191_j29 mq_kp_refl rfl)) (fun _ => mq_K_call mk_191_j29 mq_kp_refl rfl)
-- 194: PlainPacksModel.put
def mw_194_j21 : List (Nat × Option Nat) := [(84, some 4), (86, none)]
theorem mk_194_j21 {v1 : Int32} {M : mm_M} : mq_K mw_194_j21 M (mf_194_j21 v1 M) := by
  unfold mf_194_j21
  exact mq_K_ite (fun hc => mq_K_ite (fun hc => mq_K_ret (mq_kp_pi (mq_kp_pi mq_kp_refl rfl) rfl)) (fun _ => mq_K_none)) (fun _ => mq_K_ret mq_kp_refl)
def mw_194 : List (Nat × Option Nat) := [(84, some 4), (84, some 7), (86, none)]
theorem mk_194 {v1 : Int32} {M : mm_M} : mq_K mw_194 M (mf_194 v1 M) := by
  unfold mf_194
  exact mq_K_ite (fun hc => mq_K_ite (fun hc => mq_K_B (mq_K_call mk_190 mq_kp_refl rfl) (fun _ M1 hM1 => mq_K_call mk_194_j21 hM1 rfl)) (fun _ => mq_K_call mk_194_j21 mq_kp_refl rfl)) (fun _ => mq_K_call mk_194_j21 mq_kp_refl rfl)
-- 214: PlainPacksModel.runs
def mw_214_b32 : List (Nat × Option Nat) := [(84, some 4), (84, some 5), (84, some 7), (86, none)]
theorem mk_214_b32 {v1 : Int32} {v2 : Int32} {M : mm_M} : mq_K mw_214_b32 M (mf_214_b32 v1 v2 M) := by
  unfold mf_214_b32
  exact mq_K_ite (fun hc => mq_K_ret mq_kp_refl) (fun _ => mq_K_ite (fun hc => mq_K_B (mq_K_call mk_191 mq_kp_refl rfl) (fun _ M2 hM2 => mq_K_B (mq_K_call mk_194 hM2 rfl) (fun _ M4 hM4 => mq_K_ret hM4))) (fun _ => mq_K_ret mq_kp_refl))
def mw_214_L32 : List (Nat × Option Nat) := [(84, some 4), (84, some 5), (84, some 7), (86, none)]
theorem mk_214_L32 {v1 : Int32} {s : Int32} {M : mm_M} : mq_K mw_214_L32 M (mf_214_L32 v1 s M) := by
  unfold mf_214_L32
  exact mq_K_L (fun s M h => mq_K_call mk_214_b32 h rfl) mq_kp_refl
def mw_214_b78 : List (Nat × Option Nat) := [(84, some 4), (84, some 7), (86, none)]
theorem mk_214_b78 {v1 : Int32} {v2 : Int32} {v3 : Int32} {M : mm_M} : mq_K mw_214_b78 M (mf_214_b78 v1 v2 v3 M) := by
  unfold mf_214_b78
  exact mq_K_ite (fun hc => mq_K_ite (fun hc => mq_K_B (mq_K_call mk_194 mq_kp_refl rfl) (fun _ M2 hM2 => mq_K_ret hM2)) (fun _ => mq_K_ret mq_kp_refl)) (fun _ => mq_K_ret mq_kp_refl)
def mw_214_L78 : List (Nat × Option Nat) := [(84, some 4), (84, some 7), (86, none)]
theorem mk_214_L78 {v1 : Int32} {v2 : Int32} {s : Int32} {M : mm_M} : mq_K mw_214_L78 M (mf_214_L78 v1 v2 s M) := by
  unfold mf_214_L78
  exact mq_K_L (fun s M h => mq_K_call mk_214_b78 h rfl) mq_kp_refl
def mw_214_b0 : List (Nat × Option Nat) := [(84, some 4), (84, some 5), (84, some 7), (86, none)]
theorem mk_214_b0 {M : mm_M} : mq_K mw_214_b0 M (mf_214_b0 M) := by
  unfold mf_214_b0
  exact mq_K_ite (fun hc => mq_K_ite (fun hc => mq_K_B (mq_K_call mk_191 mq_kp_refl rfl) (fun _ M2 hM2 => mq_K_ite (fun hc => mq_K_B (mq_K_call mk_214_L32 hM2 rfl) (fun _ M3 hM3 => mq_K_ret hM3)) (fun _ => mq_K_ite (fun hc => mq_K_B (mq_K_call mk_191 hM2 rfl) (fun _ M9 hM9 => mq_K_B (mq_K_call mk_214_L78 hM9 rfl) (fun _ M10 hM10 => mq_K_ret hM10))) (fun _ => mq_K_ret hM2)))) (fun _ => mq_K_ret mq_kp_refl)) (fun _ => mq_K_ret mq_kp_refl)
def mw_214_L0 : List (Nat × Option Nat) := [(84, some 4), (84, some 5), (84, some 7), (86, none)]
theorem mk_214_L0 {s : Unit} {M : mm_M} : mq_K mw_214_L0 M (mf_214_L0 s M) := by
  unfold mf_214_L0
  exact mq_K_L (fun s M h => mq_K_call mk_214_b0 h rfl) mq_kp_refl
def mw_214 : List (Nat × Option Nat) := [(84, some 4), (84, some 5), (84, some 7), (86, none)]
theorem mk_214 {M : mm_M} : mq_K mw_214 M (mf_214 M) := by
  unfold mf_214
  exact mq_K_B (mq_K_call mk_214_L0 mq_kp_refl rfl) (fun _ M1 hM1 => mq_K_ret hM1)
-- 197: PlainPacksModel.bit
def mw_197_j21 : List (Nat × Option Nat) := [(84, some 15)]
theorem mk_197_j21 {M : mm_M} : mq_K mw_197_j21 M (mf_197_j21 M) := by
  unfold mf_197_j21
  exact mq_K_ite (fun hc => mq_K_ite (fun hc => mq_K_ret (mq_kp_pi mq_kp_refl rfl)) (fun _ => mq_K_ret (mq_kp_pi mq_kp_refl rfl))) (fun _ => mq_K_ret mq_kp_refl)
def mw_197 : List (Nat × Option Nat) := [(84, some 5), (84, some 7), (84, some 14), (84, some 15)]
theorem mk_197 {M : mm_M} : mq_K mw_197 M (mf_197 M) := by
  unfold mf_197
  exact mq_K_ite (fun hc => mq_K_B (mq_K_call mk_191 mq_kp_refl rfl) (fun _ M2 hM2 => mq_K_call mk_197_j21 (mq_kp_pi (mq_kp_pi hM2 rfl) rfl) rfl)) (fun _ => mq_K_call mk_197_j21 mq_kp_refl rfl)
-- 198: PlainPacksModel.number
def mw_198_b5 : List (Nat × Option Nat) := [(84, some 5), (84, some 7), (84, some 14), (84, some 15)]
theorem mk_198_b5 {v1 : Int32} {v2 : Int64} {v4 : Int32} {M : mm_M} : mq_K mw_198_b5 M (mf_198_b5 v1 v2 v4 M) := by
  unfold mf_198_b5
  exact mq_K_ite (fun hc => mq_K_ite (fun hc => mq_K_B (mq_K_call mk_197 mq_kp_refl rfl) (fun _ M2 hM2 => mq_K_ite (fun hc => mq_K_ret hM2) (fun _ => mq_K_ret hM2))) (fun _ => mq_K_ret mq_kp_refl)) (fun _ => mq_K_ret mq_kp_refl)
def mw_198_L5 : List (Nat × Option Nat) := [(84, some 5), (84, some 7), (84, some 14), (84, some 15)]
theorem mk_198_L5 {v1 : Int32} {s : Int64 × Int32} {M : mm_M} : mq_K mw_198_L5 M (mf_198_L5 v1 s M) := by
  unfold mf_198_L5
  exact mq_K_L (fun s M h => mq_K_call mk_198_b5 h rfl) mq_kp_refl
def mw_198 : List (Nat × Option Nat) := [(84, some 5), (84, some 7), (84, some 14), (84, some 15)]
theorem mk_198 {v1 : Int32} {M : mm_M} : mq_K mw_198 M (mf_198 v1 M) := by
  unfold mf_198
  exact mq_K_B (mq_K_call mk_198_L5 mq_kp_refl rfl) (fun _ M1 hM1 => mq_K_ret hM1)
-- 193: PlainPacksModel.low
def mw_193_b5 : List (Nat × Option Nat) := [(84, some 5), (84, some 7)]
theorem mk_193_b5 {v1 : Int32} {v2 : Int64} {v4 : Int32} {M : mm_M} : mq_K mw_193_b5 M (mf_193_b5 v1 v2 v4 M) := by
  unfold mf_193_b5
  exact mq_K_ite (fun hc => mq_K_B (mq_K_call mk_191 mq_kp_refl rfl) (fun _ M2 hM2 => mq_K_ret hM2)) (fun _ => mq_K_ret mq_kp_refl)
def mw_193_L5 : List (Nat × Option Nat) := [(84, some 5), (84, some 7)]
theorem mk_193_L5 {v1 : Int32} {s : Int64 × Int32} {M : mm_M} : mq_K mw_193_L5 M (mf_193_L5 v1 s M) := by
  unfold mf_193_L5
  exact mq_K_L (fun s M h => mq_K_call mk_193_b5 h rfl) mq_kp_refl
def mw_193 : List (Nat × Option Nat) := [(84, some 5), (84, some 7)]
theorem mk_193 {v1 : Int32} {M : mm_M} : mq_K mw_193 M (mf_193 v1 M) := by
  unfold mf_193
  exact mq_K_B (mq_K_call mk_193_L5 mq_kp_refl rfl) (fun _ M1 hM1 => mq_K_ret hM1)
-- 195: PlainPacksModel.pass
def mw_195_b2 : List (Nat × Option Nat) := [(84, some 4), (84, some 5), (84, some 7), (84, some 8), (86, none)]
theorem mk_195_b2 {v1 : Int64} {v3 : Int64} {M : mm_M} : mq_K mw_195_b2 M (mf_195_b2 v1 v3 M) := by
  unfold mf_195_b2
  exact mq_K_ite (fun hc => mq_K_ite (fun hc => mq_K_B (mq_K_call mk_191 mq_kp_refl rfl) (fun _ M2 hM2 => mq_K_ite (fun hc => mq_K_B (mq_K_call mk_194 hM2 rfl) (fun _ M4 hM4 => mq_K_ite (fun hc => mq_K_ret (mq_kp_pi hM4 rfl)) (fun _ => mq_K_ret (mq_kp_pi hM4 rfl)))) (fun _ => mq_K_ret (mq_kp_pi hM2 rfl)))) (fun _ => mq_K_ret mq_kp_refl)) (fun _ => mq_K_ret mq_kp_refl)
def mw_195_L2 : List (Nat × Option Nat) := [(84, some 4), (84, some 5), (84, some 7), (84, some 8), (86, none)]
theorem mk_195_L2 {v1 : Int64} {s : Int64} {M : mm_M} : mq_K mw_195_L2 M (mf_195_L2 v1 s M) := by
  unfold mf_195_L2
  exact mq_K_L (fun s M h => mq_K_call mk_195_b2 h rfl) mq_kp_refl
def mw_195 : List (Nat × Option Nat) := [(84, some 4), (84, some 5), (84, some 7), (84, some 8), (86, none)]
theorem mk_195 {v1 : Int64} {M : mm_M} : mq_K mw_195 M (mf_195 v1 M) := by
  unfold mf_195
  exact mq_K_B (mq_K_call mk_195_L2 mq_kp_refl rfl) (fun _ M1 hM1 => mq_K_ret hM1)
-- 204: PlainPacksModel.stored
def mw_204_j38 : List (Nat × Option Nat) := [(84, some 4), (84, some 5), (84, some 7), (84, some 8), (86, none)]
theorem mk_204_j38 {v1 : Int32} {M : mm_M} : mq_K mw_204_j38 M (mf_204_j38 v1 M) := by
  unfold mf_204_j38
  exact mq_K_B (mq_K_call mk_195 mq_kp_refl rfl) (fun _ M1 hM1 => mq_K_ret hM1)
def mw_204 : List (Nat × Option Nat) := [(84, some 4), (84, some 5), (84, some 7), (84, some 8), (84, some 15), (86, none)]
theorem mk_204 {M : mm_M} : mq_K mw_204 M (mf_204 M) := by
  unfold mf_204
  exact mq_K_B (mq_K_call mk_193 (mq_kp_pi mq_kp_refl rfl) rfl) (fun _ M2 hM2 => mq_K_B (mq_K_call mk_193 hM2 rfl) (fun _ M4 hM4 => mq_K_ite (fun hc => mq_K_ite (fun hc => mq_K_call mk_204_j38 hM4 rfl) (fun _ => mq_K_B (mq_K_call mk_190 hM4 rfl) (fun _ M5 hM5 => mq_K_call mk_204_j38 hM5 rfl))) (fun _ => mq_K_call mk_204_j38 hM4 rfl)))
-- 199: PlainPacksModel.assign
def mw_199_b19 : List (Nat × Option Nat) := [(88, none)]
theorem mk_199_b19 {v1 : Int32} {v2 : Int32} {v3 : Int32} {v4 : Int32} {v5 : Int32} {M : mm_M} : mq_K mw_199_b19 M (mf_199_b19 v1 v2 v3 v4 v5 M) := by
  unfold mf_199_b19
  exact mq_K_ite (fun hc => mq_K_ite (fun hc => mq_K_ite (fun hc => mq_K_ite (fun hc => mq_K_ret (mq_kp_pi mq_kp_refl rfl)) (fun _ => mq_K_none)) (fun _ => mq_K_ret mq_kp_refl)) (fun _ => mq_K_none)) (fun _ => mq_K_ret mq_kp_refl)
def mw_199_L19 : List (Nat × Option Nat) := [(88, none)]
theorem mk_199_L19 {v1 : Int32} {v2 : Int32} {v4 : Int32} {s : Int32 × Int32} {M : mm_M} : mq_K mw_199_L19 M (mf_199_L19 v1 v2 v4 s M) := by
  unfold mf_199_L19
  exact mq_K_L (fun s M h => mq_K_call mk_199_b19 h rfl) mq_kp_refl
def mw_199_b5 : List (Nat × Option Nat) := [(88, none)]
theorem mk_199_b5 {v1 : Int32} {v2 : Int32} {v3 : Int32} {v4 : Int32} {M : mm_M} : mq_K mw_199_b5 M (mf_199_b5 v1 v2 v3 v4 M) := by
  unfold mf_199_b5
  exact mq_K_ite (fun hc => mq_K_ret mq_kp_refl) (fun _ => mq_K_B (mq_K_call mk_199_L19 mq_kp_refl rfl) (fun _ M1 hM1 => mq_K_ret hM1))
def mw_199_L5 : List (Nat × Option Nat) := [(88, none)]
theorem mk_199_L5 {v1 : Int32} {v2 : Int32} {s : Int32 × Int32} {M : mm_M} : mq_K mw_199_L5 M (mf_199_L5 v1 v2 s M) := by
  unfold mf_199_L5
  exact mq_K_L (fun s M h => mq_K_call mk_199_b5 h rfl) mq_kp_refl
def mw_199 : List (Nat × Option Nat) := [(88, none)]
theorem mk_199 {v1 : Int32} {v2 : Int32} {M : mm_M} : mq_K mw_199 M (mf_199 v1 v2 M) := by
  unfold mf_199
  exact mq_K_B (mq_K_call mk_199_L5 mq_kp_refl rfl) (fun _ M1 hM1 => mq_K_ret hM1)
-- 205: PlainPacksModel.fixed
def mw_205_j65 : List (Nat × Option Nat) := [(87, none)]
theorem mk_205_j65 {v1 : Int32} {s1 : Int32} {s2 : Int32} {M : mm_M} : mq_K mw_205_j65 M (mf_205_j65 v1 s1 s2 M) := by
  unfold mf_205_j65
  exact mq_K_ite (fun hc => mq_K_ret (mq_kp_pi mq_kp_refl rfl)) (fun _ => mq_K_none)
def mw_205_b15 : List (Nat × Option Nat) := [(87, none)]
theorem mk_205_b15 {v1 : Int32} {M : mm_M} : mq_K mw_205_b15 M (mf_205_b15 v1 M) := by
  unfold mf_205_b15
  exact mq_K_ite (fun hc => mq_K_ite (fun hc => mq_K_call mk_205_j65 mq_kp_refl rfl) (fun _ => mq_K_ite (fun hc => mq_K_call mk_205_j65 mq_kp_refl rfl) (fun _ => mq_K_ite (fun hc => mq_K_call mk_205_j65 mq_kp_refl rfl) (fun _ => mq_K_call mk_205_j65 mq_kp_refl rfl)))) (fun _ => mq_K_ret mq_kp_refl)
def mw_205_L15 : List (Nat × Option Nat) := [(87, none)]
theorem mk_205_L15 {s : Int32} {M : mm_M} : mq_K mw_205_L15 M (mf_205_L15 s M) := by
  unfold mf_205_L15
  exact mq_K_L (fun s M h => mq_K_call mk_205_b15 h rfl) mq_kp_refl
def mw_205_b74 : List (Nat × Option Nat) := [(87, none)]
theorem mk_205_b74 {v1 : Int32} {M : mm_M} : mq_K mw_205_b74 M (mf_205_b74 v1 M) := by
  unfold mf_205_b74
  exact mq_K_ite (fun hc => mq_K_ite (fun hc => mq_K_ret (mq_kp_pi mq_kp_refl rfl)) (fun _ => mq_K_none)) (fun _ => mq_K_ret mq_kp_refl)
def mw_205_L74 : List (Nat × Option Nat) := [(87, none)]
theorem mk_205_L74 {s : Int32} {M : mm_M} : mq_K mw_205_L74 M (mf_205_L74 s M) := by
  unfold mf_205_L74
  exact mq_K_L (fun s M h => mq_K_call mk_205_b74 h rfl) mq_kp_refl
def mw_205_j97 : List (Nat × Option Nat) := [(88, none)]
theorem mk_205_j97 {M : mm_M} : mq_K mw_205_j97 M (mf_205_j97 M) := by
  unfold mf_205_j97
  exact mq_K_B (mq_K_call mk_199 mq_kp_refl rfl) (fun _ M1 hM1 => mq_K_B (mq_K_call mk_199 hM1 rfl) (fun _ M2 hM2 => mq_K_ret hM2))
def mw_205 : List (Nat × Option Nat) := [(84, some 20), (84, some 21), (87, none), (88, none)]
theorem mk_205 {M : mm_M} : mq_K mw_205 M (mf_205 M) := by
  unfold mf_205
  exact mq_K_B (mq_K_call mk_205_L15 (mq_kp_pi (mq_kp_pi mq_kp_refl rfl) rfl) rfl) (fun _ M1 hM1 => mq_K_B (mq_K_call mk_205_L74 hM1 rfl) (fun _ M4 hM4 => mq_K_call mk_205_j97 hM4 rfl))
-- 200: PlainPacksModel.taken
def mw_200_b9 : List (Nat × Option Nat) := []
theorem mk_200_b9 {v1 : Int32} {v2 : Int32} {v3 : Int64} {v5 : Int32} {M : mm_M} : mq_K mw_200_b9 M (mf_200_b9 v1 v2 v3 v5 M) := by
  unfold mf_200_b9
  exact mq_K_ite (fun hc => mq_K_ite (fun hc => mq_K_ite (fun hc => mq_K_ret mq_kp_refl) (fun _ => mq_K_ite (fun hc => mq_K_ret mq_kp_refl) (fun _ => mq_K_none))) (fun _ => mq_K_none)) (fun _ => mq_K_ret mq_kp_refl)
def mw_200_L9 : List (Nat × Option Nat) := []
theorem mk_200_L9 {v1 : Int32} {v2 : Int32} {s : Int64 × Int32} {M : mm_M} : mq_K mw_200_L9 M (mf_200_L9 v1 v2 s M) := by
  unfold mf_200_L9
  exact mq_K_L (fun s M h => mq_K_call mk_200_b9 h rfl) mq_kp_refl
def mw_200 : List (Nat × Option Nat) := []
theorem mk_200 {v1 : Int32} {v2 : Int32} {M : mm_M} : mq_K mw_200 M (mf_200 v1 v2 M) := by
  unfold mf_200
  exact mq_K_B (mq_K_call mk_200_L9 mq_kp_refl rfl) (fun _ M1 hM1 => mq_K_ret hM1)
-- 201: PlainPacksModel.isFit
def mw_201_j42 : List (Nat × Option Nat) := []
theorem mk_201_j42 {v1 : Int32} {v2 : Int32} {v3 : Int32} {v5 : Int32} {v6 : Int32} {s0 : Int32} {s1 : Int32} {M : mm_M} : mq_K mw_201_j42 M (mf_201_j42 v1 v2 v3 v5 v6 s0 s1 M) := by
  unfold mf_201_j42
  exact mq_K_ite (fun hc => mq_K_ite (fun hc => mq_K_ret mq_kp_refl) (fun _ => mq_K_ret mq_kp_refl)) (fun _ => mq_K_none)
def mw_201_b13 : List (Nat × Option Nat) := []
theorem mk_201_b13 {v1 : Int32} {v2 : Int32} {v3 : Int32} {v4 : Int32} {v5 : Int32} {v6 : Int32} {M : mm_M} : mq_K mw_201_b13 M (mf_201_b13 v1 v2 v3 v4 v5 v6 M) := by
  unfold mf_201_b13
  exact mq_K_ite (fun hc => mq_K_ite (fun hc => mq_K_ite (fun hc => mq_K_call mk_201_j42 mq_kp_refl rfl) (fun _ => mq_K_call mk_201_j42 mq_kp_refl rfl)) (fun _ => mq_K_none)) (fun _ => mq_K_ret mq_kp_refl)
def mw_201_L13 : List (Nat × Option Nat) := []
theorem mk_201_L13 {v1 : Int32} {v2 : Int32} {v3 : Int32} {s : Int32 × Int32 × Int32} {M : mm_M} : mq_K mw_201_L13 M (mf_201_L13 v1 v2 v3 s M) := by
  unfold mf_201_L13
  exact mq_K_L (fun s M h => mq_K_call mk_201_b13 h rfl) mq_kp_refl
def mw_201_j97 : List (Nat × Option Nat) := []
theorem mk_201_j97 {v3 : Int32} {v4 : Int32} {M : mm_M} : mq_K mw_201_j97 M (mf_201_j97 v3 v4 M) := by
  unfold mf_201_j97
  exact mq_K_ite (fun hc => mq_K_ret mq_kp_refl) (fun _ => mq_K_ite (fun hc => mq_K_ret mq_kp_refl) (fun _ => mq_K_ret mq_kp_refl))
def mw_201_j72 : List (Nat × Option Nat) := []
theorem mk_201_j72 {v1 : Int32} {v2 : Int32} {v3 : Int32} {v4 : Int32} {v5 : Int32} {M : mm_M} : mq_K mw_201_j72 M (mf_201_j72 v1 v2 v3 v4 v5 M) := by
  unfold mf_201_j72
  exact mq_K_B (mq_K_call mk_200 mq_kp_refl rfl) (fun _ M2 hM2 => mq_K_ite (fun hc => mq_K_ret hM2) (fun _ => mq_K_ite (fun hc => mq_K_ite (fun hc => mq_K_ret hM2) (fun _ => mq_K_call mk_201_j97 hM2 rfl)) (fun _ => mq_K_call mk_201_j97 hM2 rfl)))
def mw_201 : List (Nat × Option Nat) := []
theorem mk_201 {v1 : Int32} {v2 : Int32} {v3 : Int32} {M : mm_M} : mq_K mw_201 M (mf_201 v1 v2 v3 M) := by
  unfold mf_201
  exact mq_K_B (mq_K_call mk_201_L13 mq_kp_refl rfl) (fun _ M1 hM1 => mq_K_call mk_201_j72 hM1 rfl)
-- 202: PlainPacksModel.decode
def mw_202_b25 : List (Nat × Option Nat) := []
theorem mk_202_b25 {v2 : Int32} {v3 : Int32} {v4 : Int32} {v5 : Int32} {v6 : Int32} {v7 : Int32} {M : mm_M} : mq_K mw_202_b25 M (mf_202_b25 v2 v3 v4 v5 v6 v7 M) := by
  unfold mf_202_b25
  exact mq_K_ite (fun hc => mq_K_ite (fun hc => mq_K_ite (fun hc => mq_K_ite (fun hc => mq_K_ite (fun hc => mq_K_ite (fun hc => mq_K_ite (fun hc => mq_K_ret mq_kp_refl) (fun _ => mq_K_ret mq_kp_refl)) (fun _ => mq_K_none)) (fun _ => mq_K_none)) (fun _ => mq_K_ret mq_kp_refl)) (fun _ => mq_K_none)) (fun _ => mq_K_ret mq_kp_refl)) (fun _ => mq_K_ret mq_kp_refl)
def mw_202_L25 : List (Nat × Option Nat) := []
theorem mk_202_L25 {v2 : Int32} {v3 : Int32} {v4 : Int32} {v5 : Int32} {s : Int32 × Int32} {M : mm_M} : mq_K mw_202_L25 M (mf_202_L25 v2 v3 v4 v5 s M) := by
  unfold mf_202_L25
  exact mq_K_L (fun s M h => mq_K_call mk_202_b25 h rfl) mq_kp_refl
def mw_202_b114 : List (Nat × Option Nat) := []
theorem mk_202_b114 {v2 : Int32} {v3 : Int32} {v4 : Int32} {v5 : Int32} {v7 : Int32} {M : mm_M} : mq_K mw_202_b114 M (mf_202_b114 v2 v3 v4 v5 v7 M) := by
  unfold mf_202_b114
  exact mq_K_ite (fun hc => mq_K_ite (fun hc => mq_K_ite (fun hc => mq_K_ite (fun hc => mq_K_ite (fun hc => mq_K_ite (fun hc => mq_K_ret mq_kp_refl) (fun _ => mq_K_ret mq_kp_refl)) (fun _ => mq_K_none)) (fun _ => mq_K_ret mq_kp_refl)) (fun _ => mq_K_none)) (fun _ => mq_K_ret mq_kp_refl)) (fun _ => mq_K_ret mq_kp_refl)
def mw_202_L114 : List (Nat × Option Nat) := []
theorem mk_202_L114 {v2 : Int32} {v3 : Int32} {v4 : Int32} {v5 : Int32} {s : Int32} {M : mm_M} : mq_K mw_202_L114 M (mf_202_L114 v2 v3 v4 v5 s M) := by
  unfold mf_202_L114
  exact mq_K_L (fun s M h => mq_K_call mk_202_b114 h rfl) mq_kp_refl
def mw_202_j86 : List (Nat × Option Nat) := [(84, some 5), (84, some 7), (84, some 14), (84, some 15)]
theorem mk_202_j86 {v2 : Int32} {v3 : Int32} {v4 : Int32} {v5 : Int32} {v6 : Int32} {M : mm_M} : mq_K mw_202_j86 M (mf_202_j86 v2 v3 v4 v5 v6 M) := by
  unfold mf_202_j86
  exact mq_K_ite (fun hc => mq_K_ret mq_kp_refl) (fun _ => mq_K_B (mq_K_call mk_197 mq_kp_refl rfl) (fun _ M2 hM2 => mq_K_B (mq_K_call mk_202_L114 hM2 rfl) (fun _ M3 hM3 => mq_K_sm (fun _ => mq_K_ret hM3) (fun _ => mq_K_ret hM3))))
def mw_202_b12 : List (Nat × Option Nat) := [(84, some 5), (84, some 7), (84, some 14), (84, some 15)]
theorem mk_202_b12 {v2 : Int32} {v3 : Int32} {v4 : Int32} {v5 : Int32} {M : mm_M} : mq_K mw_202_b12 M (mf_202_b12 v2 v3 v4 v5 M) := by
  unfold mf_202_b12
  exact mq_K_ite (fun hc => mq_K_B (mq_K_call mk_202_L25 mq_kp_refl rfl) (fun _ M1 hM1 => mq_K_call mk_202_j86 hM1 rfl)) (fun _ => mq_K_ret mq_kp_refl)
def mw_202_L12 : List (Nat × Option Nat) := [(84, some 5), (84, some 7), (84, some 14), (84, some 15)]
theorem mk_202_L12 {v2 : Int32} {v3 : Int32} {s : Int32 × Int32} {M : mm_M} : mq_K mw_202_L12 M (mf_202_L12 v2 v3 s M) := by
  unfold mf_202_L12
  exact mq_K_L (fun s M h => mq_K_call mk_202_b12 h rfl) mq_kp_refl
def mw_202_j91 : List (Nat × Option Nat) := [(84, some 7)]
theorem mk_202_j91 {M : mm_M} : mq_K mw_202_j91 M (mf_202_j91 M) := by
  unfold mf_202_j91
  exact mq_K_B (mq_K_call mk_190 mq_kp_refl rfl) (fun _ M1 hM1 => mq_K_ret hM1)
def mw_202 : List (Nat × Option Nat) := [(84, some 5), (84, some 7), (84, some 14), (84, some 15)]
theorem mk_202 {v1 : Int32} {v2 : Int32} {M : mm_M} : mq_K mw_202 M (mf_202 v1 v2 M) := by
  unfold mf_202
  exact mq_K_B (mq_K_call mk_202_L12 mq_kp_refl rfl) (fun _ M1 hM1 => mq_K_sm (fun _ => mq_K_call mk_202_j91 hM1 rfl) (fun _ => mq_K_sm (fun _ => mq_K_ret hM1) (fun _ => mq_K_ret hM1)))
-- 207: PlainPacksModel.rowOf
def mw_207_b150 : List (Nat × Option Nat) := [(90, none)]
theorem mk_207_b150 {v1 : Int32} {v2 : Int32} {v4 : Int32} {v5 : Int32} {v6 : Int32} {M : mm_M} : mq_K mw_207_b150 M (mf_207_b150 v1 v2 v4 v5 v6 M) := by
  unfold mf_207_b150
  exact mq_K_ite (fun hc => mq_K_ite (fun hc => mq_K_ite (fun hc => mq_K_ret (mq_kp_pi mq_kp_refl rfl)) (fun _ => mq_K_none)) (fun _ => mq_K_ret mq_kp_refl)) (fun _ => mq_K_ret mq_kp_refl)
def mw_207_L150 : List (Nat × Option Nat) := [(90, none)]
theorem mk_207_L150 {v1 : Int32} {v4 : Int32} {v5 : Int32} {s : Int32 × Int32} {M : mm_M} : mq_K mw_207_L150 M (mf_207_L150 v1 v4 v5 s M) := by
  unfold mf_207_L150
  exact mq_K_L (fun s M h => mq_K_call mk_207_b150 h rfl) mq_kp_refl
def mw_207_j128 : List (Nat × Option Nat) := [(84, some 7), (90, none)]
theorem mk_207_j128 {v1 : Int32} {v2 : Int32} {v4 : Int32} {v5 : Int32} {M : mm_M} : mq_K mw_207_j128 M (mf_207_j128 v1 v2 v4 v5 M) := by
  unfold mf_207_j128
  exact mq_K_ite (fun hc => mq_K_ite (fun hc => mq_K_B (mq_K_call mk_190 mq_kp_refl rfl) (fun _ M1 hM1 => mq_K_B (mq_K_call mk_207_L150 hM1 rfl) (fun _ M2 hM2 => mq_K_ret hM2))) (fun _ => mq_K_B (mq_K_call mk_207_L150 mq_kp_refl rfl) (fun _ M8 hM8 => mq_K_ret hM8))) (fun _ => mq_K_B (mq_K_call mk_207_L150 mq_kp_refl rfl) (fun _ M14 hM14 => mq_K_ret hM14))
def mw_207_j126 : List (Nat × Option Nat) := [(84, some 7), (90, none)]
theorem mk_207_j126 {v1 : Int32} {v2 : Int32} {v5 : Int32} {s0 : Int32} {M : mm_M} : mq_K mw_207_j126 M (mf_207_j126 v1 v2 v5 s0 M) := by
  unfold mf_207_j126
  exact mq_K_call mk_207_j128 mq_kp_refl rfl
def mw_207_j80 : List (Nat × Option Nat) := [(84, some 5), (84, some 7), (84, some 14), (84, some 15), (90, none)]
theorem mk_207_j80 {v1 : Int32} {v2 : Int32} {v3 : Int32} {s0 : Int32} {M : mm_M} : mq_K mw_207_j80 M (mf_207_j80 v1 v2 v3 s0 M) := by
  unfold mf_207_j80
  exact mq_K_ite (fun hc => mq_K_B (mq_K_call mk_198 mq_kp_refl rfl) (fun _ M2 hM2 => mq_K_call mk_207_j126 hM2 rfl)) (fun _ => mq_K_ite (fun hc => mq_K_B (mq_K_call mk_198 mq_kp_refl rfl) (fun _ M4 hM4 => mq_K_call mk_207_j126 hM4 rfl)) (fun _ => mq_K_B (mq_K_call mk_198 mq_kp_refl rfl) (fun _ M6 hM6 => mq_K_call mk_207_j126 hM6 rfl)))
def mw_207_j49 : List (Nat × Option Nat) := [(84, some 5), (84, some 7), (84, some 14), (84, some 15), (90, none)]
theorem mk_207_j49 {v1 : Int32} {v2 : Int32} {v3 : Int32} {v4 : Int32} {v5 : Int32} {M : mm_M} : mq_K mw_207_j49 M (mf_207_j49 v1 v2 v3 v4 v5 M) := by
  unfold mf_207_j49
  exact mq_K_ite (fun hc => mq_K_ite (fun hc => mq_K_ite (fun hc => mq_K_ite (fun hc => mq_K_call mk_207_j80 mq_kp_refl rfl) (fun _ => mq_K_none)) (fun _ => mq_K_call mk_207_j80 mq_kp_refl rfl)) (fun _ => mq_K_call mk_207_j128 mq_kp_refl rfl)) (fun _ => mq_K_call mk_207_j128 mq_kp_refl rfl)
def mw_207_b2 : List (Nat × Option Nat) := [(84, some 5), (84, some 7), (84, some 14), (84, some 15), (90, none)]
theorem mk_207_b2 {v1 : Int32} {v2 : Int32} {M : mm_M} : mq_K mw_207_b2 M (mf_207_b2 v1 v2 M) := by
  unfold mf_207_b2
  exact mq_K_ite (fun hc => mq_K_ite (fun hc => mq_K_B (mq_K_call mk_202 mq_kp_refl rfl) (fun _ M2 hM2 => mq_K_ite (fun hc => mq_K_ite (fun hc => mq_K_ite (fun hc => mq_K_B (mq_K_call mk_190 hM2 rfl) (fun _ M3 hM3 => mq_K_call mk_207_j49 hM3 rfl)) (fun _ => mq_K_call mk_207_j49 hM2 rfl)) (fun _ => mq_K_call mk_207_j49 hM2 rfl)) (fun _ => mq_K_call mk_207_j49 hM2 rfl))) (fun _ => mq_K_ret mq_kp_refl)) (fun _ => mq_K_ret mq_kp_refl)
def mw_207_L2 : List (Nat × Option Nat) := [(84, some 5), (84, some 7), (84, some 14), (84, some 15), (90, none)]
theorem mk_207_L2 {v1 : Int32} {s : Int32} {M : mm_M} : mq_K mw_207_L2 M (mf_207_L2 v1 s M) := by
  unfold mf_207_L2
  exact mq_K_L (fun s M h => mq_K_call mk_207_b2 h rfl) mq_kp_refl
def mw_207 : List (Nat × Option Nat) := [(84, some 5), (84, some 7), (84, some 14), (84, some 15), (90, none)]
theorem mk_207 {v1 : Int32} {M : mm_M} : mq_K mw_207 M (mf_207 v1 M) := by
  unfold mf_207
  exact mq_K_B (mq_K_call mk_207_L2 mq_kp_refl rfl) (fun _ M1 hM1 => mq_K_ret hM1)
-- 206: PlainPacksModel.dynamic
def mw_206_j113 : List (Nat × Option Nat) := [(87, none)]
theorem mk_206_j113 {v1 : Int32} {v2 : Int32} {s1 : Int32} {s2 : Int32} {M : mm_M} : mq_K mw_206_j113 M (mf_206_j113 v1 v2 s1 s2 M) := by
  unfold mf_206_j113
  exact mq_K_ite (fun hc => mq_K_ret (mq_kp_pi mq_kp_refl rfl)) (fun _ => mq_K_none)
def mw_206_b78 : List (Nat × Option Nat) := [(84, some 5), (84, some 7), (84, some 14), (84, some 15), (87, none)]
theorem mk_206_b78 {v1 : Int32} {v2 : Int32} {M : mm_M} : mq_K mw_206_b78 M (mf_206_b78 v1 v2 M) := by
  unfold mf_206_b78
  exact mq_K_ite (fun hc => mq_K_ite (fun hc => mq_K_ite (fun hc => mq_K_B (mq_K_call mk_198 mq_kp_refl rfl) (fun _ M2 hM2 => mq_K_call mk_206_j113 hM2 rfl)) (fun _ => mq_K_call mk_206_j113 mq_kp_refl rfl)) (fun _ => mq_K_none)) (fun _ => mq_K_ret mq_kp_refl)
def mw_206_L78 : List (Nat × Option Nat) := [(84, some 5), (84, some 7), (84, some 14), (84, some 15), (87, none)]
theorem mk_206_L78 {v1 : Int32} {s : Int32} {M : mm_M} : mq_K mw_206_L78 M (mf_206_L78 v1 s M) := by
  unfold mf_206_L78
  exact mq_K_L (fun s M h => mq_K_call mk_206_b78 h rfl) mq_kp_refl
def mw_206_b172 : List (Nat × Option Nat) := [(87, none)]
theorem mk_206_b172 {v2 : Int32} {M : mm_M} : mq_K mw_206_b172 M (mf_206_b172 v2 M) := by
  unfold mf_206_b172
  exact mq_K_ite (fun hc => mq_K_ite (fun hc => mq_K_ite (fun hc => mq_K_ret (mq_kp_pi mq_kp_refl rfl)) (fun _ => mq_K_none)) (fun _ => mq_K_none)) (fun _ => mq_K_ret mq_kp_refl)
def mw_206_L172 : List (Nat × Option Nat) := [(87, none)]
theorem mk_206_L172 {s : Int32} {M : mm_M} : mq_K mw_206_L172 M (mf_206_L172 s M) := by
  unfold mf_206_L172
  exact mq_K_L (fun s M h => mq_K_call mk_206_b172 h rfl) mq_kp_refl
def mw_206_b200 : List (Nat × Option Nat) := [(87, none)]
theorem mk_206_b200 {v2 : Int32} {M : mm_M} : mq_K mw_206_b200 M (mf_206_b200 v2 M) := by
  unfold mf_206_b200
  exact mq_K_ite (fun hc => mq_K_ite (fun hc => mq_K_ite (fun hc => mq_K_ret (mq_kp_pi mq_kp_refl rfl)) (fun _ => mq_K_none)) (fun _ => mq_K_none)) (fun _ => mq_K_ret mq_kp_refl)
def mw_206_L200 : List (Nat × Option Nat) := [(87, none)]
theorem mk_206_L200 {s : Int32} {M : mm_M} : mq_K mw_206_L200 M (mf_206_L200 s M) := by
  unfold mf_206_L200
  exact mq_K_L (fun s M h => mq_K_call mk_206_b200 h rfl) mq_kp_refl
def mw_206_j276 : List (Nat × Option Nat) := [(88, none)]
theorem mk_206_j276 {M : mm_M} : mq_K mw_206_j276 M (mf_206_j276 M) := by
  unfold mf_206_j276
  exact mq_K_B (mq_K_call mk_199 mq_kp_refl rfl) (fun _ M1 hM1 => mq_K_B (mq_K_call mk_199 hM1 rfl) (fun _ M2 hM2 => mq_K_ret hM2))
def mw_206_j272 : List (Nat × Option Nat) := [(84, some 7), (88, none)]
theorem mk_206_j272 {M : mm_M} : mq_K mw_206_j272 M (mf_206_j272 M) := by
  unfold mf_206_j272
  exact mq_K_B (mq_K_call mk_190 mq_kp_refl rfl) (fun _ M1 hM1 => mq_K_call mk_206_j276 hM1 rfl)
def mw_206_j235 : List (Nat × Option Nat) := [(84, some 7), (88, none)]
theorem mk_206_j235 {M : mm_M} : mq_K mw_206_j235 M (mf_206_j235 M) := by
  unfold mf_206_j235
  exact mq_K_ite (fun hc => mq_K_ite (fun hc => mq_K_call mk_206_j272 mq_kp_refl rfl) (fun _ => mq_K_B (mq_K_call mk_201 mq_kp_refl rfl) (fun _ M2 hM2 => mq_K_ite (fun hc => mq_K_call mk_206_j272 hM2 rfl) (fun _ => mq_K_B (mq_K_call mk_201 hM2 rfl) (fun _ M4 hM4 => mq_K_ite (fun hc => mq_K_call mk_206_j272 hM4 rfl) (fun _ => mq_K_call mk_206_j276 hM4 rfl)))))) (fun _ => mq_K_none)
def mw_206_j142 : List (Nat × Option Nat) := [(84, some 5), (84, some 7), (84, some 14), (84, some 15), (87, none), (88, none), (90, none)]
theorem mk_206_j142 {M : mm_M} : mq_K mw_206_j142 M (mf_206_j142 M) := by
  unfold mf_206_j142
  exact mq_K_B (mq_K_call mk_199 mq_kp_refl rfl) (fun _ M1 hM1 => mq_K_B (mq_K_call mk_207 hM1 rfl) (fun _ M2 hM2 => mq_K_ite (fun hc => mq_K_B (mq_K_call mk_206_L172 hM2 rfl) (fun _ M3 hM3 => mq_K_B (mq_K_call mk_206_L200 hM3 rfl) (fun _ M7 hM7 => mq_K_call mk_206_j235 hM7 rfl))) (fun _ => mq_K_ret hM2)))
def mw_206_j120 : List (Nat × Option Nat) := [(84, some 5), (84, some 7), (84, some 14), (84, some 15), (87, none), (88, none), (90, none)]
theorem mk_206_j120 {M : mm_M} : mq_K mw_206_j120 M (mf_206_j120 M) := by
  unfold mf_206_j120
  exact mq_K_ite (fun hc => mq_K_B (mq_K_call mk_201 mq_kp_refl rfl) (fun _ M2 hM2 => mq_K_ite (fun hc => mq_K_B (mq_K_call mk_190 hM2 rfl) (fun _ M3 hM3 => mq_K_call mk_206_j142 hM3 rfl)) (fun _ => mq_K_call mk_206_j142 hM2 rfl))) (fun _ => mq_K_call mk_206_j142 mq_kp_refl rfl)
def mw_206_j67 : List (Nat × Option Nat) := [(84, some 5), (84, some 7), (84, some 14), (84, some 15), (87, none), (88, none), (90, none)]
theorem mk_206_j67 {M : mm_M} : mq_K mw_206_j67 M (mf_206_j67 M) := by
  unfold mf_206_j67
  exact mq_K_B (mq_K_call mk_198 mq_kp_refl rfl) (fun _ M2 hM2 => mq_K_B (mq_K_call mk_206_L78 hM2 rfl) (fun _ M3 hM3 => mq_K_call mk_206_j120 hM3 rfl))
def mw_206_j35 : List (Nat × Option Nat) := [(84, some 5), (84, some 7), (84, some 14), (84, some 15), (84, some 21), (87, none), (88, none), (90, none)]
theorem mk_206_j35 {M : mm_M} : mq_K mw_206_j35 M (mf_206_j35 M) := by
  unfold mf_206_j35
  exact mq_K_B (mq_K_call mk_198 mq_kp_refl rfl) (fun _ M2 hM2 => mq_K_ite (fun hc => mq_K_ite (fun hc => mq_K_B (mq_K_call mk_190 (mq_kp_pi hM2 rfl) rfl) (fun _ M3 hM3 => mq_K_call mk_206_j67 hM3 rfl)) (fun _ => mq_K_call mk_206_j67 (mq_kp_pi hM2 rfl) rfl)) (fun _ => mq_K_call mk_206_j67 (mq_kp_pi hM2 rfl) rfl))
def mw_206 : List (Nat × Option Nat) := [(84, some 5), (84, some 7), (84, some 14), (84, some 15), (84, some 20), (84, some 21), (87, none), (88, none), (90, none)]
theorem mk_206 {M : mm_M} : mq_K mw_206 M (mf_206 M) := by
  unfold mf_206
  exact mq_K_B (mq_K_call mk_198 mq_kp_refl rfl) (fun _ M2 hM2 => mq_K_ite (fun hc => mq_K_ite (fun hc => mq_K_B (mq_K_call mk_190 (mq_kp_pi hM2 rfl) rfl) (fun _ M3 hM3 => mq_K_call mk_206_j35 hM3 rfl)) (fun _ => mq_K_call mk_206_j35 (mq_kp_pi hM2 rfl) rfl)) (fun _ => mq_K_call mk_206_j35 (mq_kp_pi hM2 rfl) rfl))
-- 196: PlainPacksModel.copy
def mw_196_b97 : List (Nat × Option Nat) := [(84, some 4), (84, some 7), (86, none)]
theorem mk_196_b97 {v1 : Int32} {v5 : Int32} {v6 : Int32} {M : mm_M} : mq_K mw_196_b97 M (mf_196_b97 v1 v5 v6 M) := by
  unfold mf_196_b97
  exact mq_K_ite (fun hc => mq_K_ite (fun hc => mq_K_ite (fun hc => mq_K_B (mq_K_call mk_194 mq_kp_refl rfl) (fun _ M2 hM2 => mq_K_ret hM2)) (fun _ => mq_K_none)) (fun _ => mq_K_ret mq_kp_refl)) (fun _ => mq_K_ret mq_kp_refl)
def mw_196_L97 : List (Nat × Option Nat) := [(84, some 4), (84, some 7), (86, none)]
theorem mk_196_L97 {v1 : Int32} {v5 : Int32} {s : Int32} {M : mm_M} : mq_K mw_196_L97 M (mf_196_L97 v1 v5 s M) := by
  unfold mf_196_L97
  exact mq_K_L (fun s M h => mq_K_call mk_196_b97 h rfl) mq_kp_refl
def mw_196_j69 : List (Nat × Option Nat) := [(84, some 4), (84, some 7), (84, some 10), (84, some 11), (86, none)]
theorem mk_196_j69 {v1 : Int32} {v5 : Int32} {s1 : Int32} {M : mm_M} : mq_K mw_196_j69 M (mf_196_j69 v1 v5 s1 M) := by
  unfold mf_196_j69
  exact mq_K_ite (fun hc => mq_K_B (mq_K_call mk_196_L97 (mq_kp_pi (mq_kp_pi mq_kp_refl rfl) rfl) rfl) (fun _ M1 hM1 => mq_K_ret hM1)) (fun _ => mq_K_B (mq_K_call mk_196_L97 (mq_kp_pi (mq_kp_pi mq_kp_refl rfl) rfl) rfl) (fun _ M10 hM10 => mq_K_ret hM10))
def mw_196_j30 : List (Nat × Option Nat) := [(84, some 4), (84, some 7), (84, some 9), (84, some 10), (84, some 11), (86, none)]
theorem mk_196_j30 {v1 : Int32} {v2 : Int64} {M : mm_M} : mq_K mw_196_j30 M (mf_196_j30 v1 v2 M) := by
  unfold mf_196_j30
  exact mq_K_ite (fun hc => mq_K_ite (fun hc => mq_K_call mk_196_j69 (mq_kp_pi mq_kp_refl rfl) rfl) (fun _ => mq_K_call mk_196_j69 (mq_kp_pi mq_kp_refl rfl) rfl)) (fun _ => mq_K_ret mq_kp_refl)
def mw_196_j26 : List (Nat × Option Nat) := [(84, some 4), (84, some 7), (84, some 9), (84, some 10), (84, some 11), (86, none)]
theorem mk_196_j26 {v1 : Int32} {v2 : Int64} {M : mm_M} : mq_K mw_196_j26 M (mf_196_j26 v1 v2 M) := by
  unfold mf_196_j26
  exact mq_K_B (mq_K_call mk_190 mq_kp_refl rfl) (fun _ M1 hM1 => mq_K_call mk_196_j30 hM1 rfl)
def mw_196 : List (Nat × Option Nat) := [(84, some 4), (84, some 7), (84, some 9), (84, some 10), (84, some 11), (86, none)]
theorem mk_196 {v1 : Int32} {v2 : Int64} {v4 : Int32} {M : mm_M} : mq_K mw_196 M (mf_196 v1 v2 v4 M) := by
  unfold mf_196
  exact mq_K_ite (fun hc => mq_K_ite (fun hc => mq_K_call mk_196_j26 mq_kp_refl rfl) (fun _ => mq_K_ite (fun hc => mq_K_call mk_196_j26 mq_kp_refl rfl) (fun _ => mq_K_call mk_196_j30 mq_kp_refl rfl))) (fun _ => mq_K_call mk_196_j30 mq_kp_refl rfl)
-- 209: PlainPacksModel.distanceTo
def mw_209_j103 : List (Nat × Option Nat) := [(84, some 4), (84, some 7), (84, some 9), (84, some 10), (84, some 11), (86, none)]
theorem mk_209_j103 {v1 : Int32} {v5 : Int32} {M : mm_M} : mq_K mw_209_j103 M (mf_209_j103 v1 v5 M) := by
  unfold mf_209_j103
  exact mq_K_B (mq_K_call mk_196 mq_kp_refl rfl) (fun _ M1 hM1 => mq_K_ret hM1)
def mw_209_j72 : List (Nat × Option Nat) := [(84, some 4), (84, some 5), (84, some 7), (84, some 9), (84, some 10), (84, some 11), (84, some 14), (84, some 15), (86, none)]
theorem mk_209_j72 {v1 : Int32} {v2 : Int32} {v4 : Int32} {s0 : Int32} {M : mm_M} : mq_K mw_209_j72 M (mf_209_j72 v1 v2 v4 s0 M) := by
  unfold mf_209_j72
  exact mq_K_B (mq_K_call mk_198 mq_kp_refl rfl) (fun _ M2 hM2 => mq_K_ite (fun hc => mq_K_ite (fun hc => mq_K_B (mq_K_call mk_190 hM2 rfl) (fun _ M3 hM3 => mq_K_call mk_209_j103 hM3 rfl)) (fun _ => mq_K_call mk_209_j103 hM2 rfl)) (fun _ => mq_K_call mk_209_j103 hM2 rfl))
def mw_209_j49 : List (Nat × Option Nat) := [(84, some 4), (84, some 5), (84, some 7), (84, some 9), (84, some 10), (84, some 11), (84, some 14), (84, some 15), (86, none)]
theorem mk_209_j49 {v1 : Int32} {v2 : Int32} {v3 : Int32} {s0 : Int32} {M : mm_M} : mq_K mw_209_j49 M (mf_209_j49 v1 v2 v3 s0 M) := by
  unfold mf_209_j49
  exact mq_K_ite (fun hc => mq_K_call mk_209_j72 mq_kp_refl rfl) (fun _ => mq_K_call mk_209_j72 mq_kp_refl rfl)
def mw_209_j27 : List (Nat × Option Nat) := [(84, some 4), (84, some 5), (84, some 7), (84, some 9), (84, some 10), (84, some 11), (84, some 14), (84, some 15), (86, none)]
theorem mk_209_j27 {v1 : Int32} {v2 : Int32} {v3 : Int32} {M : mm_M} : mq_K mw_209_j27 M (mf_209_j27 v1 v2 v3 M) := by
  unfold mf_209_j27
  exact mq_K_ite (fun hc => mq_K_ite (fun hc => mq_K_call mk_209_j49 mq_kp_refl rfl) (fun _ => mq_K_call mk_209_j49 mq_kp_refl rfl)) (fun _ => mq_K_ret mq_kp_refl)
def mw_209 : List (Nat × Option Nat) := [(84, some 4), (84, some 5), (84, some 7), (84, some 9), (84, some 10), (84, some 11), (84, some 14), (84, some 15), (86, none)]
theorem mk_209 {v1 : Int32} {v2 : Int32} {M : mm_M} : mq_K mw_209 M (mf_209 v1 v2 M) := by
  unfold mf_209
  exact mq_K_B (mq_K_call mk_202 mq_kp_refl rfl) (fun _ M2 hM2 => mq_K_ite (fun hc => mq_K_ite (fun hc => mq_K_B (mq_K_call mk_190 hM2 rfl) (fun _ M3 hM3 => mq_K_call mk_209_j27 hM3 rfl)) (fun _ => mq_K_call mk_209_j27 hM2 rfl)) (fun _ => mq_K_call mk_209_j27 hM2 rfl))
-- 208: PlainPacksModel.lettersTo
def mw_208_j158 : List (Nat × Option Nat) := [(84, some 4), (84, some 5), (84, some 7), (84, some 9), (84, some 10), (84, some 11), (84, some 14), (84, some 15), (86, none)]
theorem mk_208_j158 {v1 : Int32} {v2 : Int32} {v4 : Int32} {s0 : Int32} {M : mm_M} : mq_K mw_208_j158 M (mf_208_j158 v1 v2 v4 s0 M) := by
  unfold mf_208_j158
  exact mq_K_B (mq_K_call mk_198 mq_kp_refl rfl) (fun _ M2 hM2 => mq_K_B (mq_K_call mk_209 hM2 rfl) (fun _ M3 hM3 => mq_K_ret hM3))
def mw_208_j114 : List (Nat × Option Nat) := [(84, some 4), (84, some 5), (84, some 7), (84, some 9), (84, some 10), (84, some 11), (84, some 14), (84, some 15), (86, none)]
theorem mk_208_j114 {v1 : Int32} {v2 : Int32} {v3 : Int32} {s0 : Int32} {M : mm_M} : mq_K mw_208_j114 M (mf_208_j114 v1 v2 v3 s0 M) := by
  unfold mf_208_j114
  exact mq_K_ite (fun hc => mq_K_call mk_208_j158 mq_kp_refl rfl) (fun _ => mq_K_ite (fun hc => mq_K_call mk_208_j158 mq_kp_refl rfl) (fun _ => mq_K_call mk_208_j158 mq_kp_refl rfl))
def mw_208_b2 : List (Nat × Option Nat) := [(84, some 4), (84, some 5), (84, some 7), (84, some 8), (84, some 9), (84, some 10), (84, some 11), (84, some 14), (84, some 15), (86, none)]
theorem mk_208_b2 {v1 : Int32} {v2 : Int32} {M : mm_M} : mq_K mw_208_b2 M (mf_208_b2 v1 v2 M) := by
  unfold mf_208_b2
  exact mq_K_ite (fun hc => mq_K_ret mq_kp_refl) (fun _ => mq_K_ite (fun hc => mq_K_B (mq_K_call mk_202 mq_kp_refl rfl) (fun _ M2 hM2 => mq_K_ite (fun hc => mq_K_ite (fun hc => mq_K_B (mq_K_call mk_194 hM2 rfl) (fun _ M4 hM4 => mq_K_ite (fun hc => mq_K_ret (mq_kp_pi hM4 rfl)) (fun _ => mq_K_ret (mq_kp_pi hM4 rfl)))) (fun _ => mq_K_ite (fun hc => mq_K_ret hM2) (fun _ => mq_K_ite (fun hc => mq_K_B (mq_K_call mk_190 hM2 rfl) (fun _ M5 hM5 => mq_K_ret hM5)) (fun _ => mq_K_ite (fun hc => mq_K_call mk_208_j114 hM2 rfl) (fun _ => mq_K_ite (fun hc => mq_K_call mk_208_j114 hM2 rfl) (fun _ => mq_K_call mk_208_j114 hM2 rfl)))))) (fun _ => mq_K_ret hM2))) (fun _ => mq_K_ret mq_kp_refl))
def mw_208_L2 : List (Nat × Option Nat) := [(84, some 4), (84, some 5), (84, some 7), (84, some 8), (84, some 9), (84, some 10), (84, some 11), (84, some 14), (84, some 15), (86, none)]
theorem mk_208_L2 {v1 : Int32} {s : Int32} {M : mm_M} : mq_K mw_208_L2 M (mf_208_L2 v1 s M) := by
  unfold mf_208_L2
  exact mq_K_L (fun s M h => mq_K_call mk_208_b2 h rfl) mq_kp_refl
def mw_208 : List (Nat × Option Nat) := [(84, some 4), (84, some 5), (84, some 7), (84, some 8), (84, some 9), (84, some 10), (84, some 11), (84, some 14), (84, some 15), (86, none)]
theorem mk_208 {v1 : Int32} {M : mm_M} : mq_K mw_208 M (mf_208 v1 M) := by
  unfold mf_208
  exact mq_K_B (mq_K_call mk_208_L2 mq_kp_refl rfl) (fun _ M1 hM1 => mq_K_sm (fun _ => mq_K_ret hM1) (fun _ => mq_K_ret hM1))
-- 203: PlainPacksModel.blocksTo
def mw_203_j107 : List (Nat × Option Nat) := [(84, some 4), (84, some 5), (84, some 7), (84, some 8), (84, some 9), (84, some 10), (84, some 11), (84, some 14), (84, some 15), (86, none)]
theorem mk_203_j107 {v1 : Int32} {v2 : Int32} {M : mm_M} : mq_K mw_203_j107 M (mf_203_j107 v1 v2 M) := by
  unfold mf_203_j107
  exact mq_K_B (mq_K_call mk_208 mq_kp_refl rfl) (fun _ M1 hM1 => mq_K_ret hM1)
def mw_203_j62 : List (Nat × Option Nat) := [(84, some 4), (84, some 5), (84, some 7), (84, some 8), (84, some 9), (84, some 10), (84, some 11), (84, some 12), (84, some 14), (84, some 15), (84, some 20), (84, some 21), (86, none), (87, none), (88, none), (90, none)]
theorem mk_203_j62 {v1 : Int32} {v2 : Int32} {v3 : Int32} {M : mm_M} : mq_K mw_203_j62 M (mf_203_j62 v1 v2 v3 M) := by
  unfold mf_203_j62
  exact mq_K_ite (fun hc => mq_K_ite (fun hc => mq_K_B (mq_K_call mk_204 (mq_kp_pi mq_kp_refl rfl) rfl) (fun _ M1 hM1 => mq_K_ret hM1)) (fun _ => mq_K_ite (fun hc => mq_K_B (mq_K_call mk_205 (mq_kp_pi mq_kp_refl rfl) rfl) (fun _ M2 hM2 => mq_K_call mk_203_j107 hM2 rfl)) (fun _ => mq_K_B (mq_K_call mk_206 (mq_kp_pi mq_kp_refl rfl) rfl) (fun _ M3 hM3 => mq_K_call mk_203_j107 hM3 rfl)))) (fun _ => mq_K_ret mq_kp_refl)
def mw_203_j38 : List (Nat × Option Nat) := [(84, some 4), (84, some 5), (84, some 7), (84, some 8), (84, some 9), (84, some 10), (84, some 11), (84, some 12), (84, some 14), (84, some 15), (84, some 20), (84, some 21), (86, none), (87, none), (88, none), (90, none)]
theorem mk_203_j38 {v1 : Int32} {s0 : Int32} {M : mm_M} : mq_K mw_203_j38 M (mf_203_j38 v1 s0 M) := by
  unfold mf_203_j38
  exact mq_K_B (mq_K_call mk_198 mq_kp_refl rfl) (fun _ M2 hM2 => mq_K_ite (fun hc => mq_K_ite (fun hc => mq_K_B (mq_K_call mk_190 hM2 rfl) (fun _ M3 hM3 => mq_K_call mk_203_j62 hM3 rfl)) (fun _ => mq_K_call mk_203_j62 hM2 rfl)) (fun _ => mq_K_call mk_203_j62 hM2 rfl))
def mw_203_b12 : List (Nat × Option Nat) := [(84, some 4), (84, some 5), (84, some 7), (84, some 8), (84, some 9), (84, some 10), (84, some 11), (84, some 12), (84, some 14), (84, some 15), (84, some 20), (84, some 21), (86, none), (87, none), (88, none), (90, none)]
theorem mk_203_b12 {v1 : Int32} {v2 : Int32} {M : mm_M} : mq_K mw_203_b12 M (mf_203_b12 v1 v2 M) := by
  unfold mf_203_b12
  exact mq_K_ite (fun hc => mq_K_ite (fun hc => mq_K_B (mq_K_call mk_198 mq_kp_refl rfl) (fun _ M2 hM2 => mq_K_ite (fun hc => mq_K_call mk_203_j38 hM2 rfl) (fun _ => mq_K_call mk_203_j38 hM2 rfl))) (fun _ => mq_K_ret mq_kp_refl)) (fun _ => mq_K_ret mq_kp_refl)
def mw_203_L12 : List (Nat × Option Nat) := [(84, some 4), (84, some 5), (84, some 7), (84, some 8), (84, some 9), (84, some 10), (84, some 11), (84, some 12), (84, some 14), (84, some 15), (84, some 20), (84, some 21), (86, none), (87, none), (88, none), (90, none)]
theorem mk_203_L12 {v1 : Int32} {s : Int32} {M : mm_M} : mq_K mw_203_L12 M (mf_203_L12 v1 s M) := by
  unfold mf_203_L12
  exact mq_K_L (fun s M h => mq_K_call mk_203_b12 h rfl) mq_kp_refl
def mw_203 : List (Nat × Option Nat) := [(84, some 4), (84, some 5), (84, some 7), (84, some 8), (84, some 9), (84, some 10), (84, some 11), (84, some 12), (84, some 13), (84, some 14), (84, some 15), (84, some 20), (84, some 21), (86, none), (87, none), (88, none), (90, none)]
theorem mk_203 {v1 : Int32} {M : mm_M} : mq_K mw_203 M (mf_203 v1 M) := by
  unfold mf_203
  exact mq_K_B (mq_K_call mk_203_L12 (mq_kp_pi (mq_kp_pi mq_kp_refl rfl) rfl) rfl) (fun _ M1 hM1 => mq_K_sm (fun _ => mq_K_ret hM1) (fun _ => mq_K_ret (mq_kp_pi hM1 rfl)))
-- 184: PlainPacksModel.adler
def mw_184_b8 (p : Nat) : List (Nat × Option Nat) := []
theorem mk_184_b8 {p : Nat} {n : Nat} {v2 : Int32} {v3 : Int32} {v4 : Int32} {v5 : Int32} {M : mm_M} : mq_K (mw_184_b8 p) M (mf_184_b8 p n v2 v3 v4 v5 M) := by
  unfold mf_184_b8
  exact mq_K_ite (fun hc => mq_K_ite (fun hc => mq_K_ret mq_kp_refl) (fun _ => mq_K_none)) (fun _ => mq_K_ret mq_kp_refl)
def mw_184_L8 (p : Nat) : List (Nat × Option Nat) := []
theorem mk_184_L8 {p : Nat} {n : Nat} {v2 : Int32} {s : Int32 × Int32 × Int32} {M : mm_M} : mq_K (mw_184_L8 p) M (mf_184_L8 p n v2 s M) := by
  unfold mf_184_L8
  exact mq_K_L (fun s M h => mq_K_call mk_184_b8 h (by simp [mq_sub, mw_184_b8, mw_184_L8])) mq_kp_refl
def mw_184 (p : Nat) : List (Nat × Option Nat) := []
theorem mk_184 {p : Nat} {n : Nat} {v1 : Int32} {v2 : Int32} {M : mm_M} : mq_K (mw_184 p) M (mf_184 p n v1 v2 M) := by
  unfold mf_184
  exact mq_K_B (mq_K_call mk_184_L8 mq_kp_refl (by simp [mq_sub, mw_184_L8, mw_184])) (fun _ M1 hM1 => mq_K_ret hM1)
-- 210: PlainPacksModel.wrapped
def mw_210_b77 : List (Nat × Option Nat) := [(84, some 5), (84, some 7)]
theorem mk_210_b77 {v3 : Int32} {v4 : Int32} {M : mm_M} : mq_K mw_210_b77 M (mf_210_b77 v3 v4 M) := by
  unfold mf_210_b77
  exact mq_K_ite (fun hc => mq_K_B (mq_K_call mk_191 mq_kp_refl rfl) (fun _ M2 hM2 => mq_K_ret hM2)) (fun _ => mq_K_ret mq_kp_refl)
def mw_210_L77 : List (Nat × Option Nat) := [(84, some 5), (84, some 7)]
theorem mk_210_L77 {s : Int32 × Int32} {M : mm_M} : mq_K mw_210_L77 M (mf_210_L77 s M) := by
  unfold mf_210_L77
  exact mq_K_L (fun s M h => mq_K_call mk_210_b77 h rfl) mq_kp_refl
def mw_210_j99 : List (Nat × Option Nat) := [(84, some 7)]
theorem mk_210_j99 {v3 : Int32} {M : mm_M} : mq_K mw_210_j99 M (mf_210_j99 v3 M) := by
  unfold mf_210_j99
  exact mq_K_ite (fun hc => mq_K_B (mq_K_call mk_184 mq_kp_refl rfl) (fun _ M2 hM2 => mq_K_ite (fun hc => mq_K_ret hM2) (fun _ => mq_K_B (mq_K_call mk_190 hM2 rfl) (fun _ M3 hM3 => mq_K_ret hM3)))) (fun _ => mq_K_ret mq_kp_refl)
def mw_210_j59 : List (Nat × Option Nat) := [(84, some 4), (84, some 5), (84, some 7), (84, some 8), (84, some 9), (84, some 10), (84, some 11), (84, some 12), (84, some 13), (84, some 14), (84, some 15), (84, some 20), (84, some 21), (86, none), (87, none), (88, none), (90, none)]
theorem mk_210_j59 {v1 : Int32} {M : mm_M} : mq_K mw_210_j59 M (mf_210_j59 v1 M) := by
  unfold mf_210_j59
  exact mq_K_B (mq_K_call mk_203 mq_kp_refl rfl) (fun _ M1 hM1 => mq_K_B (mq_K_call mk_210_L77 hM1 rfl) (fun _ M2 hM2 => mq_K_call mk_210_j99 hM2 rfl))
def mw_210_j55 : List (Nat × Option Nat) := [(84, some 4), (84, some 5), (84, some 7), (84, some 8), (84, some 9), (84, some 10), (84, some 11), (84, some 12), (84, some 13), (84, some 14), (84, some 15), (84, some 20), (84, some 21), (86, none), (87, none), (88, none), (90, none)]
theorem mk_210_j55 {v1 : Int32} {M : mm_M} : mq_K mw_210_j55 M (mf_210_j55 v1 M) := by
  unfold mf_210_j55
  exact mq_K_B (mq_K_call mk_190 mq_kp_refl rfl) (fun _ M1 hM1 => mq_K_call mk_210_j59 hM1 rfl)
def mw_210 : List (Nat × Option Nat) := [(84, some 4), (84, some 5), (84, some 7), (84, some 8), (84, some 9), (84, some 10), (84, some 11), (84, some 12), (84, some 13), (84, some 14), (84, some 15), (84, some 20), (84, some 21), (86, none), (87, none), (88, none), (90, none)]
theorem mk_210 {M : mm_M} : mq_K mw_210 M (mf_210 M) := by
  unfold mf_210
  exact mq_K_B (mq_K_call mk_191 mq_kp_refl rfl) (fun _ M2 hM2 => mq_K_B (mq_K_call mk_191 hM2 rfl) (fun _ M4 hM4 => mq_K_ite (fun hc => mq_K_ite (fun hc => mq_K_ite (fun hc => mq_K_call mk_210_j55 hM4 rfl) (fun _ => mq_K_ite (fun hc => mq_K_ite (fun hc => mq_K_call mk_210_j59 hM4 rfl) (fun _ => mq_K_call mk_210_j55 hM4 rfl)) (fun _ => mq_K_call mk_210_j55 hM4 rfl))) (fun _ => mq_K_call mk_210_j55 hM4 rfl)) (fun _ => mq_K_call mk_210_j59 hM4 rfl)))
-- 192: PlainPacksModel.want
def mw_192 : List (Nat × Option Nat) := [(84, some 5), (84, some 7)]
theorem mk_192 {v1 : Int32} {M : mm_M} : mq_K mw_192 M (mf_192 v1 M) := by
  unfold mf_192
  exact mq_K_B (mq_K_call mk_191 mq_kp_refl rfl) (fun _ M2 hM2 => mq_K_ite (fun hc => mq_K_ite (fun hc => mq_K_ret hM2) (fun _ => mq_K_B (mq_K_call mk_190 hM2 rfl) (fun _ M3 hM3 => mq_K_ret hM3))) (fun _ => mq_K_ret hM2))
-- 211: PlainPacksModel.toZero
def mw_211_b2 : List (Nat × Option Nat) := [(84, some 5), (84, some 7)]
theorem mk_211_b2 {v1 : Int32} {M : mm_M} : mq_K mw_211_b2 M (mf_211_b2 v1 M) := by
  unfold mf_211_b2
  exact mq_K_ite (fun hc => mq_K_ret mq_kp_refl) (fun _ => mq_K_ite (fun hc => mq_K_B (mq_K_call mk_191 mq_kp_refl rfl) (fun _ M2 hM2 => mq_K_ret hM2)) (fun _ => mq_K_ret mq_kp_refl))
def mw_211_L2 : List (Nat × Option Nat) := [(84, some 5), (84, some 7)]
theorem mk_211_L2 {s : Int32} {M : mm_M} : mq_K mw_211_L2 M (mf_211_L2 s M) := by
  unfold mf_211_L2
  exact mq_K_L (fun s M h => mq_K_call mk_211_b2 h rfl) mq_kp_refl
def mw_211 : List (Nat × Option Nat) := [(84, some 5), (84, some 7)]
theorem mk_211 {M : mm_M} : mq_K mw_211 M (mf_211 M) := by
  unfold mf_211
  exact mq_K_B (mq_K_call mk_211_L2 mq_kp_refl rfl) (fun _ M1 hM1 => mq_K_ret hM1)
-- 182: PlainPacksModel.crc
def mw_182_b21 (p : Nat) : List (Nat × Option Nat) := []
theorem mk_182_b21 {p : Nat} {n : Nat} {v2 : Int32} {v3 : Int32} {v4 : Int32} {v5 : Int32} {M : mm_M} : mq_K (mw_182_b21 p) M (mf_182_b21 p n v2 v3 v4 v5 M) := by
  unfold mf_182_b21
  exact mq_K_ite (fun hc => mq_K_ite (fun hc => mq_K_ret mq_kp_refl) (fun _ => mq_K_ret mq_kp_refl)) (fun _ => mq_K_ret mq_kp_refl)
def mw_182_L21 (p : Nat) : List (Nat × Option Nat) := []
theorem mk_182_L21 {p : Nat} {n : Nat} {v2 : Int32} {v4 : Int32} {s : Int32 × Int32} {M : mm_M} : mq_K (mw_182_L21 p) M (mf_182_L21 p n v2 v4 s M) := by
  unfold mf_182_L21
  exact mq_K_L (fun s M h => mq_K_call mk_182_b21 h (by simp [mq_sub, mw_182_b21, mw_182_L21])) mq_kp_refl
def mw_182_b5 (p : Nat) : List (Nat × Option Nat) := []
theorem mk_182_b5 {p : Nat} {n : Nat} {v2 : Int32} {v3 : Int32} {v4 : Int32} {M : mm_M} : mq_K (mw_182_b5 p) M (mf_182_b5 p n v2 v3 v4 M) := by
  unfold mf_182_b5
  exact mq_K_ite (fun hc => mq_K_ite (fun hc => mq_K_B (mq_K_call mk_182_L21 mq_kp_refl (by simp [mq_sub, mw_182_L21, mw_182_b5])) (fun _ M1 hM1 => mq_K_ret hM1)) (fun _ => mq_K_none)) (fun _ => mq_K_ret mq_kp_refl)
def mw_182_L5 (p : Nat) : List (Nat × Option Nat) := []
theorem mk_182_L5 {p : Nat} {n : Nat} {v2 : Int32} {s : Int32 × Int32} {M : mm_M} : mq_K (mw_182_L5 p) M (mf_182_L5 p n v2 s M) := by
  unfold mf_182_L5
  exact mq_K_L (fun s M h => mq_K_call mk_182_b5 h (by simp [mq_sub, mw_182_b5, mw_182_L5])) mq_kp_refl
def mw_182 (p : Nat) : List (Nat × Option Nat) := []
theorem mk_182 {p : Nat} {n : Nat} {v1 : Int32} {v2 : Int32} {M : mm_M} : mq_K (mw_182 p) M (mf_182 p n v1 v2 M) := by
  unfold mf_182
  exact mq_K_B (mq_K_call mk_182_L5 mq_kp_refl (by simp [mq_sub, mw_182_L5, mw_182])) (fun _ M1 hM1 => mq_K_ret hM1)
-- 213: PlainPacksModel.sumIs
def mw_213 : List (Nat × Option Nat) := [(84, some 5), (84, some 7)]
theorem mk_213 {v1 : Int32} {M : mm_M} : mq_K mw_213 M (mf_213 v1 M) := by
  unfold mf_213
  exact mq_K_B (mq_K_call mk_193 mq_kp_refl rfl) (fun _ M2 hM2 => mq_K_ite (fun hc => mq_K_ite (fun hc => mq_K_ret hM2) (fun _ => mq_K_B (mq_K_call mk_190 hM2 rfl) (fun _ M3 hM3 => mq_K_ret hM3))) (fun _ => mq_K_ret hM2))
-- 212: PlainPacksModel.file
def mw_212_b43 : List (Nat × Option Nat) := [(84, some 5), (84, some 7)]
theorem mk_212_b43 {v1 : Int32} {v2 : Int32} {M : mm_M} : mq_K mw_212_b43 M (mf_212_b43 v1 v2 M) := by
  unfold mf_212_b43
  exact mq_K_ite (fun hc => mq_K_B (mq_K_call mk_191 mq_kp_refl rfl) (fun _ M2 hM2 => mq_K_ret hM2)) (fun _ => mq_K_ret mq_kp_refl)
def mw_212_L43 : List (Nat × Option Nat) := [(84, some 5), (84, some 7)]
theorem mk_212_L43 {v1 : Int32} {s : Int32} {M : mm_M} : mq_K mw_212_L43 M (mf_212_L43 v1 s M) := by
  unfold mf_212_L43
  exact mq_K_L (fun s M h => mq_K_call mk_212_b43 h rfl) mq_kp_refl
def mw_212_j165 : List (Nat × Option Nat) := [(84, some 4), (84, some 5), (84, some 7), (84, some 8), (84, some 9), (84, some 10), (84, some 11), (84, some 12), (84, some 13), (84, some 14), (84, some 15), (84, some 20), (84, some 21), (86, none), (87, none), (88, none), (90, none)]
theorem mk_212_j165 {M : mm_M} : mq_K mw_212_j165 M (mf_212_j165 M) := by
  unfold mf_212_j165
  exact mq_K_B (mq_K_call mk_203 mq_kp_refl rfl) (fun _ M1 hM1 => mq_K_B (mq_K_call mk_182 hM1 rfl) (fun _ M3 hM3 => mq_K_B (mq_K_call mk_213 hM3 rfl) (fun _ M4 hM4 => mq_K_B (mq_K_call mk_213 hM4 rfl) (fun _ M5 hM5 => mq_K_ret hM5))))
def mw_212_j120 : List (Nat × Option Nat) := [(84, some 4), (84, some 5), (84, some 7), (84, some 8), (84, some 9), (84, some 10), (84, some 11), (84, some 12), (84, some 13), (84, some 14), (84, some 15), (84, some 20), (84, some 21), (86, none), (87, none), (88, none), (90, none)]
theorem mk_212_j120 {v1 : Int32} {M : mm_M} : mq_K mw_212_j120 M (mf_212_j120 v1 M) := by
  unfold mf_212_j120
  exact mq_K_ite (fun hc => mq_K_call mk_212_j165 mq_kp_refl rfl) (fun _ => mq_K_B (mq_K_call mk_182 mq_kp_refl rfl) (fun _ M2 hM2 => mq_K_B (mq_K_call mk_193 hM2 rfl) (fun _ M4 hM4 => mq_K_ite (fun hc => mq_K_ite (fun hc => mq_K_call mk_212_j165 hM4 rfl) (fun _ => mq_K_B (mq_K_call mk_190 hM4 rfl) (fun _ M5 hM5 => mq_K_call mk_212_j165 hM5 rfl))) (fun _ => mq_K_call mk_212_j165 hM4 rfl))))
def mw_212_j109 : List (Nat × Option Nat) := [(84, some 4), (84, some 5), (84, some 7), (84, some 8), (84, some 9), (84, some 10), (84, some 11), (84, some 12), (84, some 13), (84, some 14), (84, some 15), (84, some 20), (84, some 21), (86, none), (87, none), (88, none), (90, none)]
theorem mk_212_j109 {v1 : Int32} {M : mm_M} : mq_K mw_212_j109 M (mf_212_j109 v1 M) := by
  unfold mf_212_j109
  exact mq_K_ite (fun hc => mq_K_call mk_212_j120 mq_kp_refl rfl) (fun _ => mq_K_B (mq_K_call mk_211 mq_kp_refl rfl) (fun _ M1 hM1 => mq_K_call mk_212_j120 hM1 rfl))
def mw_212_j98 : List (Nat × Option Nat) := [(84, some 4), (84, some 5), (84, some 7), (84, some 8), (84, some 9), (84, some 10), (84, some 11), (84, some 12), (84, some 13), (84, some 14), (84, some 15), (84, some 20), (84, some 21), (86, none), (87, none), (88, none), (90, none)]
theorem mk_212_j98 {v1 : Int32} {M : mm_M} : mq_K mw_212_j98 M (mf_212_j98 v1 M) := by
  unfold mf_212_j98
  exact mq_K_ite (fun hc => mq_K_call mk_212_j109 mq_kp_refl rfl) (fun _ => mq_K_B (mq_K_call mk_211 mq_kp_refl rfl) (fun _ M1 hM1 => mq_K_call mk_212_j109 hM1 rfl))
def mw_212_b75 : List (Nat × Option Nat) := [(84, some 5), (84, some 7)]
theorem mk_212_b75 {v1 : Int32} {v2 : Int32} {v3 : Int32} {M : mm_M} : mq_K mw_212_b75 M (mf_212_b75 v1 v2 v3 M) := by
  unfold mf_212_b75
  exact mq_K_ite (fun hc => mq_K_ite (fun hc => mq_K_B (mq_K_call mk_191 mq_kp_refl rfl) (fun _ M2 hM2 => mq_K_ret hM2)) (fun _ => mq_K_ret mq_kp_refl)) (fun _ => mq_K_ret mq_kp_refl)
def mw_212_L75 : List (Nat × Option Nat) := [(84, some 5), (84, some 7)]
theorem mk_212_L75 {v1 : Int32} {v2 : Int32} {s : Int32} {M : mm_M} : mq_K mw_212_L75 M (mf_212_L75 v1 v2 s M) := by
  unfold mf_212_L75
  exact mq_K_L (fun s M h => mq_K_call mk_212_b75 h rfl) mq_kp_refl
def mw_212_j60 : List (Nat × Option Nat) := [(84, some 4), (84, some 5), (84, some 7), (84, some 8), (84, some 9), (84, some 10), (84, some 11), (84, some 12), (84, some 13), (84, some 14), (84, some 15), (84, some 20), (84, some 21), (86, none), (87, none), (88, none), (90, none)]
theorem mk_212_j60 {v1 : Int32} {M : mm_M} : mq_K mw_212_j60 M (mf_212_j60 v1 M) := by
  unfold mf_212_j60
  exact mq_K_ite (fun hc => mq_K_call mk_212_j98 mq_kp_refl rfl) (fun _ => mq_K_B (mq_K_call mk_193 mq_kp_refl rfl) (fun _ M2 hM2 => mq_K_B (mq_K_call mk_212_L75 hM2 rfl) (fun _ M3 hM3 => mq_K_call mk_212_j98 hM3 rfl)))
def mw_212 : List (Nat × Option Nat) := [(84, some 4), (84, some 5), (84, some 7), (84, some 8), (84, some 9), (84, some 10), (84, some 11), (84, some 12), (84, some 13), (84, some 14), (84, some 15), (84, some 20), (84, some 21), (86, none), (87, none), (88, none), (90, none)]
theorem mk_212 {M : mm_M} : mq_K mw_212 M (mf_212 M) := by
  unfold mf_212
  exact mq_K_B (mq_K_call mk_192 mq_kp_refl rfl) (fun _ M1 hM1 => mq_K_B (mq_K_call mk_192 hM1 rfl) (fun _ M2 hM2 => mq_K_B (mq_K_call mk_192 hM2 rfl) (fun _ M3 hM3 => mq_K_B (mq_K_call mk_191 hM3 rfl) (fun _ M5 hM5 => mq_K_ite (fun hc => mq_K_ite (fun hc => mq_K_B (mq_K_call mk_190 hM5 rfl) (fun _ M6 hM6 => mq_K_B (mq_K_call mk_212_L43 hM6 rfl) (fun _ M7 hM7 => mq_K_call mk_212_j60 hM7 rfl))) (fun _ => mq_K_B (mq_K_call mk_212_L43 hM5 rfl) (fun _ M11 hM11 => mq_K_call mk_212_j60 hM11 rfl))) (fun _ => mq_K_B (mq_K_call mk_212_L43 hM5 rfl) (fun _ M15 hM15 => mq_K_call mk_212_j60 hM15 rfl))))))
-- 215: PlainPacksModel.words
def mw_215_j214 : List (Nat × Option Nat) := [(84, some 4), (84, some 7), (86, none)]
theorem mk_215_j214 {v1 : Int32} {v2 : Int32} {v3 : Int32} {v4 : Int32} {v5 : Int32} {v6 : Int32} {v7 : Int32} {v8 : Int32} {v9 : Int32} {v10 : Int32} {s1 : Int32} {M : mm_M} : mq_K mw_215_j214 M (mf_215_j214 v1 v2 v3 v4 v5 v6 v7 v8 v9 v10 s1 M) := by
  unfold mf_215_j214
  exact mq_K_B (mq_K_call mk_194 mq_kp_refl rfl) (fun _ M2 hM2 => mq_K_ret hM2)
def mw_215_b173 : List (Nat × Option Nat) := [(84, some 4), (84, some 7), (86, none)]
theorem mk_215_b173 {v1 : Int32} {v2 : Int32} {v3 : Int32} {v4 : Int32} {v5 : Int32} {v6 : Int32} {v7 : Int32} {v8 : Int32} {v9 : Int32} {v10 : Int32} {M : mm_M} : mq_K mw_215_b173 M (mf_215_b173 v1 v2 v3 v4 v5 v6 v7 v8 v9 v10 M) := by
  unfold mf_215_b173
  exact mq_K_ite (fun hc => mq_K_ite (fun hc => mq_K_ite (fun hc => mq_K_call mk_215_j214 mq_kp_refl rfl) (fun _ => mq_K_ite (fun hc => mq_K_ite (fun hc => mq_K_call mk_215_j214 mq_kp_refl rfl) (fun _ => mq_K_none)) (fun _ => mq_K_none))) (fun _ => mq_K_ret mq_kp_refl)) (fun _ => mq_K_ret mq_kp_refl)
def mw_215_L173 : List (Nat × Option Nat) := [(84, some 4), (84, some 7), (86, none)]
theorem mk_215_L173 {v1 : Int32} {v2 : Int32} {v3 : Int32} {v4 : Int32} {v5 : Int32} {v6 : Int32} {v7 : Int32} {v8 : Int32} {v9 : Int32} {s : Int32} {M : mm_M} : mq_K mw_215_L173 M (mf_215_L173 v1 v2 v3 v4 v5 v6 v7 v8 v9 s M) := by
  unfold mf_215_L173
  exact mq_K_L (fun s M h => mq_K_call mk_215_b173 h rfl) mq_kp_refl
def mw_215_j244 : List (Nat × Option Nat) := []
theorem mk_215_j244 {v1 : Int32} {v2 : Int32} {v3 : Int32} {v4 : Int32} {v5 : Int32} {v6 : Int32} {v7 : Int32} {v8 : Int32} {s0 : Int32} {s1 : Int32} {s2 : Int32} {M : mm_M} : mq_K mw_215_j244 M (mf_215_j244 v1 v2 v3 v4 v5 v6 v7 v8 s0 s1 s2 M) := by
  unfold mf_215_j244
  exact mq_K_ite (fun hc => mq_K_ret mq_kp_refl) (fun _ => mq_K_ret mq_kp_refl)
def mw_215_j224 : List (Nat × Option Nat) := []
theorem mk_215_j224 {v1 : Int32} {v2 : Int32} {v3 : Int32} {v4 : Int32} {v5 : Int32} {v6 : Int32} {v7 : Int32} {v8 : Int32} {M : mm_M} : mq_K mw_215_j224 M (mf_215_j224 v1 v2 v3 v4 v5 v6 v7 v8 M) := by
  unfold mf_215_j224
  exact mq_K_ite (fun hc => mq_K_ite (fun hc => mq_K_call mk_215_j244 mq_kp_refl rfl) (fun _ => mq_K_call mk_215_j244 mq_kp_refl rfl)) (fun _ => mq_K_ret mq_kp_refl)
def mw_215_j134 : List (Nat × Option Nat) := [(84, some 4), (84, some 7), (86, none)]
theorem mk_215_j134 {v1 : Int32} {v2 : Int32} {v3 : Int32} {v4 : Int32} {v5 : Int32} {v8 : Int32} {v9 : Int32} {M : mm_M} : mq_K mw_215_j134 M (mf_215_j134 v1 v2 v3 v4 v5 v8 v9 M) := by
  unfold mf_215_j134
  exact mq_K_ite (fun hc => mq_K_B (mq_K_call mk_215_L173 mq_kp_refl rfl) (fun _ M1 hM1 => mq_K_call mk_215_j224 hM1 rfl)) (fun _ => mq_K_ite (fun hc => mq_K_ite (fun hc => mq_K_B (mq_K_call mk_215_L173 mq_kp_refl rfl) (fun _ M5 hM5 => mq_K_call mk_215_j224 hM5 rfl)) (fun _ => mq_K_none)) (fun _ => mq_K_B (mq_K_call mk_215_L173 mq_kp_refl rfl) (fun _ M9 hM9 => mq_K_call mk_215_j224 hM9 rfl)))
def mw_215_j123 : List (Nat × Option Nat) := [(84, some 4), (84, some 7), (86, none)]
theorem mk_215_j123 {v1 : Int32} {v2 : Int32} {v3 : Int32} {v4 : Int32} {v5 : Int32} {v8 : Int32} {v9 : Int32} {M : mm_M} : mq_K mw_215_j123 M (mf_215_j123 v1 v2 v3 v4 v5 v8 v9 M) := by
  unfold mf_215_j123
  exact mq_K_ite (fun hc => mq_K_call mk_215_j134 mq_kp_refl rfl) (fun _ => mq_K_B (mq_K_call mk_190 mq_kp_refl rfl) (fun _ M1 hM1 => mq_K_call mk_215_j134 hM1 rfl))
def mw_215_b23 : List (Nat × Option Nat) := [(84, some 4), (84, some 5), (84, some 7), (84, some 14), (84, some 15), (86, none), (91, none), (92, none)]
theorem mk_215_b23 {v1 : Int32} {v2 : Int32} {v3 : Int32} {v4 : Int32} {v5 : Int32} {v6 : Int32} {v7 : Int32} {v8 : Int32} {M : mm_M} : mq_K mw_215_b23 M (mf_215_b23 v1 v2 v3 v4 v5 v6 v7 v8 M) := by
  unfold mf_215_b23
  exact mq_K_ite (fun hc => mq_K_ret mq_kp_refl) (fun _ => mq_K_ite (fun hc => mq_K_B (mq_K_call mk_198 mq_kp_refl rfl) (fun _ M2 hM2 => mq_K_ite (fun hc => mq_K_ite (fun hc => mq_K_ret hM2) (fun _ => mq_K_ite (fun hc => mq_K_ret hM2) (fun _ => mq_K_ite (fun hc => mq_K_ite (fun hc => mq_K_ite (fun hc => mq_K_ite (fun hc => mq_K_call mk_215_j123 (mq_kp_pi (mq_kp_pi hM2 rfl) rfl) rfl) (fun _ => mq_K_none)) (fun _ => mq_K_none)) (fun _ => mq_K_call mk_215_j123 hM2 rfl)) (fun _ => mq_K_call mk_215_j123 hM2 rfl)))) (fun _ => mq_K_ret hM2))) (fun _ => mq_K_ret mq_kp_refl))
def mw_215_L23 : List (Nat × Option Nat) := [(84, some 4), (84, some 5), (84, some 7), (84, some 14), (84, some 15), (86, none), (91, none), (92, none)]
theorem mk_215_L23 {v1 : Int32} {v2 : Int32} {v3 : Int32} {s : Int32 × Int32 × Int32 × Int32 × Int32} {M : mm_M} : mq_K mw_215_L23 M (mf_215_L23 v1 v2 v3 s M) := by
  unfold mf_215_L23
  exact mq_K_L (fun s M h => mq_K_call mk_215_b23 h rfl) mq_kp_refl
def mw_215 : List (Nat × Option Nat) := [(84, some 4), (84, some 5), (84, some 7), (84, some 14), (84, some 15), (86, none), (91, none), (92, none)]
theorem mk_215 {v1 : Int32} {v2 : Int32} {M : mm_M} : mq_K mw_215 M (mf_215 v1 v2 M) := by
  unfold mf_215
  exact mq_K_B (mq_K_call mk_215_L23 mq_kp_refl rfl) (fun _ M1 hM1 => mq_K_ret hM1)
