/-! WHAT IS KEPT 6 -/
-- 150: PlainPacks$Sorted.makeLetters
def mw_150_j78 : List (Nat × Option Nat) := [(42, some 15), (42, some 16), (46, none), (48, none)]
theorem mk_150_j78 {v1 : Int32} {s1 : Int32} {M : mm_M} : mq_K mw_150_j78 M (mf_150_j78 v1 s1 M) := by
  unfold mf_150_j78
  exact mq_K_ite (fun hc => mq_K_ite (fun hc => mq_K_ite (fun hc => mq_K_ret (mq_kp_pi mq_kp_refl rfl)) (fun _ => mq_K_B (mq_K_call mk_154 mq_kp_refl rfl) (fun _ M1 hM1 => mq_K_B (mq_K_call mk_152 hM1 rfl) (fun _ M3 hM3 => mq_K_B (mq_K_call mk_141 hM3 rfl) (fun _ M4 hM4 => mq_K_B (mq_K_call mk_153 hM4 rfl) (fun _ M5 hM5 => mq_K_ret hM5)))))) (fun _ => mq_K_none)) (fun _ => mq_K_none)
def mw_150_j58 : List (Nat × Option Nat) := [(42, some 15), (42, some 16), (46, none), (48, none)]
theorem mk_150_j58 {v1 : Int32} {v2 : Int32} {M : mm_M} : mq_K mw_150_j58 M (mf_150_j58 v1 v2 M) := by
  unfold mf_150_j58
  exact mq_K_ite (fun hc => mq_K_call mk_150_j78 mq_kp_refl rfl) (fun _ => mq_K_call mk_150_j78 mq_kp_refl rfl)
def mw_150_b31 : List (Nat × Option Nat) := [(42, some 10), (42, some 15), (42, some 16), (46, none), (48, none)]
theorem mk_150_b31 {v1 : Int32} {M : mm_M} : mq_K mw_150_b31 M (mf_150_b31 v1 M) := by
  unfold mf_150_b31
  exact mq_K_ite (fun hc => mq_K_ite (fun hc => mq_K_ite (fun hc => mq_K_call mk_150_j58 (mq_kp_pi mq_kp_refl rfl) rfl) (fun _ => mq_K_call mk_150_j58 mq_kp_refl rfl)) (fun _ => mq_K_none)) (fun _ => mq_K_ret mq_kp_refl)
def mw_150_L31 : List (Nat × Option Nat) := [(42, some 10), (42, some 15), (42, some 16), (46, none), (48, none)]
theorem mk_150_L31 {s : Int32} {M : mm_M} : mq_K mw_150_L31 M (mf_150_L31 s M) := by
  unfold mf_150_L31
  exact mq_K_L (fun s M h => mq_K_call mk_150_b31 h rfl) mq_kp_refl
def mw_150_j137 : List (Nat × Option Nat) := [(42, some 15), (42, some 16), (48, none)]
theorem mk_150_j137 {M : mm_M} : mq_K mw_150_j137 M (mf_150_j137 M) := by
  unfold mf_150_j137
  exact mq_K_B (mq_K_call mk_154 mq_kp_refl rfl) (fun _ M1 hM1 => mq_K_B (mq_K_call mk_153 hM1 rfl) (fun _ M2 hM2 => mq_K_ret hM2))
def mw_150 : List (Nat × Option Nat) := [(7, some 5), (7, some 6), (8, none), (9, none), (10, none), (11, none), (12, none), (42, some 9), (42, some 10), (42, some 15), (42, some 16), (46, none), (48, none), (49, none)]
theorem mk_150 {M : mm_M} : mq_K mw_150 M (mf_150 M) := by
  unfold mf_150
  exact mq_K_B (mq_K_call mk_66 mq_kp_refl rfl) (fun _ M1 hM1 => mq_K_B (mq_K_call mk_151 hM1 rfl) (fun _ M2 hM2 => mq_K_B (mq_K_call mk_150_L31 (mq_kp_pi (mq_kp_pi hM2 rfl) rfl) rfl) (fun _ M3 hM3 => mq_K_call mk_150_j137 hM3 rfl)))
-- 157: PlainPacks$Sorted.anyOfSixteen
def mw_157_b4 : List (Nat × Option Nat) := []
theorem mk_157_b4 {v1 : Int32} {v2 : Int32} {v3 : Int32} {M : mm_M} : mq_K mw_157_b4 M (mf_157_b4 v1 v2 v3 M) := by
  unfold mf_157_b4
  exact mq_K_ite (fun hc => mq_K_ite (fun hc => mq_K_ite (fun hc => mq_K_ret mq_kp_refl) (fun _ => mq_K_ret mq_kp_refl)) (fun _ => mq_K_none)) (fun _ => mq_K_ret mq_kp_refl)
def mw_157_L4 : List (Nat × Option Nat) := []
theorem mk_157_L4 {v1 : Int32} {s : Int32 × Int32} {M : mm_M} : mq_K mw_157_L4 M (mf_157_L4 v1 s M) := by
  unfold mf_157_L4
  exact mq_K_L (fun s M h => mq_K_call mk_157_b4 h rfl) mq_kp_refl
def mw_157 : List (Nat × Option Nat) := []
theorem mk_157 {v1 : Int32} {M : mm_M} : mq_K mw_157 M (mf_157 v1 M) := by
  unfold mf_157
  exact mq_K_B (mq_K_call mk_157_L4 mq_kp_refl rfl) (fun _ M1 hM1 => mq_K_ite (fun hc => mq_K_ret hM1) (fun _ => mq_K_none))
-- 156: PlainPacks$Sorted.writeOccurring
def mw_156_j25 : List (Nat × Option Nat) := [(5, some 1), (5, some 2), (5, some 4), (5, some 5), (6, none)]
theorem mk_156_j25 {v1 : Int32} {s1 : Int32} {M : mm_M} : mq_K mw_156_j25 M (mf_156_j25 v1 s1 M) := by
  unfold mf_156_j25
  exact mq_K_B (mq_K_call mk_61 mq_kp_refl rfl) (fun _ M1 hM1 => mq_K_ret hM1)
def mw_156_b2 : List (Nat × Option Nat) := [(5, some 1), (5, some 2), (5, some 4), (5, some 5), (6, none)]
theorem mk_156_b2 {v1 : Int32} {M : mm_M} : mq_K mw_156_b2 M (mf_156_b2 v1 M) := by
  unfold mf_156_b2
  exact mq_K_ite (fun hc => mq_K_B (mq_K_call mk_157 mq_kp_refl rfl) (fun _ M2 hM2 => mq_K_ite (fun hc => mq_K_call mk_156_j25 hM2 rfl) (fun _ => mq_K_call mk_156_j25 hM2 rfl))) (fun _ => mq_K_ret mq_kp_refl)
def mw_156_L2 : List (Nat × Option Nat) := [(5, some 1), (5, some 2), (5, some 4), (5, some 5), (6, none)]
theorem mk_156_L2 {s : Int32} {M : mm_M} : mq_K mw_156_L2 M (mf_156_L2 s M) := by
  unfold mf_156_L2
  exact mq_K_L (fun s M h => mq_K_call mk_156_b2 h rfl) mq_kp_refl
def mw_156_j81 : List (Nat × Option Nat) := [(5, some 1), (5, some 2), (5, some 4), (5, some 5), (6, none)]
theorem mk_156_j81 {v1 : Int32} {v2 : Int32} {s1 : Int32} {M : mm_M} : mq_K mw_156_j81 M (mf_156_j81 v1 v2 s1 M) := by
  unfold mf_156_j81
  exact mq_K_B (mq_K_call mk_61 mq_kp_refl rfl) (fun _ M1 hM1 => mq_K_ret hM1)
def mw_156_b44 : List (Nat × Option Nat) := [(5, some 1), (5, some 2), (5, some 4), (5, some 5), (6, none)]
theorem mk_156_b44 {v1 : Int32} {v2 : Int32} {M : mm_M} : mq_K mw_156_b44 M (mf_156_b44 v1 v2 M) := by
  unfold mf_156_b44
  exact mq_K_ite (fun hc => mq_K_B (mq_K_call mk_157 mq_kp_refl rfl) (fun _ M2 hM2 => mq_K_ite (fun hc => mq_K_ret hM2) (fun _ => mq_K_ite (fun hc => mq_K_ite (fun hc => mq_K_call mk_156_j81 hM2 rfl) (fun _ => mq_K_call mk_156_j81 hM2 rfl)) (fun _ => mq_K_none)))) (fun _ => mq_K_ret mq_kp_refl)
def mw_156_L44 : List (Nat × Option Nat) := [(5, some 1), (5, some 2), (5, some 4), (5, some 5), (6, none)]
theorem mk_156_L44 {v1 : Int32} {s : Int32} {M : mm_M} : mq_K mw_156_L44 M (mf_156_L44 v1 s M) := by
  unfold mf_156_L44
  exact mq_K_L (fun s M h => mq_K_call mk_156_b44 h rfl) mq_kp_refl
def mw_156_b36 : List (Nat × Option Nat) := [(5, some 1), (5, some 2), (5, some 4), (5, some 5), (6, none)]
theorem mk_156_b36 {v1 : Int32} {M : mm_M} : mq_K mw_156_b36 M (mf_156_b36 v1 M) := by
  unfold mf_156_b36
  exact mq_K_ite (fun hc => mq_K_B (mq_K_call mk_156_L44 mq_kp_refl rfl) (fun _ M1 hM1 => mq_K_ret hM1)) (fun _ => mq_K_ret mq_kp_refl)
def mw_156_L36 : List (Nat × Option Nat) := [(5, some 1), (5, some 2), (5, some 4), (5, some 5), (6, none)]
theorem mk_156_L36 {s : Int32} {M : mm_M} : mq_K mw_156_L36 M (mf_156_L36 s M) := by
  unfold mf_156_L36
  exact mq_K_L (fun s M h => mq_K_call mk_156_b36 h rfl) mq_kp_refl
def mw_156 : List (Nat × Option Nat) := [(5, some 1), (5, some 2), (5, some 4), (5, some 5), (6, none)]
theorem mk_156 {M : mm_M} : mq_K mw_156 M (mf_156 M) := by
  unfold mf_156
  exact mq_K_B (mq_K_call mk_156_L2 mq_kp_refl rfl) (fun _ M1 hM1 => mq_K_B (mq_K_call mk_156_L36 hM1 rfl) (fun _ M5 hM5 => mq_K_ret hM5))
-- 155: PlainPacks$Sorted.writeBlock
def mw_155_b86 : List (Nat × Option Nat) := [(5, some 1), (5, some 2), (5, some 4), (5, some 5), (6, none)]
theorem mk_155_b86 {v2 : Int32} {v3 : Int32} {M : mm_M} : mq_K mw_155_b86 M (mf_155_b86 v2 v3 M) := by
  unfold mf_155_b86
  exact mq_K_ite (fun hc => mq_K_B (mq_K_call mk_61 mq_kp_refl rfl) (fun _ M1 hM1 => mq_K_ret hM1)) (fun _ => mq_K_ret mq_kp_refl)
def mw_155_L86 : List (Nat × Option Nat) := [(5, some 1), (5, some 2), (5, some 4), (5, some 5), (6, none)]
theorem mk_155_L86 {v2 : Int32} {s : Int32} {M : mm_M} : mq_K mw_155_L86 M (mf_155_L86 v2 s M) := by
  unfold mf_155_L86
  exact mq_K_L (fun s M h => mq_K_call mk_155_b86 h rfl) mq_kp_refl
def mw_155_b107 : List (Nat × Option Nat) := []
theorem mk_155_b107 {v3 : Int32} {M : mm_M} : mq_K mw_155_b107 M (mf_155_b107 v3 M) := by
  unfold mf_155_b107
  exact mq_K_ite (fun hc => mq_K_ite (fun hc => mq_K_ret mq_kp_refl) (fun _ => mq_K_ret mq_kp_refl)) (fun _ => mq_K_ret mq_kp_refl)
def mw_155_L107 : List (Nat × Option Nat) := []
theorem mk_155_L107 {s : Int32} {M : mm_M} : mq_K mw_155_L107 M (mf_155_L107 s M) := by
  unfold mf_155_L107
  exact mq_K_L (fun s M h => mq_K_call mk_155_b107 h rfl) mq_kp_refl
def mw_155_b153 : List (Nat × Option Nat) := [(5, some 1), (5, some 2), (5, some 4), (5, some 5), (6, none)]
theorem mk_155_b153 {v3 : Int32} {v4 : Int32} {v5 : Int32} {M : mm_M} : mq_K mw_155_b153 M (mf_155_b153 v3 v4 v5 M) := by
  unfold mf_155_b153
  exact mq_K_ite (fun hc => mq_K_B (mq_K_call mk_61 mq_kp_refl rfl) (fun _ M1 hM1 => mq_K_ret hM1)) (fun _ => mq_K_ret mq_kp_refl)
def mw_155_L153 : List (Nat × Option Nat) := [(5, some 1), (5, some 2), (5, some 4), (5, some 5), (6, none)]
theorem mk_155_L153 {v3 : Int32} {v4 : Int32} {s : Int32} {M : mm_M} : mq_K mw_155_L153 M (mf_155_L153 v3 v4 s M) := by
  unfold mf_155_L153
  exact mq_K_L (fun s M h => mq_K_call mk_155_b153 h rfl) mq_kp_refl
def mw_155_b134 : List (Nat × Option Nat) := [(5, some 1), (5, some 2), (5, some 4), (5, some 5), (6, none)]
theorem mk_155_b134 {v3 : Int32} {v4 : Int32} {M : mm_M} : mq_K mw_155_b134 M (mf_155_b134 v3 v4 M) := by
  unfold mf_155_b134
  exact mq_K_ite (fun hc => mq_K_B (mq_K_call mk_62 mq_kp_refl rfl) (fun _ M1 hM1 => mq_K_B (mq_K_call mk_155_L153 hM1 rfl) (fun _ M2 hM2 => mq_K_ret hM2))) (fun _ => mq_K_ret mq_kp_refl)
def mw_155_L134 : List (Nat × Option Nat) := [(5, some 1), (5, some 2), (5, some 4), (5, some 5), (6, none)]
theorem mk_155_L134 {v3 : Int32} {s : Int32} {M : mm_M} : mq_K mw_155_L134 M (mf_155_L134 v3 s M) := by
  unfold mf_155_L134
  exact mq_K_L (fun s M h => mq_K_call mk_155_b134 h rfl) mq_kp_refl
def mw_155_b187 : List (Nat × Option Nat) := [(5, some 1), (5, some 2), (5, some 4), (5, some 5), (6, none)]
theorem mk_155_b187 {v3 : Int32} {v4 : Int32} {M : mm_M} : mq_K mw_155_b187 M (mf_155_b187 v3 v4 M) := by
  unfold mf_155_b187
  exact mq_K_ite (fun hc => mq_K_ite (fun hc => mq_K_B (mq_K_call mk_62 mq_kp_refl rfl) (fun _ M1 hM1 => mq_K_ret hM1)) (fun _ => mq_K_none)) (fun _ => mq_K_ret mq_kp_refl)
def mw_155_L187 : List (Nat × Option Nat) := [(5, some 1), (5, some 2), (5, some 4), (5, some 5), (6, none)]
theorem mk_155_L187 {v3 : Int32} {s : Int32} {M : mm_M} : mq_K mw_155_L187 M (mf_155_L187 v3 s M) := by
  unfold mf_155_L187
  exact mq_K_L (fun s M h => mq_K_call mk_155_b187 h rfl) mq_kp_refl
def mw_155 : List (Nat × Option Nat) := [(5, some 1), (5, some 2), (5, some 4), (5, some 5), (6, none)]
theorem mk_155 {v1 : Int32} {M : mm_M} : mq_K mw_155 M (mf_155 v1 M) := by
  unfold mf_155
  exact mq_K_B (mq_K_call mk_62 mq_kp_refl rfl) (fun _ M1 hM1 => mq_K_B (mq_K_call mk_62 hM1 rfl) (fun _ M2 hM2 => mq_K_B (mq_K_call mk_61 hM2 rfl) (fun _ M3 hM3 => mq_K_B (mq_K_call mk_62 hM3 rfl) (fun _ M4 hM4 => mq_K_B (mq_K_call mk_156 hM4 rfl) (fun _ M5 hM5 => mq_K_B (mq_K_call mk_62 hM5 rfl) (fun _ M6 hM6 => mq_K_B (mq_K_call mk_62 hM6 rfl) (fun _ M7 hM7 => mq_K_B (mq_K_call mk_155_L86 hM7 rfl) (fun _ M8 hM8 => mq_K_B (mq_K_call mk_155_L107 hM8 rfl) (fun _ M15 hM15 => mq_K_B (mq_K_call mk_155_L134 hM15 rfl) (fun _ M21 hM21 => mq_K_B (mq_K_call mk_155_L187 hM21 rfl) (fun _ M27 hM27 => mq_K_ret hM27)))))))))))
-- 147: PlainPacks$Sorted.writeSorted
def mw_147_j88 : List (Nat × Option Nat) := [(5, some 1), (5, some 2), (5, some 4), (5, some 5), (6, none)]
theorem mk_147_j88 {v1 : Int32} {M : mm_M} : mq_K mw_147_j88 M (mf_147_j88 v1 M) := by
  unfold mf_147_j88
  exact mq_K_B (mq_K_call mk_62 mq_kp_refl rfl) (fun _ M1 hM1 => mq_K_B (mq_K_call mk_62 hM1 rfl) (fun _ M2 hM2 => mq_K_B (mq_K_call mk_64 hM2 rfl) (fun _ M3 hM3 => mq_K_ret hM3)))
def mw_147 : List (Nat × Option Nat) := [(5, some 1), (5, some 2), (5, some 3), (5, some 4), (5, some 5), (6, none), (7, some 5), (7, some 6), (8, none), (9, none), (10, none), (11, none), (12, none), (42, some 9), (42, some 10), (42, some 12), (42, some 15), (42, some 16), (46, none), (47, none), (48, none), (49, none)]
theorem mk_147 {M : mm_M} : mq_K mw_147 M (mf_147 M) := by
  unfold mf_147
  exact mq_K_B (mq_K_call mk_57 (mq_kp_pi mq_kp_refl rfl) rfl) (fun _ M1 hM1 => mq_K_B (mq_K_call mk_57 hM1 rfl) (fun _ M2 hM2 => mq_K_B (mq_K_call mk_57 hM2 rfl) (fun _ M3 hM3 => mq_K_B (mq_K_call mk_57 hM3 rfl) (fun _ M4 hM4 => mq_K_ite (fun hc => mq_K_B (mq_K_call mk_29 hM4 rfl) (fun _ M6 hM6 => mq_K_B (mq_K_call mk_148 hM6 rfl) (fun _ M7 hM7 => mq_K_B (mq_K_call mk_150 hM7 rfl) (fun _ M8 hM8 => mq_K_B (mq_K_call mk_155 hM8 rfl) (fun _ M9 hM9 => mq_K_call mk_147_j88 hM9 rfl))))) (fun _ => mq_K_call mk_147_j88 hM4 rfl)))))
-- 65: PlainPacks$Writer.carry
def mw_65_j34 : List (Nat × Option Nat) := [(6, none)]
theorem mk_65_j34 {v2 : Int32} {s0 : Int32} {M : mm_M} : mq_K mw_65_j34 M (mf_65_j34 v2 s0 M) := by
  unfold mf_65_j34
  exact mq_K_ite (fun hc => mq_K_ite (fun hc => mq_K_ret (mq_kp_pi mq_kp_refl rfl)) (fun _ => mq_K_none)) (fun _ => mq_K_none)
def mw_65_b9 : List (Nat × Option Nat) := [(6, none)]
theorem mk_65_b9 {v1 : Int32} {v2 : Int32} {M : mm_M} : mq_K mw_65_b9 M (mf_65_b9 v1 v2 M) := by
  unfold mf_65_b9
  exact mq_K_ite (fun hc => mq_K_ret mq_kp_refl) (fun _ => mq_K_ite (fun hc => mq_K_ret mq_kp_refl) (fun _ => mq_K_ite (fun hc => mq_K_ite (fun hc => mq_K_call mk_65_j34 mq_kp_refl rfl) (fun _ => mq_K_call mk_65_j34 mq_kp_refl rfl)) (fun _ => mq_K_none)))
def mw_65_L9 : List (Nat × Option Nat) := [(6, none)]
theorem mk_65_L9 {s : Int32 × Int32} {M : mm_M} : mq_K mw_65_L9 M (mf_65_L9 s M) := by
  unfold mf_65_L9
  exact mq_K_L (fun s M h => mq_K_call mk_65_b9 h rfl) mq_kp_refl
def mw_65 : List (Nat × Option Nat) := [(6, none)]
theorem mk_65 {M : mm_M} : mq_K mw_65 M (mf_65 M) := by
  unfold mf_65
  exact mq_K_B (mq_K_call mk_65_L9 mq_kp_refl rfl) (fun _ M1 hM1 => mq_K_ret hM1)
-- 172: PlainPacks$Chances.writeBit
def mw_172_j113 : List (Nat × Option Nat) := [(5, some 1), (5, some 2), (6, none), (80, some 4), (80, some 15)]
theorem mk_172_j113 {M : mm_M} : mq_K mw_172_j113 M (mf_172_j113 M) := by
  unfold mf_172_j113
  exact mq_K_ite (fun hc => mq_K_B (mq_K_call mk_57 (mq_kp_pl mq_kp_refl rfl) rfl) (fun _ M1 hM1 => mq_K_ret (mq_kp_pl hM1 rfl))) (fun _ => mq_K_ret mq_kp_refl)
def mw_172 : List (Nat × Option Nat) := [(5, some 1), (5, some 2), (6, none), (80, some 4), (80, some 15), (81, none)]
theorem mk_172 {v1 : Int32} {v2 : Int32} {M : mm_M} : mq_K mw_172 M (mf_172 v1 v2 M) := by
  unfold mf_172
  exact mq_K_ite (fun hc => mq_K_ite (fun hc => mq_K_ite (fun hc => mq_K_call mk_172_j113 (mq_kp_pi (mq_kp_pl mq_kp_refl rfl) rfl) rfl) (fun _ => mq_K_none)) (fun _ => mq_K_ite (fun hc => mq_K_ite (fun hc => mq_K_B (mq_K_call mk_65 (mq_kp_pl (mq_kp_pl (mq_kp_pi (mq_kp_pl mq_kp_refl rfl) rfl) rfl) rfl) rfl) (fun _ M1 hM1 => mq_K_call mk_172_j113 hM1 rfl)) (fun _ => mq_K_call mk_172_j113 (mq_kp_pl (mq_kp_pi (mq_kp_pl mq_kp_refl rfl) rfl) rfl) rfl)) (fun _ => mq_K_none))) (fun _ => mq_K_none)
-- 171: PlainPacks$Chances.writeChances
def mw_171_b108 : List (Nat × Option Nat) := [(5, some 1), (5, some 2), (6, none), (80, some 4), (80, some 15), (81, none)]
theorem mk_171_b108 {v1 : Int32} {v2 : Int32} {v3 : Int32} {v4 : Int32} {v5 : Int32} {M : mm_M} : mq_K mw_171_b108 M (mf_171_b108 v1 v2 v3 v4 v5 M) := by
  unfold mf_171_b108
  exact mq_K_ite (fun hc => mq_K_ret mq_kp_refl) (fun _ => mq_K_B (mq_K_call mk_172 mq_kp_refl rfl) (fun _ M1 hM1 => mq_K_ret hM1))
def mw_171_L108 : List (Nat × Option Nat) := [(5, some 1), (5, some 2), (6, none), (80, some 4), (80, some 15), (81, none)]
theorem mk_171_L108 {v1 : Int32} {v2 : Int32} {v3 : Int32} {s : Int32 × Int32} {M : mm_M} : mq_K mw_171_L108 M (mf_171_L108 v1 v2 v3 s M) := by
  unfold mf_171_L108
  exact mq_K_L (fun s M h => mq_K_call mk_171_b108 h rfl) mq_kp_refl
def mw_171_b58 : List (Nat × Option Nat) := [(5, some 1), (5, some 2), (6, none), (80, some 4), (80, some 15), (81, none)]
theorem mk_171_b58 {v1 : Int32} {v2 : Int32} {M : mm_M} : mq_K mw_171_b58 M (mf_171_b58 v1 v2 M) := by
  unfold mf_171_b58
  exact mq_K_ite (fun hc => mq_K_B (mq_K_call mk_172 mq_kp_refl rfl) (fun _ M1 hM1 => mq_K_ite (fun hc => mq_K_B (mq_K_call mk_171_L108 hM1 rfl) (fun _ M2 hM2 => mq_K_ret hM2)) (fun _ => mq_K_none))) (fun _ => mq_K_ret mq_kp_refl)
def mw_171_L58 : List (Nat × Option Nat) := [(5, some 1), (5, some 2), (6, none), (80, some 4), (80, some 15), (81, none)]
theorem mk_171_L58 {s : Int32 × Int32} {M : mm_M} : mq_K mw_171_L58 M (mf_171_L58 s M) := by
  unfold mf_171_L58
  exact mq_K_L (fun s M h => mq_K_call mk_171_b58 h rfl) mq_kp_refl
def mw_171_j152 : List (Nat × Option Nat) := [(5, some 1), (5, some 2), (6, none)]
theorem mk_171_j152 {M : mm_M} : mq_K mw_171_j152 M (mf_171_j152 M) := by
  unfold mf_171_j152
  exact mq_K_B (mq_K_call mk_60 mq_kp_refl rfl) (fun _ M1 hM1 => mq_K_ret hM1)
def mw_171 : List (Nat × Option Nat) := [(5, some 1), (5, some 2), (6, none), (80, some 4), (80, some 9), (80, some 10), (80, some 11), (80, some 12), (80, some 13), (80, some 15), (81, none)]
theorem mk_171 {M : mm_M} : mq_K mw_171 M (mf_171 M) := by
  unfold mf_171
  exact mq_K_B (mq_K_call mk_57 mq_kp_refl rfl) (fun _ M1 hM1 => mq_K_B (mq_K_call mk_59 hM1 rfl) (fun _ M2 hM2 => mq_K_B (mq_K_call mk_59 hM2 rfl) (fun _ M3 hM3 => mq_K_B (mq_K_call mk_57 hM3 rfl) (fun _ M4 hM4 => mq_K_B (mq_K_call mk_158 hM4 rfl) (fun _ M5 hM5 => mq_K_B (mq_K_call mk_171_L58 (mq_kp_pl hM5 rfl) rfl) (fun _ M6 hM6 => mq_K_call mk_171_j152 hM6 rfl))))))
-- 50: PlainPacks$Sink.become
def mw_50 : List (Nat × Option Nat) := [(3, some 1), (4, none)]
theorem mk_50 {v2 : Int32} {M : mm_M} : mq_K mw_50 M (mf_50 v2 M) := by
  unfold mf_50
  exact mq_K_ite (fun hc => mq_K_ret mq_kp_refl) (fun _ => mq_K_ite (fun hc => mq_K_ret mq_kp_refl) (fun _ => mq_K_ite (fun hc => mq_K_ret mq_kp_refl) (fun _ => mq_K_ite (fun hc => mq_K_ret (mq_kp_pi (mq_kp_cp mq_kp_refl rfl) rfl)) (fun _ => mq_K_none))))
-- 20: PlainPacks.pack
def mw_20_j175 : List (Nat × Option Nat) := [(3, some 1), (4, none)]
theorem mk_20_j175 {M : mm_M} : mq_K mw_20_j175 M (mf_20_j175 M) := by
  unfold mf_20_j175
  exact mq_K_ite (fun hc => mq_K_B (mq_K_call mk_50 mq_kp_refl rfl) (fun _ M1 hM1 => mq_K_ret hM1)) (fun _ => mq_K_ret mq_kp_refl)
def mw_20 : List (Nat × Option Nat) := [(3, some 1), (4, none), (5, some 1), (5, some 2), (5, some 3), (5, some 4), (5, some 5), (6, none), (7, some 5), (7, some 6), (8, none), (9, none), (10, none), (11, none), (12, none), (13, some 0), (13, some 1), (13, some 6), (13, some 7), (14, none), (15, none), (35, some 8), (35, some 9), (35, some 10), (35, some 11), (35, some 12), (38, none), (39, none), (40, none), (42, some 9), (42, some 10), (42, some 12), (42, some 15), (42, some 16), (46, none), (47, none), (48, none), (49, none), (80, some 4), (80, some 9), (80, some 10), (80, some 11), (80, some 12), (80, some 13), (80, some 15), (81, none)]
theorem mk_20 {v1 : Int32} {M : mm_M} : mq_K mw_20 M (mf_20 v1 M) := by
  unfold mf_20
  exact mq_K_B (mq_K_call mk_26 mq_kp_refl rfl) (fun _ M1 hM1 => mq_K_B (mq_K_call mk_55 hM1 rfl) (fun _ M2 hM2 => mq_K_ite (fun hc => mq_K_B (mq_K_call mk_127 hM2 rfl) (fun _ M3 hM3 => mq_K_call mk_20_j175 hM3 rfl)) (fun _ => mq_K_ite (fun hc => mq_K_B (mq_K_call mk_91 hM2 rfl) (fun _ M4 hM4 => mq_K_call mk_20_j175 hM4 rfl)) (fun _ => mq_K_ite (fun hc => mq_K_B (mq_K_call mk_89 hM2 rfl) (fun _ M5 hM5 => mq_K_call mk_20_j175 hM5 rfl)) (fun _ => mq_K_ite (fun hc => mq_K_B (mq_K_call mk_90 hM2 rfl) (fun _ M6 hM6 => mq_K_call mk_20_j175 hM6 rfl)) (fun _ => mq_K_ite (fun hc => mq_K_B (mq_K_call mk_112 hM2 rfl) (fun _ M7 hM7 => mq_K_call mk_20_j175 hM7 rfl)) (fun _ => mq_K_ite (fun hc => mq_K_B (mq_K_call mk_113 hM2 rfl) (fun _ M8 hM8 => mq_K_call mk_20_j175 hM8 rfl)) (fun _ => mq_K_ite (fun hc => mq_K_B (mq_K_call mk_129 hM2 rfl) (fun _ M9 hM9 => mq_K_call mk_20_j175 hM9 rfl)) (fun _ => mq_K_ite (fun hc => mq_K_B (mq_K_call mk_133 hM2 rfl) (fun _ M10 hM10 => mq_K_call mk_20_j175 hM10 rfl)) (fun _ => mq_K_ite (fun hc => mq_K_B (mq_K_call mk_135 hM2 rfl) (fun _ M11 hM11 => mq_K_call mk_20_j175 hM11 rfl)) (fun _ => mq_K_ite (fun hc => mq_K_B (mq_K_call mk_147 hM2 rfl) (fun _ M12 hM12 => mq_K_call mk_20_j175 hM12 rfl)) (fun _ => mq_K_B (mq_K_call mk_171 hM2 rfl) (fun _ M13 hM13 => mq_K_call mk_20_j175 hM13 rfl)))))))))))))
-- 251: PlainPacksModel.alikeAt
def mw_251_b2 : List (Nat × Option Nat) := []
theorem mk_251_b2 {v1 : Int32} {v2 : Int32} {v3 : Int32} {M : mm_M} : mq_K mw_251_b2 M (mf_251_b2 v1 v2 v3 M) := by
  unfold mf_251_b2
  exact mq_K_ite (fun hc => mq_K_ite (fun hc => mq_K_ite (fun hc => mq_K_ite (fun hc => mq_K_ite (fun hc => mq_K_ret mq_kp_refl) (fun _ => mq_K_ret mq_kp_refl)) (fun _ => mq_K_none)) (fun _ => mq_K_none)) (fun _ => mq_K_ret mq_kp_refl)) (fun _ => mq_K_ret mq_kp_refl)
def mw_251_L2 : List (Nat × Option Nat) := []
theorem mk_251_L2 {v1 : Int32} {v2 : Int32} {s : Int32} {M : mm_M} : mq_K mw_251_L2 M (mf_251_L2 v1 v2 s M) := by
  unfold mf_251_L2
  exact mq_K_L (fun s M h => mq_K_call mk_251_b2 h rfl) mq_kp_refl
def mw_251 : List (Nat × Option Nat) := []
theorem mk_251 {v1 : Int32} {v2 : Int32} {M : mm_M} : mq_K mw_251 M (mf_251 v1 v2 M) := by
  unfold mf_251
  exact mq_K_B (mq_K_call mk_251_L2 mq_kp_refl rfl) (fun _ M1 hM1 => mq_K_ret hM1)
-- 245: PlainPacksModel.write
def mw_245 : List (Nat × Option Nat) := [(84, some 41), (100, none)]
theorem mk_245 {v1 : Int32} {M : mm_M} : mq_K mw_245 M (mf_245 v1 M) := by
  unfold mf_245
  exact mq_K_ite (fun hc => mq_K_ite (fun hc => mq_K_ret (mq_kp_pi (mq_kp_pi mq_kp_refl rfl) rfl)) (fun _ => mq_K_none)) (fun _ => mq_K_ret (mq_kp_pi mq_kp_refl rfl))
-- 252: PlainPacksModel.packRuns
def mw_252_b52 : List (Nat × Option Nat) := []
theorem mk_252_b52 {v1 : Int32} {v3 : Int32} {M : mm_M} : mq_K mw_252_b52 M (mf_252_b52 v1 v3 M) := by
  unfold mf_252_b52
  exact mq_K_ite (fun hc => mq_K_ite (fun hc => mq_K_B (mq_K_call mk_251 mq_kp_refl rfl) (fun _ M2 hM2 => mq_K_ite (fun hc => mq_K_ret hM2) (fun _ => mq_K_ret hM2))) (fun _ => mq_K_ret mq_kp_refl)) (fun _ => mq_K_ret mq_kp_refl)
def mw_252_L52 : List (Nat × Option Nat) := []
theorem mk_252_L52 {v1 : Int32} {s : Int32} {M : mm_M} : mq_K mw_252_L52 M (mf_252_L52 v1 s M) := by
  unfold mf_252_L52
  exact mq_K_L (fun s M h => mq_K_call mk_252_b52 h rfl) mq_kp_refl
def mw_252_b94 : List (Nat × Option Nat) := [(84, some 41), (100, none)]
theorem mk_252_b94 {v1 : Int32} {v3 : Int32} {M : mm_M} : mq_K mw_252_b94 M (mf_252_b94 v1 v3 M) := by
  unfold mf_252_b94
  exact mq_K_ite (fun hc => mq_K_ite (fun hc => mq_K_B (mq_K_call mk_245 mq_kp_refl rfl) (fun _ M1 hM1 => mq_K_ret hM1)) (fun _ => mq_K_none)) (fun _ => mq_K_ret mq_kp_refl)
def mw_252_L94 : List (Nat × Option Nat) := [(84, some 41), (100, none)]
theorem mk_252_L94 {v3 : Int32} {s : Int32} {M : mm_M} : mq_K mw_252_L94 M (mf_252_L94 v3 s M) := by
  unfold mf_252_L94
  exact mq_K_L (fun s M h => mq_K_call mk_252_b94 h rfl) mq_kp_refl
def mw_252_j85 : List (Nat × Option Nat) := [(84, some 41), (100, none)]
theorem mk_252_j85 {v1 : Int32} {v3 : Int32} {M : mm_M} : mq_K mw_252_j85 M (mf_252_j85 v1 v3 M) := by
  unfold mf_252_j85
  exact mq_K_B (mq_K_call mk_245 mq_kp_refl rfl) (fun _ M1 hM1 => mq_K_B (mq_K_call mk_252_L94 hM1 rfl) (fun _ M2 hM2 => mq_K_ret hM2))
def mw_252_b2 : List (Nat × Option Nat) := [(84, some 41), (100, none)]
theorem mk_252_b2 {v1 : Int32} {M : mm_M} : mq_K mw_252_b2 M (mf_252_b2 v1 M) := by
  unfold mf_252_b2
  exact mq_K_ite (fun hc => mq_K_B (mq_K_call mk_251 mq_kp_refl rfl) (fun _ M2 hM2 => mq_K_ite (fun hc => mq_K_B (mq_K_call mk_245 hM2 rfl) (fun _ M3 hM3 => mq_K_ite (fun hc => mq_K_B (mq_K_call mk_245 hM3 rfl) (fun _ M4 hM4 => mq_K_ret hM4)) (fun _ => mq_K_none))) (fun _ => mq_K_B (mq_K_call mk_252_L52 hM2 rfl) (fun _ M5 hM5 => mq_K_call mk_252_j85 hM5 rfl)))) (fun _ => mq_K_ret mq_kp_refl)
def mw_252_L2 : List (Nat × Option Nat) := [(84, some 41), (100, none)]
theorem mk_252_L2 {s : Int32} {M : mm_M} : mq_K mw_252_L2 M (mf_252_L2 s M) := by
  unfold mf_252_L2
  exact mq_K_L (fun s M h => mq_K_call mk_252_b2 h rfl) mq_kp_refl
def mw_252 : List (Nat × Option Nat) := [(84, some 41), (100, none)]
theorem mk_252 {M : mm_M} : mq_K mw_252 M (mf_252 M) := by
  unfold mf_252
  exact mq_K_B (mq_K_call mk_252_L2 mq_kp_refl rfl) (fun _ M1 hM1 => mq_K_ret hM1)
-- 248: PlainPacksModel.writeRest
def mw_248 : List (Nat × Option Nat) := [(84, some 41), (84, some 42), (84, some 43), (100, none)]
theorem mk_248 {M : mm_M} : mq_K mw_248 M (mf_248 M) := by
  unfold mf_248
  exact mq_K_ite (fun hc => mq_K_B (mq_K_call mk_245 mq_kp_refl rfl) (fun _ M1 hM1 => mq_K_ret (mq_kp_pi (mq_kp_pi hM1 rfl) rfl))) (fun _ => mq_K_ret (mq_kp_pi (mq_kp_pi mq_kp_refl rfl) rfl))
-- 247: PlainPacksModel.writeBit
def mw_247_j30 : List (Nat × Option Nat) := [(84, some 41), (84, some 42), (84, some 43), (100, none)]
theorem mk_247_j30 {s1 : Int32} {s2 : Int32} {M : mm_M} : mq_K mw_247_j30 M (mf_247_j30 s1 s2 M) := by
  unfold mf_247_j30
  exact mq_K_ite (fun hc => mq_K_B (mq_K_call mk_248 (mq_kp_pi (mq_kp_pi mq_kp_refl rfl) rfl) rfl) (fun _ M1 hM1 => mq_K_ret hM1)) (fun _ => mq_K_ret (mq_kp_pi (mq_kp_pi mq_kp_refl rfl) rfl))
def mw_247 : List (Nat × Option Nat) := [(84, some 41), (84, some 42), (84, some 43), (100, none)]
theorem mk_247 {v1 : Int32} {M : mm_M} : mq_K mw_247 M (mf_247 v1 M) := by
  unfold mf_247
  exact mq_K_ite (fun hc => mq_K_call mk_247_j30 mq_kp_refl rfl) (fun _ => mq_K_call mk_247_j30 mq_kp_refl rfl)
-- 249: PlainPacksModel.writeBits
def mw_249_j27 : List (Nat × Option Nat) := [(84, some 41), (84, some 42), (84, some 43), (100, none)]
theorem mk_249_j27 {v1 : Int64} {v3 : Int32} {v4 : Int32} {v5 : Int32} {s1 : Int64} {s2 : Int32} {M : mm_M} : mq_K mw_249_j27 M (mf_249_j27 v1 v3 v4 v5 s1 s2 M) := by
  unfold mf_249_j27
  exact mq_K_B (mq_K_call mk_247 mq_kp_refl rfl) (fun _ M1 hM1 => mq_K_ret hM1)
def mw_249_b3 : List (Nat × Option Nat) := [(84, some 41), (84, some 42), (84, some 43), (100, none)]
theorem mk_249_b3 {v1 : Int64} {v3 : Int32} {v4 : Int32} {v5 : Int32} {M : mm_M} : mq_K mw_249_b3 M (mf_249_b3 v1 v3 v4 v5 M) := by
  unfold mf_249_b3
  exact mq_K_ite (fun hc => mq_K_ite (fun hc => mq_K_call mk_249_j27 mq_kp_refl rfl) (fun _ => mq_K_call mk_249_j27 mq_kp_refl rfl)) (fun _ => mq_K_ret mq_kp_refl)
def mw_249_L3 : List (Nat × Option Nat) := [(84, some 41), (84, some 42), (84, some 43), (100, none)]
theorem mk_249_L3 {v1 : Int64} {v3 : Int32} {v4 : Int32} {s : Int32} {M : mm_M} : mq_K mw_249_L3 M (mf_249_L3 v1 v3 v4 s M) := by
  unfold mf_249_L3
  exact mq_K_L (fun s M h => mq_K_call mk_249_b3 h rfl) mq_kp_refl
def mw_249 : List (Nat × Option Nat) := [(84, some 41), (84, some 42), (84, some 43), (100, none)]
theorem mk_249 {v1 : Int64} {v3 : Int32} {v4 : Int32} {M : mm_M} : mq_K mw_249 M (mf_249 v1 v3 v4 M) := by
  unfold mf_249
  exact mq_K_B (mq_K_call mk_249_L3 mq_kp_refl rfl) (fun _ M1 hM1 => mq_K_ret hM1)
-- 250: PlainPacksModel.look
def mw_250_b55 : List (Nat × Option Nat) := []
theorem mk_250_b55 {v1 : Int32} {v3 : Int32} {v5 : Int32} {v6 : Int32} {v7 : Int32} {M : mm_M} : mq_K mw_250_b55 M (mf_250_b55 v1 v3 v5 v6 v7 M) := by
  unfold mf_250_b55
  exact mq_K_ite (fun hc => mq_K_ite (fun hc => mq_K_ite (fun hc => mq_K_ite (fun hc => mq_K_ret mq_kp_refl) (fun _ => mq_K_ret mq_kp_refl)) (fun _ => mq_K_none)) (fun _ => mq_K_none)) (fun _ => mq_K_ret mq_kp_refl)
def mw_250_L55 : List (Nat × Option Nat) := []
theorem mk_250_L55 {v1 : Int32} {v3 : Int32} {v5 : Int32} {v6 : Int32} {s : Int32} {M : mm_M} : mq_K mw_250_L55 M (mf_250_L55 v1 v3 v5 v6 s M) := by
  unfold mf_250_L55
  exact mq_K_L (fun s M h => mq_K_call mk_250_b55 h rfl) mq_kp_refl
def mw_250_j92 : List (Nat × Option Nat) := [(84, some 44), (84, some 45)]
theorem mk_250_j92 {v1 : Int32} {v3 : Int32} {v5 : Int32} {v6 : Int32} {v7 : Int32} {M : mm_M} : mq_K mw_250_j92 M (mf_250_j92 v1 v3 v5 v6 v7 M) := by
  unfold mf_250_j92
  exact mq_K_ite (fun hc => mq_K_ret (mq_kp_pi (mq_kp_pi mq_kp_refl rfl) rfl)) (fun _ => mq_K_ret mq_kp_refl)
def mw_250_b31 : List (Nat × Option Nat) := [(84, some 44), (84, some 45)]
theorem mk_250_b31 {v1 : Int32} {v3 : Int32} {v5 : Int32} {v6 : Int32} {M : mm_M} : mq_K mw_250_b31 M (mf_250_b31 v1 v3 v5 v6 M) := by
  unfold mf_250_b31
  exact mq_K_ite (fun hc => mq_K_ret mq_kp_refl) (fun _ => mq_K_ite (fun hc => mq_K_ret mq_kp_refl) (fun _ => mq_K_ite (fun hc => mq_K_B (mq_K_call mk_250_L55 mq_kp_refl rfl) (fun _ M1 hM1 => mq_K_call mk_250_j92 hM1 rfl)) (fun _ => mq_K_ret mq_kp_refl)))
def mw_250_L31 : List (Nat × Option Nat) := [(84, some 44), (84, some 45)]
theorem mk_250_L31 {v1 : Int32} {v3 : Int32} {v5 : Int32} {s : Int32} {M : mm_M} : mq_K mw_250_L31 M (mf_250_L31 v1 v3 v5 s M) := by
  unfold mf_250_L31
  exact mq_K_L (fun s M h => mq_K_call mk_250_b31 h rfl) mq_kp_refl
def mw_250 : List (Nat × Option Nat) := [(84, some 44), (84, some 45)]
theorem mk_250 {v1 : Int32} {v2 : Int32} {v3 : Int32} {v4 : Int32} {M : mm_M} : mq_K mw_250 M (mf_250 v1 v2 v3 v4 M) := by
  unfold mf_250
  exact mq_K_ite (fun hc => mq_K_B (mq_K_call mk_250_L31 (mq_kp_pi (mq_kp_pi mq_kp_refl rfl) rfl) rfl) (fun _ M1 hM1 => mq_K_ret hM1)) (fun _ => mq_K_B (mq_K_call mk_250_L31 (mq_kp_pi (mq_kp_pi mq_kp_refl rfl) rfl) rfl) (fun _ M11 hM11 => mq_K_ret hM11))
-- 253: PlainPacksModel.writeLetter
def mw_253 : List (Nat × Option Nat) := [(84, some 41), (84, some 42), (84, some 43), (100, none)]
theorem mk_253 {v1 : Int32} {M : mm_M} : mq_K mw_253 M (mf_253 v1 M) := by
  unfold mf_253
  exact mq_K_ite (fun hc => mq_K_ite (fun hc => mq_K_B (mq_K_call mk_249 mq_kp_refl rfl) (fun _ M1 hM1 => mq_K_ret hM1)) (fun _ => mq_K_none)) (fun _ => mq_K_none)
-- 255: PlainPacksModel.leastLength
def mw_255 : List (Nat × Option Nat) := []
theorem mk_255 {v0 : Int32} {M : mm_M} : mq_K mw_255 M (mf_255 v0 M) := by
  unfold mf_255
  exact mq_K_ite (fun hc => mq_K_ret mq_kp_refl) (fun _ => mq_K_ret mq_kp_refl)
-- 254: PlainPacksModel.letterOf
def mw_254_b15 : List (Nat × Option Nat) := []
theorem mk_254_b15 {v0 : Int32} {v1 : Int32} {M : mm_M} : mq_K mw_254_b15 M (mf_254_b15 v0 v1 M) := by
  unfold mf_254_b15
  exact mq_K_ite (fun hc => mq_K_B (mq_K_call mk_255 mq_kp_refl rfl) (fun _ M2 hM2 => mq_K_ite (fun hc => mq_K_ret hM2) (fun _ => mq_K_ret hM2))) (fun _ => mq_K_ret mq_kp_refl)
def mw_254_L15 : List (Nat × Option Nat) := []
theorem mk_254_L15 {v0 : Int32} {s : Int32} {M : mm_M} : mq_K mw_254_L15 M (mf_254_L15 v0 s M) := by
  unfold mf_254_L15
  exact mq_K_L (fun s M h => mq_K_call mk_254_b15 h rfl) mq_kp_refl
def mw_254 : List (Nat × Option Nat) := []
theorem mk_254 {v0 : Int32} {M : mm_M} : mq_K mw_254 M (mf_254 v0 M) := by
  unfold mf_254
  exact mq_K_ite (fun hc => mq_K_ret mq_kp_refl) (fun _ => mq_K_B (mq_K_call mk_254_L15 mq_kp_refl rfl) (fun _ M1 hM1 => mq_K_ret hM1))
-- 258: PlainPacksModel.moreBits
def mw_258 : List (Nat × Option Nat) := []
theorem mk_258 {v0 : Int32} {M : mm_M} : mq_K mw_258 M (mf_258 v0 M) := by
  unfold mf_258
  exact mq_K_ite (fun hc => mq_K_ret mq_kp_refl) (fun _ => mq_K_ite (fun hc => mq_K_ret mq_kp_refl) (fun _ => mq_K_ret mq_kp_refl))
-- 256: PlainPacksModel.leastDistance
def mw_256 : List (Nat × Option Nat) := []
theorem mk_256 {v0 : Int32} {M : mm_M} : mq_K mw_256 M (mf_256 v0 M) := by
  unfold mf_256
  exact mq_K_ite (fun hc => mq_K_ret mq_kp_refl) (fun _ => mq_K_ret mq_kp_refl)
-- 257: PlainPacksModel.distanceLetter
def mw_257_b2 : List (Nat × Option Nat) := []
theorem mk_257_b2 {v0 : Int32} {v1 : Int32} {M : mm_M} : mq_K mw_257_b2 M (mf_257_b2 v0 v1 M) := by
  unfold mf_257_b2
  exact mq_K_ite (fun hc => mq_K_B (mq_K_call mk_256 mq_kp_refl rfl) (fun _ M2 hM2 => mq_K_ite (fun hc => mq_K_ret hM2) (fun _ => mq_K_ret hM2))) (fun _ => mq_K_ret mq_kp_refl)
def mw_257_L2 : List (Nat × Option Nat) := []
theorem mk_257_L2 {v0 : Int32} {s : Int32} {M : mm_M} : mq_K mw_257_L2 M (mf_257_L2 v0 s M) := by
  unfold mf_257_L2
  exact mq_K_L (fun s M h => mq_K_call mk_257_b2 h rfl) mq_kp_refl
def mw_257 : List (Nat × Option Nat) := []
theorem mk_257 {v0 : Int32} {M : mm_M} : mq_K mw_257 M (mf_257 v0 M) := by
  unfold mf_257
  exact mq_K_B (mq_K_call mk_257_L2 mq_kp_refl rfl) (fun _ M1 hM1 => mq_K_ret hM1)
-- 259: PlainPacksModel.moreFar
def mw_259 : List (Nat × Option Nat) := []
theorem mk_259 {v0 : Int32} {M : mm_M} : mq_K mw_259 M (mf_259 v0 M) := by
  unfold mf_259
  exact mq_K_ite (fun hc => mq_K_ret mq_kp_refl) (fun _ => mq_K_ret mq_kp_refl)
-- 260: PlainPacksModel.packBlock
def mw_260_j106 : List (Nat × Option Nat) := [(84, some 41), (84, some 42), (84, some 43), (100, none)]
theorem mk_260_j106 {v1 : Int32} {v2 : Int32} {s1 : Int64} {M : mm_M} : mq_K mw_260_j106 M (mf_260_j106 v1 v2 s1 M) := by
  unfold mf_260_j106
  exact mq_K_B (mq_K_call mk_258 mq_kp_refl rfl) (fun _ M2 hM2 => mq_K_B (mq_K_call mk_249 hM2 rfl) (fun _ M3 hM3 => mq_K_B (mq_K_call mk_257 hM3 rfl) (fun _ M5 hM5 => mq_K_B (mq_K_call mk_249 hM5 rfl) (fun _ M6 hM6 => mq_K_B (mq_K_call mk_256 hM6 rfl) (fun _ M8 hM8 => mq_K_B (mq_K_call mk_259 hM8 rfl) (fun _ M10 hM10 => mq_K_B (mq_K_call mk_249 hM10 rfl) (fun _ M11 hM11 => mq_K_ret hM11)))))))
def mw_260_b25 : List (Nat × Option Nat) := [(84, some 41), (84, some 42), (84, some 43), (84, some 44), (84, some 45), (100, none)]
theorem mk_260_b25 {v1 : Int32} {M : mm_M} : mq_K mw_260_b25 M (mf_260_b25 v1 M) := by
  unfold mf_260_b25
  exact mq_K_ite (fun hc => mq_K_B (mq_K_call mk_250 mq_kp_refl rfl) (fun _ M1 hM1 => mq_K_ite (fun hc => mq_K_ite (fun hc => mq_K_B (mq_K_call mk_253 hM1 rfl) (fun _ M2 hM2 => mq_K_ret hM2)) (fun _ => mq_K_none)) (fun _ => mq_K_B (mq_K_call mk_254 hM1 rfl) (fun _ M4 hM4 => mq_K_B (mq_K_call mk_253 hM4 rfl) (fun _ M5 hM5 => mq_K_ite (fun hc => mq_K_call mk_260_j106 hM5 rfl) (fun _ => mq_K_B (mq_K_call mk_255 hM5 rfl) (fun _ M7 hM7 => mq_K_call mk_260_j106 hM7 rfl))))))) (fun _ => mq_K_ret mq_kp_refl)
def mw_260_L25 : List (Nat × Option Nat) := [(84, some 41), (84, some 42), (84, some 43), (84, some 44), (84, some 45), (100, none)]
theorem mk_260_L25 {s : Int32} {M : mm_M} : mq_K mw_260_L25 M (mf_260_L25 s M) := by
  unfold mf_260_L25
  exact mq_K_L (fun s M h => mq_K_call mk_260_b25 h rfl) mq_kp_refl
def mw_260_j159 : List (Nat × Option Nat) := [(84, some 41), (84, some 42), (84, some 43), (100, none)]
theorem mk_260_j159 {M : mm_M} : mq_K mw_260_j159 M (mf_260_j159 M) := by
  unfold mf_260_j159
  exact mq_K_B (mq_K_call mk_253 mq_kp_refl rfl) (fun _ M1 hM1 => mq_K_B (mq_K_call mk_248 hM1 rfl) (fun _ M2 hM2 => mq_K_ret hM2))
def mw_260 : List (Nat × Option Nat) := [(84, some 13), (84, some 20), (84, some 21), (84, some 41), (84, some 42), (84, some 43), (84, some 44), (84, some 45), (87, none), (88, none), (100, none)]
theorem mk_260 {M : mm_M} : mq_K mw_260 M (mf_260 M) := by
  unfold mf_260
  exact mq_K_B (mq_K_call mk_205 (mq_kp_pi mq_kp_refl rfl) rfl) (fun _ M1 hM1 => mq_K_B (mq_K_call mk_249 hM1 rfl) (fun _ M2 hM2 => mq_K_B (mq_K_call mk_249 hM2 rfl) (fun _ M3 hM3 => mq_K_B (mq_K_call mk_260_L25 hM3 rfl) (fun _ M4 hM4 => mq_K_call mk_260_j159 hM4 rfl))))
-- 246: PlainPacksModel.writeLow
def mw_246_b3 : List (Nat × Option Nat) := [(84, some 41), (100, none)]
theorem mk_246_b3 {v1 : Int64} {v3 : Int32} {v4 : Int32} {M : mm_M} : mq_K mw_246_b3 M (mf_246_b3 v1 v3 v4 M) := by
  unfold mf_246_b3
  exact mq_K_ite (fun hc => mq_K_B (mq_K_call mk_245 mq_kp_refl rfl) (fun _ M1 hM1 => mq_K_ret hM1)) (fun _ => mq_K_ret mq_kp_refl)
def mw_246_L3 : List (Nat × Option Nat) := [(84, some 41), (100, none)]
theorem mk_246_L3 {v1 : Int64} {v3 : Int32} {s : Int32} {M : mm_M} : mq_K mw_246_L3 M (mf_246_L3 v1 v3 s M) := by
  unfold mf_246_L3
  exact mq_K_L (fun s M h => mq_K_call mk_246_b3 h rfl) mq_kp_refl
def mw_246 : List (Nat × Option Nat) := [(84, some 41), (100, none)]
theorem mk_246 {v1 : Int64} {v3 : Int32} {M : mm_M} : mq_K mw_246 M (mf_246 v1 v3 M) := by
  unfold mf_246
  exact mq_K_B (mq_K_call mk_246_L3 mq_kp_refl rfl) (fun _ M1 hM1 => mq_K_ret hM1)
-- 285: PlainPacksModel.packBlocks
def mw_285_b42 : List (Nat × Option Nat) := [(84, some 41), (100, none)]
theorem mk_285_b42 {v1 : Int32} {v2 : Int32} {M : mm_M} : mq_K mw_285_b42 M (mf_285_b42 v1 v2 M) := by
  unfold mf_285_b42
  exact mq_K_ite (fun hc => mq_K_B (mq_K_call mk_245 mq_kp_refl rfl) (fun _ M1 hM1 => mq_K_ret hM1)) (fun _ => mq_K_ret mq_kp_refl)
def mw_285_L42 : List (Nat × Option Nat) := [(84, some 41), (100, none)]
theorem mk_285_L42 {v1 : Int32} {s : Int32} {M : mm_M} : mq_K mw_285_L42 M (mf_285_L42 v1 s M) := by
  unfold mf_285_L42
  exact mq_K_L (fun s M h => mq_K_call mk_285_b42 h rfl) mq_kp_refl
def mw_285_b91 : List (Nat × Option Nat) := [(84, some 41), (100, none)]
theorem mk_285_b91 {v1 : Int32} {v2 : Int32} {v3 : Int32} {M : mm_M} : mq_K mw_285_b91 M (mf_285_b91 v1 v2 v3 M) := by
  unfold mf_285_b91
  exact mq_K_ite (fun hc => mq_K_ret mq_kp_refl) (fun _ => mq_K_B (mq_K_call mk_245 mq_kp_refl rfl) (fun _ M1 hM1 => mq_K_ret hM1))
def mw_285_L91 : List (Nat × Option Nat) := [(84, some 41), (100, none)]
theorem mk_285_L91 {v1 : Int32} {v2 : Int32} {s : Int32} {M : mm_M} : mq_K mw_285_L91 M (mf_285_L91 v1 v2 s M) := by
  unfold mf_285_L91
  exact mq_K_L (fun s M h => mq_K_call mk_285_b91 h rfl) mq_kp_refl
def mw_285_j112 : List (Nat × Option Nat) := [(84, some 41), (100, none)]
theorem mk_285_j112 {v1 : Int32} {M : mm_M} : mq_K mw_285_j112 M (mf_285_j112 v1 M) := by
  unfold mf_285_j112
  exact mq_K_ite (fun hc => mq_K_B (mq_K_call mk_182 mq_kp_refl rfl) (fun _ M2 hM2 => mq_K_B (mq_K_call mk_246 hM2 rfl) (fun _ M3 hM3 => mq_K_B (mq_K_call mk_246 hM3 rfl) (fun _ M4 hM4 => mq_K_ret hM4)))) (fun _ => mq_K_ret mq_kp_refl)
def mw_285_j66 : List (Nat × Option Nat) := [(84, some 13), (84, some 20), (84, some 21), (84, some 41), (84, some 42), (84, some 43), (84, some 44), (84, some 45), (87, none), (88, none), (100, none)]
theorem mk_285_j66 {v1 : Int32} {M : mm_M} : mq_K mw_285_j66 M (mf_285_j66 v1 M) := by
  unfold mf_285_j66
  exact mq_K_B (mq_K_call mk_260 mq_kp_refl rfl) (fun _ M1 hM1 => mq_K_ite (fun hc => mq_K_B (mq_K_call mk_184 hM1 rfl) (fun _ M3 hM3 => mq_K_B (mq_K_call mk_285_L91 hM3 rfl) (fun _ M4 hM4 => mq_K_call mk_285_j112 hM4 rfl))) (fun _ => mq_K_call mk_285_j112 hM1 rfl))
def mw_285_j59 : List (Nat × Option Nat) := [(84, some 13), (84, some 20), (84, some 21), (84, some 41), (84, some 42), (84, some 43), (84, some 44), (84, some 45), (87, none), (88, none), (100, none)]
theorem mk_285_j59 {v1 : Int32} {M : mm_M} : mq_K mw_285_j59 M (mf_285_j59 v1 M) := by
  unfold mf_285_j59
  exact mq_K_B (mq_K_call mk_245 mq_kp_refl rfl) (fun _ M1 hM1 => mq_K_call mk_285_j66 hM1 rfl)
def mw_285_j16 : List (Nat × Option Nat) := [(84, some 13), (84, some 20), (84, some 21), (84, some 41), (84, some 42), (84, some 43), (84, some 44), (84, some 45), (87, none), (88, none), (100, none)]
theorem mk_285_j16 {v1 : Int32} {M : mm_M} : mq_K mw_285_j16 M (mf_285_j16 v1 M) := by
  unfold mf_285_j16
  exact mq_K_ite (fun hc => mq_K_B (mq_K_call mk_245 mq_kp_refl rfl) (fun _ M1 hM1 => mq_K_B (mq_K_call mk_245 hM1 rfl) (fun _ M2 hM2 => mq_K_B (mq_K_call mk_245 hM2 rfl) (fun _ M3 hM3 => mq_K_B (mq_K_call mk_285_L42 hM3 rfl) (fun _ M4 hM4 => mq_K_call mk_285_j59 hM4 rfl))))) (fun _ => mq_K_call mk_285_j66 mq_kp_refl rfl)
def mw_285 : List (Nat × Option Nat) := [(84, some 13), (84, some 20), (84, some 21), (84, some 41), (84, some 42), (84, some 43), (84, some 44), (84, some 45), (87, none), (88, none), (100, none)]
theorem mk_285 {v1 : Int32} {M : mm_M} : mq_K mw_285 M (mf_285 v1 M) := by
  unfold mf_285
  exact mq_K_ite (fun hc => mq_K_B (mq_K_call mk_245 mq_kp_refl rfl) (fun _ M1 hM1 => mq_K_B (mq_K_call mk_245 hM1 rfl) (fun _ M2 hM2 => mq_K_call mk_285_j16 hM2 rfl))) (fun _ => mq_K_call mk_285_j16 mq_kp_refl rfl)
-- 262: PlainPacksModel.stands
def mw_262_b20 : List (Nat × Option Nat) := []
theorem mk_262_b20 {v1 : Int32} {v2 : Int32} {v3 : Int32} {v4 : Int32} {v5 : Int32} {M : mm_M} : mq_K mw_262_b20 M (mf_262_b20 v1 v2 v3 v4 v5 M) := by
  unfold mf_262_b20
  exact mq_K_ite (fun hc => mq_K_ite (fun hc => mq_K_ret mq_kp_refl) (fun _ => mq_K_ite (fun hc => mq_K_ite (fun hc => mq_K_ite (fun hc => mq_K_ret mq_kp_refl) (fun _ => mq_K_ret mq_kp_refl)) (fun _ => mq_K_none)) (fun _ => mq_K_none))) (fun _ => mq_K_ret mq_kp_refl)
def mw_262_L20 : List (Nat × Option Nat) := []
theorem mk_262_L20 {v1 : Int32} {v2 : Int32} {v3 : Int32} {s : Int32 × Int32} {M : mm_M} : mq_K mw_262_L20 M (mf_262_L20 v1 v2 v3 s M) := by
  unfold mf_262_L20
  exact mq_K_L (fun s M h => mq_K_call mk_262_b20 h rfl) mq_kp_refl
def mw_262 : List (Nat × Option Nat) := []
theorem mk_262 {v1 : Int32} {v2 : Int32} {v3 : Int32} {M : mm_M} : mq_K mw_262 M (mf_262 v1 v2 v3 M) := by
  unfold mf_262
  exact mq_K_ite (fun hc => mq_K_B (mq_K_call mk_262_L20 mq_kp_refl rfl) (fun _ M1 hM1 => mq_K_ite (fun hc => mq_K_ret hM1) (fun _ => mq_K_none))) (fun _ => mq_K_B (mq_K_call mk_262_L20 mq_kp_refl rfl) (fun _ M8 hM8 => mq_K_ite (fun hc => mq_K_ret hM8) (fun _ => mq_K_none)))
-- 261: PlainPacksModel.packWords
def mw_261_b94 : List (Nat × Option Nat) := []
theorem mk_261_b94 {v2 : Int32} {v3 : Int32} {v4 : Int32} {v5 : Int32} {v8 : Int32} {v9 : Int32} {v10 : Int32} {v11 : Int32} {M : mm_M} : mq_K mw_261_b94 M (mf_261_b94 v2 v3 v4 v5 v8 v9 v10 v11 M) := by
  unfold mf_261_b94
  exact mq_K_ite (fun hc => mq_K_ite (fun hc => mq_K_ite (fun hc => mq_K_ite (fun hc => mq_K_ite (fun hc => mq_K_B (mq_K_call mk_262 mq_kp_refl rfl) (fun _ M2 hM2 => mq_K_ite (fun hc => mq_K_ret hM2) (fun _ => mq_K_ite (fun hc => mq_K_ret hM2) (fun _ => mq_K_none)))) (fun _ => mq_K_none)) (fun _ => mq_K_none)) (fun _ => mq_K_ret mq_kp_refl)) (fun _ => mq_K_none)) (fun _ => mq_K_ret mq_kp_refl)
def mw_261_L94 : List (Nat × Option Nat) := []
theorem mk_261_L94 {v2 : Int32} {v3 : Int32} {v4 : Int32} {v5 : Int32} {v8 : Int32} {s : Int32 × Int32 × Int32} {M : mm_M} : mq_K mw_261_L94 M (mf_261_L94 v2 v3 v4 v5 v8 s M) := by
  unfold mf_261_L94
  exact mq_K_L (fun s M h => mq_K_call mk_261_b94 h rfl) mq_kp_refl
def mw_261_j200 : List (Nat × Option Nat) := []
theorem mk_261_j200 {v2 : Int32} {v3 : Int32} {v4 : Int32} {v5 : Int32} {v6 : Int32} {v7 : Int32} {v8 : Int32} {s0 : Int32} {s1 : Int32} {s2 : Int32} {M : mm_M} : mq_K mw_261_j200 M (mf_261_j200 v2 v3 v4 v5 v6 v7 v8 s0 s1 s2 M) := by
  unfold mf_261_j200
  exact mq_K_ite (fun hc => mq_K_ret mq_kp_refl) (fun _ => mq_K_ret mq_kp_refl)
def mw_261_j155 : List (Nat × Option Nat) := [(84, some 41), (84, some 42), (84, some 43), (100, none)]
theorem mk_261_j155 {v2 : Int32} {v3 : Int32} {v4 : Int32} {v5 : Int32} {v8 : Int32} {v9 : Int32} {v10 : Int32} {M : mm_M} : mq_K mw_261_j155 M (mf_261_j155 v2 v3 v4 v5 v8 v9 v10 M) := by
  unfold mf_261_j155
  exact mq_K_B (mq_K_call mk_249 mq_kp_refl rfl) (fun _ M1 hM1 => mq_K_ite (fun hc => mq_K_ite (fun hc => mq_K_call mk_261_j200 hM1 rfl) (fun _ => mq_K_call mk_261_j200 hM1 rfl)) (fun _ => mq_K_ret hM1))
def mw_261_j77 : List (Nat × Option Nat) := [(84, some 41), (84, some 42), (84, some 43), (100, none)]
theorem mk_261_j77 {v2 : Int32} {v3 : Int32} {v4 : Int32} {v5 : Int32} {v8 : Int32} {M : mm_M} : mq_K mw_261_j77 M (mf_261_j77 v2 v3 v4 v5 v8 M) := by
  unfold mf_261_j77
  exact mq_K_ite (fun hc => mq_K_B (mq_K_call mk_261_L94 mq_kp_refl rfl) (fun _ M1 hM1 => mq_K_call mk_261_j155 hM1 rfl)) (fun _ => mq_K_none)
def mw_261_b32 : List (Nat × Option Nat) := [(84, some 41), (84, some 42), (84, some 43), (91, none), (92, none), (100, none)]
theorem mk_261_b32 {v2 : Int32} {v3 : Int32} {v4 : Int32} {v5 : Int32} {v6 : Int32} {v7 : Int32} {v8 : Int32} {M : mm_M} : mq_K mw_261_b32 M (mf_261_b32 v2 v3 v4 v5 v6 v7 v8 M) := by
  unfold mf_261_b32
  exact mq_K_ite (fun hc => mq_K_ite (fun hc => mq_K_ite (fun hc => mq_K_ite (fun hc => mq_K_ite (fun hc => mq_K_call mk_261_j77 (mq_kp_pi (mq_kp_pi mq_kp_refl rfl) rfl) rfl) (fun _ => mq_K_none)) (fun _ => mq_K_none)) (fun _ => mq_K_call mk_261_j77 mq_kp_refl rfl)) (fun _ => mq_K_call mk_261_j77 mq_kp_refl rfl)) (fun _ => mq_K_ret mq_kp_refl)
def mw_261_L32 : List (Nat × Option Nat) := [(84, some 41), (84, some 42), (84, some 43), (91, none), (92, none), (100, none)]
theorem mk_261_L32 {v2 : Int32} {v3 : Int32} {s : Int32 × Int32 × Int32 × Int32 × Int32} {M : mm_M} : mq_K mw_261_L32 M (mf_261_L32 v2 v3 s M) := by
  unfold mf_261_L32
  exact mq_K_L (fun s M h => mq_K_call mk_261_b32 h rfl) mq_kp_refl
def mw_261_j219 : List (Nat × Option Nat) := [(84, some 41), (84, some 42), (84, some 43), (100, none)]
theorem mk_261_j219 {v2 : Int32} {v3 : Int32} {v4 : Int32} {M : mm_M} : mq_K mw_261_j219 M (mf_261_j219 v2 v3 v4 M) := by
  unfold mf_261_j219
  exact mq_K_B (mq_K_call mk_249 mq_kp_refl rfl) (fun _ M1 hM1 => mq_K_B (mq_K_call mk_248 hM1 rfl) (fun _ M2 hM2 => mq_K_ret hM2))
def mw_261 : List (Nat × Option Nat) := [(84, some 41), (84, some 42), (84, some 43), (91, none), (92, none), (100, none)]
theorem mk_261 {v1 : Int32} {v2 : Int32} {M : mm_M} : mq_K mw_261 M (mf_261 v1 v2 M) := by
  unfold mf_261
  exact mq_K_B (mq_K_call mk_249 mq_kp_refl rfl) (fun _ M1 hM1 => mq_K_B (mq_K_call mk_261_L32 hM1 rfl) (fun _ M2 hM2 => mq_K_call mk_261_j219 hM2 rfl))
-- 263: PlainPacksModel.writeGrown
def mw_263_b5 : List (Nat × Option Nat) := [(84, some 41), (100, none)]
theorem mk_263_b5 {v2 : Int32} {M : mm_M} : mq_K mw_263_b5 M (mf_263_b5 v2 M) := by
  unfold mf_263_b5
  exact mq_K_ite (fun hc => mq_K_ret mq_kp_refl) (fun _ => mq_K_B (mq_K_call mk_245 mq_kp_refl rfl) (fun _ M1 hM1 => mq_K_ret hM1))
def mw_263_L5 : List (Nat × Option Nat) := [(84, some 41), (100, none)]
theorem mk_263_L5 {s : Int32} {M : mm_M} : mq_K mw_263_L5 M (mf_263_L5 s M) := by
  unfold mf_263_L5
  exact mq_K_L (fun s M h => mq_K_call mk_263_b5 h rfl) mq_kp_refl
def mw_263_j28 : List (Nat × Option Nat) := [(84, some 41), (100, none)]
theorem mk_263_j28 {v2 : Int32} {M : mm_M} : mq_K mw_263_j28 M (mf_263_j28 v2 M) := by
  unfold mf_263_j28
  exact mq_K_ite (fun hc => mq_K_ret mq_kp_refl) (fun _ => mq_K_B (mq_K_call mk_245 mq_kp_refl rfl) (fun _ M1 hM1 => mq_K_ret hM1))
def mw_263 : List (Nat × Option Nat) := [(84, some 41), (100, none)]
theorem mk_263 {v1 : Int32} {M : mm_M} : mq_K mw_263 M (mf_263 v1 M) := by
  unfold mf_263
  exact mq_K_B (mq_K_call mk_263_L5 mq_kp_refl rfl) (fun _ M1 hM1 => mq_K_call mk_263_j28 hM1 rfl)
-- 264: PlainPacksModel.writePiece
def mw_264_b62 : List (Nat × Option Nat) := [(84, some 41), (100, none)]
theorem mk_264_b62 {v2 : Int32} {v3 : Int32} {v4 : Int32} {v6 : Int32} {v7 : Int32} {M : mm_M} : mq_K mw_264_b62 M (mf_264_b62 v2 v3 v4 v6 v7 M) := by
  unfold mf_264_b62
  exact mq_K_ite (fun hc => mq_K_ite (fun hc => mq_K_B (mq_K_call mk_245 mq_kp_refl rfl) (fun _ M1 hM1 => mq_K_ret hM1)) (fun _ => mq_K_none)) (fun _ => mq_K_ret mq_kp_refl)
def mw_264_L62 : List (Nat × Option Nat) := [(84, some 41), (100, none)]
theorem mk_264_L62 {v2 : Int32} {v3 : Int32} {v4 : Int32} {v6 : Int32} {s : Int32} {M : mm_M} : mq_K mw_264_L62 M (mf_264_L62 v2 v3 v4 v6 s M) := by
  unfold mf_264_L62
  exact mq_K_L (fun s M h => mq_K_call mk_264_b62 h rfl) mq_kp_refl
def mw_264_j85 : List (Nat × Option Nat) := [(84, some 41), (100, none)]
theorem mk_264_j85 {v3 : Int32} {v4 : Int32} {v6 : Int32} {M : mm_M} : mq_K mw_264_j85 M (mf_264_j85 v3 v4 v6 M) := by
  unfold mf_264_j85
  exact mq_K_ite (fun hc => mq_K_B (mq_K_call mk_246 mq_kp_refl rfl) (fun _ M1 hM1 => mq_K_B (mq_K_call mk_263 hM1 rfl) (fun _ M2 hM2 => mq_K_ret hM2))) (fun _ => mq_K_ret mq_kp_refl)
def mw_264_j49 : List (Nat × Option Nat) := [(84, some 41), (100, none)]
theorem mk_264_j49 {v1 : Int32} {v2 : Int32} {v3 : Int32} {v4 : Int32} {v5 : Int32} {v6 : Int32} {s1 : Int32} {s2 : Int32} {M : mm_M} : mq_K mw_264_j49 M (mf_264_j49 v1 v2 v3 v4 v5 v6 s1 s2 M) := by
  unfold mf_264_j49
  exact mq_K_B (mq_K_call mk_245 mq_kp_refl rfl) (fun _ M1 hM1 => mq_K_B (mq_K_call mk_263 hM1 rfl) (fun _ M2 hM2 => mq_K_B (mq_K_call mk_264_L62 hM2 rfl) (fun _ M3 hM3 => mq_K_call mk_264_j85 hM3 rfl)))
def mw_264_j25 : List (Nat × Option Nat) := [(84, some 41), (100, none)]
theorem mk_264_j25 {v1 : Int32} {v2 : Int32} {v3 : Int32} {v4 : Int32} {v5 : Int32} {v6 : Int32} {s1 : Int32} {M : mm_M} : mq_K mw_264_j25 M (mf_264_j25 v1 v2 v3 v4 v5 v6 s1 M) := by
  unfold mf_264_j25
  exact mq_K_ite (fun hc => mq_K_call mk_264_j49 mq_kp_refl rfl) (fun _ => mq_K_ite (fun hc => mq_K_call mk_264_j49 mq_kp_refl rfl) (fun _ => mq_K_call mk_264_j49 mq_kp_refl rfl))
def mw_264 : List (Nat × Option Nat) := [(84, some 41), (100, none)]
theorem mk_264 {v1 : Int32} {v2 : Int32} {v3 : Int32} {v4 : Int32} {M : mm_M} : mq_K mw_264 M (mf_264 v1 v2 v3 v4 M) := by
  unfold mf_264
  exact mq_K_ite (fun hc => mq_K_call mk_264_j25 mq_kp_refl rfl) (fun _ => mq_K_call mk_264_j25 mq_kp_refl rfl)
-- 265: PlainPacksModel.packPieces
def mw_265_b4 : List (Nat × Option Nat) := [(84, some 41), (84, some 44), (84, some 45), (100, none)]
theorem mk_265_b4 {v1 : Int32} {v2 : Int32} {M : mm_M} : mq_K mw_265_b4 M (mf_265_b4 v1 v2 M) := by
  unfold mf_265_b4
  exact mq_K_ite (fun hc => mq_K_ret mq_kp_refl) (fun _ => mq_K_B (mq_K_call mk_250 mq_kp_refl rfl) (fun _ M1 hM1 => mq_K_ite (fun hc => mq_K_ret hM1) (fun _ => mq_K_B (mq_K_call mk_264 hM1 rfl) (fun _ M2 hM2 => mq_K_ret hM2))))
def mw_265_L4 : List (Nat × Option Nat) := [(84, some 41), (84, some 44), (84, some 45), (100, none)]
theorem mk_265_L4 {s : Int32 × Int32} {M : mm_M} : mq_K mw_265_L4 M (mf_265_L4 s M) := by
  unfold mf_265_L4
  exact mq_K_L (fun s M h => mq_K_call mk_265_b4 h rfl) mq_kp_refl
def mw_265_j71 : List (Nat × Option Nat) := [(84, some 41), (100, none)]
theorem mk_265_j71 {v1 : Int32} {M : mm_M} : mq_K mw_265_j71 M (mf_265_j71 v1 M) := by
  unfold mf_265_j71
  exact mq_K_B (mq_K_call mk_264 mq_kp_refl rfl) (fun _ M1 hM1 => mq_K_ret hM1)
def mw_265 : List (Nat × Option Nat) := [(84, some 41), (84, some 44), (84, some 45), (100, none)]
theorem mk_265 {M : mm_M} : mq_K mw_265 M (mf_265 M) := by
  unfold mf_265
  exact mq_K_B (mq_K_call mk_265_L4 mq_kp_refl rfl) (fun _ M1 hM1 => mq_K_call mk_265_j71 hM1 rfl)
-- 267: PlainPacksModel.writeTape
def mw_267_b2 : List (Nat × Option Nat) := [(84, some 41), (100, none)]
theorem mk_267_b2 {v2 : Int32} {v3 : Int32} {M : mm_M} : mq_K mw_267_b2 M (mf_267_b2 v2 v3 M) := by
  unfold mf_267_b2
  exact mq_K_ite (fun hc => mq_K_ite (fun hc => mq_K_B (mq_K_call mk_245 mq_kp_refl rfl) (fun _ M1 hM1 => mq_K_ret hM1)) (fun _ => mq_K_none)) (fun _ => mq_K_ret mq_kp_refl)
def mw_267_L2 : List (Nat × Option Nat) := [(84, some 41), (100, none)]
theorem mk_267_L2 {v2 : Int32} {s : Int32} {M : mm_M} : mq_K mw_267_L2 M (mf_267_L2 v2 s M) := by
  unfold mf_267_L2
  exact mq_K_L (fun s M h => mq_K_call mk_267_b2 h rfl) mq_kp_refl
def mw_267 : List (Nat × Option Nat) := [(84, some 41), (100, none)]
theorem mk_267 {v1 : Int32} {v2 : Int32} {M : mm_M} : mq_K mw_267 M (mf_267 v1 v2 M) := by
  unfold mf_267
  exact mq_K_B (mq_K_call mk_267_L2 mq_kp_refl rfl) (fun _ M1 hM1 => mq_K_ret hM1)
-- 266: PlainPacksModel.packFrame
def mw_266_j154 : List (Nat × Option Nat) := [(84, some 41), (100, none)]
theorem mk_266_j154 {M : mm_M} : mq_K mw_266_j154 M (mf_266_j154 M) := by
  unfold mf_266_j154
  exact mq_K_B (mq_K_call mk_246 mq_kp_refl rfl) (fun _ M1 hM1 => mq_K_B (mq_K_call mk_188 hM1 rfl) (fun _ M3 hM3 => mq_K_B (mq_K_call mk_246 hM3 rfl) (fun _ M4 hM4 => mq_K_ret hM4)))
def mw_266_j124 : List (Nat × Option Nat) := [(84, some 41), (100, none)]
theorem mk_266_j124 {v2 : Int32} {v3 : Int32} {s1 : Int64} {M : mm_M} : mq_K mw_266_j124 M (mf_266_j124 v2 v3 s1 M) := by
  unfold mf_266_j124
  exact mq_K_B (mq_K_call mk_246 mq_kp_refl rfl) (fun _ M1 hM1 => mq_K_ite (fun hc => mq_K_call mk_266_j154 (mq_kp_pi hM1 rfl) rfl) (fun _ => mq_K_B (mq_K_call mk_267 hM1 rfl) (fun _ M2 hM2 => mq_K_call mk_266_j154 hM2 rfl)))
def mw_266_j99 : List (Nat × Option Nat) := [(84, some 41), (100, none)]
theorem mk_266_j99 {v1 : Int32} {v2 : Int32} {s0 : Int32} {M : mm_M} : mq_K mw_266_j99 M (mf_266_j99 v1 v2 s0 M) := by
  unfold mf_266_j99
  exact mq_K_ite (fun hc => mq_K_call mk_266_j124 (mq_kp_pi mq_kp_refl rfl) rfl) (fun _ => mq_K_call mk_266_j124 (mq_kp_pi mq_kp_refl rfl) rfl)
def mw_266 : List (Nat × Option Nat) := [(84, some 41), (84, some 44), (84, some 45), (100, none)]
theorem mk_266 {M : mm_M} : mq_K mw_266 M (mf_266 M) := by
  unfold mf_266
  exact mq_K_B (mq_K_call mk_245 mq_kp_refl rfl) (fun _ M1 hM1 => mq_K_B (mq_K_call mk_245 hM1 rfl) (fun _ M2 hM2 => mq_K_B (mq_K_call mk_245 hM2 rfl) (fun _ M3 hM3 => mq_K_B (mq_K_call mk_245 hM3 rfl) (fun _ M4 hM4 => mq_K_B (mq_K_call mk_245 hM4 rfl) (fun _ M5 hM5 => mq_K_B (mq_K_call mk_245 hM5 rfl) (fun _ M6 hM6 => mq_K_B (mq_K_call mk_188 hM6 rfl) (fun _ M8 hM8 => mq_K_B (mq_K_call mk_245 hM8 rfl) (fun _ M9 hM9 => mq_K_ite (fun hc => mq_K_B (mq_K_call mk_246 hM9 rfl) (fun _ M10 hM10 => mq_K_B (mq_K_call mk_265 hM10 rfl) (fun _ M11 hM11 => mq_K_ite (fun hc => mq_K_call mk_266_j99 hM11 rfl) (fun _ => mq_K_call mk_266_j99 hM11 rfl)))) (fun _ => mq_K_call mk_266_j154 hM9 rfl)))))))))
-- 268: PlainPacksModel.writeTag
def mw_268_j63 : List (Nat × Option Nat) := [(84, some 41), (100, none)]
theorem mk_268_j63 {v1 : Int32} {v2 : Int32} {M : mm_M} : mq_K mw_268_j63 M (mf_268_j63 v1 v2 M) := by
  unfold mf_268_j63
  exact mq_K_B (mq_K_call mk_267 mq_kp_refl rfl) (fun _ M1 hM1 => mq_K_ret hM1)
def mw_268 : List (Nat × Option Nat) := [(84, some 41), (100, none)]
theorem mk_268 {v1 : Int32} {v2 : Int32} {M : mm_M} : mq_K mw_268 M (mf_268 v1 v2 M) := by
  unfold mf_268
  exact mq_K_ite (fun hc => mq_K_ret mq_kp_refl) (fun _ => mq_K_ite (fun hc => mq_K_B (mq_K_call mk_245 mq_kp_refl rfl) (fun _ M1 hM1 => mq_K_call mk_268_j63 hM1 rfl)) (fun _ => mq_K_ite (fun hc => mq_K_B (mq_K_call mk_245 mq_kp_refl rfl) (fun _ M2 hM2 => mq_K_B (mq_K_call mk_245 hM2 rfl) (fun _ M3 hM3 => mq_K_call mk_268_j63 hM3 rfl))) (fun _ => mq_K_B (mq_K_call mk_245 mq_kp_refl rfl) (fun _ M4 hM4 => mq_K_B (mq_K_call mk_246 hM4 rfl) (fun _ M5 hM5 => mq_K_call mk_268_j63 hM5 rfl)))))
-- 269: PlainPacksModel.packTags
def mw_269_b5 : List (Nat × Option Nat) := [(84, some 41), (100, none)]
theorem mk_269_b5 {v1 : Int32} {M : mm_M} : mq_K mw_269_b5 M (mf_269_b5 v1 M) := by
  unfold mf_269_b5
  exact mq_K_ite (fun hc => mq_K_B (mq_K_call mk_245 mq_kp_refl rfl) (fun _ M1 hM1 => mq_K_ret hM1)) (fun _ => mq_K_ret mq_kp_refl)
def mw_269_L5 : List (Nat × Option Nat) := [(84, some 41), (100, none)]
theorem mk_269_L5 {s : Int32} {M : mm_M} : mq_K mw_269_L5 M (mf_269_L5 s M) := by
  unfold mf_269_L5
  exact mq_K_L (fun s M h => mq_K_call mk_269_b5 h rfl) mq_kp_refl
def mw_269_b40 : List (Nat × Option Nat) := [(84, some 41), (84, some 44), (84, some 45), (100, none)]
theorem mk_269_b40 {v2 : Int32} {v3 : Int32} {M : mm_M} : mq_K mw_269_b40 M (mf_269_b40 v2 v3 M) := by
  unfold mf_269_b40
  exact mq_K_ite (fun hc => mq_K_B (mq_K_call mk_250 mq_kp_refl rfl) (fun _ M1 hM1 => mq_K_ite (fun hc => mq_K_ret hM1) (fun _ => mq_K_B (mq_K_call mk_268 hM1 rfl) (fun _ M2 hM2 => mq_K_B (mq_K_call mk_245 hM2 rfl) (fun _ M3 hM3 => mq_K_B (mq_K_call mk_246 hM3 rfl) (fun _ M4 hM4 => mq_K_ret hM4)))))) (fun _ => mq_K_ret mq_kp_refl)
def mw_269_L40 : List (Nat × Option Nat) := [(84, some 41), (84, some 44), (84, some 45), (100, none)]
theorem mk_269_L40 {s : Int32 × Int32} {M : mm_M} : mq_K mw_269_L40 M (mf_269_L40 s M) := by
  unfold mf_269_L40
  exact mq_K_L (fun s M h => mq_K_call mk_269_b40 h rfl) mq_kp_refl
def mw_269_j117 : List (Nat × Option Nat) := [(84, some 41), (100, none)]
theorem mk_269_j117 {v2 : Int32} {M : mm_M} : mq_K mw_269_j117 M (mf_269_j117 v2 M) := by
  unfold mf_269_j117
  exact mq_K_B (mq_K_call mk_268 mq_kp_refl rfl) (fun _ M1 hM1 => mq_K_ret hM1)
def mw_269_j31 : List (Nat × Option Nat) := [(84, some 41), (84, some 44), (84, some 45), (100, none)]
theorem mk_269_j31 {v1 : Int32} {M : mm_M} : mq_K mw_269_j31 M (mf_269_j31 v1 M) := by
  unfold mf_269_j31
  exact mq_K_B (mq_K_call mk_245 mq_kp_refl rfl) (fun _ M1 hM1 => mq_K_B (mq_K_call mk_269_L40 hM1 rfl) (fun _ M2 hM2 => mq_K_call mk_269_j117 hM2 rfl))
def mw_269 : List (Nat × Option Nat) := [(84, some 41), (84, some 44), (84, some 45), (100, none)]
theorem mk_269 {M : mm_M} : mq_K mw_269 M (mf_269 M) := by
  unfold mf_269
  exact mq_K_B (mq_K_call mk_269_L5 mq_kp_refl rfl) (fun _ M1 hM1 => mq_K_call mk_269_j31 hM1 rfl)
-- 275: PlainPacksModel.counted
def mw_275_b24 : List (Nat × Option Nat) := [(102, none)]
theorem mk_275_b24 {v1 : Int32} {v2 : Int32} {v3 : Int32} {v4 : Int32} {M : mm_M} : mq_K mw_275_b24 M (mf_275_b24 v1 v2 v3 v4 M) := by
  unfold mf_275_b24
  exact mq_K_ite (fun hc => mq_K_ite (fun hc => mq_K_ite (fun hc => mq_K_ite (fun hc => mq_K_ret (mq_kp_pi mq_kp_refl rfl)) (fun _ => mq_K_none)) (fun _ => mq_K_none)) (fun _ => mq_K_ret mq_kp_refl)) (fun _ => mq_K_ret mq_kp_refl)
def mw_275_L24 : List (Nat × Option Nat) := [(102, none)]
theorem mk_275_L24 {v2 : Int32} {v3 : Int32} {s : Int32 × Int32} {M : mm_M} : mq_K mw_275_L24 M (mf_275_L24 v2 v3 s M) := by
  unfold mf_275_L24
  exact mq_K_L (fun s M h => mq_K_call mk_275_b24 h rfl) mq_kp_refl
def mw_275_j57 : List (Nat × Option Nat) := [(102, none)]
theorem mk_275_j57 {v1 : Int32} {v2 : Int32} {v3 : Int32} {M : mm_M} : mq_K mw_275_j57 M (mf_275_j57 v1 v2 v3 M) := by
  unfold mf_275_j57
  exact mq_K_ite (fun hc => mq_K_ite (fun hc => mq_K_ret (mq_kp_pi mq_kp_refl rfl)) (fun _ => mq_K_none)) (fun _ => mq_K_ret mq_kp_refl)
def mw_275_b4 : List (Nat × Option Nat) := [(102, none)]
theorem mk_275_b4 {v1 : Int32} {v2 : Int32} {M : mm_M} : mq_K mw_275_b4 M (mf_275_b4 v1 v2 M) := by
  unfold mf_275_b4
  exact mq_K_ite (fun hc => mq_K_B (mq_K_call mk_251 mq_kp_refl rfl) (fun _ M2 hM2 => mq_K_B (mq_K_call mk_275_L24 hM2 rfl) (fun _ M3 hM3 => mq_K_call mk_275_j57 hM3 rfl))) (fun _ => mq_K_ret mq_kp_refl)
def mw_275_L4 : List (Nat × Option Nat) := [(102, none)]
theorem mk_275_L4 {s : Int32 × Int32} {M : mm_M} : mq_K mw_275_L4 M (mf_275_L4 s M) := by
  unfold mf_275_L4
  exact mq_K_L (fun s M h => mq_K_call mk_275_b4 h rfl) mq_kp_refl
def mw_275 : List (Nat × Option Nat) := [(102, none)]
theorem mk_275 {M : mm_M} : mq_K mw_275 M (mf_275 M) := by
  unfold mf_275
  exact mq_K_B (mq_K_call mk_275_L4 mq_kp_refl rfl) (fun _ M1 hM1 => mq_K_ret hM1)
-- 270: PlainPacksModel.compare
def mw_270 : List (Nat × Option Nat) := []
theorem mk_270 {v1 : Int32} {v2 : Int32} {v3 : Int32} {v4 : Int32} {M : mm_M} : mq_K mw_270 M (mf_270 v1 v2 v3 v4 M) := by
  unfold mf_270
  exact mq_K_ite (fun hc => mq_K_ite (fun hc => mq_K_ite (fun hc => mq_K_ite (fun hc => mq_K_ite (fun hc => mq_K_ite (fun hc => mq_K_ite (fun hc => mq_K_ret mq_kp_refl) (fun _ => mq_K_none)) (fun _ => mq_K_none)) (fun _ => mq_K_none)) (fun _ => mq_K_none)) (fun _ => mq_K_ret mq_kp_refl)) (fun _ => mq_K_none)) (fun _ => mq_K_none)
-- 272: PlainPacksModel.mergeBy
def mw_272_j100 : List (Nat × Option Nat) := []
theorem mk_272_j100 {v2 : Int32} {v3 : Int32} {v4 : Int32} {v5 : Int32} {v7 : Int32} {v8 : Int32} {v9 : Int32} {s0 : Int32} {s1 : Int32} {M : mm_M} : mq_K mw_272_j100 M (mf_272_j100 v2 v3 v4 v5 v7 v8 v9 s0 s1 M) := by
  unfold mf_272_j100
  exact mq_K_ite (fun hc => mq_K_ret mq_kp_refl) (fun _ => mq_K_ret mq_kp_refl)
def mw_272_j87 : List (Nat × Option Nat) := [(106, none)]
theorem mk_272_j87 {v2 : Int32} {v3 : Int32} {v4 : Int32} {v5 : Int32} {v6 : Int32} {v7 : Int32} {v8 : Int32} {v9 : Int32} {s1 : Int32} {s2 : Int32} {M : mm_M} : mq_K mw_272_j87 M (mf_272_j87 v2 v3 v4 v5 v6 v7 v8 v9 s1 s2 M) := by
  unfold mf_272_j87
  exact mq_K_ite (fun hc => mq_K_ite (fun hc => mq_K_call mk_272_j100 (mq_kp_pi mq_kp_refl rfl) rfl) (fun _ => mq_K_call mk_272_j100 (mq_kp_pi mq_kp_refl rfl) rfl)) (fun _ => mq_K_none)
def mw_272_j57 : List (Nat × Option Nat) := [(106, none)]
theorem mk_272_j57 {v2 : Int32} {v3 : Int32} {v4 : Int32} {v5 : Int32} {v6 : Int32} {v7 : Int32} {v8 : Int32} {s0 : Int32} {M : mm_M} : mq_K mw_272_j57 M (mf_272_j57 v2 v3 v4 v5 v6 v7 v8 s0 M) := by
  unfold mf_272_j57
  exact mq_K_ite (fun hc => mq_K_ite (fun hc => mq_K_call mk_272_j87 mq_kp_refl rfl) (fun _ => mq_K_none)) (fun _ => mq_K_ite (fun hc => mq_K_call mk_272_j87 mq_kp_refl rfl) (fun _ => mq_K_none))
def mw_272_j56 : List (Nat × Option Nat) := [(106, none)]
theorem mk_272_j56 {v2 : Int32} {v3 : Int32} {v4 : Int32} {v5 : Int32} {v6 : Int32} {v7 : Int32} {v8 : Int32} {M : mm_M} : mq_K mw_272_j56 M (mf_272_j56 v2 v3 v4 v5 v6 v7 v8 M) := by
  unfold mf_272_j56
  exact mq_K_call mk_272_j57 mq_kp_refl rfl
def mw_272_b9 : List (Nat × Option Nat) := [(106, none)]
theorem mk_272_b9 {v2 : Int32} {v3 : Int32} {v4 : Int32} {v5 : Int32} {v6 : Int32} {v7 : Int32} {v8 : Int32} {M : mm_M} : mq_K mw_272_b9 M (mf_272_b9 v2 v3 v4 v5 v6 v7 v8 M) := by
  unfold mf_272_b9
  exact mq_K_ite (fun hc => mq_K_ite (fun hc => mq_K_call mk_272_j57 mq_kp_refl rfl) (fun _ => mq_K_ite (fun hc => mq_K_ite (fun hc => mq_K_ite (fun hc => mq_K_B (mq_K_call mk_270 mq_kp_refl rfl) (fun _ M2 hM2 => mq_K_ite (fun hc => mq_K_call mk_272_j56 hM2 rfl) (fun _ => mq_K_call mk_272_j57 hM2 rfl))) (fun _ => mq_K_none)) (fun _ => mq_K_none)) (fun _ => mq_K_call mk_272_j56 mq_kp_refl rfl))) (fun _ => mq_K_ret mq_kp_refl)
def mw_272_L9 : List (Nat × Option Nat) := [(106, none)]
theorem mk_272_L9 {v2 : Int32} {v3 : Int32} {v4 : Int32} {v5 : Int32} {s : Int32 × Int32 × Int32} {M : mm_M} : mq_K mw_272_L9 M (mf_272_L9 v2 v3 v4 v5 s M) := by
  unfold mf_272_L9
  exact mq_K_L (fun s M h => mq_K_call mk_272_b9 h rfl) mq_kp_refl
def mw_272 : List (Nat × Option Nat) := [(106, none)]
theorem mk_272 {v1 : Int32} {v2 : Int32} {v3 : Int32} {v4 : Int32} {v5 : Int32} {M : mm_M} : mq_K mw_272 M (mf_272 v1 v2 v3 v4 v5 M) := by
  unfold mf_272
  exact mq_K_B (mq_K_call mk_272_L9 mq_kp_refl rfl) (fun _ M1 hM1 => mq_K_ret hM1)
-- 271: PlainPacksModel.sortBy
def mw_271_j55 : List (Nat × Option Nat) := [(106, none)]
theorem mk_271_j55 {v1 : Int32} {v2 : Int32} {v3 : Int32} {v4 : Int32} {s1 : Int32} {s2 : Int32} {s3 : Int32} {M : mm_M} : mq_K mw_271_j55 M (mf_271_j55 v1 v2 v3 v4 s1 s2 s3 M) := by
  unfold mf_271_j55
  exact mq_K_B (mq_K_call mk_272 mq_kp_refl rfl) (fun _ M1 hM1 => mq_K_ret hM1)
def mw_271_j35 : List (Nat × Option Nat) := [(106, none)]
theorem mk_271_j35 {v1 : Int32} {v2 : Int32} {v3 : Int32} {v4 : Int32} {s1 : Int32} {s2 : Int32} {M : mm_M} : mq_K mw_271_j35 M (mf_271_j35 v1 v2 v3 v4 s1 s2 M) := by
  unfold mf_271_j35
  exact mq_K_ite (fun hc => mq_K_call mk_271_j55 mq_kp_refl rfl) (fun _ => mq_K_call mk_271_j55 mq_kp_refl rfl)
def mw_271_b10 : List (Nat × Option Nat) := [(106, none)]
theorem mk_271_b10 {v1 : Int32} {v2 : Int32} {v3 : Int32} {v4 : Int32} {M : mm_M} : mq_K mw_271_b10 M (mf_271_b10 v1 v2 v3 v4 M) := by
  unfold mf_271_b10
  exact mq_K_ite (fun hc => mq_K_ite (fun hc => mq_K_call mk_271_j35 mq_kp_refl rfl) (fun _ => mq_K_call mk_271_j35 mq_kp_refl rfl)) (fun _ => mq_K_ret mq_kp_refl)
def mw_271_L10 : List (Nat × Option Nat) := [(106, none)]
theorem mk_271_L10 {v1 : Int32} {v2 : Int32} {v3 : Int32} {s : Int32} {M : mm_M} : mq_K mw_271_L10 M (mf_271_L10 v1 v2 v3 s M) := by
  unfold mf_271_L10
  exact mq_K_L (fun s M h => mq_K_call mk_271_b10 h rfl) mq_kp_refl
def mw_271_b74 : List (Nat × Option Nat) := [(105, none)]
theorem mk_271_b74 {v1 : Int32} {v2 : Int32} {v3 : Int32} {v4 : Int32} {M : mm_M} : mq_K mw_271_b74 M (mf_271_b74 v1 v2 v3 v4 M) := by
  unfold mf_271_b74
  exact mq_K_ite (fun hc => mq_K_ite (fun hc => mq_K_ite (fun hc => mq_K_ret (mq_kp_pi mq_kp_refl rfl)) (fun _ => mq_K_none)) (fun _ => mq_K_none)) (fun _ => mq_K_ret mq_kp_refl)
def mw_271_L74 : List (Nat × Option Nat) := [(105, none)]
theorem mk_271_L74 {v1 : Int32} {v2 : Int32} {v3 : Int32} {s : Int32} {M : mm_M} : mq_K mw_271_L74 M (mf_271_L74 v1 v2 v3 s M) := by
  unfold mf_271_L74
  exact mq_K_L (fun s M h => mq_K_call mk_271_b74 h rfl) mq_kp_refl
def mw_271_b2 : List (Nat × Option Nat) := [(105, none), (106, none)]
theorem mk_271_b2 {v1 : Int32} {v2 : Int32} {v3 : Int32} {M : mm_M} : mq_K mw_271_b2 M (mf_271_b2 v1 v2 v3 M) := by
  unfold mf_271_b2
  exact mq_K_ite (fun hc => mq_K_B (mq_K_call mk_271_L10 mq_kp_refl rfl) (fun _ M1 hM1 => mq_K_B (mq_K_call mk_271_L74 hM1 rfl) (fun _ M4 hM4 => mq_K_ret hM4))) (fun _ => mq_K_ret mq_kp_refl)
def mw_271_L2 : List (Nat × Option Nat) := [(105, none), (106, none)]
theorem mk_271_L2 {v1 : Int32} {v2 : Int32} {s : Int32} {M : mm_M} : mq_K mw_271_L2 M (mf_271_L2 v1 v2 s M) := by
  unfold mf_271_L2
  exact mq_K_L (fun s M h => mq_K_call mk_271_b2 h rfl) mq_kp_refl
def mw_271 : List (Nat × Option Nat) := [(105, none), (106, none)]
theorem mk_271 {v1 : Int32} {v2 : Int32} {M : mm_M} : mq_K mw_271 M (mf_271 v1 v2 M) := by
  unfold mf_271
  exact mq_K_B (mq_K_call mk_271_L2 mq_kp_refl rfl) (fun _ M1 hM1 => mq_K_ret hM1)
-- 273: PlainPacksModel.turnAll
def mw_273_b2 : List (Nat × Option Nat) := [(103, none), (105, none)]
theorem mk_273_b2 {v1 : Int32} {v2 : Int32} {M : mm_M} : mq_K mw_273_b2 M (mf_273_b2 v1 v2 M) := by
  unfold mf_273_b2
  exact mq_K_ite (fun hc => mq_K_ite (fun hc => mq_K_ite (fun hc => mq_K_ite (fun hc => mq_K_ret (mq_kp_pi (mq_kp_pi mq_kp_refl rfl) rfl)) (fun _ => mq_K_none)) (fun _ => mq_K_none)) (fun _ => mq_K_none)) (fun _ => mq_K_ret mq_kp_refl)
def mw_273_L2 : List (Nat × Option Nat) := [(103, none), (105, none)]
theorem mk_273_L2 {v1 : Int32} {s : Int32} {M : mm_M} : mq_K mw_273_L2 M (mf_273_L2 v1 s M) := by
  unfold mf_273_L2
  exact mq_K_L (fun s M h => mq_K_call mk_273_b2 h rfl) mq_kp_refl
def mw_273_b47 : List (Nat × Option Nat) := [(105, none)]
theorem mk_273_b47 {v1 : Int32} {v2 : Int32} {v3 : Int32} {M : mm_M} : mq_K mw_273_b47 M (mf_273_b47 v1 v2 v3 M) := by
  unfold mf_273_b47
  exact mq_K_ite (fun hc => mq_K_ite (fun hc => mq_K_ret (mq_kp_pi mq_kp_refl rfl)) (fun _ => mq_K_none)) (fun _ => mq_K_ret mq_kp_refl)
def mw_273_L47 : List (Nat × Option Nat) := [(105, none)]
theorem mk_273_L47 {v1 : Int32} {v2 : Int32} {s : Int32} {M : mm_M} : mq_K mw_273_L47 M (mf_273_L47 v1 v2 s M) := by
  unfold mf_273_L47
  exact mq_K_L (fun s M h => mq_K_call mk_273_b47 h rfl) mq_kp_refl
def mw_273_j118 : List (Nat × Option Nat) := [(104, none)]
theorem mk_273_j118 {v1 : Int32} {v2 : Int32} {v4 : Int32} {s0 : Int32} {s1 : Int32} {M : mm_M} : mq_K mw_273_j118 M (mf_273_j118 v1 v2 v4 s0 s1 M) := by
  unfold mf_273_j118
  exact mq_K_ite (fun hc => mq_K_ite (fun hc => mq_K_ret (mq_kp_pi mq_kp_refl rfl)) (fun _ => mq_K_none)) (fun _ => mq_K_none)
def mw_273_j117 : List (Nat × Option Nat) := [(104, none)]
theorem mk_273_j117 {v1 : Int32} {v2 : Int32} {v4 : Int32} {s0 : Int32} {M : mm_M} : mq_K mw_273_j117 M (mf_273_j117 v1 v2 v4 s0 M) := by
  unfold mf_273_j117
  exact mq_K_call mk_273_j118 mq_kp_refl rfl
def mw_273_b76 : List (Nat × Option Nat) := [(104, none)]
theorem mk_273_b76 {v1 : Int32} {v2 : Int32} {v3 : Int32} {v4 : Int32} {M : mm_M} : mq_K mw_273_b76 M (mf_273_b76 v1 v2 v3 v4 M) := by
  unfold mf_273_b76
  exact mq_K_ite (fun hc => mq_K_ite (fun hc => mq_K_ite (fun hc => mq_K_ite (fun hc => mq_K_B (mq_K_call mk_270 mq_kp_refl rfl) (fun _ M2 hM2 => mq_K_ite (fun hc => mq_K_call mk_273_j117 hM2 rfl) (fun _ => mq_K_call mk_273_j118 hM2 rfl))) (fun _ => mq_K_none)) (fun _ => mq_K_none)) (fun _ => mq_K_call mk_273_j117 mq_kp_refl rfl)) (fun _ => mq_K_ret mq_kp_refl)
def mw_273_L76 : List (Nat × Option Nat) := [(104, none)]
theorem mk_273_L76 {v1 : Int32} {v2 : Int32} {s : Int32 × Int32} {M : mm_M} : mq_K mw_273_L76 M (mf_273_L76 v1 v2 s M) := by
  unfold mf_273_L76
  exact mq_K_L (fun s M h => mq_K_call mk_273_b76 h rfl) mq_kp_refl
def mw_273_b142 : List (Nat × Option Nat) := [(103, none)]
theorem mk_273_b142 {v1 : Int32} {v2 : Int32} {v4 : Int32} {M : mm_M} : mq_K mw_273_b142 M (mf_273_b142 v1 v2 v4 M) := by
  unfold mf_273_b142
  exact mq_K_ite (fun hc => mq_K_ite (fun hc => mq_K_ite (fun hc => mq_K_ret (mq_kp_pi mq_kp_refl rfl)) (fun _ => mq_K_none)) (fun _ => mq_K_none)) (fun _ => mq_K_ret mq_kp_refl)
def mw_273_L142 : List (Nat × Option Nat) := [(103, none)]
theorem mk_273_L142 {v1 : Int32} {v2 : Int32} {s : Int32} {M : mm_M} : mq_K mw_273_L142 M (mf_273_L142 v1 v2 s M) := by
  unfold mf_273_L142
  exact mq_K_L (fun s M h => mq_K_call mk_273_b142 h rfl) mq_kp_refl
def mw_273_j65 : List (Nat × Option Nat) := [(103, none), (104, none), (105, none), (106, none)]
theorem mk_273_j65 {v1 : Int32} {v2 : Int32} {M : mm_M} : mq_K mw_273_j65 M (mf_273_j65 v1 v2 M) := by
  unfold mf_273_j65
  exact mq_K_B (mq_K_call mk_271 mq_kp_refl rfl) (fun _ M1 hM1 => mq_K_B (mq_K_call mk_273_L76 hM1 rfl) (fun _ M2 hM2 => mq_K_B (mq_K_call mk_273_L142 hM2 rfl) (fun _ M6 hM6 => mq_K_ret hM6)))
def mw_273_b40 : List (Nat × Option Nat) := [(103, none), (104, none), (105, none), (106, none)]
theorem mk_273_b40 {v1 : Int32} {v2 : Int32} {M : mm_M} : mq_K mw_273_b40 M (mf_273_b40 v1 v2 M) := by
  unfold mf_273_b40
  exact mq_K_ite (fun hc => mq_K_B (mq_K_call mk_273_L47 mq_kp_refl rfl) (fun _ M1 hM1 => mq_K_call mk_273_j65 hM1 rfl)) (fun _ => mq_K_ret mq_kp_refl)
def mw_273_L40 : List (Nat × Option Nat) := [(103, none), (104, none), (105, none), (106, none)]
theorem mk_273_L40 {v1 : Int32} {s : Int32} {M : mm_M} : mq_K mw_273_L40 M (mf_273_L40 v1 s M) := by
  unfold mf_273_L40
  exact mq_K_L (fun s M h => mq_K_call mk_273_b40 h rfl) mq_kp_refl
def mw_273_j32 : List (Nat × Option Nat) := [(103, none), (104, none), (105, none), (106, none)]
theorem mk_273_j32 {v1 : Int32} {M : mm_M} : mq_K mw_273_j32 M (mf_273_j32 v1 M) := by
  unfold mf_273_j32
  exact mq_K_B (mq_K_call mk_271 mq_kp_refl rfl) (fun _ M1 hM1 => mq_K_B (mq_K_call mk_273_L40 hM1 rfl) (fun _ M2 hM2 => mq_K_ret hM2))
def mw_273 : List (Nat × Option Nat) := [(103, none), (104, none), (105, none), (106, none)]
theorem mk_273 {v1 : Int32} {M : mm_M} : mq_K mw_273 M (mf_273 v1 M) := by
  unfold mf_273
  exact mq_K_B (mq_K_call mk_273_L2 mq_kp_refl rfl) (fun _ M1 hM1 => mq_K_call mk_273_j32 hM1 rfl)
-- 277: PlainPacksModel.writeOccurring
def mw_277_b2 : List (Nat × Option Nat) := [(104, none)]
theorem mk_277_b2 {v1 : Int32} {v2 : Int32} {M : mm_M} : mq_K mw_277_b2 M (mf_277_b2 v1 v2 M) := by
  unfold mf_277_b2
  exact mq_K_ite (fun hc => mq_K_ite (fun hc => mq_K_ret (mq_kp_pi mq_kp_refl rfl)) (fun _ => mq_K_none)) (fun _ => mq_K_ret mq_kp_refl)
def mw_277_L2 : List (Nat × Option Nat) := [(104, none)]
theorem mk_277_L2 {v1 : Int32} {s : Int32} {M : mm_M} : mq_K mw_277_L2 M (mf_277_L2 v1 s M) := by
  unfold mf_277_L2
  exact mq_K_L (fun s M h => mq_K_call mk_277_b2 h rfl) mq_kp_refl
def mw_277_b24 : List (Nat × Option Nat) := [(104, none)]
theorem mk_277_b24 {v1 : Int32} {v2 : Int32} {M : mm_M} : mq_K mw_277_b24 M (mf_277_b24 v1 v2 M) := by
  unfold mf_277_b24
  exact mq_K_ite (fun hc => mq_K_ite (fun hc => mq_K_ite (fun hc => mq_K_ret (mq_kp_pi mq_kp_refl rfl)) (fun _ => mq_K_none)) (fun _ => mq_K_none)) (fun _ => mq_K_ret mq_kp_refl)
def mw_277_L24 : List (Nat × Option Nat) := [(104, none)]
theorem mk_277_L24 {v1 : Int32} {s : Int32} {M : mm_M} : mq_K mw_277_L24 M (mf_277_L24 v1 s M) := by
  unfold mf_277_L24
  exact mq_K_L (fun s M h => mq_K_call mk_277_b24 h rfl) mq_kp_refl
def mw_277_b54 : List (Nat × Option Nat) := [(84, some 20), (94, none)]
theorem mk_277_b54 {v2 : Int32} {M : mm_M} : mq_K mw_277_b54 M (mf_277_b54 v2 M) := by
  unfold mf_277_b54
  exact mq_K_ite (fun hc => mq_K_ite (fun hc => mq_K_ite (fun hc => mq_K_ite (fun hc => mq_K_ret (mq_kp_pi (mq_kp_pi mq_kp_refl rfl) rfl)) (fun _ => mq_K_none)) (fun _ => mq_K_ret mq_kp_refl)) (fun _ => mq_K_none)) (fun _ => mq_K_ret mq_kp_refl)
def mw_277_L54 : List (Nat × Option Nat) := [(84, some 20), (94, none)]
theorem mk_277_L54 {s : Int32} {M : mm_M} : mq_K mw_277_L54 M (mf_277_L54 s M) := by
  unfold mf_277_L54
  exact mq_K_L (fun s M h => mq_K_call mk_277_b54 h rfl) mq_kp_refl
def mw_277_b110 : List (Nat × Option Nat) := []
theorem mk_277_b110 {v2 : Int32} {v3 : Int32} {v4 : Int32} {M : mm_M} : mq_K mw_277_b110 M (mf_277_b110 v2 v3 v4 M) := by
  unfold mf_277_b110
  exact mq_K_ite (fun hc => mq_K_ite (fun hc => mq_K_ret mq_kp_refl) (fun _ => mq_K_none)) (fun _ => mq_K_ret mq_kp_refl)
def mw_277_L110 : List (Nat × Option Nat) := []
theorem mk_277_L110 {v2 : Int32} {s : Int32 × Int32} {M : mm_M} : mq_K mw_277_L110 M (mf_277_L110 v2 s M) := by
  unfold mf_277_L110
  exact mq_K_L (fun s M h => mq_K_call mk_277_b110 h rfl) mq_kp_refl
def mw_277_j138 : List (Nat × Option Nat) := [(84, some 41), (84, some 42), (84, some 43), (100, none), (106, none)]
theorem mk_277_j138 {v2 : Int32} {v3 : Int32} {M : mm_M} : mq_K mw_277_j138 M (mf_277_j138 v2 v3 M) := by
  unfold mf_277_j138
  exact mq_K_B (mq_K_call mk_247 mq_kp_refl rfl) (fun _ M1 hM1 => mq_K_ite (fun hc => mq_K_ret (mq_kp_pi hM1 rfl)) (fun _ => mq_K_none))
def mw_277_b99 : List (Nat × Option Nat) := [(84, some 41), (84, some 42), (84, some 43), (100, none), (106, none)]
theorem mk_277_b99 {v2 : Int32} {M : mm_M} : mq_K mw_277_b99 M (mf_277_b99 v2 M) := by
  unfold mf_277_b99
  exact mq_K_ite (fun hc => mq_K_B (mq_K_call mk_277_L110 mq_kp_refl rfl) (fun _ M1 hM1 => mq_K_call mk_277_j138 hM1 rfl)) (fun _ => mq_K_ret mq_kp_refl)
def mw_277_L99 : List (Nat × Option Nat) := [(84, some 41), (84, some 42), (84, some 43), (100, none), (106, none)]
theorem mk_277_L99 {s : Int32} {M : mm_M} : mq_K mw_277_L99 M (mf_277_L99 s M) := by
  unfold mf_277_L99
  exact mq_K_L (fun s M h => mq_K_call mk_277_b99 h rfl) mq_kp_refl
def mw_277_b158 : List (Nat × Option Nat) := [(84, some 41), (84, some 42), (84, some 43), (100, none)]
theorem mk_277_b158 {v2 : Int32} {M : mm_M} : mq_K mw_277_b158 M (mf_277_b158 v2 M) := by
  unfold mf_277_b158
  exact mq_K_ite (fun hc => mq_K_ite (fun hc => mq_K_ite (fun hc => mq_K_ite (fun hc => mq_K_B (mq_K_call mk_247 mq_kp_refl rfl) (fun _ M1 hM1 => mq_K_ret hM1)) (fun _ => mq_K_none)) (fun _ => mq_K_ret mq_kp_refl)) (fun _ => mq_K_none)) (fun _ => mq_K_ret mq_kp_refl)
def mw_277_L158 : List (Nat × Option Nat) := [(84, some 41), (84, some 42), (84, some 43), (100, none)]
theorem mk_277_L158 {s : Int32} {M : mm_M} : mq_K mw_277_L158 M (mf_277_L158 s M) := by
  unfold mf_277_L158
  exact mq_K_L (fun s M h => mq_K_call mk_277_b158 h rfl) mq_kp_refl
def mw_277 : List (Nat × Option Nat) := [(84, some 20), (84, some 41), (84, some 42), (84, some 43), (94, none), (100, none), (104, none), (106, none)]
theorem mk_277 {v1 : Int32} {M : mm_M} : mq_K mw_277 M (mf_277 v1 M) := by
  unfold mf_277
  exact mq_K_B (mq_K_call mk_277_L2 mq_kp_refl rfl) (fun _ M1 hM1 => mq_K_B (mq_K_call mk_277_L24 hM1 rfl) (fun _ M6 hM6 => mq_K_B (mq_K_call mk_277_L54 (mq_kp_pi hM6 rfl) rfl) (fun _ M12 hM12 => mq_K_B (mq_K_call mk_277_L99 hM12 rfl) (fun _ M18 hM18 => mq_K_B (mq_K_call mk_277_L158 hM18 rfl) (fun _ M24 hM24 => mq_K_ret hM24)))))
