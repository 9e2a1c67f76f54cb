/-! WHAT IS KEPT 2 -/
-- 139: PlainPacks$Sorted.readOccurring
def mw_139 : List (Nat × Option Nat) := [(1, some 2), (1, some 5), (1, some 6), (42, some 9), (46, none)]
theorem mk_139_b53 {v1 : Int32} {v2 : Int32} {v3 : Int32} {v4 : Int32} {M0 M : mm_M} (h : mq_kp mw_139 M0 M) : mq_K mw_139 M0 (mf_139_b53 v1 v2 v3 v4 M) := by
  unfold mf_139_b53
  exact mq_K_ite (fun hc => mq_K_ite (fun hc => mq_K_ret h) (fun _ => mq_K_ite (fun hc => mq_K_ret (mq_kp_pi (mq_kp_pi h rfl) rfl)) (fun _ => mq_K_none))) (fun _ => mq_K_ret h)
theorem mk_139_L53 {v1 : Int32} {v2 : Int32} {v3 : Int32} {s : Int32} {M0 M : mm_M} (h : mq_kp mw_139 M0 M) : mq_K mw_139 M0 (mf_139_L53 v1 v2 v3 s M) := by
  unfold mf_139_L53
  exact mq_K_L (fun s M h => mk_139_b53 h) h
theorem mk_139_b18 {v1 : Int32} {v2 : Int32} {M0 M : mm_M} (h : mq_kp mw_139 M0 M) : mq_K mw_139 M0 (mf_139_b18 v1 v2 M) := by
  unfold mf_139_b18
  exact mq_K_ite (fun hc => mq_K_ite (fun hc => mq_K_B (mk_139_L53 h) (fun _ M1 hM1 => mq_K_ret hM1)) (fun _ => mq_K_B (mq_K_call mk_46 h rfl) (fun _ M6 hM6 => mq_K_B (mk_139_L53 hM6) (fun _ M7 hM7 => mq_K_ret hM7)))) (fun _ => mq_K_ret h)
theorem mk_139_L18 {v1 : Int32} {s : Int32} {M0 M : mm_M} (h : mq_kp mw_139 M0 M) : mq_K mw_139 M0 (mf_139_L18 v1 s M) := by
  unfold mf_139_L18
  exact mq_K_L (fun s M h => mk_139_b18 h) h
theorem mk_139_j122 {s0 : Int32} {M0 M : mm_M} (h : mq_kp mw_139 M0 M) : mq_K mw_139 M0 (mf_139_j122 s0 M) := by
  unfold mf_139_j122
  exact mq_K_B (mq_K_call mk_27 h rfl) (fun _ M1 hM1 => mq_K_ret hM1)
theorem mk_139_j110 {M0 M : mm_M} (h : mq_kp mw_139 M0 M) : mq_K mw_139 M0 (mf_139_j110 M) := by
  unfold mf_139_j110
  exact mq_K_ite (fun hc => mk_139_j122 h) (fun _ => mk_139_j122 h)
theorem mk_139 {M : mm_M} : mq_K mw_139 M (mf_139 M) := by
  unfold mf_139
  exact mq_K_B (mq_K_call mk_46 mq_kp_refl rfl) (fun _ M2 hM2 => mq_K_B (mk_139_L18 (mq_kp_pi hM2 rfl)) (fun _ M3 hM3 => mk_139_j110 hM3))
-- 141: PlainPacks$Sorted.moveToFront
def mw_141 (p : Nat) : List (Nat × Option Nat) := [(p, none)]
theorem mk_141_b17 {p : Nat} {n : Nat} {v2 : Int32} {v3 : Int32} {M0 M : mm_M} (h : mq_kp (mw_141 p) M0 M) : mq_K (mw_141 p) M0 (mf_141_b17 p n v2 v3 M) := by
  unfold mf_141_b17
  exact mq_K_ite (fun hc => mq_K_ite (fun hc => mq_K_ite (fun hc => mq_K_ret (mq_kp_pi h (by simp [mq_ws, mw_141]))) (fun _ => mq_K_none)) (fun _ => mq_K_none)) (fun _ => mq_K_ret h)
theorem mk_141_L17 {p : Nat} {n : Nat} {v2 : Int32} {s : Int32} {M0 M : mm_M} (h : mq_kp (mw_141 p) M0 M) : mq_K (mw_141 p) M0 (mf_141_L17 p n v2 s M) := by
  unfold mf_141_L17
  exact mq_K_L (fun s M h => mk_141_b17 h) h
theorem mk_141_j35 {p : Nat} {n : Nat} {v2 : Int32} {M0 M : mm_M} (h : mq_kp (mw_141 p) M0 M) : mq_K (mw_141 p) M0 (mf_141_j35 p n v2 M) := by
  unfold mf_141_j35
  exact mq_K_ite (fun hc => mq_K_ret (mq_kp_pi h (by simp [mq_ws, mw_141]))) (fun _ => mq_K_none)
theorem mk_141 {p : Nat} {n : Nat} {v1 : Int32} {M : mm_M} : mq_K (mw_141 p) M (mf_141 p n v1 M) := by
  unfold mf_141
  exact mq_K_ite (fun hc => mq_K_ret mq_kp_refl) (fun _ => mq_K_ite (fun hc => mq_K_ite (fun hc => mq_K_B (mk_141_L17 mq_kp_refl) (fun _ M1 hM1 => mk_141_j35 hM1)) (fun _ => mq_K_none)) (fun _ => mq_K_ret mq_kp_refl))
-- 140: PlainPacks$Sorted.readSelectors
def mw_140 : List (Nat × Option Nat) := [(1, some 2), (1, some 5), (1, some 6), (42, some 7), (44, none), (45, none)]
theorem mk_140_b32 {v1 : Int32} {v2 : Int32} {M0 M : mm_M} (h : mq_kp mw_140 M0 M) : mq_K mw_140 M0 (mf_140_b32 v1 v2 M) := by
  unfold mf_140_b32
  exact mq_K_ite (fun hc => mq_K_ite (fun hc => mq_K_ret (mq_kp_pi h rfl)) (fun _ => mq_K_none)) (fun _ => mq_K_ret h)
theorem mk_140_L32 {v1 : Int32} {s : Int32} {M0 M : mm_M} (h : mq_kp mw_140 M0 M) : mq_K mw_140 M0 (mf_140_L32 v1 s M) := by
  unfold mf_140_L32
  exact mq_K_L (fun s M h => mk_140_b32 h) h
theorem mk_140_b63 {v1 : Int32} {v2 : Int32} {v3 : Int32} {M0 M : mm_M} (h : mq_kp mw_140 M0 M) : mq_K mw_140 M0 (mf_140_b63 v1 v2 v3 M) := by
  unfold mf_140_b63
  exact mq_K_ite (fun hc => mq_K_B (mq_K_call mk_45 h rfl) (fun _ M2 hM2 => mq_K_ite (fun hc => mq_K_ret hM2) (fun _ => mq_K_ret hM2))) (fun _ => mq_K_ret h)
theorem mk_140_L63 {v1 : Int32} {v2 : Int32} {s : Int32} {M0 M : mm_M} (h : mq_kp mw_140 M0 M) : mq_K mw_140 M0 (mf_140_L63 v1 v2 s M) := by
  unfold mf_140_L63
  exact mq_K_L (fun s M h => mk_140_b63 h) h
theorem mk_140_j95 {v1 : Int32} {v2 : Int32} {v3 : Int32} {s0 : Int32} {M0 M : mm_M} (h : mq_kp mw_140 M0 M) : mq_K mw_140 M0 (mf_140_j95 v1 v2 v3 s0 M) := by
  unfold mf_140_j95
  exact mq_K_B (mq_K_call mk_27 h rfl) (fun _ M1 hM1 => mq_K_B (mq_K_call mk_141 hM1 rfl) (fun _ M2 hM2 => mq_K_ite (fun hc => mq_K_ite (fun hc => mq_K_ite (fun hc => mq_K_ret (mq_kp_pi hM2 rfl)) (fun _ => mq_K_none)) (fun _ => mq_K_none)) (fun _ => mq_K_ret hM2)))
theorem mk_140_j85 {v1 : Int32} {v2 : Int32} {v3 : Int32} {M0 M : mm_M} (h : mq_kp mw_140 M0 M) : mq_K mw_140 M0 (mf_140_j85 v1 v2 v3 M) := by
  unfold mf_140_j85
  exact mq_K_ite (fun hc => mk_140_j95 h) (fun _ => mk_140_j95 h)
theorem mk_140_b53 {v1 : Int32} {v2 : Int32} {M0 M : mm_M} (h : mq_kp mw_140 M0 M) : mq_K mw_140 M0 (mf_140_b53 v1 v2 M) := by
  unfold mf_140_b53
  exact mq_K_ite (fun hc => mq_K_B (mk_140_L63 h) (fun _ M1 hM1 => mk_140_j85 hM1)) (fun _ => mq_K_ret h)
theorem mk_140_L53 {v1 : Int32} {s : Int32} {M0 M : mm_M} (h : mq_kp mw_140 M0 M) : mq_K mw_140 M0 (mf_140_L53 v1 s M) := by
  unfold mf_140_L53
  exact mq_K_L (fun s M h => mk_140_b53 h) h
theorem mk_140_j27 {v1 : Int32} {s0 : Int32} {M0 M : mm_M} (h : mq_kp mw_140 M0 M) : mq_K mw_140 M0 (mf_140_j27 v1 s0 M) := by
  unfold mf_140_j27
  exact mq_K_B (mq_K_call mk_27 h rfl) (fun _ M1 hM1 => mq_K_B (mk_140_L32 hM1) (fun _ M2 hM2 => mq_K_B (mk_140_L53 hM2) (fun _ M6 hM6 => mq_K_ret hM6)))
theorem mk_140 {v1 : Int32} {M : mm_M} : mq_K mw_140 M (mf_140 v1 M) := by
  unfold mf_140
  exact mq_K_B (mq_K_call mk_46 mq_kp_refl rfl) (fun _ M2 hM2 => mq_K_ite (fun hc => mk_140_j27 (mq_kp_pi hM2 rfl)) (fun _ => mk_140_j27 (mq_kp_pi hM2 rfl)))
-- 100: PlainPacks$Codes.isOver
def mw_100 (p : Nat) : List (Nat × Option Nat) := []
theorem mk_100 {p : Nat} {n : Nat} {M : mm_M} : mq_K (mw_100 p) M (mf_100 p n M) := by
  unfold mf_100
  exact mq_K_ite (fun hc => mq_K_ret mq_kp_refl) (fun _ => mq_K_ret mq_kp_refl)
-- 142: PlainPacks$Sorted.readTable
def mw_142 (p : Nat) : List (Nat × Option Nat) := [(1, some 2), (1, some 5), (1, some 6), ((p + 1), none), ((p + 2), none), ((p + 3), none), ((p + 4), none), (p, some 4), (p, some 5)]
theorem mk_142_j96 {p : Nat} {n : Nat} {v2 : Int32} {v3 : Int32} {v4 : Int32} {s0 : Int32} {M0 M : mm_M} (h : mq_kp (mw_142 p) M0 M) : mq_K (mw_142 p) M0 (mf_142_j96 p n v2 v3 v4 s0 M) := by
  unfold mf_142_j96
  exact mq_K_B (mq_K_call mk_27 h (by simp [mq_sub, mw_27, mw_142])) (fun _ M1 hM1 => mq_K_ret hM1)
theorem mk_142_j78 {p : Nat} {n : Nat} {v3 : Int32} {v4 : Int32} {s0 : Int32} {s1 : Int32} {M0 M : mm_M} (h : mq_kp (mw_142 p) M0 M) : mq_K (mw_142 p) M0 (mf_142_j78 p n v3 v4 s0 s1 M) := by
  unfold mf_142_j78
  exact mq_K_ite (fun hc => mk_142_j96 h) (fun _ => mq_K_ite (fun hc => mk_142_j96 h) (fun _ => mk_142_j96 h))
theorem mk_142_b44 {p : Nat} {n : Nat} {v2 : Int32} {v3 : Int32} {v4 : Int32} {M0 M : mm_M} (h : mq_kp (mw_142 p) M0 M) : mq_K (mw_142 p) M0 (mf_142_b44 p n v2 v3 v4 M) := by
  unfold mf_142_b44
  exact mq_K_ite (fun hc => mq_K_B (mq_K_call mk_45 h (by simp [mq_sub, mw_45, mw_142])) (fun _ M2 hM2 => mq_K_ite (fun hc => mq_K_B (mq_K_call mk_45 hM2 (by simp [mq_sub, mw_45, mw_142])) (fun _ M4 hM4 => mq_K_ite (fun hc => mk_142_j78 hM4) (fun _ => mk_142_j78 hM4))) (fun _ => mq_K_ret hM2))) (fun _ => mq_K_ret h)
theorem mk_142_L44 {p : Nat} {n : Nat} {v3 : Int32} {s : Int32 × Int32} {M0 M : mm_M} (h : mq_kp (mw_142 p) M0 M) : mq_K (mw_142 p) M0 (mf_142_L44 p n v3 s M) := by
  unfold mf_142_L44
  exact mq_K_L (fun s M h => mk_142_b44 h) h
theorem mk_142_j105 {p : Nat} {n : Nat} {v2 : Int32} {v3 : Int32} {M0 M : mm_M} (h : mq_kp (mw_142 p) M0 M) : mq_K (mw_142 p) M0 (mf_142_j105 p n v2 v3 M) := by
  unfold mf_142_j105
  exact mq_K_ite (fun hc => mq_K_ret (mq_kp_pi h (by simp [mq_ws, mw_142]))) (fun _ => mq_K_none)
theorem mk_142_b31 {p : Nat} {n : Nat} {v2 : Int32} {v3 : Int32} {M0 M : mm_M} (h : mq_kp (mw_142 p) M0 M) : mq_K (mw_142 p) M0 (mf_142_b31 p n v2 v3 M) := by
  unfold mf_142_b31
  exact mq_K_ite (fun hc => mq_K_B (mk_142_L44 h) (fun _ M1 hM1 => mk_142_j105 hM1)) (fun _ => mq_K_ret h)
theorem mk_142_L31 {p : Nat} {n : Nat} {s : Int32 × Int32} {M0 M : mm_M} (h : mq_kp (mw_142 p) M0 M) : mq_K (mw_142 p) M0 (mf_142_L31 p n s M) := by
  unfold mf_142_L31
  exact mq_K_L (fun s M h => mk_142_b31 h) h
theorem mk_142_j118 {p : Nat} {n : Nat} {M0 M : mm_M} (h : mq_kp (mw_142 p) M0 M) : mq_K (mw_142 p) M0 (mf_142_j118 p n M) := by
  unfold mf_142_j118
  exact mq_K_B (mq_K_call mk_99 h (by simp [mq_sub, mw_99, mw_142])) (fun _ M1 hM1 => mq_K_B (mq_K_call mk_100 hM1 (by simp [mq_sub, mw_100, mw_142])) (fun _ M3 hM3 => mq_K_B (mq_K_call mk_27 hM3 (by simp [mq_sub, mw_27, mw_142])) (fun _ M4 hM4 => mq_K_ret hM4)))
theorem mk_142_j26 {p : Nat} {n : Nat} {v2 : Int32} {s0 : Int32} {M0 M : mm_M} (h : mq_kp (mw_142 p) M0 M) : mq_K (mw_142 p) M0 (mf_142_j26 p n v2 s0 M) := by
  unfold mf_142_j26
  exact mq_K_B (mq_K_call mk_27 h (by simp [mq_sub, mw_27, mw_142])) (fun _ M1 hM1 => mq_K_B (mk_142_L31 hM1) (fun _ M2 hM2 => mk_142_j118 hM2))
theorem mk_142 {p : Nat} {n : Nat} {M : mm_M} : mq_K (mw_142 p) M (mf_142 p n M) := by
  unfold mf_142
  exact mq_K_B (mq_K_call mk_46 mq_kp_refl (by simp [mq_sub, mw_46, mw_142])) (fun _ M2 hM2 => mq_K_ite (fun hc => mk_142_j26 hM2) (fun _ => mq_K_ite (fun hc => mk_142_j26 hM2) (fun _ => mk_142_j26 hM2)))
-- 144: PlainPacks$Sorted.addBytes
def mw_144 : List (Nat × Option Nat) := [(42, some 12), (47, none)]
theorem mk_144_b25 {v1 : Int32} {v2 : Int64} {v4 : Int32} {M0 M : mm_M} (h : mq_kp mw_144 M0 M) : mq_K mw_144 M0 (mf_144_b25 v1 v2 v4 M) := by
  unfold mf_144_b25
  exact mq_K_ite (fun hc => mq_K_ite (fun hc => mq_K_ret (mq_kp_pi (mq_kp_pi h rfl) rfl)) (fun _ => mq_K_none)) (fun _ => mq_K_ret h)
theorem mk_144_L25 {v1 : Int32} {v2 : Int64} {s : Int32} {M0 M : mm_M} (h : mq_kp mw_144 M0 M) : mq_K mw_144 M0 (mf_144_L25 v1 v2 s M) := by
  unfold mf_144_L25
  exact mq_K_L (fun s M h => mk_144_b25 h) h
theorem mk_144_j19 {v1 : Int32} {v2 : Int64} {s0 : Int32} {M0 M : mm_M} (h : mq_kp mw_144 M0 M) : mq_K mw_144 M0 (mf_144_j19 v1 v2 s0 M) := by
  unfold mf_144_j19
  exact mq_K_B (mq_K_call mk_27 h rfl) (fun _ M1 hM1 => mq_K_B (mk_144_L25 hM1) (fun _ M2 hM2 => mq_K_ret hM2))
theorem mk_144 {v1 : Int32} {v2 : Int64} {M : mm_M} : mq_K mw_144 M (mf_144 v1 v2 M) := by
  unfold mf_144
  exact mq_K_ite (fun hc => mk_144_j19 mq_kp_refl) (fun _ => mk_144_j19 mq_kp_refl)
-- 143: PlainPacks$Sorted.readLetters
def mw_143 : List (Nat × Option Nat) := [(1, some 2), (1, some 5), (1, some 6), (42, some 12), (46, none), (47, none)]
theorem mk_143_j81 {v1 : Int64} {v3 : Int32} {t4 : Nat} {v5 : Int32} {M0 M : mm_M} (h : mq_kp mw_143 M0 M) : mq_K mw_143 M0 (mf_143_j81 v1 v3 t4 v5 M) := by
  unfold mf_143_j81
  exact mq_K_ite (fun hc => mq_K_B (mq_K_call mk_103 h (mq_tab6 (P := fun q => mq_sub (mw_103 q) mw_143 = true) hc rfl rfl rfl rfl rfl rfl)) (fun _ M2 hM2 => mq_K_ite (fun hc => mq_K_ite (fun hc => mq_K_ret hM2) (fun _ => mq_K_ret hM2)) (fun _ => mq_K_ite (fun hc => mq_K_B (mq_K_call mk_144 hM2 rfl) (fun _ M3 hM3 => mq_K_ite (fun hc => mq_K_ret hM3) (fun _ => mq_K_B (mq_K_call mk_141 hM3 rfl) (fun _ M4 hM4 => mq_K_ite (fun hc => mq_K_B (mq_K_call mk_144 hM4 rfl) (fun _ M5 hM5 => mq_K_ret hM5)) (fun _ => mq_K_none))))) (fun _ => mq_K_none)))) (fun _ => mq_K_none)
theorem mk_143_j64 {v1 : Int64} {v3 : Int32} {v5 : Int32} {v6 : Int32} {s0 : Int32} {M0 M : mm_M} (h : mq_kp mw_143 M0 M) : mq_K mw_143 M0 (mf_143_j64 v1 v3 v5 v6 s0 M) := by
  unfold mf_143_j64
  exact mq_K_B (mq_K_call mk_27 h rfl) (fun _ M1 hM1 => mq_K_ite (fun hc => mq_K_ite (fun hc => mk_143_j81 hM1) (fun _ => mq_K_none)) (fun _ => mq_K_none))
theorem mk_143_b20 {v1 : Int64} {v3 : Int32} {t4 : Nat} {v5 : Int32} {M0 M : mm_M} (h : mq_kp mw_143 M0 M) : mq_K mw_143 M0 (mf_143_b20 v1 v3 t4 v5 M) := by
  unfold mf_143_b20
  exact mq_K_ite (fun hc => mq_K_ite (fun hc => mq_K_ite (fun hc => mq_K_ite (fun hc => mk_143_j64 h) (fun _ => mk_143_j64 h)) (fun _ => mk_143_j64 h)) (fun _ => mk_143_j81 h)) (fun _ => mq_K_ret h)
theorem mk_143_L20 {s : Int64 × Int32 × Nat × Int32} {M0 M : mm_M} (h : mq_kp mw_143 M0 M) : mq_K mw_143 M0 (mf_143_L20 s M) := by
  unfold mf_143_L20
  exact mq_K_L (fun s M h => mk_143_b20 h) h
theorem mk_143 {M : mm_M} : mq_K mw_143 M (mf_143 M) := by
  unfold mf_143
  exact mq_K_ite (fun hc => mq_K_B (mk_143_L20 (mq_kp_pi mq_kp_refl rfl)) (fun _ M1 hM1 => mq_K_sm (fun _ => mq_K_ret hM1) (fun _ => mq_K_ret hM1))) (fun _ => mq_K_none)
-- 138: PlainPacks$Sorted.readBlock
def mw_138 : List (Nat × Option Nat) := [(1, some 2), (1, some 5), (1, some 6), (42, some 7), (42, some 9), (42, some 10), (42, some 12), (44, none), (45, none), (46, none), (47, none), (50, some 4), (50, some 5), (51, none), (52, none), (53, none), (54, none), (55, some 4), (55, some 5), (56, none), (57, none), (58, none), (59, none), (60, some 4), (60, some 5), (61, none), (62, none), (63, none), (64, none), (65, some 4), (65, some 5), (66, none), (67, none), (68, none), (69, none), (70, some 4), (70, some 5), (71, none), (72, none), (73, none), (74, none), (75, some 4), (75, some 5), (76, none), (77, none), (78, none), (79, none)]
theorem mk_138_b72 {v1 : Int32} {v2 : Int32} {M0 M : mm_M} (h : mq_kp mw_138 M0 M) : mq_K mw_138 M0 (mf_138_b72 v1 v2 M) := by
  unfold mf_138_b72
  exact mq_K_ite (fun hc => mq_K_ite (fun hc => mq_K_ite (fun hc => mq_K_B (mq_K_call mk_142 h (mq_tab6 (P := fun q => mq_sub (mw_142 q) mw_138 = true) hc rfl rfl rfl rfl rfl rfl)) (fun _ M1 hM1 => mq_K_ret hM1)) (fun _ => mq_K_none)) (fun _ => mq_K_none)) (fun _ => mq_K_ret h)
theorem mk_138_L72 {v1 : Int32} {s : Int32} {M0 M : mm_M} (h : mq_kp mw_138 M0 M) : mq_K mw_138 M0 (mf_138_L72 v1 s M) := by
  unfold mf_138_L72
  exact mq_K_L (fun s M h => mk_138_b72 h) h
theorem mk_138_j113 {s0 : Int32} {M0 M : mm_M} (h : mq_kp mw_138 M0 M) : mq_K mw_138 M0 (mf_138_j113 s0 M) := by
  unfold mf_138_j113
  exact mq_K_B (mq_K_call mk_27 h rfl) (fun _ M1 hM1 => mq_K_ret hM1)
theorem mk_138_j93 {M0 M : mm_M} (h : mq_kp mw_138 M0 M) : mq_K mw_138 M0 (mf_138_j93 M) := by
  unfold mf_138_j93
  exact mq_K_B (mq_K_call mk_143 h rfl) (fun _ M1 hM1 => mq_K_ite (fun hc => mk_138_j113 hM1) (fun _ => mk_138_j113 hM1))
theorem mk_138_j62 {v1 : Int32} {s0 : Int32} {M0 M : mm_M} (h : mq_kp mw_138 M0 M) : mq_K mw_138 M0 (mf_138_j62 v1 s0 M) := by
  unfold mf_138_j62
  exact mq_K_B (mq_K_call mk_27 h rfl) (fun _ M1 hM1 => mq_K_B (mq_K_call mk_140 hM1 rfl) (fun _ M2 hM2 => mq_K_B (mk_138_L72 hM2) (fun _ M3 hM3 => mk_138_j93 hM3)))
theorem mk_138_j15 {s0 : Int32} {M0 M : mm_M} (h : mq_kp mw_138 M0 M) : mq_K mw_138 M0 (mf_138_j15 s0 M) := by
  unfold mf_138_j15
  exact mq_K_B (mq_K_call mk_27 h rfl) (fun _ M1 hM1 => mq_K_B (mq_K_call mk_46 hM1 rfl) (fun _ M3 hM3 => mq_K_B (mq_K_call mk_139 (mq_kp_pi hM3 rfl) rfl) (fun _ M4 hM4 => mq_K_B (mq_K_call mk_46 hM4 rfl) (fun _ M6 hM6 => mq_K_ite (fun hc => mk_138_j62 hM6) (fun _ => mq_K_ite (fun hc => mk_138_j62 hM6) (fun _ => mk_138_j62 hM6))))))
theorem mk_138 {M : mm_M} : mq_K mw_138 M (mf_138 M) := by
  unfold mf_138
  exact mq_K_B (mq_K_call mk_45 mq_kp_refl rfl) (fun _ M2 hM2 => mq_K_ite (fun hc => mk_138_j15 hM2) (fun _ => mk_138_j15 hM2))
-- 145: PlainPacks$Sorted.sortSteps
def mw_145 : List (Nat × Option Nat) := [(48, none), (49, none)]
theorem mk_145_b10 {v1 : Int32} {M0 M : mm_M} (h : mq_kp mw_145 M0 M) : mq_K mw_145 M0 (mf_145_b10 v1 M) := by
  unfold mf_145_b10
  exact mq_K_ite (fun hc => mq_K_ite (fun hc => mq_K_ite (fun hc => mq_K_ite (fun hc => mq_K_ret (mq_kp_pi h rfl)) (fun _ => mq_K_none)) (fun _ => mq_K_none)) (fun _ => mq_K_none)) (fun _ => mq_K_ret h)
theorem mk_145_L10 {s : Int32} {M0 M : mm_M} (h : mq_kp mw_145 M0 M) : mq_K mw_145 M0 (mf_145_L10 s M) := by
  unfold mf_145_L10
  exact mq_K_L (fun s M h => mk_145_b10 h) h
theorem mk_145_b43 {v1 : Int32} {M0 M : mm_M} (h : mq_kp mw_145 M0 M) : mq_K mw_145 M0 (mf_145_b43 v1 M) := by
  unfold mf_145_b43
  exact mq_K_ite (fun hc => mq_K_ite (fun hc => mq_K_ite (fun hc => mq_K_ite (fun hc => mq_K_ret (mq_kp_pi h rfl)) (fun _ => mq_K_none)) (fun _ => mq_K_none)) (fun _ => mq_K_none)) (fun _ => mq_K_ret h)
theorem mk_145_L43 {s : Int32} {M0 M : mm_M} (h : mq_kp mw_145 M0 M) : mq_K mw_145 M0 (mf_145_L43 s M) := by
  unfold mf_145_L43
  exact mq_K_L (fun s M h => mk_145_b43 h) h
theorem mk_145_b77 {v1 : Int32} {M0 M : mm_M} (h : mq_kp mw_145 M0 M) : mq_K mw_145 M0 (mf_145_b77 v1 M) := by
  unfold mf_145_b77
  exact mq_K_ite (fun hc => mq_K_ite (fun hc => mq_K_ite (fun hc => mq_K_ite (fun hc => mq_K_ite (fun hc => mq_K_ite (fun hc => mq_K_ret (mq_kp_pi (mq_kp_pi h rfl) rfl)) (fun _ => mq_K_none)) (fun _ => mq_K_none)) (fun _ => mq_K_none)) (fun _ => mq_K_none)) (fun _ => mq_K_none)) (fun _ => mq_K_ret h)
theorem mk_145_L77 {s : Int32} {M0 M : mm_M} (h : mq_kp mw_145 M0 M) : mq_K mw_145 M0 (mf_145_L77 s M) := by
  unfold mf_145_L77
  exact mq_K_L (fun s M h => mk_145_b77 h) h
theorem mk_145 {M : mm_M} : mq_K mw_145 M (mf_145 M) := by
  unfold mf_145
  exact mq_K_B (mq_K_call mk_290 mq_kp_refl rfl) (fun _ M1 hM1 => mq_K_B (mk_145_L10 hM1) (fun _ M2 hM2 => mq_K_B (mk_145_L43 hM2) (fun _ M6 hM6 => mq_K_B (mk_145_L77 hM6) (fun _ M10 hM10 => mq_K_ret hM10))))
-- 146: PlainPacks$Sorted.putText
def mw_146 : List (Nat × Option Nat) := [(3, some 1), (4, none)]
theorem mk_146_b49 {v1 : Int32} {v3 : Int32} {v4 : Int32} {v5 : Int32} {v6 : Int32} {M0 M : mm_M} (h : mq_kp mw_146 M0 M) : mq_K mw_146 M0 (mf_146_b49 v1 v3 v4 v5 v6 M) := by
  unfold mf_146_b49
  exact mq_K_ite (fun hc => mq_K_B (mq_K_call mk_51 h rfl) (fun _ M1 hM1 => mq_K_ret hM1)) (fun _ => mq_K_ret h)
theorem mk_146_L49 {v1 : Int32} {v3 : Int32} {v4 : Int32} {v5 : Int32} {s : Int32} {M0 M : mm_M} (h : mq_kp mw_146 M0 M) : mq_K mw_146 M0 (mf_146_L49 v1 v3 v4 v5 s M) := by
  unfold mf_146_L49
  exact mq_K_L (fun s M h => mk_146_b49 h) h
theorem mk_146_j90 {v3 : Int32} {v4 : Int32} {v5 : Int32} {s0 : Int32} {M0 M : mm_M} (h : mq_kp mw_146 M0 M) : mq_K mw_146 M0 (mf_146_j90 v3 v4 v5 s0 M) := by
  unfold mf_146_j90
  exact mq_K_B (mq_K_call mk_51 h rfl) (fun _ M1 hM1 => mq_K_ret hM1)
theorem mk_146_b17 {v1 : Int32} {v2 : Int32} {v3 : Int32} {v4 : Int32} {M0 M : mm_M} (h : mq_kp mw_146 M0 M) : mq_K mw_146 M0 (mf_146_b17 v1 v2 v3 v4 M) := by
  unfold mf_146_b17
  exact mq_K_ite (fun hc => mq_K_ite (fun hc => mq_K_ite (fun hc => mq_K_ite (fun hc => mq_K_B (mk_146_L49 h) (fun _ M1 hM1 => mq_K_ret hM1)) (fun _ => mq_K_ite (fun hc => mk_146_j90 h) (fun _ => mk_146_j90 h))) (fun _ => mq_K_none)) (fun _ => mq_K_none)) (fun _ => mq_K_ret h)
theorem mk_146_L17 {s : Int32 × Int32 × Int32 × Int32} {M0 M : mm_M} (h : mq_kp mw_146 M0 M) : mq_K mw_146 M0 (mf_146_L17 s M) := by
  unfold mf_146_L17
  exact mq_K_L (fun s M h => mk_146_b17 h) h
theorem mk_146 {M : mm_M} : mq_K mw_146 M (mf_146 M) := by
  unfold mf_146
  exact mq_K_ite (fun hc => mq_K_B (mk_146_L17 mq_kp_refl) (fun _ M1 hM1 => mq_K_ret hM1)) (fun _ => mq_K_none)
-- 29: PlainPacks.crcHighOf
def mw_29 (p : Nat) : List (Nat × Option Nat) := []
theorem mk_29_b24 {p : Nat} {n : Nat} {v2 : Int32} {v3 : Int32} {v4 : Int32} {v5 : Int32} {M0 M : mm_M} (h : mq_kp (mw_29 p) M0 M) : mq_K (mw_29 p) M0 (mf_29_b24 p n v2 v3 v4 v5 M) := by
  unfold mf_29_b24
  exact mq_K_ite (fun hc => mq_K_ite (fun hc => mq_K_ret h) (fun _ => mq_K_ret h)) (fun _ => mq_K_ret h)
theorem mk_29_L24 {p : Nat} {n : Nat} {v2 : Int32} {v4 : Int32} {s : Int32 × Int32} {M0 M : mm_M} (h : mq_kp (mw_29 p) M0 M) : mq_K (mw_29 p) M0 (mf_29_L24 p n v2 v4 s M) := by
  unfold mf_29_L24
  exact mq_K_L (fun s M h => mk_29_b24 h) h
theorem mk_29_b5 {p : Nat} {n : Nat} {v2 : Int32} {v3 : Int32} {v4 : Int32} {M0 M : mm_M} (h : mq_kp (mw_29 p) M0 M) : mq_K (mw_29 p) M0 (mf_29_b5 p n v2 v3 v4 M) := by
  unfold mf_29_b5
  exact mq_K_ite (fun hc => mq_K_ite (fun hc => mq_K_B (mk_29_L24 h) (fun _ M1 hM1 => mq_K_ret hM1)) (fun _ => mq_K_none)) (fun _ => mq_K_ret h)
theorem mk_29_L5 {p : Nat} {n : Nat} {v2 : Int32} {s : Int32 × Int32} {M0 M : mm_M} (h : mq_kp (mw_29 p) M0 M) : mq_K (mw_29 p) M0 (mf_29_L5 p n v2 s M) := by
  unfold mf_29_L5
  exact mq_K_L (fun s M h => mk_29_b5 h) h
theorem mk_29 {p : Nat} {n : Nat} {v1 : Int32} {v2 : Int32} {M : mm_M} : mq_K (mw_29 p) M (mf_29 p n v1 v2 M) := by
  unfold mf_29
  exact mq_K_B (mk_29_L5 mq_kp_refl) (fun _ M1 hM1 => mq_K_ret hM1)
-- 137: PlainPacks$Sorted.readSorted
def mw_137 : List (Nat × Option Nat) := [(1, some 2), (1, some 4), (1, some 5), (1, some 6), (3, some 1), (3, some 6), (4, none), (42, some 7), (42, some 9), (42, some 10), (42, some 12), (44, none), (45, none), (46, none), (47, none), (48, none), (49, none), (50, some 4), (50, some 5), (51, none), (52, none), (53, none), (54, none), (55, some 4), (55, some 5), (56, none), (57, none), (58, none), (59, none), (60, some 4), (60, some 5), (61, none), (62, none), (63, none), (64, none), (65, some 4), (65, some 5), (66, none), (67, none), (68, none), (69, none), (70, some 4), (70, some 5), (71, none), (72, none), (73, none), (74, none), (75, some 4), (75, some 5), (76, none), (77, none), (78, none), (79, none)]
theorem mk_137_j241 {v2 : Int32} {v3 : Int32} {v6 : Int32} {s0 : Int32} {M0 M : mm_M} (h : mq_kp mw_137 M0 M) : mq_K mw_137 M0 (mf_137_j241 v2 v3 v6 s0 M) := by
  unfold mf_137_j241
  exact mq_K_B (mq_K_call mk_27 h rfl) (fun _ M1 hM1 => mq_K_B (mq_K_call mk_32 hM1 rfl) (fun _ M3 hM3 => mq_K_ret hM3))
theorem mk_137_j163 {v2 : Int32} {v3 : Int32} {s0 : Int32} {M0 M : mm_M} (h : mq_kp mw_137 M0 M) : mq_K mw_137 M0 (mf_137_j163 v2 v3 s0 M) := by
  unfold mf_137_j163
  exact mq_K_B (mq_K_call mk_27 h rfl) (fun _ M1 hM1 => mq_K_B (mq_K_call mk_46 hM1 rfl) (fun _ M3 hM3 => mq_K_B (mq_K_call mk_138 (mq_kp_pi hM3 rfl) rfl) (fun _ M4 hM4 => mq_K_B (mq_K_call mk_145 hM4 rfl) (fun _ M5 hM5 => mq_K_B (mq_K_call mk_146 hM5 rfl) (fun _ M6 hM6 => mq_K_B (mq_K_call mk_29 hM6 rfl) (fun _ M8 hM8 => mq_K_ite (fun hc => mk_137_j241 hM8) (fun _ => mk_137_j241 hM8)))))))
theorem mk_137_b100 {v2 : Int32} {v3 : Int32} {M0 M : mm_M} (h : mq_kp mw_137 M0 M) : mq_K mw_137 M0 (mf_137_b100 v2 v3 M) := by
  unfold mf_137_b100
  exact mq_K_ite (fun hc => mq_K_B (mq_K_call mk_46 h rfl) (fun _ M2 hM2 => mq_K_ite (fun hc => mq_K_ret hM2) (fun _ => mq_K_ite (fun hc => mk_137_j163 hM2) (fun _ => mk_137_j163 hM2)))) (fun _ => mq_K_ret h)
theorem mk_137_L100 {s : Int32 × Int32} {M0 M : mm_M} (h : mq_kp mw_137 M0 M) : mq_K mw_137 M0 (mf_137_L100 s M) := by
  unfold mf_137_L100
  exact mq_K_L (fun s M h => mk_137_b100 h) h
theorem mk_137_j145 {s0 : Int32} {M0 M : mm_M} (h : mq_kp mw_137 M0 M) : mq_K mw_137 M0 (mf_137_j145 s0 M) := by
  unfold mf_137_j145
  exact mq_K_B (mq_K_call mk_27 h rfl) (fun _ M1 hM1 => mq_K_ret hM1)
theorem mk_137_j126 {v2 : Int32} {M0 M : mm_M} (h : mq_kp mw_137 M0 M) : mq_K mw_137 M0 (mf_137_j126 v2 M) := by
  unfold mf_137_j126
  exact mq_K_B (mq_K_call mk_46 h rfl) (fun _ M2 hM2 => mq_K_ite (fun hc => mk_137_j145 hM2) (fun _ => mk_137_j145 hM2))
theorem mk_137_j85 {s0 : Int32} {M0 M : mm_M} (h : mq_kp mw_137 M0 M) : mq_K mw_137 M0 (mf_137_j85 s0 M) := by
  unfold mf_137_j85
  exact mq_K_B (mq_K_call mk_27 h rfl) (fun _ M1 hM1 => mq_K_B (mk_137_L100 (mq_kp_pi hM1 rfl)) (fun _ M2 hM2 => mq_K_sm (fun _ => mk_137_j126 hM2) (fun _ => mq_K_ret hM2)))
theorem mk_137_j57 {s0 : Int32} {M0 M : mm_M} (h : mq_kp mw_137 M0 M) : mq_K mw_137 M0 (mf_137_j57 s0 M) := by
  unfold mf_137_j57
  exact mq_K_B (mq_K_call mk_27 h rfl) (fun _ M1 hM1 => mq_K_B (mq_K_call mk_44 hM1 rfl) (fun _ M3 hM3 => mq_K_ite (fun hc => mk_137_j85 hM3) (fun _ => mq_K_ite (fun hc => mk_137_j85 hM3) (fun _ => mk_137_j85 hM3))))
theorem mk_137_j37 {s0 : Int32} {M0 M : mm_M} (h : mq_kp mw_137 M0 M) : mq_K mw_137 M0 (mf_137_j37 s0 M) := by
  unfold mf_137_j37
  exact mq_K_B (mq_K_call mk_27 h rfl) (fun _ M1 hM1 => mq_K_B (mq_K_call mk_44 hM1 rfl) (fun _ M3 hM3 => mq_K_ite (fun hc => mk_137_j57 hM3) (fun _ => mk_137_j57 hM3)))
theorem mk_137_j17 {s0 : Int32} {M0 M : mm_M} (h : mq_kp mw_137 M0 M) : mq_K mw_137 M0 (mf_137_j17 s0 M) := by
  unfold mf_137_j17
  exact mq_K_B (mq_K_call mk_27 h rfl) (fun _ M1 hM1 => mq_K_B (mq_K_call mk_44 hM1 rfl) (fun _ M3 hM3 => mq_K_ite (fun hc => mk_137_j37 hM3) (fun _ => mk_137_j37 hM3)))
theorem mk_137 {M : mm_M} : mq_K mw_137 M (mf_137 M) := by
  unfold mf_137
  exact mq_K_B (mq_K_call mk_44 mq_kp_refl rfl) (fun _ M2 hM2 => mq_K_ite (fun hc => mk_137_j17 hM2) (fun _ => mk_137_j17 hM2))
-- 160: PlainPacks$Chances.readHead
def mw_160 : List (Nat × Option Nat) := [(1, some 2), (1, some 6), (80, some 6), (80, some 7), (80, some 8), (80, some 14)]
theorem mk_160_j119 {s0 : Int32} {M0 M : mm_M} (h : mq_kp mw_160 M0 M) : mq_K mw_160 M0 (mf_160_j119 s0 M) := by
  unfold mf_160_j119
  exact mq_K_B (mq_K_call mk_27 h rfl) (fun _ M1 hM1 => mq_K_ret hM1)
theorem mk_160_j67 {s0 : Int32} {M0 M : mm_M} (h : mq_kp mw_160 M0 M) : mq_K mw_160 M0 (mf_160_j67 s0 M) := by
  unfold mf_160_j67
  exact mq_K_B (mq_K_call mk_27 h rfl) (fun _ M1 hM1 => mq_K_B (mq_K_call mk_47 hM1 rfl) (fun _ M3 hM3 => mq_K_B (mq_K_call mk_47 hM3 rfl) (fun _ M5 hM5 => mq_K_ite (fun hc => mk_160_j119 (mq_kp_pl hM5 rfl)) (fun _ => mq_K_ite (fun hc => mk_160_j119 (mq_kp_pl hM5 rfl)) (fun _ => mk_160_j119 (mq_kp_pl hM5 rfl))))))
theorem mk_160_j20 {v1 : Int32} {s0 : Int32} {M0 M : mm_M} (h : mq_kp mw_160 M0 M) : mq_K mw_160 M0 (mf_160_j20 v1 s0 M) := by
  unfold mf_160_j20
  exact mq_K_B (mq_K_call mk_27 h rfl) (fun _ M1 hM1 => mq_K_ite (fun hc => mk_160_j67 (mq_kp_pi (mq_kp_pi (mq_kp_pi hM1 rfl) rfl) rfl)) (fun _ => mk_160_j67 (mq_kp_pi (mq_kp_pi (mq_kp_pi hM1 rfl) rfl) rfl)))
theorem mk_160 {M : mm_M} : mq_K mw_160 M (mf_160 M) := by
  unfold mf_160
  exact mq_K_B (mq_K_call mk_44 mq_kp_refl rfl) (fun _ M2 hM2 => mq_K_ite (fun hc => mk_160_j20 hM2) (fun _ => mk_160_j20 hM2))
-- 158: PlainPacks$Chances.begin
def mw_158 : List (Nat × Option Nat) := [(80, some 4), (80, some 9), (80, some 10), (80, some 11), (80, some 12), (80, some 13), (81, none)]
theorem mk_158 {M : mm_M} : mq_K mw_158 M (mf_158 M) := by
  unfold mf_158
  exact mq_K_B (mq_K_call mk_290 mq_kp_refl rfl) (fun _ M1 hM1 => mq_K_ret (mq_kp_pi (mq_kp_pi (mq_kp_pi (mq_kp_pi (mq_kp_pi (mq_kp_pl hM1 rfl) rfl) rfl) rfl) rfl) rfl))
-- 161: PlainPacks$Chances.bit
def mw_161 : List (Nat × Option Nat) := [(1, some 2), (1, some 6), (80, some 4), (80, some 5), (81, none)]
theorem mk_161_j90 {v5 : Int32} {M0 M : mm_M} (h : mq_kp mw_161 M0 M) : mq_K mw_161 M0 (mf_161_j90 v5 M) := by
  unfold mf_161_j90
  exact mq_K_ite (fun hc => mq_K_B (mq_K_call mk_44 (mq_kp_pl h rfl) rfl) (fun _ M2 hM2 => mq_K_ret (mq_kp_pl hM2 rfl))) (fun _ => mq_K_ret h)
theorem mk_161 {v1 : Int32} {M : mm_M} : mq_K mw_161 M (mf_161 v1 M) := by
  unfold mf_161
  exact mq_K_ite (fun hc => mq_K_ite (fun hc => mq_K_ite (fun hc => mk_161_j90 (mq_kp_pi (mq_kp_pl mq_kp_refl rfl) rfl)) (fun _ => mq_K_none)) (fun _ => mq_K_ite (fun hc => mk_161_j90 (mq_kp_pi (mq_kp_pl (mq_kp_pl mq_kp_refl rfl) rfl) rfl)) (fun _ => mq_K_none))) (fun _ => mq_K_none)
-- 165: PlainPacks$Chances.readByte
def mw_165 : List (Nat × Option Nat) := [(1, some 2), (1, some 6), (3, some 1), (3, some 2), (4, none), (80, some 4), (80, some 5), (80, some 9), (81, none)]
theorem mk_165_b178 {v4 : Int32} {v5 : Int32} {M0 M : mm_M} (h : mq_kp mw_165 M0 M) : mq_K mw_165 M0 (mf_165_b178 v4 v5 M) := by
  unfold mf_165_b178
  exact mq_K_ite (fun hc => mq_K_B (mq_K_call mk_161 h rfl) (fun _ M2 hM2 => mq_K_ret hM2)) (fun _ => mq_K_ret h)
theorem mk_165_L178 {v4 : Int32} {s : Int32} {M0 M : mm_M} (h : mq_kp mw_165 M0 M) : mq_K mw_165 M0 (mf_165_L178 v4 s M) := by
  unfold mf_165_L178
  exact mq_K_L (fun s M h => mk_165_b178 h) h
theorem mk_165_j245 {v5 : Int32} {M0 M : mm_M} (h : mq_kp mw_165 M0 M) : mq_K mw_165 M0 (mf_165_j245 v5 M) := by
  unfold mf_165_j245
  exact mq_K_B (mq_K_call mk_52 h rfl) (fun _ M1 hM1 => mq_K_ret hM1)
theorem mk_165_j241 {v5 : Int32} {s1 : Int32} {s2 : Int32} {M0 M : mm_M} (h : mq_kp mw_165 M0 M) : mq_K mw_165 M0 (mf_165_j241 v5 s1 s2 M) := by
  unfold mf_165_j241
  exact mk_165_j245 (mq_kp_pi h rfl)
theorem mk_165_j205 {v5 : Int32} {M0 M : mm_M} (h : mq_kp mw_165 M0 M) : mq_K mw_165 M0 (mf_165_j205 v5 M) := by
  unfold mf_165_j205
  exact mq_K_ite (fun hc => mk_165_j245 (mq_kp_pi h rfl)) (fun _ => mq_K_ite (fun hc => mk_165_j241 h) (fun _ => mk_165_j241 h))
theorem mk_165_b108 {v4 : Int32} {v5 : Int32} {v6 : Int32} {v7 : Int32} {v8 : Int32} {M0 M : mm_M} (h : mq_kp mw_165 M0 M) : mq_K mw_165 M0 (mf_165_b108 v4 v5 v6 v7 v8 M) := by
  unfold mf_165_b108
  exact mq_K_ite (fun hc => mq_K_ret h) (fun _ => mq_K_ite (fun hc => mq_K_ret h) (fun _ => mq_K_B (mq_K_call mk_161 h rfl) (fun _ M2 hM2 => mq_K_ite (fun hc => mq_K_ret hM2) (fun _ => mq_K_ret hM2))))
theorem mk_165_L108 {v4 : Int32} {v6 : Int32} {s : Int32 × Int32 × Int32} {M0 M : mm_M} (h : mq_kp mw_165 M0 M) : mq_K mw_165 M0 (mf_165_L108 v4 v6 s M) := by
  unfold mf_165_L108
  exact mq_K_L (fun s M h => mk_165_b108 h) h
theorem mk_165_j27 {v1 : Int32} {s0 : Int32} {M0 M : mm_M} (h : mq_kp mw_165 M0 M) : mq_K mw_165 M0 (mf_165_j27 v1 s0 M) := by
  unfold mf_165_j27
  exact mq_K_ite (fun hc => mq_K_B (mk_165_L178 h) (fun _ M1 hM1 => mk_165_j205 hM1)) (fun _ => mq_K_ite (fun hc => mq_K_B (mk_165_L178 h) (fun _ M12 hM12 => mk_165_j205 hM12)) (fun _ => mq_K_ite (fun hc => mq_K_B (mk_165_L108 h) (fun _ M23 hM23 => mq_K_B (mk_165_L178 hM23) (fun _ M33 hM33 => mk_165_j205 hM33))) (fun _ => mq_K_none)))
theorem mk_165 {M : mm_M} : mq_K mw_165 M (mf_165 M) := by
  unfold mf_165
  exact mq_K_ite (fun hc => mq_K_ite (fun hc => mk_165_j27 mq_kp_refl) (fun _ => mq_K_none)) (fun _ => mk_165_j27 mq_kp_refl)
-- 163: PlainPacks$Chances.tree
def mw_163 : List (Nat × Option Nat) := [(1, some 2), (1, some 6), (80, some 4), (80, some 5), (81, none)]
theorem mk_163_b5 {v1 : Int32} {v2 : Int32} {v3 : Int32} {v4 : Int32} {M0 M : mm_M} (h : mq_kp mw_163 M0 M) : mq_K mw_163 M0 (mf_163_b5 v1 v2 v3 v4 M) := by
  unfold mf_163_b5
  exact mq_K_ite (fun hc => mq_K_B (mq_K_call mk_161 h rfl) (fun _ M2 hM2 => mq_K_ret hM2)) (fun _ => mq_K_ret h)
theorem mk_163_L5 {v1 : Int32} {v2 : Int32} {s : Int32 × Int32} {M0 M : mm_M} (h : mq_kp mw_163 M0 M) : mq_K mw_163 M0 (mf_163_L5 v1 v2 s M) := by
  unfold mf_163_L5
  exact mq_K_L (fun s M h => mk_163_b5 h) h
theorem mk_163 {v1 : Int32} {v2 : Int32} {M : mm_M} : mq_K mw_163 M (mf_163 v1 v2 M) := by
  unfold mf_163
  exact mq_K_B (mk_163_L5 mq_kp_refl) (fun _ M1 hM1 => mq_K_ret hM1)
-- 169: PlainPacks$Chances.readLength
def mw_169 : List (Nat × Option Nat) := [(1, some 2), (1, some 6), (80, some 4), (80, some 5), (81, none)]
theorem mk_169_j106 {v3 : Int32} {s0 : Int32} {M0 M : mm_M} (h : mq_kp mw_169 M0 M) : mq_K mw_169 M0 (mf_169_j106 v3 s0 M) := by
  unfold mf_169_j106
  exact mq_K_B (mq_K_call mk_27 h rfl) (fun _ M1 hM1 => mq_K_ret hM1)
theorem mk_169_j105 {v3 : Int32} {M0 M : mm_M} (h : mq_kp mw_169 M0 M) : mq_K mw_169 M0 (mf_169_j105 v3 M) := by
  unfold mf_169_j105
  exact mk_169_j106 h
theorem mk_169_j74 {v3 : Int32} {M0 M : mm_M} (h : mq_kp mw_169 M0 M) : mq_K mw_169 M0 (mf_169_j74 v3 M) := by
  unfold mf_169_j74
  exact mq_K_ite (fun hc => mk_169_j105 h) (fun _ => mq_K_ite (fun hc => mk_169_j106 h) (fun _ => mk_169_j105 h))
theorem mk_169 {v1 : Int32} {v2 : Int32} {M : mm_M} : mq_K mw_169 M (mf_169 v1 v2 M) := by
  unfold mf_169
  exact mq_K_B (mq_K_call mk_161 mq_kp_refl rfl) (fun _ M2 hM2 => mq_K_ite (fun hc => mq_K_B (mq_K_call mk_163 hM2 rfl) (fun _ M4 hM4 => mk_169_j74 hM4)) (fun _ => mq_K_B (mq_K_call mk_161 hM2 rfl) (fun _ M6 hM6 => mq_K_ite (fun hc => mq_K_B (mq_K_call mk_163 hM6 rfl) (fun _ M8 hM8 => mk_169_j74 hM8)) (fun _ => mq_K_B (mq_K_call mk_163 hM6 rfl) (fun _ M10 hM10 => mk_169_j74 hM10)))))
-- 164: PlainPacks$Chances.turnedTree
def mw_164 : List (Nat × Option Nat) := [(1, some 2), (1, some 6), (80, some 4), (80, some 5), (81, none)]
theorem mk_164_b8 {v1 : Int32} {v2 : Int32} {v3 : Int32} {v4 : Int32} {v5 : Int32} {M0 M : mm_M} (h : mq_kp mw_164 M0 M) : mq_K mw_164 M0 (mf_164_b8 v1 v2 v3 v4 v5 M) := by
  unfold mf_164_b8
  exact mq_K_ite (fun hc => mq_K_B (mq_K_call mk_161 h rfl) (fun _ M2 hM2 => mq_K_ret hM2)) (fun _ => mq_K_ret h)
theorem mk_164_L8 {v1 : Int32} {v2 : Int32} {s : Int32 × Int32 × Int32} {M0 M : mm_M} (h : mq_kp mw_164 M0 M) : mq_K mw_164 M0 (mf_164_L8 v1 v2 s M) := by
  unfold mf_164_L8
  exact mq_K_L (fun s M h => mk_164_b8 h) h
theorem mk_164 {v1 : Int32} {v2 : Int32} {M : mm_M} : mq_K mw_164 M (mf_164 v1 v2 M) := by
  unfold mf_164
  exact mq_K_B (mk_164_L8 mq_kp_refl) (fun _ M1 hM1 => mq_K_ret hM1)
-- 162: PlainPacks$Chances.plainBit
def mw_162 : List (Nat × Option Nat) := [(1, some 2), (1, some 6), (80, some 4), (80, some 5)]
theorem mk_162_j41 {v1 : Int32} {M0 M : mm_M} (h : mq_kp mw_162 M0 M) : mq_K mw_162 M0 (mf_162_j41 v1 M) := by
  unfold mf_162_j41
  exact mq_K_ite (fun hc => mq_K_B (mq_K_call mk_44 (mq_kp_pl h rfl) rfl) (fun _ M2 hM2 => mq_K_ret (mq_kp_pl hM2 rfl))) (fun _ => mq_K_ret h)
theorem mk_162 {M : mm_M} : mq_K mw_162 M (mf_162 M) := by
  unfold mf_162
  exact mq_K_ite (fun hc => mk_162_j41 (mq_kp_pl mq_kp_refl rfl)) (fun _ => mk_162_j41 (mq_kp_pl (mq_kp_pl mq_kp_refl rfl) rfl))
-- 170: PlainPacks$Chances.readDistance
def mw_170 : List (Nat × Option Nat) := [(1, some 2), (1, some 6), (80, some 4), (80, some 5), (81, none)]
theorem mk_170_b82 {v4 : Int64} {v6 : Int32} {M0 M : mm_M} (h : mq_kp mw_170 M0 M) : mq_K mw_170 M0 (mf_170_b82 v4 v6 M) := by
  unfold mf_170_b82
  exact mq_K_ite (fun hc => mq_K_ret h) (fun _ => mq_K_B (mq_K_call mk_162 h rfl) (fun _ M2 hM2 => mq_K_ret hM2))
theorem mk_170_L82 {s : Int64 × Int32} {M0 M : mm_M} (h : mq_kp mw_170 M0 M) : mq_K mw_170 M0 (mf_170_L82 s M) := by
  unfold mf_170_L82
  exact mq_K_L (fun s M h => mk_170_b82 h) h
theorem mk_170_j107 {v4 : Int64} {M0 M : mm_M} (h : mq_kp mw_170 M0 M) : mq_K mw_170 M0 (mf_170_j107 v4 M) := by
  unfold mf_170_j107
  exact mq_K_B (mq_K_call mk_164 h rfl) (fun _ M2 hM2 => mq_K_ret hM2)
theorem mk_170 {v1 : Int32} {M : mm_M} : mq_K mw_170 M (mf_170 v1 M) := by
  unfold mf_170
  exact mq_K_B (mq_K_call mk_163 mq_kp_refl rfl) (fun _ M2 hM2 => mq_K_ite (fun hc => mq_K_ret hM2) (fun _ => mq_K_ite (fun hc => mq_K_B (mq_K_call mk_164 hM2 rfl) (fun _ M4 hM4 => mq_K_ret hM4)) (fun _ => mq_K_B (mk_170_L82 hM2) (fun _ M5 hM5 => mk_170_j107 hM5))))
-- 166: PlainPacks$Chances.readMatch
def mw_166 : List (Nat × Option Nat) := [(1, some 2), (1, some 6), (3, some 1), (3, some 3), (3, some 4), (3, some 5), (4, none), (80, some 4), (80, some 5), (80, some 9), (80, some 10), (80, some 11), (80, some 12), (80, some 13), (81, none)]
theorem mk_166_j102 {v2 : Int32} {s1 : Int32} {M0 M : mm_M} (h : mq_kp mw_166 M0 M) : mq_K mw_166 M0 (mf_166_j102 v2 s1 M) := by
  unfold mf_166_j102
  exact mq_K_B (mq_K_call mk_53 (mq_kp_pi h rfl) rfl) (fun _ M1 hM1 => mq_K_ret hM1)
theorem mk_166_j52 {v2 : Int32} {v3 : Int64} {s0 : Int32} {M0 M : mm_M} (h : mq_kp mw_166 M0 M) : mq_K mw_166 M0 (mf_166_j52 v2 v3 s0 M) := by
  unfold mf_166_j52
  exact mq_K_B (mq_K_call mk_27 h rfl) (fun _ M1 hM1 => mq_K_ite (fun hc => mk_166_j102 (mq_kp_pi (mq_kp_pi (mq_kp_pi (mq_kp_pi hM1 rfl) rfl) rfl) rfl)) (fun _ => mk_166_j102 (mq_kp_pi (mq_kp_pi (mq_kp_pi (mq_kp_pi hM1 rfl) rfl) rfl) rfl)))
theorem mk_166_j34 {v2 : Int32} {v3 : Int64} {M0 M : mm_M} (h : mq_kp mw_166 M0 M) : mq_K mw_166 M0 (mf_166_j34 v2 v3 M) := by
  unfold mf_166_j34
  exact mq_K_ite (fun hc => mk_166_j52 h) (fun _ => mk_166_j52 h)
theorem mk_166 {v1 : Int32} {M : mm_M} : mq_K mw_166 M (mf_166 v1 M) := by
  unfold mf_166
  exact mq_K_B (mq_K_call mk_169 mq_kp_refl rfl) (fun _ M2 hM2 => mq_K_B (mq_K_call mk_170 hM2 rfl) (fun _ M4 hM4 => mq_K_ite (fun hc => mq_K_ite (fun hc => mq_K_ret hM4) (fun _ => mk_166_j34 hM4)) (fun _ => mk_166_j34 hM4)))
-- 168: PlainPacks$Chances.bringToFront
def mw_168 : List (Nat × Option Nat) := [(1, some 2), (1, some 6), (80, some 4), (80, some 5), (80, some 10), (80, some 11), (80, some 12), (80, some 13), (81, none)]
theorem mk_168_j55 {v1 : Int32} {M0 M : mm_M} (h : mq_kp mw_168 M0 M) : mq_K mw_168 M0 (mf_168_j55 v1 M) := by
  unfold mf_168_j55
  exact mq_K_ret (mq_kp_pi (mq_kp_pi (mq_kp_pi h rfl) rfl) rfl)
theorem mk_168 {M : mm_M} : mq_K mw_168 M (mf_168 M) := by
  unfold mf_168
  exact mq_K_B (mq_K_call mk_161 mq_kp_refl rfl) (fun _ M2 hM2 => mq_K_ite (fun hc => mq_K_B (mq_K_call mk_161 hM2 rfl) (fun _ M4 hM4 => mq_K_ite (fun hc => mk_168_j55 (mq_kp_pi hM4 rfl)) (fun _ => mk_168_j55 hM4))) (fun _ => mq_K_ret (mq_kp_pi (mq_kp_pi hM2 rfl) rfl)))
-- 167: PlainPacks$Chances.readRepeat
def mw_167 : List (Nat × Option Nat) := [(1, some 2), (1, some 6), (3, some 1), (3, some 3), (3, some 4), (3, some 5), (4, none), (80, some 4), (80, some 5), (80, some 9), (80, some 10), (80, some 11), (80, some 12), (80, some 13), (81, none)]
theorem mk_167_j160 {v3 : Int32} {s1 : Int32} {M0 M : mm_M} (h : mq_kp mw_167 M0 M) : mq_K mw_167 M0 (mf_167_j160 v3 s1 M) := by
  unfold mf_167_j160
  exact mq_K_B (mq_K_call mk_53 (mq_kp_pi h rfl) rfl) (fun _ M1 hM1 => mq_K_ret hM1)
theorem mk_167_j115 {s1 : Int32} {M0 M : mm_M} (h : mq_kp mw_167 M0 M) : mq_K mw_167 M0 (mf_167_j115 s1 M) := by
  unfold mf_167_j115
  exact mq_K_B (mq_K_call mk_53 (mq_kp_pi h rfl) rfl) (fun _ M1 hM1 => mq_K_ret hM1)
theorem mk_167_j94 {v1 : Int32} {v2 : Int32} {M0 M : mm_M} (h : mq_kp mw_167 M0 M) : mq_K mw_167 M0 (mf_167_j94 v1 v2 M) := by
  unfold mf_167_j94
  exact mq_K_ite (fun hc => mq_K_B (mq_K_call mk_169 h rfl) (fun _ M2 hM2 => mq_K_ite (fun hc => mk_167_j160 hM2) (fun _ => mk_167_j160 hM2))) (fun _ => mq_K_ite (fun hc => mk_167_j115 h) (fun _ => mk_167_j115 h))
theorem mk_167_j36 {v1 : Int32} {s0 : Int32} {M0 M : mm_M} (h : mq_kp mw_167 M0 M) : mq_K mw_167 M0 (mf_167_j36 v1 s0 M) := by
  unfold mf_167_j36
  exact mq_K_B (mq_K_call mk_27 h rfl) (fun _ M1 hM1 => mq_K_B (mq_K_call mk_161 hM1 rfl) (fun _ M3 hM3 => mq_K_ite (fun hc => mk_167_j94 hM3) (fun _ => mk_167_j94 hM3)))
theorem mk_167_j91 {v1 : Int32} {v2 : Int32} {s0 : Int32} {M0 M : mm_M} (h : mq_kp mw_167 M0 M) : mq_K mw_167 M0 (mf_167_j91 v1 v2 s0 M) := by
  unfold mf_167_j91
  exact mq_K_B (mq_K_call mk_27 h rfl) (fun _ M1 hM1 => mk_167_j94 hM1)
theorem mk_167 {v1 : Int32} {M : mm_M} : mq_K mw_167 M (mf_167 v1 M) := by
  unfold mf_167
  exact mq_K_B (mq_K_call mk_161 mq_kp_refl rfl) (fun _ M2 hM2 => mq_K_ite (fun hc => mq_K_ite (fun hc => mk_167_j36 hM2) (fun _ => mk_167_j36 hM2)) (fun _ => mq_K_B (mq_K_call mk_168 hM2 rfl) (fun _ M3 hM3 => mq_K_ite (fun hc => mk_167_j91 hM3) (fun _ => mk_167_j91 hM3))))
-- 159: PlainPacks$Chances.readChances
def mw_159 : List (Nat × Option Nat) := [(1, some 2), (1, some 6), (3, some 1), (3, some 2), (3, some 3), (3, some 4), (3, some 5), (4, none), (80, some 4), (80, some 5), (80, some 6), (80, some 7), (80, some 8), (80, some 9), (80, some 10), (80, some 11), (80, some 12), (80, some 13), (80, some 14), (81, none)]
theorem mk_159_b42 {v1 : Int32} {v2 : Int32} {M0 M : mm_M} (h : mq_kp mw_159 M0 M) : mq_K mw_159 M0 (mf_159_b42 v1 v2 M) := by
  unfold mf_159_b42
  exact mq_K_ite (fun hc => mq_K_ret h) (fun _ => mq_K_ite (fun hc => mq_K_ret h) (fun _ => mq_K_ite (fun hc => mq_K_ret h) (fun _ => mq_K_B (mq_K_call mk_161 h rfl) (fun _ M2 hM2 => mq_K_ite (fun hc => mq_K_B (mq_K_call mk_165 hM2 rfl) (fun _ M3 hM3 => mq_K_ret hM3)) (fun _ => mq_K_B (mq_K_call mk_161 hM2 rfl) (fun _ M5 hM5 => mq_K_ite (fun hc => mq_K_B (mq_K_call mk_166 hM5 rfl) (fun _ M7 hM7 => mq_K_ret hM7)) (fun _ => mq_K_B (mq_K_call mk_167 hM5 rfl) (fun _ M8 hM8 => mq_K_ret hM8))))))))
theorem mk_159_L42 {s : Int32 × Int32} {M0 M : mm_M} (h : mq_kp mw_159 M0 M) : mq_K mw_159 M0 (mf_159_L42 s M) := by
  unfold mf_159_L42
  exact mq_K_L (fun s M h => mk_159_b42 h) h
theorem mk_159_j160 {s0 : Int32} {M0 M : mm_M} (h : mq_kp mw_159 M0 M) : mq_K mw_159 M0 (mf_159_j160 s0 M) := by
  unfold mf_159_j160
  exact mq_K_B (mq_K_call mk_27 h rfl) (fun _ M1 hM1 => mq_K_ret hM1)
theorem mk_159_j146 {M0 M : mm_M} (h : mq_kp mw_159 M0 M) : mq_K mw_159 M0 (mf_159_j146 M) := by
  unfold mf_159_j146
  exact mq_K_ite (fun hc => mk_159_j160 h) (fun _ => mk_159_j160 h)
theorem mk_159_j23 {s0 : Int32} {M0 M : mm_M} (h : mq_kp mw_159 M0 M) : mq_K mw_159 M0 (mf_159_j23 s0 M) := by
  unfold mf_159_j23
  exact mq_K_B (mq_K_call mk_27 h rfl) (fun _ M1 hM1 => mq_K_B (mq_K_call mk_48 hM1 rfl) (fun _ M3 hM3 => mq_K_B (mk_159_L42 (mq_kp_pl hM3 rfl)) (fun _ M4 hM4 => mk_159_j146 hM4)))
theorem mk_159 {M : mm_M} : mq_K mw_159 M (mf_159 M) := by
  unfold mf_159
  exact mq_K_B (mq_K_call mk_160 mq_kp_refl rfl) (fun _ M1 hM1 => mq_K_B (mq_K_call mk_158 hM1 rfl) (fun _ M2 hM2 => mq_K_B (mq_K_call mk_44 hM2 rfl) (fun _ M4 hM4 => mq_K_ite (fun hc => mk_159_j23 hM4) (fun _ => mk_159_j23 hM4))))
-- 17: PlainPacks.open
def mw_17 : List (Nat × Option Nat) := [(1, some 2), (1, some 3), (1, some 4), (1, some 5), (1, some 6), (3, some 1), (3, some 2), (3, some 3), (3, some 4), (3, some 5), (3, some 6), (4, none), (16, some 8), (16, some 9), (17, some 4), (17, some 5), (18, none), (19, none), (20, none), (21, none), (22, some 4), (22, some 5), (23, none), (24, none), (25, none), (26, none), (27, some 4), (27, some 5), (28, none), (29, none), (30, none), (31, none), (32, none), (35, some 8), (35, some 9), (35, some 10), (35, some 11), (35, some 12), (35, some 13), (35, some 14), (36, none), (37, none), (41, some 4), (41, some 5), (42, some 7), (42, some 9), (42, some 10), (42, some 12), (44, none), (45, none), (46, none), (47, none), (48, none), (49, none), (50, some 4), (50, some 5), (51, none), (52, none), (53, none), (54, none), (55, some 4), (55, some 5), (56, none), (57, none), (58, none), (59, none), (60, some 4), (60, some 5), (61, none), (62, none), (63, none), (64, none), (65, some 4), (65, some 5), (66, none), (67, none), (68, none), (69, none), (70, some 4), (70, some 5), (71, none), (72, none), (73, none), (74, none), (75, some 4), (75, some 5), (76, none), (77, none), (78, none), (79, none), (80, some 4), (80, some 5), (80, some 6), (80, some 7), (80, some 8), (80, some 9), (80, some 10), (80, some 11), (80, some 12), (80, some 13), (80, some 14), (81, none)]
theorem mk_17 {v1 : Int32} {M : mm_M} : mq_K mw_17 M (mf_17 v1 M) := by
  unfold mf_17
  exact mq_K_B (mq_K_call mk_26 mq_kp_refl rfl) (fun _ M1 hM1 => mq_K_B (mq_K_call mk_40 hM1 rfl) (fun _ M2 hM2 => mq_K_B (mq_K_call mk_49 hM2 rfl) (fun _ M3 hM3 => mq_K_ite (fun hc => mq_K_Bc (mq_K_call mk_117 hM3 rfl) (fun _ M4 hM4 => mq_K_ret hM4) (fun M5 hM5 => mq_K_ret hM5)) (fun _ => mq_K_ite (fun hc => mq_K_Bc (mq_K_call mk_79 hM3 rfl) (fun _ M6 hM6 => mq_K_ret hM6) (fun M7 hM7 => mq_K_ret hM7)) (fun _ => mq_K_ite (fun hc => mq_K_Bc (mq_K_call mk_75 hM3 rfl) (fun _ M8 hM8 => mq_K_ret hM8) (fun M9 hM9 => mq_K_ret hM9)) (fun _ => mq_K_ite (fun hc => mq_K_Bc (mq_K_call mk_76 hM3 rfl) (fun _ M10 hM10 => mq_K_ret hM10) (fun M11 hM11 => mq_K_ret hM11)) (fun _ => mq_K_ite (fun hc => mq_K_Bc (mq_K_call mk_107 hM3 rfl) (fun _ M12 hM12 => mq_K_ret hM12) (fun M13 hM13 => mq_K_ret hM13)) (fun _ => mq_K_ite (fun hc => mq_K_Bc (mq_K_call mk_108 hM3 rfl) (fun _ M14 hM14 => mq_K_ret hM14) (fun M15 hM15 => mq_K_ret hM15)) (fun _ => mq_K_ite (fun hc => mq_K_Bc (mq_K_call mk_118 hM3 rfl) (fun _ M16 hM16 => mq_K_ret hM16) (fun M17 hM17 => mq_K_ret hM17)) (fun _ => mq_K_ite (fun hc => mq_K_Bc (mq_K_call mk_121 hM3 rfl) (fun _ M18 hM18 => mq_K_ret hM18) (fun M19 hM19 => mq_K_ret hM19)) (fun _ => mq_K_ite (fun hc => mq_K_Bc (mq_K_call mk_124 hM3 rfl) (fun _ M20 hM20 => mq_K_ret hM20) (fun M21 hM21 => mq_K_ret hM21)) (fun _ => mq_K_ite (fun hc => mq_K_Bc (mq_K_call mk_137 hM3 rfl) (fun _ M22 hM22 => mq_K_ret hM22) (fun M23 hM23 => mq_K_ret hM23)) (fun _ => mq_K_Bc (mq_K_call mk_159 hM3 rfl) (fun _ M24 hM24 => mq_K_ret hM24) (fun M25 hM25 => mq_K_ret hM25))))))))))))))
-- 190: PlainPacksModel.bad
def mw_190 : List (Nat × Option Nat) := [(84, some 7)]
theorem mk_190 {M : mm_M} : mq_K mw_190 M (mf_190 M) := by
  unfold mf_190
  exact mq_K_ret (mq_kp_pi mq_kp_refl rfl)
-- 191: PlainPacksModel.next
def mw_191 : List (Nat × Option Nat) := [(84, some 5), (84, some 7)]
theorem mk_191_j29 {M0 M : mm_M} (h : mq_kp mw_191 M0 M) : mq_K mw_191 M0 (mf_191_j29 M) := by
  unfold mf_191_j29
  exact mq_K_B (mq_K_call mk_190 h rfl) (fun _ M1 hM1 => mq_K_ret hM1)
theorem mk_191 {M : mm_M} : mq_K mw_191 M (mf_191 M) := by
  unfold mf_191
  exact mq_K_ite (fun hc => mq_K_ite (fun hc => mq_K_ite (fun hc => mq_K_ite (fun hc => mq_K_ret (mq_kp_pi mq_kp_refl rfl)) (fun _ => mq_K_none)) (fun _ => mk_191_j29 mq_kp_refl)) (fun _ => mk_191_j29 mq_kp_refl)) (fun _ => mk_191_j29 mq_kp_refl)
-- 194: PlainPacksModel.put
def mw_194 : List (Nat × Option Nat) := [(84, some 4), (84, some 7), (86, none)]
theorem mk_194_j21 {v1 : Int32} {M0 M : mm_M} (h : mq_kp mw_194 M0 M) : mq_K mw_194 M0 (mf_194_j21 v1 M) := by
  unfold mf_194_j21
  exact mq_K_ite (fun hc => mq_K_ite (fun hc => mq_K_ret (mq_kp_pi (mq_kp_pi h rfl) rfl)) (fun _ => mq_K_none)) (fun _ => mq_K_ret h)
theorem mk_194 {v1 : Int32} {M : mm_M} : mq_K mw_194 M (mf_194 v1 M) := by
  unfold mf_194
  exact mq_K_ite (fun hc => mq_K_ite (fun hc => mq_K_B (mq_K_call mk_190 mq_kp_refl rfl) (fun _ M1 hM1 => mk_194_j21 hM1)) (fun _ => mk_194_j21 mq_kp_refl)) (fun _ => mk_194_j21 mq_kp_refl)
-- 214: PlainPacksModel.runs
def mw_214 : List (Nat × Option Nat) := [(84, some 4), (84, some 5), (84, some 7), (86, none)]
theorem mk_214_b32 {v1 : Int32} {v2 : Int32} {M0 M : mm_M} (h : mq_kp mw_214 M0 M) : mq_K mw_214 M0 (mf_214_b32 v1 v2 M) := by
  unfold mf_214_b32
  exact mq_K_ite (fun hc => mq_K_ret h) (fun _ => mq_K_ite (fun hc => mq_K_B (mq_K_call mk_191 h rfl) (fun _ M2 hM2 => mq_K_B (mq_K_call mk_194 hM2 rfl) (fun _ M4 hM4 => mq_K_ret hM4))) (fun _ => mq_K_ret h))
theorem mk_214_L32 {v1 : Int32} {s : Int32} {M0 M : mm_M} (h : mq_kp mw_214 M0 M) : mq_K mw_214 M0 (mf_214_L32 v1 s M) := by
  unfold mf_214_L32
  exact mq_K_L (fun s M h => mk_214_b32 h) h
theorem mk_214_b78 {v1 : Int32} {v2 : Int32} {v3 : Int32} {M0 M : mm_M} (h : mq_kp mw_214 M0 M) : mq_K mw_214 M0 (mf_214_b78 v1 v2 v3 M) := by
  unfold mf_214_b78
  exact mq_K_ite (fun hc => mq_K_ite (fun hc => mq_K_B (mq_K_call mk_194 h rfl) (fun _ M2 hM2 => mq_K_ret hM2)) (fun _ => mq_K_ret h)) (fun _ => mq_K_ret h)
theorem mk_214_L78 {v1 : Int32} {v2 : Int32} {s : Int32} {M0 M : mm_M} (h : mq_kp mw_214 M0 M) : mq_K mw_214 M0 (mf_214_L78 v1 v2 s M) := by
  unfold mf_214_L78
  exact mq_K_L (fun s M h => mk_214_b78 h) h
theorem mk_214_b0 {M0 M : mm_M} (h : mq_kp mw_214 M0 M) : mq_K mw_214 M0 (mf_214_b0 M) := by
  unfold mf_214_b0
  exact mq_K_ite (fun hc => mq_K_ite (fun hc => mq_K_B (mq_K_call mk_191 h rfl) (fun _ M2 hM2 => mq_K_ite (fun hc => mq_K_B (mk_214_L32 hM2) (fun _ M3 hM3 => mq_K_ret hM3)) (fun _ => mq_K_ite (fun hc => mq_K_B (mq_K_call mk_191 hM2 rfl) (fun _ M9 hM9 => mq_K_B (mk_214_L78 hM9) (fun _ M10 hM10 => mq_K_ret hM10))) (fun _ => mq_K_ret hM2)))) (fun _ => mq_K_ret h)) (fun _ => mq_K_ret h)
theorem mk_214_L0 {s : Unit} {M0 M : mm_M} (h : mq_kp mw_214 M0 M) : mq_K mw_214 M0 (mf_214_L0 s M) := by
  unfold mf_214_L0
  exact mq_K_L (fun s M h => mk_214_b0 h) h
theorem mk_214 {M : mm_M} : mq_K mw_214 M (mf_214 M) := by
  unfold mf_214
  exact mq_K_B (mk_214_L0 mq_kp_refl) (fun _ M1 hM1 => mq_K_ret hM1)
-- 197: PlainPacksModel.bit
def mw_197 : List (Nat × Option Nat) := [(84, some 5), (84, some 7), (84, some 14), (84, some 15)]
theorem mk_197_j21 {M0 M : mm_M} (h : mq_kp mw_197 M0 M) : mq_K mw_197 M0 (mf_197_j21 M) := by
  unfold mf_197_j21
  exact mq_K_ite (fun hc => mq_K_ite (fun hc => mq_K_ret (mq_kp_pi h rfl)) (fun _ => mq_K_ret (mq_kp_pi h rfl))) (fun _ => mq_K_ret h)
theorem mk_197 {M : mm_M} : mq_K mw_197 M (mf_197 M) := by
  unfold mf_197
  exact mq_K_ite (fun hc => mq_K_B (mq_K_call mk_191 mq_kp_refl rfl) (fun _ M2 hM2 => mk_197_j21 (mq_kp_pi (mq_kp_pi hM2 rfl) rfl))) (fun _ => mk_197_j21 mq_kp_refl)
-- 198: PlainPacksModel.number
def mw_198 : List (Nat × Option Nat) := [(84, some 5), (84, some 7), (84, some 14), (84, some 15)]
theorem mk_198_b5 {v1 : Int32} {v2 : Int64} {v4 : Int32} {M0 M : mm_M} (h : mq_kp mw_198 M0 M) : mq_K mw_198 M0 (mf_198_b5 v1 v2 v4 M) := by
  unfold mf_198_b5
  exact mq_K_ite (fun hc => mq_K_ite (fun hc => mq_K_B (mq_K_call mk_197 h rfl) (fun _ M2 hM2 => mq_K_ite (fun hc => mq_K_ret hM2) (fun _ => mq_K_ret hM2))) (fun _ => mq_K_ret h)) (fun _ => mq_K_ret h)
theorem mk_198_L5 {v1 : Int32} {s : Int64 × Int32} {M0 M : mm_M} (h : mq_kp mw_198 M0 M) : mq_K mw_198 M0 (mf_198_L5 v1 s M) := by
  unfold mf_198_L5
  exact mq_K_L (fun s M h => mk_198_b5 h) h
theorem mk_198 {v1 : Int32} {M : mm_M} : mq_K mw_198 M (mf_198 v1 M) := by
  unfold mf_198
  exact mq_K_B (mk_198_L5 mq_kp_refl) (fun _ M1 hM1 => mq_K_ret hM1)
-- 193: PlainPacksModel.low
def mw_193 : List (Nat × Option Nat) := [(84, some 5), (84, some 7)]
theorem mk_193_b5 {v1 : Int32} {v2 : Int64} {v4 : Int32} {M0 M : mm_M} (h : mq_kp mw_193 M0 M) : mq_K mw_193 M0 (mf_193_b5 v1 v2 v4 M) := by
  unfold mf_193_b5
  exact mq_K_ite (fun hc => mq_K_B (mq_K_call mk_191 h rfl) (fun _ M2 hM2 => mq_K_ret hM2)) (fun _ => mq_K_ret h)
theorem mk_193_L5 {v1 : Int32} {s : Int64 × Int32} {M0 M : mm_M} (h : mq_kp mw_193 M0 M) : mq_K mw_193 M0 (mf_193_L5 v1 s M) := by
  unfold mf_193_L5
  exact mq_K_L (fun s M h => mk_193_b5 h) h
theorem mk_193 {v1 : Int32} {M : mm_M} : mq_K mw_193 M (mf_193 v1 M) := by
  unfold mf_193
  exact mq_K_B (mk_193_L5 mq_kp_refl) (fun _ M1 hM1 => mq_K_ret hM1)
-- 195: PlainPacksModel.pass
def mw_195 : List (Nat × Option Nat) := [(84, some 4), (84, some 5), (84, some 7), (84, some 8), (86, none)]
theorem mk_195_b2 {v1 : Int64} {v3 : Int64} {M0 M : mm_M} (h : mq_kp mw_195 M0 M) : mq_K mw_195 M0 (mf_195_b2 v1 v3 M) := by
  unfold mf_195_b2
  exact mq_K_ite (fun hc => mq_K_ite (fun hc => mq_K_B (mq_K_call mk_191 h rfl) (fun _ M2 hM2 => mq_K_ite (fun hc => mq_K_B (mq_K_call mk_194 hM2 rfl) (fun _ M4 hM4 => mq_K_ite (fun hc => mq_K_ret (mq_kp_pi hM4 rfl)) (fun _ => mq_K_ret (mq_kp_pi hM4 rfl)))) (fun _ => mq_K_ret (mq_kp_pi hM2 rfl)))) (fun _ => mq_K_ret h)) (fun _ => mq_K_ret h)
theorem mk_195_L2 {v1 : Int64} {s : Int64} {M0 M : mm_M} (h : mq_kp mw_195 M0 M) : mq_K mw_195 M0 (mf_195_L2 v1 s M) := by
  unfold mf_195_L2
  exact mq_K_L (fun s M h => mk_195_b2 h) h
theorem mk_195 {v1 : Int64} {M : mm_M} : mq_K mw_195 M (mf_195 v1 M) := by
  unfold mf_195
  exact mq_K_B (mk_195_L2 mq_kp_refl) (fun _ M1 hM1 => mq_K_ret hM1)
-- 204: PlainPacksModel.stored
def mw_204 : List (Nat × Option Nat) := [(84, some 4), (84, some 5), (84, some 7), (84, some 8), (84, some 15), (86, none)]
theorem mk_204_j38 {v1 : Int32} {M0 M : mm_M} (h : mq_kp mw_204 M0 M) : mq_K mw_204 M0 (mf_204_j38 v1 M) := by
  unfold mf_204_j38
  exact mq_K_B (mq_K_call mk_195 h rfl) (fun _ M1 hM1 => mq_K_ret hM1)
theorem mk_204 {M : mm_M} : mq_K mw_204 M (mf_204 M) := by
  unfold mf_204
  exact mq_K_B (mq_K_call mk_193 (mq_kp_pi mq_kp_refl rfl) rfl) (fun _ M2 hM2 => mq_K_B (mq_K_call mk_193 hM2 rfl) (fun _ M4 hM4 => mq_K_ite (fun hc => mq_K_ite (fun hc => mk_204_j38 hM4) (fun _ => mq_K_B (mq_K_call mk_190 hM4 rfl) (fun _ M5 hM5 => mk_204_j38 hM5))) (fun _ => mk_204_j38 hM4)))
-- 199: PlainPacksModel.assign
def mw_199 : List (Nat × Option Nat) := [(88, none)]
theorem mk_199_b19 {v1 : Int32} {v2 : Int32} {v3 : Int32} {v4 : Int32} {v5 : Int32} {M0 M : mm_M} (h : mq_kp mw_199 M0 M) : mq_K mw_199 M0 (mf_199_b19 v1 v2 v3 v4 v5 M) := by
  unfold mf_199_b19
  exact mq_K_ite (fun hc => mq_K_ite (fun hc => mq_K_ite (fun hc => mq_K_ite (fun hc => mq_K_ret (mq_kp_pi h rfl)) (fun _ => mq_K_none)) (fun _ => mq_K_ret h)) (fun _ => mq_K_none)) (fun _ => mq_K_ret h)
theorem mk_199_L19 {v1 : Int32} {v2 : Int32} {v4 : Int32} {s : Int32 × Int32} {M0 M : mm_M} (h : mq_kp mw_199 M0 M) : mq_K mw_199 M0 (mf_199_L19 v1 v2 v4 s M) := by
  unfold mf_199_L19
  exact mq_K_L (fun s M h => mk_199_b19 h) h
theorem mk_199_b5 {v1 : Int32} {v2 : Int32} {v3 : Int32} {v4 : Int32} {M0 M : mm_M} (h : mq_kp mw_199 M0 M) : mq_K mw_199 M0 (mf_199_b5 v1 v2 v3 v4 M) := by
  unfold mf_199_b5
  exact mq_K_ite (fun hc => mq_K_ret h) (fun _ => mq_K_B (mk_199_L19 h) (fun _ M1 hM1 => mq_K_ret hM1))
theorem mk_199_L5 {v1 : Int32} {v2 : Int32} {s : Int32 × Int32} {M0 M : mm_M} (h : mq_kp mw_199 M0 M) : mq_K mw_199 M0 (mf_199_L5 v1 v2 s M) := by
  unfold mf_199_L5
  exact mq_K_L (fun s M h => mk_199_b5 h) h
theorem mk_199 {v1 : Int32} {v2 : Int32} {M : mm_M} : mq_K mw_199 M (mf_199 v1 v2 M) := by
  unfold mf_199
  exact mq_K_B (mk_199_L5 mq_kp_refl) (fun _ M1 hM1 => mq_K_ret hM1)
-- 205: PlainPacksModel.fixed
def mw_205 : List (Nat × Option Nat) := [(84, some 20), (84, some 21), (87, none), (88, none)]
theorem mk_205_j65 {v1 : Int32} {s1 : Int32} {s2 : Int32} {M0 M : mm_M} (h : mq_kp mw_205 M0 M) : mq_K mw_205 M0 (mf_205_j65 v1 s1 s2 M) := by
  unfold mf_205_j65
  exact mq_K_ite (fun hc => mq_K_ret (mq_kp_pi h rfl)) (fun _ => mq_K_none)
theorem mk_205_b15 {v1 : Int32} {M0 M : mm_M} (h : mq_kp mw_205 M0 M) : mq_K mw_205 M0 (mf_205_b15 v1 M) := by
  unfold mf_205_b15
  exact mq_K_ite (fun hc => mq_K_ite (fun hc => mk_205_j65 h) (fun _ => mq_K_ite (fun hc => mk_205_j65 h) (fun _ => mq_K_ite (fun hc => mk_205_j65 h) (fun _ => mk_205_j65 h)))) (fun _ => mq_K_ret h)
theorem mk_205_L15 {s : Int32} {M0 M : mm_M} (h : mq_kp mw_205 M0 M) : mq_K mw_205 M0 (mf_205_L15 s M) := by
  unfold mf_205_L15
  exact mq_K_L (fun s M h => mk_205_b15 h) h
theorem mk_205_b74 {v1 : Int32} {M0 M : mm_M} (h : mq_kp mw_205 M0 M) : mq_K mw_205 M0 (mf_205_b74 v1 M) := by
  unfold mf_205_b74
  exact mq_K_ite (fun hc => mq_K_ite (fun hc => mq_K_ret (mq_kp_pi h rfl)) (fun _ => mq_K_none)) (fun _ => mq_K_ret h)
theorem mk_205_L74 {s : Int32} {M0 M : mm_M} (h : mq_kp mw_205 M0 M) : mq_K mw_205 M0 (mf_205_L74 s M) := by
  unfold mf_205_L74
  exact mq_K_L (fun s M h => mk_205_b74 h) h
theorem mk_205_j97 {M0 M : mm_M} (h : mq_kp mw_205 M0 M) : mq_K mw_205 M0 (mf_205_j97 M) := by
  unfold mf_205_j97
  exact mq_K_B (mq_K_call mk_199 h rfl) (fun _ M1 hM1 => mq_K_B (mq_K_call mk_199 hM1 rfl) (fun _ M2 hM2 => mq_K_ret hM2))
theorem mk_205 {M : mm_M} : mq_K mw_205 M (mf_205 M) := by
  unfold mf_205
  exact mq_K_B (mk_205_L15 (mq_kp_pi (mq_kp_pi mq_kp_refl rfl) rfl)) (fun _ M1 hM1 => mq_K_B (mk_205_L74 hM1) (fun _ M4 hM4 => mk_205_j97 hM4))
-- 200: PlainPacksModel.taken
def mw_200 : List (Nat × Option Nat) := []
theorem mk_200_b9 {v1 : Int32} {v2 : Int32} {v3 : Int64} {v5 : Int32} {M0 M : mm_M} (h : mq_kp mw_200 M0 M) : mq_K mw_200 M0 (mf_200_b9 v1 v2 v3 v5 M) := by
  unfold mf_200_b9
  exact mq_K_ite (fun hc => mq_K_ite (fun hc => mq_K_ite (fun hc => mq_K_ret h) (fun _ => mq_K_ite (fun hc => mq_K_ret h) (fun _ => mq_K_none))) (fun _ => mq_K_none)) (fun _ => mq_K_ret h)
theorem mk_200_L9 {v1 : Int32} {v2 : Int32} {s : Int64 × Int32} {M0 M : mm_M} (h : mq_kp mw_200 M0 M) : mq_K mw_200 M0 (mf_200_L9 v1 v2 s M) := by
  unfold mf_200_L9
  exact mq_K_L (fun s M h => mk_200_b9 h) h
theorem mk_200 {v1 : Int32} {v2 : Int32} {M : mm_M} : mq_K mw_200 M (mf_200 v1 v2 M) := by
  unfold mf_200
  exact mq_K_B (mk_200_L9 mq_kp_refl) (fun _ M1 hM1 => mq_K_ret hM1)
-- 201: PlainPacksModel.isFit
def mw_201 : List (Nat × Option Nat) := []
theorem mk_201_j42 {v1 : Int32} {v2 : Int32} {v3 : Int32} {v5 : Int32} {v6 : Int32} {s0 : Int32} {s1 : Int32} {M0 M : mm_M} (h : mq_kp mw_201 M0 M) : mq_K mw_201 M0 (mf_201_j42 v1 v2 v3 v5 v6 s0 s1 M) := by
  unfold mf_201_j42
  exact mq_K_ite (fun hc => mq_K_ite (fun hc => mq_K_ret h) (fun _ => mq_K_ret h)) (fun _ => mq_K_none)
theorem mk_201_b13 {v1 : Int32} {v2 : Int32} {v3 : Int32} {v4 : Int32} {v5 : Int32} {v6 : Int32} {M0 M : mm_M} (h : mq_kp mw_201 M0 M) : mq_K mw_201 M0 (mf_201_b13 v1 v2 v3 v4 v5 v6 M) := by
  unfold mf_201_b13
  exact mq_K_ite (fun hc => mq_K_ite (fun hc => mq_K_ite (fun hc => mk_201_j42 h) (fun _ => mk_201_j42 h)) (fun _ => mq_K_none)) (fun _ => mq_K_ret h)
theorem mk_201_L13 {v1 : Int32} {v2 : Int32} {v3 : Int32} {s : Int32 × Int32 × Int32} {M0 M : mm_M} (h : mq_kp mw_201 M0 M) : mq_K mw_201 M0 (mf_201_L13 v1 v2 v3 s M) := by
  unfold mf_201_L13
  exact mq_K_L (fun s M h => mk_201_b13 h) h
theorem mk_201_j97 {v3 : Int32} {v4 : Int32} {M0 M : mm_M} (h : mq_kp mw_201 M0 M) : mq_K mw_201 M0 (mf_201_j97 v3 v4 M) := by
  unfold mf_201_j97
  exact mq_K_ite (fun hc => mq_K_ret h) (fun _ => mq_K_ite (fun hc => mq_K_ret h) (fun _ => mq_K_ret h))
theorem mk_201_j72 {v1 : Int32} {v2 : Int32} {v3 : Int32} {v4 : Int32} {v5 : Int32} {M0 M : mm_M} (h : mq_kp mw_201 M0 M) : mq_K mw_201 M0 (mf_201_j72 v1 v2 v3 v4 v5 M) := by
  unfold mf_201_j72
  exact mq_K_B (mq_K_call mk_200 h rfl) (fun _ M2 hM2 => mq_K_ite (fun hc => mq_K_ret hM2) (fun _ => mq_K_ite (fun hc => mq_K_ite (fun hc => mq_K_ret hM2) (fun _ => mk_201_j97 hM2)) (fun _ => mk_201_j97 hM2)))
theorem mk_201 {v1 : Int32} {v2 : Int32} {v3 : Int32} {M : mm_M} : mq_K mw_201 M (mf_201 v1 v2 v3 M) := by
  unfold mf_201
  exact mq_K_B (mk_201_L13 mq_kp_refl) (fun _ M1 hM1 => mk_201_j72 hM1)
-- 202: PlainPacksModel.decode
def mw_202 : List (Nat × Option Nat) := [(84, some 5), (84, some 7), (84, some 14), (84, some 15)]
theorem mk_202_b25 {v2 : Int32} {v3 : Int32} {v4 : Int32} {v5 : Int32} {v6 : Int32} {v7 : Int32} {M0 M : mm_M} (h : mq_kp mw_202 M0 M) : mq_K mw_202 M0 (mf_202_b25 v2 v3 v4 v5 v6 v7 M) := by
  unfold mf_202_b25
  exact mq_K_ite (fun hc => mq_K_ite (fun hc => mq_K_ite (fun hc => mq_K_ite (fun hc => mq_K_ite (fun hc => mq_K_ite (fun hc => mq_K_ite (fun hc => mq_K_ret h) (fun _ => mq_K_ret h)) (fun _ => mq_K_none)) (fun _ => mq_K_none)) (fun _ => mq_K_ret h)) (fun _ => mq_K_none)) (fun _ => mq_K_ret h)) (fun _ => mq_K_ret h)
theorem mk_202_L25 {v2 : Int32} {v3 : Int32} {v4 : Int32} {v5 : Int32} {s : Int32 × Int32} {M0 M : mm_M} (h : mq_kp mw_202 M0 M) : mq_K mw_202 M0 (mf_202_L25 v2 v3 v4 v5 s M) := by
  unfold mf_202_L25
  exact mq_K_L (fun s M h => mk_202_b25 h) h
theorem mk_202_b114 {v2 : Int32} {v3 : Int32} {v4 : Int32} {v5 : Int32} {v7 : Int32} {M0 M : mm_M} (h : mq_kp mw_202 M0 M) : mq_K mw_202 M0 (mf_202_b114 v2 v3 v4 v5 v7 M) := by
  unfold mf_202_b114
  exact mq_K_ite (fun hc => mq_K_ite (fun hc => mq_K_ite (fun hc => mq_K_ite (fun hc => mq_K_ite (fun hc => mq_K_ite (fun hc => mq_K_ret h) (fun _ => mq_K_ret h)) (fun _ => mq_K_none)) (fun _ => mq_K_ret h)) (fun _ => mq_K_none)) (fun _ => mq_K_ret h)) (fun _ => mq_K_ret h)
theorem mk_202_L114 {v2 : Int32} {v3 : Int32} {v4 : Int32} {v5 : Int32} {s : Int32} {M0 M : mm_M} (h : mq_kp mw_202 M0 M) : mq_K mw_202 M0 (mf_202_L114 v2 v3 v4 v5 s M) := by
  unfold mf_202_L114
  exact mq_K_L (fun s M h => mk_202_b114 h) h
theorem mk_202_j86 {v2 : Int32} {v3 : Int32} {v4 : Int32} {v5 : Int32} {v6 : Int32} {M0 M : mm_M} (h : mq_kp mw_202 M0 M) : mq_K mw_202 M0 (mf_202_j86 v2 v3 v4 v5 v6 M) := by
  unfold mf_202_j86
  exact mq_K_ite (fun hc => mq_K_ret h) (fun _ => mq_K_B (mq_K_call mk_197 h rfl) (fun _ M2 hM2 => mq_K_B (mk_202_L114 hM2) (fun _ M3 hM3 => mq_K_sm (fun _ => mq_K_ret hM3) (fun _ => mq_K_ret hM3))))
theorem mk_202_b12 {v2 : Int32} {v3 : Int32} {v4 : Int32} {v5 : Int32} {M0 M : mm_M} (h : mq_kp mw_202 M0 M) : mq_K mw_202 M0 (mf_202_b12 v2 v3 v4 v5 M) := by
  unfold mf_202_b12
  exact mq_K_ite (fun hc => mq_K_B (mk_202_L25 h) (fun _ M1 hM1 => mk_202_j86 hM1)) (fun _ => mq_K_ret h)
theorem mk_202_L12 {v2 : Int32} {v3 : Int32} {s : Int32 × Int32} {M0 M : mm_M} (h : mq_kp mw_202 M0 M) : mq_K mw_202 M0 (mf_202_L12 v2 v3 s M) := by
  unfold mf_202_L12
  exact mq_K_L (fun s M h => mk_202_b12 h) h
theorem mk_202_j91 {M0 M : mm_M} (h : mq_kp mw_202 M0 M) : mq_K mw_202 M0 (mf_202_j91 M) := by
  unfold mf_202_j91
  exact mq_K_B (mq_K_call mk_190 h rfl) (fun _ M1 hM1 => mq_K_ret hM1)
theorem mk_202 {v1 : Int32} {v2 : Int32} {M : mm_M} : mq_K mw_202 M (mf_202 v1 v2 M) := by
  unfold mf_202
  exact mq_K_B (mk_202_L12 mq_kp_refl) (fun _ M1 hM1 => mq_K_sm (fun _ => mk_202_j91 hM1) (fun _ => mq_K_sm (fun _ => mq_K_ret hM1) (fun _ => mq_K_ret hM1)))
-- 207: PlainPacksModel.rowOf
def mw_207 : List (Nat × Option Nat) := [(84, some 5), (84, some 7), (84, some 14), (84, some 15), (90, none)]
theorem mk_207_b150 {v1 : Int32} {v2 : Int32} {v4 : Int32} {v5 : Int32} {v6 : Int32} {M0 M : mm_M} (h : mq_kp mw_207 M0 M) : mq_K mw_207 M0 (mf_207_b150 v1 v2 v4 v5 v6 M) := by
  unfold mf_207_b150
  exact mq_K_ite (fun hc => mq_K_ite (fun hc => mq_K_ite (fun hc => mq_K_ret (mq_kp_pi h rfl)) (fun _ => mq_K_none)) (fun _ => mq_K_ret h)) (fun _ => mq_K_ret h)
theorem mk_207_L150 {v1 : Int32} {v4 : Int32} {v5 : Int32} {s : Int32 × Int32} {M0 M : mm_M} (h : mq_kp mw_207 M0 M) : mq_K mw_207 M0 (mf_207_L150 v1 v4 v5 s M) := by
  unfold mf_207_L150
  exact mq_K_L (fun s M h => mk_207_b150 h) h
theorem mk_207_j128 {v1 : Int32} {v2 : Int32} {v4 : Int32} {v5 : Int32} {M0 M : mm_M} (h : mq_kp mw_207 M0 M) : mq_K mw_207 M0 (mf_207_j128 v1 v2 v4 v5 M) := by
  unfold mf_207_j128
  exact mq_K_ite (fun hc => mq_K_ite (fun hc => mq_K_B (mq_K_call mk_190 h rfl) (fun _ M1 hM1 => mq_K_B (mk_207_L150 hM1) (fun _ M2 hM2 => mq_K_ret hM2))) (fun _ => mq_K_B (mk_207_L150 h) (fun _ M8 hM8 => mq_K_ret hM8))) (fun _ => mq_K_B (mk_207_L150 h) (fun _ M14 hM14 => mq_K_ret hM14))
theorem mk_207_j126 {v1 : Int32} {v2 : Int32} {v5 : Int32} {s0 : Int32} {M0 M : mm_M} (h : mq_kp mw_207 M0 M) : mq_K mw_207 M0 (mf_207_j126 v1 v2 v5 s0 M) := by
  unfold mf_207_j126
  exact mk_207_j128 h
theorem mk_207_j80 {v1 : Int32} {v2 : Int32} {v3 : Int32} {s0 : Int32} {M0 M : mm_M} (h : mq_kp mw_207 M0 M) : mq_K mw_207 M0 (mf_207_j80 v1 v2 v3 s0 M) := by
  unfold mf_207_j80
  exact mq_K_ite (fun hc => mq_K_B (mq_K_call mk_198 h rfl) (fun _ M2 hM2 => mk_207_j126 hM2)) (fun _ => mq_K_ite (fun hc => mq_K_B (mq_K_call mk_198 h rfl) (fun _ M4 hM4 => mk_207_j126 hM4)) (fun _ => mq_K_B (mq_K_call mk_198 h rfl) (fun _ M6 hM6 => mk_207_j126 hM6)))
theorem mk_207_j49 {v1 : Int32} {v2 : Int32} {v3 : Int32} {v4 : Int32} {v5 : Int32} {M0 M : mm_M} (h : mq_kp mw_207 M0 M) : mq_K mw_207 M0 (mf_207_j49 v1 v2 v3 v4 v5 M) := by
  unfold mf_207_j49
  exact mq_K_ite (fun hc => mq_K_ite (fun hc => mq_K_ite (fun hc => mq_K_ite (fun hc => mk_207_j80 h) (fun _ => mq_K_none)) (fun _ => mk_207_j80 h)) (fun _ => mk_207_j128 h)) (fun _ => mk_207_j128 h)
theorem mk_207_b2 {v1 : Int32} {v2 : Int32} {M0 M : mm_M} (h : mq_kp mw_207 M0 M) : mq_K mw_207 M0 (mf_207_b2 v1 v2 M) := by
  unfold mf_207_b2
  exact mq_K_ite (fun hc => mq_K_ite (fun hc => mq_K_B (mq_K_call mk_202 h rfl) (fun _ M2 hM2 => mq_K_ite (fun hc => mq_K_ite (fun hc => mq_K_ite (fun hc => mq_K_B (mq_K_call mk_190 hM2 rfl) (fun _ M3 hM3 => mk_207_j49 hM3)) (fun _ => mk_207_j49 hM2)) (fun _ => mk_207_j49 hM2)) (fun _ => mk_207_j49 hM2))) (fun _ => mq_K_ret h)) (fun _ => mq_K_ret h)
theorem mk_207_L2 {v1 : Int32} {s : Int32} {M0 M : mm_M} (h : mq_kp mw_207 M0 M) : mq_K mw_207 M0 (mf_207_L2 v1 s M) := by
  unfold mf_207_L2
  exact mq_K_L (fun s M h => mk_207_b2 h) h
theorem mk_207 {v1 : Int32} {M : mm_M} : mq_K mw_207 M (mf_207 v1 M) := by
  unfold mf_207
  exact mq_K_B (mk_207_L2 mq_kp_refl) (fun _ M1 hM1 => mq_K_ret hM1)
-- 206: PlainPacksModel.dynamic
def mw_206 : List (Nat × Option Nat) := [(84, some 5), (84, some 7), (84, some 14), (84, some 15), (84, some 20), (84, some 21), (87, none), (88, none), (90, none)]
theorem mk_206_j113 {v1 : Int32} {v2 : Int32} {s1 : Int32} {s2 : Int32} {M0 M : mm_M} (h : mq_kp mw_206 M0 M) : mq_K mw_206 M0 (mf_206_j113 v1 v2 s1 s2 M) := by
  unfold mf_206_j113
  exact mq_K_ite (fun hc => mq_K_ret (mq_kp_pi h rfl)) (fun _ => mq_K_none)
theorem mk_206_b78 {v1 : Int32} {v2 : Int32} {M0 M : mm_M} (h : mq_kp mw_206 M0 M) : mq_K mw_206 M0 (mf_206_b78 v1 v2 M) := by
  unfold mf_206_b78
  exact mq_K_ite (fun hc => mq_K_ite (fun hc => mq_K_ite (fun hc => mq_K_B (mq_K_call mk_198 h rfl) (fun _ M2 hM2 => mk_206_j113 hM2)) (fun _ => mk_206_j113 h)) (fun _ => mq_K_none)) (fun _ => mq_K_ret h)
theorem mk_206_L78 {v1 : Int32} {s : Int32} {M0 M : mm_M} (h : mq_kp mw_206 M0 M) : mq_K mw_206 M0 (mf_206_L78 v1 s M) := by
  unfold mf_206_L78
  exact mq_K_L (fun s M h => mk_206_b78 h) h
theorem mk_206_b172 {v2 : Int32} {M0 M : mm_M} (h : mq_kp mw_206 M0 M) : mq_K mw_206 M0 (mf_206_b172 v2 M) := by
  unfold mf_206_b172
  exact mq_K_ite (fun hc => mq_K_ite (fun hc => mq_K_ite (fun hc => mq_K_ret (mq_kp_pi h rfl)) (fun _ => mq_K_none)) (fun _ => mq_K_none)) (fun _ => mq_K_ret h)
theorem mk_206_L172 {s : Int32} {M0 M : mm_M} (h : mq_kp mw_206 M0 M) : mq_K mw_206 M0 (mf_206_L172 s M) := by
  unfold mf_206_L172
  exact mq_K_L (fun s M h => mk_206_b172 h) h
theorem mk_206_b200 {v2 : Int32} {M0 M : mm_M} (h : mq_kp mw_206 M0 M) : mq_K mw_206 M0 (mf_206_b200 v2 M) := by
  unfold mf_206_b200
  exact mq_K_ite (fun hc => mq_K_ite (fun hc => mq_K_ite (fun hc => mq_K_ret (mq_kp_pi h rfl)) (fun _ => mq_K_none)) (fun _ => mq_K_none)) (fun _ => mq_K_ret h)
theorem mk_206_L200 {s : Int32} {M0 M : mm_M} (h : mq_kp mw_206 M0 M) : mq_K mw_206 M0 (mf_206_L200 s M) := by
  unfold mf_206_L200
  exact mq_K_L (fun s M h => mk_206_b200 h) h
theorem mk_206_j276 {M0 M : mm_M} (h : mq_kp mw_206 M0 M) : mq_K mw_206 M0 (mf_206_j276 M) := by
  unfold mf_206_j276
  exact mq_K_B (mq_K_call mk_199 h rfl) (fun _ M1 hM1 => mq_K_B (mq_K_call mk_199 hM1 rfl) (fun _ M2 hM2 => mq_K_ret hM2))
theorem mk_206_j272 {M0 M : mm_M} (h : mq_kp mw_206 M0 M) : mq_K mw_206 M0 (mf_206_j272 M) := by
  unfold mf_206_j272
  exact mq_K_B (mq_K_call mk_190 h rfl) (fun _ M1 hM1 => mk_206_j276 hM1)
theorem mk_206_j235 {M0 M : mm_M} (h : mq_kp mw_206 M0 M) : mq_K mw_206 M0 (mf_206_j235 M) := by
  unfold mf_206_j235
  exact mq_K_ite (fun hc => mq_K_ite (fun hc => mk_206_j272 h) (fun _ => mq_K_B (mq_K_call mk_201 h rfl) (fun _ M2 hM2 => mq_K_ite (fun hc => mk_206_j272 hM2) (fun _ => mq_K_B (mq_K_call mk_201 hM2 rfl) (fun _ M4 hM4 => mq_K_ite (fun hc => mk_206_j272 hM4) (fun _ => mk_206_j276 hM4)))))) (fun _ => mq_K_none)
theorem mk_206_j142 {M0 M : mm_M} (h : mq_kp mw_206 M0 M) : mq_K mw_206 M0 (mf_206_j142 M) := by
  unfold mf_206_j142
  exact mq_K_B (mq_K_call mk_199 h rfl) (fun _ M1 hM1 => mq_K_B (mq_K_call mk_207 hM1 rfl) (fun _ M2 hM2 => mq_K_ite (fun hc => mq_K_B (mk_206_L172 hM2) (fun _ M3 hM3 => mq_K_B (mk_206_L200 hM3) (fun _ M7 hM7 => mk_206_j235 hM7))) (fun _ => mq_K_ret hM2)))
theorem mk_206_j120 {M0 M : mm_M} (h : mq_kp mw_206 M0 M) : mq_K mw_206 M0 (mf_206_j120 M) := by
  unfold mf_206_j120
  exact mq_K_ite (fun hc => mq_K_B (mq_K_call mk_201 h rfl) (fun _ M2 hM2 => mq_K_ite (fun hc => mq_K_B (mq_K_call mk_190 hM2 rfl) (fun _ M3 hM3 => mk_206_j142 hM3)) (fun _ => mk_206_j142 hM2))) (fun _ => mk_206_j142 h)
theorem mk_206_j67 {M0 M : mm_M} (h : mq_kp mw_206 M0 M) : mq_K mw_206 M0 (mf_206_j67 M) := by
  unfold mf_206_j67
  exact mq_K_B (mq_K_call mk_198 h rfl) (fun _ M2 hM2 => mq_K_B (mk_206_L78 hM2) (fun _ M3 hM3 => mk_206_j120 hM3))
theorem mk_206_j35 {M0 M : mm_M} (h : mq_kp mw_206 M0 M) : mq_K mw_206 M0 (mf_206_j35 M) := by
  unfold mf_206_j35
  exact mq_K_B (mq_K_call mk_198 h rfl) (fun _ M2 hM2 => mq_K_ite (fun hc => mq_K_ite (fun hc => mq_K_B (mq_K_call mk_190 (mq_kp_pi hM2 rfl) rfl) (fun _ M3 hM3 => mk_206_j67 hM3)) (fun _ => mk_206_j67 (mq_kp_pi hM2 rfl))) (fun _ => mk_206_j67 (mq_kp_pi hM2 rfl)))
theorem mk_206 {M : mm_M} : mq_K mw_206 M (mf_206 M) := by
  unfold mf_206
  exact mq_K_B (mq_K_call mk_198 mq_kp_refl rfl) (fun _ M2 hM2 => mq_K_ite (fun hc => mq_K_ite (fun hc => mq_K_B (mq_K_call mk_190 (mq_kp_pi hM2 rfl) rfl) (fun _ M3 hM3 => mk_206_j35 hM3)) (fun _ => mk_206_j35 (mq_kp_pi hM2 rfl))) (fun _ => mk_206_j35 (mq_kp_pi hM2 rfl)))
-- 196: PlainPacksModel.copy
def mw_196 : List (Nat × Option Nat) := [(84, some 4), (84, some 7), (84, some 9), (84, some 10), (84, some 11), (86, none)]
theorem mk_196_b97 {v1 : Int32} {v5 : Int32} {v6 : Int32} {M0 M : mm_M} (h : mq_kp mw_196 M0 M) : mq_K mw_196 M0 (mf_196_b97 v1 v5 v6 M) := by
  unfold mf_196_b97
  exact mq_K_ite (fun hc => mq_K_ite (fun hc => mq_K_ite (fun hc => mq_K_B (mq_K_call mk_194 h rfl) (fun _ M2 hM2 => mq_K_ret hM2)) (fun _ => mq_K_none)) (fun _ => mq_K_ret h)) (fun _ => mq_K_ret h)
theorem mk_196_L97 {v1 : Int32} {v5 : Int32} {s : Int32} {M0 M : mm_M} (h : mq_kp mw_196 M0 M) : mq_K mw_196 M0 (mf_196_L97 v1 v5 s M) := by
  unfold mf_196_L97
  exact mq_K_L (fun s M h => mk_196_b97 h) h
theorem mk_196_j69 {v1 : Int32} {v5 : Int32} {s1 : Int32} {M0 M : mm_M} (h : mq_kp mw_196 M0 M) : mq_K mw_196 M0 (mf_196_j69 v1 v5 s1 M) := by
  unfold mf_196_j69
  exact mq_K_ite (fun hc => mq_K_B (mk_196_L97 (mq_kp_pi (mq_kp_pi h rfl) rfl)) (fun _ M1 hM1 => mq_K_ret hM1)) (fun _ => mq_K_B (mk_196_L97 (mq_kp_pi (mq_kp_pi h rfl) rfl)) (fun _ M10 hM10 => mq_K_ret hM10))
theorem mk_196_j30 {v1 : Int32} {v2 : Int64} {M0 M : mm_M} (h : mq_kp mw_196 M0 M) : mq_K mw_196 M0 (mf_196_j30 v1 v2 M) := by
  unfold mf_196_j30
  exact mq_K_ite (fun hc => mq_K_ite (fun hc => mk_196_j69 (mq_kp_pi h rfl)) (fun _ => mk_196_j69 (mq_kp_pi h rfl))) (fun _ => mq_K_ret h)
theorem mk_196_j26 {v1 : Int32} {v2 : Int64} {M0 M : mm_M} (h : mq_kp mw_196 M0 M) : mq_K mw_196 M0 (mf_196_j26 v1 v2 M) := by
  unfold mf_196_j26
  exact mq_K_B (mq_K_call mk_190 h rfl) (fun _ M1 hM1 => mk_196_j30 hM1)
theorem mk_196 {v1 : Int32} {v2 : Int64} {v4 : Int32} {M : mm_M} : mq_K mw_196 M (mf_196 v1 v2 v4 M) := by
  unfold mf_196
  exact mq_K_ite (fun hc => mq_K_ite (fun hc => mk_196_j26 mq_kp_refl) (fun _ => mq_K_ite (fun hc => mk_196_j26 mq_kp_refl) (fun _ => mk_196_j30 mq_kp_refl))) (fun _ => mk_196_j30 mq_kp_refl)
-- 209: PlainPacksModel.distanceTo
def mw_209 : List (Nat × Option Nat) := [(84, some 4), (84, some 5), (84, some 7), (84, some 9), (84, some 10), (84, some 11), (84, some 14), (84, some 15), (86, none)]
theorem mk_209_j103 {v1 : Int32} {v5 : Int32} {M0 M : mm_M} (h : mq_kp mw_209 M0 M) : mq_K mw_209 M0 (mf_209_j103 v1 v5 M) := by
  unfold mf_209_j103
  exact mq_K_B (mq_K_call mk_196 h rfl) (fun _ M1 hM1 => mq_K_ret hM1)
theorem mk_209_j72 {v1 : Int32} {v2 : Int32} {v4 : Int32} {s0 : Int32} {M0 M : mm_M} (h : mq_kp mw_209 M0 M) : mq_K mw_209 M0 (mf_209_j72 v1 v2 v4 s0 M) := by
  unfold mf_209_j72
  exact mq_K_B (mq_K_call mk_198 h rfl) (fun _ M2 hM2 => mq_K_ite (fun hc => mq_K_ite (fun hc => mq_K_B (mq_K_call mk_190 hM2 rfl) (fun _ M3 hM3 => mk_209_j103 hM3)) (fun _ => mk_209_j103 hM2)) (fun _ => mk_209_j103 hM2))
theorem mk_209_j49 {v1 : Int32} {v2 : Int32} {v3 : Int32} {s0 : Int32} {M0 M : mm_M} (h : mq_kp mw_209 M0 M) : mq_K mw_209 M0 (mf_209_j49 v1 v2 v3 s0 M) := by
  unfold mf_209_j49
  exact mq_K_ite (fun hc => mk_209_j72 h) (fun _ => mk_209_j72 h)
theorem mk_209_j27 {v1 : Int32} {v2 : Int32} {v3 : Int32} {M0 M : mm_M} (h : mq_kp mw_209 M0 M) : mq_K mw_209 M0 (mf_209_j27 v1 v2 v3 M) := by
  unfold mf_209_j27
  exact mq_K_ite (fun hc => mq_K_ite (fun hc => mk_209_j49 h) (fun _ => mk_209_j49 h)) (fun _ => mq_K_ret h)
theorem mk_209 {v1 : Int32} {v2 : Int32} {M : mm_M} : mq_K mw_209 M (mf_209 v1 v2 M) := by
  unfold mf_209
  exact mq_K_B (mq_K_call mk_202 mq_kp_refl rfl) (fun _ M2 hM2 => mq_K_ite (fun hc => mq_K_ite (fun hc => mq_K_B (mq_K_call mk_190 hM2 rfl) (fun _ M3 hM3 => mk_209_j27 hM3)) (fun _ => mk_209_j27 hM2)) (fun _ => mk_209_j27 hM2))
