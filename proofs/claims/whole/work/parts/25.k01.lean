/-! WHAT IS KEPT 1 -/
-- 39: PlainPacks$Source.add
def mw_39_b3 : List (Nat × Option Nat) := [(1, some 1), (2, none)]
theorem mk_39_b3 {v1 : Int32} {v2 : Int32} {M : mm_M} : mq_K mw_39_b3 M (mf_39_b3 v1 v2 M) := by
  unfold mf_39_b3
  exact mq_K_ite (fun hc => mq_K_ret mq_kp_refl) (fun _ => mq_K_ite (fun hc => mq_K_ite (fun hc => mq_K_ret (mq_kp_pi (mq_kp_pi mq_kp_refl rfl) rfl)) (fun _ => mq_K_none)) (fun _ => mq_K_ret mq_kp_refl))
def mw_39_L3 : List (Nat × Option Nat) := [(1, some 1), (2, none)]
theorem mk_39_L3 {v1 : Int32} {s : Int32} {M : mm_M} : mq_K mw_39_L3 M (mf_39_L3 v1 s M) := by
  unfold mf_39_L3
  exact mq_K_L (fun s M h => mq_K_call mk_39_b3 h rfl) mq_kp_refl
def mw_39 : List (Nat × Option Nat) := [(1, some 1), (2, none)]
theorem mk_39 {v1 : Int32} {M : mm_M} : mq_K mw_39 M (mf_39 v1 M) := by
  unfold mf_39
  exact mq_K_B (mq_K_call mk_39_L3 mq_kp_refl rfl) (fun _ M1 hM1 => mq_K_ret hM1)
-- 13: PlainPacks.feed
def mw_13 : List (Nat × Option Nat) := [(1, some 1), (2, none)]
theorem mk_13 {v1 : Int32} {v2 : Int32} {v3 : Int32} {v4 : Int32} {v5 : Int32} {M : mm_M} : mq_K mw_13 M (mf_13 v1 v2 v3 v4 v5 M) := by
  unfold mf_13
  exact mq_K_ite (fun hc => mq_K_ret (mq_kp_th mq_kp_refl)) (fun _ => mq_K_B (mq_K_call mk_39 mq_kp_refl rfl) (fun _ M1 hM1 => mq_K_B (mq_K_call mk_39 hM1 rfl) (fun _ M2 hM2 => mq_K_B (mq_K_call mk_39 hM2 rfl) (fun _ M3 hM3 => mq_K_B (mq_K_call mk_39 hM3 rfl) (fun _ M4 hM4 => mq_K_B (mq_K_call mk_39 hM4 rfl) (fun _ M5 hM5 => mq_K_ret hM5))))))
-- 174: PlainPacksModel.good
def mw_174 : List (Nat × Option Nat) := [(84, some 0)]
theorem mk_174 {v1 : Int32} {M : mm_M} : mq_K mw_174 M (mf_174 v1 M) := by
  unfold mf_174
  exact mq_K_ite (fun hc => mq_K_ite (fun hc => mq_K_ret (mq_kp_pi mq_kp_refl rfl)) (fun _ => mq_K_none)) (fun _ => mq_K_ite (fun hc => mq_K_ret (mq_kp_pi mq_kp_refl rfl)) (fun _ => mq_K_none))
-- 175: PlainPacksModel.feed
def mw_175_j83 : List (Nat × Option Nat) := [(84, some 2), (85, none)]
theorem mk_175_j83 {v1 : Int32} {v2 : Int32} {v3 : Int32} {v4 : Int32} {v5 : Int32} {v6 : Int32} {s0 : Int32} {M : mm_M} : mq_K mw_175_j83 M (mf_175_j83 v1 v2 v3 v4 v5 v6 s0 M) := by
  unfold mf_175_j83
  exact mq_K_ite (fun hc => mq_K_ret (mq_kp_pi (mq_kp_pi mq_kp_refl rfl) rfl)) (fun _ => mq_K_none)
def mw_175_b30 : List (Nat × Option Nat) := [(84, some 2), (85, none)]
theorem mk_175_b30 {v1 : Int32} {v2 : Int32} {v3 : Int32} {v4 : Int32} {v5 : Int32} {v6 : Int32} {M : mm_M} : mq_K mw_175_b30 M (mf_175_b30 v1 v2 v3 v4 v5 v6 M) := by
  unfold mf_175_b30
  exact mq_K_ite (fun hc => mq_K_ite (fun hc => mq_K_call mk_175_j83 mq_kp_refl rfl) (fun _ => mq_K_ite (fun hc => mq_K_call mk_175_j83 mq_kp_refl rfl) (fun _ => mq_K_ite (fun hc => mq_K_call mk_175_j83 mq_kp_refl rfl) (fun _ => mq_K_ite (fun hc => mq_K_call mk_175_j83 mq_kp_refl rfl) (fun _ => mq_K_call mk_175_j83 mq_kp_refl rfl))))) (fun _ => mq_K_ret mq_kp_refl)
def mw_175_L30 : List (Nat × Option Nat) := [(84, some 2), (85, none)]
theorem mk_175_L30 {v1 : Int32} {v2 : Int32} {v3 : Int32} {v4 : Int32} {v5 : Int32} {s : Int32} {M : mm_M} : mq_K mw_175_L30 M (mf_175_L30 v1 v2 v3 v4 v5 s M) := by
  unfold mf_175_L30
  exact mq_K_L (fun s M h => mq_K_call mk_175_b30 h rfl) mq_kp_refl
def mw_175_j19 : List (Nat × Option Nat) := [(84, some 0), (84, some 2), (85, none)]
theorem mk_175_j19 {v1 : Int32} {v2 : Int32} {v3 : Int32} {v4 : Int32} {v5 : Int32} {s1 : Int32} {M : mm_M} : mq_K mw_175_j19 M (mf_175_j19 v1 v2 v3 v4 v5 s1 M) := by
  unfold mf_175_j19
  exact mq_K_B (mq_K_call mk_174 mq_kp_refl rfl) (fun _ M2 hM2 => mq_K_ite (fun hc => mq_K_ret hM2) (fun _ => mq_K_B (mq_K_call mk_175_L30 hM2 rfl) (fun _ M3 hM3 => mq_K_ret hM3)))
def mw_175 : List (Nat × Option Nat) := [(84, some 0), (84, some 2), (85, none)]
theorem mk_175 {v1 : Int32} {v2 : Int32} {v3 : Int32} {v4 : Int32} {v5 : Int32} {M : mm_M} : mq_K mw_175 M (mf_175 v1 v2 v3 v4 v5 M) := by
  unfold mf_175
  exact mq_K_ite (fun hc => mq_K_call mk_175_j19 mq_kp_refl rfl) (fun _ => mq_K_call mk_175_j19 mq_kp_refl rfl)
-- 173: PlainPacksModel.thrown
def mw_173 : List (Nat × Option Nat) := []
theorem mk_173 {M : mm_M} : mq_K mw_173 M (mf_173 M) := by
  unfold mf_173
  exact mq_K_ret mq_kp_refl
-- 14: PlainPacks.end
def mw_14 : List (Nat × Option Nat) := [(1, some 1)]
theorem mk_14 {v1 : Int32} {M : mm_M} : mq_K mw_14 M (mf_14 v1 M) := by
  unfold mf_14
  exact mq_K_ite (fun hc => mq_K_ret (mq_kp_th mq_kp_refl)) (fun _ => mq_K_ite (fun hc => mq_K_ret (mq_kp_th mq_kp_refl)) (fun _ => mq_K_ret (mq_kp_pi mq_kp_refl rfl)))
-- 176: PlainPacksModel.end
def mw_176_j18 : List (Nat × Option Nat) := [(84, some 0), (84, some 2)]
theorem mk_176_j18 {v1 : Int32} {s1 : Int32} {M : mm_M} : mq_K mw_176_j18 M (mf_176_j18 v1 s1 M) := by
  unfold mf_176_j18
  exact mq_K_B (mq_K_call mk_174 mq_kp_refl rfl) (fun _ M2 hM2 => mq_K_ite (fun hc => mq_K_ret hM2) (fun _ => mq_K_ret (mq_kp_pi hM2 rfl)))
def mw_176_j17 : List (Nat × Option Nat) := [(84, some 0), (84, some 2)]
theorem mk_176_j17 {v1 : Int32} {M : mm_M} : mq_K mw_176_j17 M (mf_176_j17 v1 M) := by
  unfold mf_176_j17
  exact mq_K_call mk_176_j18 mq_kp_refl rfl
def mw_176 : List (Nat × Option Nat) := [(84, some 0), (84, some 2)]
theorem mk_176 {v1 : Int32} {M : mm_M} : mq_K mw_176 M (mf_176 v1 M) := by
  unfold mf_176
  exact mq_K_ite (fun hc => mq_K_call mk_176_j17 mq_kp_refl rfl) (fun _ => mq_K_ite (fun hc => mq_K_call mk_176_j17 mq_kp_refl rfl) (fun _ => mq_K_call mk_176_j18 mq_kp_refl rfl))
-- 15: PlainPacks.alter
def mw_15 : List (Nat × Option Nat) := [(2, none)]
theorem mk_15 {v1 : Int32} {v2 : Int32} {M : mm_M} : mq_K mw_15 M (mf_15 v1 v2 M) := by
  unfold mf_15
  exact mq_K_ite (fun hc => mq_K_ret (mq_kp_th mq_kp_refl)) (fun _ => mq_K_ite (fun hc => mq_K_ite (fun hc => mq_K_ite (fun hc => mq_K_ret (mq_kp_pi mq_kp_refl rfl)) (fun _ => mq_K_none)) (fun _ => mq_K_none)) (fun _ => mq_K_ret (mq_kp_th mq_kp_refl)))
-- 177: PlainPacksModel.alter
def mw_177_j18 : List (Nat × Option Nat) := [(84, some 0), (85, none)]
theorem mk_177_j18 {v1 : Int32} {v2 : Int32} {s1 : Int32} {M : mm_M} : mq_K mw_177_j18 M (mf_177_j18 v1 v2 s1 M) := by
  unfold mf_177_j18
  exact mq_K_B (mq_K_call mk_174 mq_kp_refl rfl) (fun _ M2 hM2 => mq_K_ite (fun hc => mq_K_ret hM2) (fun _ => mq_K_ite (fun hc => mq_K_ite (fun hc => mq_K_ret (mq_kp_pi hM2 rfl)) (fun _ => mq_K_none)) (fun _ => mq_K_none)))
def mw_177_j17 : List (Nat × Option Nat) := [(84, some 0), (85, none)]
theorem mk_177_j17 {v1 : Int32} {v2 : Int32} {M : mm_M} : mq_K mw_177_j17 M (mf_177_j17 v1 v2 M) := by
  unfold mf_177_j17
  exact mq_K_call mk_177_j18 mq_kp_refl rfl
def mw_177 : List (Nat × Option Nat) := [(84, some 0), (85, none)]
theorem mk_177 {v1 : Int32} {v2 : Int32} {M : mm_M} : mq_K mw_177 M (mf_177 v1 v2 M) := by
  unfold mf_177
  exact mq_K_ite (fun hc => mq_K_call mk_177_j17 mq_kp_refl rfl) (fun _ => mq_K_ite (fun hc => mq_K_call mk_177_j18 mq_kp_refl rfl) (fun _ => mq_K_call mk_177_j17 mq_kp_refl rfl))
-- 16: PlainPacks.turn
def mw_16 : List (Nat × Option Nat) := [(1, some 1), (2, none)]
theorem mk_16 {M : mm_M} : mq_K mw_16 M (mf_16 M) := by
  unfold mf_16
  exact mq_K_ite (fun hc => mq_K_ret (mq_kp_th mq_kp_refl)) (fun _ => mq_K_ite (fun hc => mq_K_ret (mq_kp_pi (mq_kp_cp mq_kp_refl rfl) rfl)) (fun _ => mq_K_none))
-- 178: PlainPacksModel.turn
def mw_178_b26 : List (Nat × Option Nat) := [(85, none)]
theorem mk_178_b26 {v1 : Int32} {M : mm_M} : mq_K mw_178_b26 M (mf_178_b26 v1 M) := by
  unfold mf_178_b26
  exact mq_K_ite (fun hc => mq_K_ite (fun hc => mq_K_ite (fun hc => mq_K_ret (mq_kp_pi mq_kp_refl rfl)) (fun _ => mq_K_none)) (fun _ => mq_K_none)) (fun _ => mq_K_ret mq_kp_refl)
def mw_178_L26 : List (Nat × Option Nat) := [(85, none)]
theorem mk_178_L26 {s : Int32} {M : mm_M} : mq_K mw_178_L26 M (mf_178_L26 s M) := by
  unfold mf_178_L26
  exact mq_K_L (fun s M h => mq_K_call mk_178_b26 h rfl) mq_kp_refl
def mw_178_j16 : List (Nat × Option Nat) := [(84, some 0), (84, some 2), (85, none)]
theorem mk_178_j16 {s1 : Int32} {M : mm_M} : mq_K mw_178_j16 M (mf_178_j16 s1 M) := by
  unfold mf_178_j16
  exact mq_K_B (mq_K_call mk_174 mq_kp_refl rfl) (fun _ M2 hM2 => mq_K_ite (fun hc => mq_K_ret hM2) (fun _ => mq_K_B (mq_K_call mk_178_L26 hM2 rfl) (fun _ M3 hM3 => mq_K_ret (mq_kp_pi hM3 rfl))))
def mw_178 : List (Nat × Option Nat) := [(84, some 0), (84, some 2), (85, none)]
theorem mk_178 {M : mm_M} : mq_K mw_178 M (mf_178 M) := by
  unfold mf_178
  exact mq_K_ite (fun hc => mq_K_call mk_178_j16 mq_kp_refl rfl) (fun _ => mq_K_call mk_178_j16 mq_kp_refl rfl)
-- 26: PlainPacks.needForm
def mw_26 : List (Nat × Option Nat) := []
theorem mk_26 {v0 : Int32} {M : mm_M} : mq_K mw_26 M (mf_26 v0 M) := by
  unfold mf_26
  exact mq_K_ite (fun hc => mq_K_ret (mq_kp_th mq_kp_refl)) (fun _ => mq_K_ite (fun hc => mq_K_ret (mq_kp_th mq_kp_refl)) (fun _ => mq_K_ret mq_kp_refl))
-- 40: PlainPacks$Source.start
def mw_40 : List (Nat × Option Nat) := [(1, some 2), (1, some 3), (1, some 4), (1, some 5), (1, some 6)]
theorem mk_40 {M : mm_M} : mq_K mw_40 M (mf_40 M) := by
  unfold mf_40
  exact mq_K_ret (mq_kp_pi (mq_kp_pi (mq_kp_pi (mq_kp_pi (mq_kp_pi mq_kp_refl rfl) rfl) rfl) rfl) rfl)
-- 49: PlainPacks$Sink.start
def mw_49 : List (Nat × Option Nat) := [(3, some 1), (3, some 2), (3, some 3), (3, some 4), (3, some 5), (3, some 6)]
theorem mk_49 {M : mm_M} : mq_K mw_49 M (mf_49 M) := by
  unfold mf_49
  exact mq_K_ret (mq_kp_pi (mq_kp_pi (mq_kp_pi (mq_kp_pi (mq_kp_pi (mq_kp_pi mq_kp_refl rfl) rfl) rfl) rfl) rfl) rfl)
-- 43: PlainPacks$Source.atEdge
def mw_43 : List (Nat × Option Nat) := []
theorem mk_43 {M : mm_M} : mq_K mw_43 M (mf_43 M) := by
  unfold mf_43
  exact mq_K_ite (fun hc => mq_K_ret mq_kp_refl) (fun _ => mq_K_ret mq_kp_refl)
-- 44: PlainPacks$Source.next
def mw_44 : List (Nat × Option Nat) := [(1, some 2), (1, some 6)]
theorem mk_44 {M : mm_M} : mq_K mw_44 M (mf_44 M) := by
  unfold mf_44
  exact mq_K_ite (fun hc => mq_K_ite (fun hc => mq_K_ret (mq_kp_pi (mq_kp_pi mq_kp_refl rfl) rfl)) (fun _ => mq_K_none)) (fun _ => mq_K_ret (mq_kp_th mq_kp_refl))
-- 51: PlainPacks$Sink.put
def mw_51 : List (Nat × Option Nat) := [(3, some 1), (4, none)]
theorem mk_51 {v1 : Int32} {M : mm_M} : mq_K mw_51 M (mf_51 v1 M) := by
  unfold mf_51
  exact mq_K_ite (fun hc => mq_K_ite (fun hc => mq_K_ret (mq_kp_pi (mq_kp_pi mq_kp_refl rfl) rfl)) (fun _ => mq_K_none)) (fun _ => mq_K_ret (mq_kp_th mq_kp_refl))
-- 117: PlainPacks$Pieces.readRuns
def mw_117_b35 : List (Nat × Option Nat) := [(1, some 2), (1, some 6), (3, some 1), (4, none)]
theorem mk_117_b35 {v1 : Int32} {v2 : Int32} {v3 : Int32} {M : mm_M} : mq_K mw_117_b35 M (mf_117_b35 v1 v2 v3 M) := by
  unfold mf_117_b35
  exact mq_K_ite (fun hc => mq_K_ret mq_kp_refl) (fun _ => mq_K_B (mq_K_call mk_44 mq_kp_refl rfl) (fun _ M2 hM2 => mq_K_B (mq_K_call mk_51 hM2 rfl) (fun _ M3 hM3 => mq_K_ret hM3)))
def mw_117_L35 : List (Nat × Option Nat) := [(1, some 2), (1, some 6), (3, some 1), (4, none)]
theorem mk_117_L35 {v1 : Int32} {v2 : Int32} {s : Int32} {M : mm_M} : mq_K mw_117_L35 M (mf_117_L35 v1 v2 s M) := by
  unfold mf_117_L35
  exact mq_K_L (fun s M h => mq_K_call mk_117_b35 h rfl) mq_kp_refl
def mw_117_b81 : List (Nat × Option Nat) := [(3, some 1), (4, none)]
theorem mk_117_b81 {v1 : Int32} {v2 : Int32} {v3 : Int32} {v4 : Int32} {M : mm_M} : mq_K mw_117_b81 M (mf_117_b81 v1 v2 v3 v4 M) := by
  unfold mf_117_b81
  exact mq_K_ite (fun hc => mq_K_B (mq_K_call mk_51 mq_kp_refl rfl) (fun _ M1 hM1 => mq_K_ret hM1)) (fun _ => mq_K_ret mq_kp_refl)
def mw_117_L81 : List (Nat × Option Nat) := [(3, some 1), (4, none)]
theorem mk_117_L81 {v1 : Int32} {v2 : Int32} {v3 : Int32} {s : Int32} {M : mm_M} : mq_K mw_117_L81 M (mf_117_L81 v1 v2 v3 s M) := by
  unfold mf_117_L81
  exact mq_K_L (fun s M h => mq_K_call mk_117_b81 h rfl) mq_kp_refl
def mw_117_b2 : List (Nat × Option Nat) := [(1, some 2), (1, some 6), (3, some 1), (4, none)]
theorem mk_117_b2 {v1 : Int32} {M : mm_M} : mq_K mw_117_b2 M (mf_117_b2 v1 M) := by
  unfold mf_117_b2
  exact mq_K_ite (fun hc => mq_K_B (mq_K_call mk_43 mq_kp_refl rfl) (fun _ M2 hM2 => mq_K_ite (fun hc => mq_K_B (mq_K_call mk_44 hM2 rfl) (fun _ M4 hM4 => mq_K_ite (fun hc => mq_K_B (mq_K_call mk_117_L35 hM4 rfl) (fun _ M5 hM5 => mq_K_ret hM5)) (fun _ => mq_K_ite (fun hc => mq_K_B (mq_K_call mk_44 hM4 rfl) (fun _ M11 hM11 => mq_K_B (mq_K_call mk_117_L81 hM11 rfl) (fun _ M12 hM12 => mq_K_ret hM12))) (fun _ => mq_K_ret hM4)))) (fun _ => mq_K_ret hM2))) (fun _ => mq_K_ret mq_kp_refl)
def mw_117_L2 : List (Nat × Option Nat) := [(1, some 2), (1, some 6), (3, some 1), (4, none)]
theorem mk_117_L2 {s : Int32} {M : mm_M} : mq_K mw_117_L2 M (mf_117_L2 s M) := by
  unfold mf_117_L2
  exact mq_K_L (fun s M h => mq_K_call mk_117_b2 h rfl) mq_kp_refl
def mw_117 : List (Nat × Option Nat) := [(1, some 2), (1, some 6), (3, some 1), (4, none)]
theorem mk_117 {M : mm_M} : mq_K mw_117 M (mf_117 M) := by
  unfold mf_117
  exact mq_K_B (mq_K_call mk_117_L2 mq_kp_refl rfl) (fun _ M1 hM1 => mq_K_ret hM1)
-- 45: PlainPacks$Source.bit
def mw_45_j57 : List (Nat × Option Nat) := [(1, some 6)]
theorem mk_45_j57 {M : mm_M} : mq_K mw_45_j57 M (mf_45_j57 M) := by
  unfold mf_45_j57
  exact mq_K_ite (fun hc => mq_K_ret (mq_kp_pi mq_kp_refl rfl)) (fun _ => mq_K_ret (mq_kp_pi mq_kp_refl rfl))
def mw_45 : List (Nat × Option Nat) := [(1, some 2), (1, some 5), (1, some 6)]
theorem mk_45 {M : mm_M} : mq_K mw_45 M (mf_45 M) := by
  unfold mf_45
  exact mq_K_ite (fun hc => mq_K_ite (fun hc => mq_K_ite (fun hc => mq_K_call mk_45_j57 (mq_kp_pi (mq_kp_pi (mq_kp_pi mq_kp_refl rfl) rfl) rfl) rfl) (fun _ => mq_K_none)) (fun _ => mq_K_ret (mq_kp_th mq_kp_refl))) (fun _ => mq_K_call mk_45_j57 mq_kp_refl rfl)
-- 46: PlainPacks$Source.bits
def mw_46_b5 : List (Nat × Option Nat) := [(1, some 2), (1, some 5), (1, some 6)]
theorem mk_46_b5 {v1 : Int32} {v2 : Int64} {v4 : Int32} {M : mm_M} : mq_K mw_46_b5 M (mf_46_b5 v1 v2 v4 M) := by
  unfold mf_46_b5
  exact mq_K_ite (fun hc => mq_K_B (mq_K_call mk_45 mq_kp_refl rfl) (fun _ M2 hM2 => mq_K_ite (fun hc => mq_K_ret hM2) (fun _ => mq_K_ret hM2))) (fun _ => mq_K_ret mq_kp_refl)
def mw_46_L5 : List (Nat × Option Nat) := [(1, some 2), (1, some 5), (1, some 6)]
theorem mk_46_L5 {v1 : Int32} {s : Int64 × Int32} {M : mm_M} : mq_K mw_46_L5 M (mf_46_L5 v1 s M) := by
  unfold mf_46_L5
  exact mq_K_L (fun s M h => mq_K_call mk_46_b5 h rfl) mq_kp_refl
def mw_46 : List (Nat × Option Nat) := [(1, some 2), (1, some 5), (1, some 6)]
theorem mk_46 {v1 : Int32} {M : mm_M} : mq_K mw_46 M (mf_46 v1 M) := by
  unfold mf_46
  exact mq_K_B (mq_K_call mk_46_L5 mq_kp_refl rfl) (fun _ M1 hM1 => mq_K_ret hM1)
-- 27: PlainPacks.wrongIf
def mw_27 : List (Nat × Option Nat) := []
theorem mk_27 {v0 : Int32} {M : mm_M} : mq_K mw_27 M (mf_27 v0 M) := by
  unfold mf_27
  exact mq_K_ite (fun hc => mq_K_ret mq_kp_refl) (fun _ => mq_K_ret (mq_kp_th mq_kp_refl))
-- 47: PlainPacks$Source.low
def mw_47_b5 : List (Nat × Option Nat) := [(1, some 2), (1, some 6)]
theorem mk_47_b5 {v1 : Int32} {v2 : Int64} {v4 : Int32} {M : mm_M} : mq_K mw_47_b5 M (mf_47_b5 v1 v2 v4 M) := by
  unfold mf_47_b5
  exact mq_K_ite (fun hc => mq_K_B (mq_K_call mk_44 mq_kp_refl rfl) (fun _ M2 hM2 => mq_K_ret hM2)) (fun _ => mq_K_ret mq_kp_refl)
def mw_47_L5 : List (Nat × Option Nat) := [(1, some 2), (1, some 6)]
theorem mk_47_L5 {v1 : Int32} {s : Int64 × Int32} {M : mm_M} : mq_K mw_47_L5 M (mf_47_L5 v1 s M) := by
  unfold mf_47_L5
  exact mq_K_L (fun s M h => mq_K_call mk_47_b5 h rfl) mq_kp_refl
def mw_47 : List (Nat × Option Nat) := [(1, some 2), (1, some 6)]
theorem mk_47 {v1 : Int32} {M : mm_M} : mq_K mw_47 M (mf_47 v1 M) := by
  unfold mf_47
  exact mq_K_B (mq_K_call mk_47_L5 mq_kp_refl rfl) (fun _ M1 hM1 => mq_K_ret hM1)
-- 52: PlainPacks$Sink.putPlain
def mw_52 : List (Nat × Option Nat) := [(3, some 1), (3, some 2), (4, none)]
theorem mk_52 {v1 : Int32} {M : mm_M} : mq_K mw_52 M (mf_52 v1 M) := by
  unfold mf_52
  exact mq_K_B (mq_K_call mk_51 mq_kp_refl rfl) (fun _ M1 hM1 => mq_K_ret (mq_kp_pi hM1 rfl))
-- 80: PlainPacks$Blocks.readPlain
def mw_80_b36 : List (Nat × Option Nat) := [(1, some 2), (1, some 6), (3, some 1), (3, some 2), (4, none)]
theorem mk_80_b36 {v1 : Int32} {v2 : Int32} {M : mm_M} : mq_K mw_80_b36 M (mf_80_b36 v1 v2 M) := by
  unfold mf_80_b36
  exact mq_K_ite (fun hc => mq_K_B (mq_K_call mk_44 mq_kp_refl rfl) (fun _ M2 hM2 => mq_K_B (mq_K_call mk_52 hM2 rfl) (fun _ M3 hM3 => mq_K_ret hM3))) (fun _ => mq_K_ret mq_kp_refl)
def mw_80_L36 : List (Nat × Option Nat) := [(1, some 2), (1, some 6), (3, some 1), (3, some 2), (4, none)]
theorem mk_80_L36 {v1 : Int32} {s : Int32} {M : mm_M} : mq_K mw_80_L36 M (mf_80_L36 v1 s M) := by
  unfold mf_80_L36
  exact mq_K_L (fun s M h => mq_K_call mk_80_b36 h rfl) mq_kp_refl
def mw_80_j31 : List (Nat × Option Nat) := [(1, some 2), (1, some 6), (3, some 1), (3, some 2), (4, none)]
theorem mk_80_j31 {v1 : Int32} {s0 : Int32} {M : mm_M} : mq_K mw_80_j31 M (mf_80_j31 v1 s0 M) := by
  unfold mf_80_j31
  exact mq_K_B (mq_K_call mk_27 mq_kp_refl rfl) (fun _ M1 hM1 => mq_K_B (mq_K_call mk_80_L36 hM1 rfl) (fun _ M2 hM2 => mq_K_ret hM2))
def mw_80 : List (Nat × Option Nat) := [(1, some 2), (1, some 6), (3, some 1), (3, some 2), (4, none)]
theorem mk_80 {M : mm_M} : mq_K mw_80 M (mf_80 M) := by
  unfold mf_80
  exact mq_K_B (mq_K_call mk_47 mq_kp_refl rfl) (fun _ M2 hM2 => mq_K_B (mq_K_call mk_47 hM2 rfl) (fun _ M4 hM4 => mq_K_ite (fun hc => mq_K_call mk_80_j31 hM4 rfl) (fun _ => mq_K_call mk_80_j31 hM4 rfl)))
-- 82: PlainPacks$Blocks.knownLength
def mw_82 : List (Nat × Option Nat) := []
theorem mk_82 {v0 : Int32} {M : mm_M} : mq_K mw_82 M (mf_82 v0 M) := by
  unfold mf_82
  exact mq_K_ite (fun hc => mq_K_ret mq_kp_refl) (fun _ => mq_K_ite (fun hc => mq_K_ret mq_kp_refl) (fun _ => mq_K_ite (fun hc => mq_K_ret mq_kp_refl) (fun _ => mq_K_ret mq_kp_refl)))
-- 290: java/util/Arrays.fill
def mw_290_b5 (p : Nat) : List (Nat × Option Nat) := [(p, none)]
theorem mk_290_b5 {p : Nat} {n : Nat} {v1 : Int32} {v2 : Int32} {v3 : Int32} {M : mm_M} : mq_K (mw_290_b5 p) M (mf_290_b5 p n v1 v2 v3 M) := by
  unfold mf_290_b5
  exact mq_K_ite (fun hc => mq_K_ite (fun hc => mq_K_ret (mq_kp_pi mq_kp_refl (by simp [mq_ws, mw_290_b5]))) (fun _ => mq_K_none)) (fun _ => mq_K_ret mq_kp_refl)
def mw_290_L5 (p : Nat) : List (Nat × Option Nat) := [(p, none)]
theorem mk_290_L5 {p : Nat} {n : Nat} {v1 : Int32} {v3 : Int32} {s : Int32} {M : mm_M} : mq_K (mw_290_L5 p) M (mf_290_L5 p n v1 v3 s M) := by
  unfold mf_290_L5
  exact mq_K_L (fun s M h => mq_K_call mk_290_b5 h (by simp [mq_sub, mw_290_b5, mw_290_L5])) mq_kp_refl
def mw_290 (p : Nat) : List (Nat × Option Nat) := [(p, none)]
theorem mk_290 {p : Nat} {n : Nat} {v1 : Int32} {M : mm_M} : mq_K (mw_290 p) M (mf_290 p n v1 M) := by
  unfold mf_290
  exact mq_K_B (mq_K_call mk_290_L5 mq_kp_refl (by simp [mq_sub, mw_290_L5, mw_290])) (fun _ M1 hM1 => mq_K_ret hM1)
-- 99: PlainPacks$Codes.make
def mw_99_b30 (p : Nat) : List (Nat × Option Nat) := [((p + 3), none), (p, some 4), (p, some 5)]
theorem mk_99_b30 {p : Nat} {n : Nat} {v2 : Int32} {v3 : Int32} {M : mm_M} : mq_K (mw_99_b30 p) M (mf_99_b30 p n v2 v3 M) := by
  unfold mf_99_b30
  exact mq_K_ite (fun hc => mq_K_ite (fun hc => mq_K_ite (fun hc => mq_K_ite (fun hc => mq_K_ret mq_kp_refl) (fun _ => mq_K_ite (fun hc => mq_K_ite (fun hc => mq_K_ret (mq_kp_pi (mq_kp_pi (mq_kp_pi mq_kp_refl (by simp [mq_ws, mw_99_b30])) (by simp [mq_ws, mw_99_b30])) (by simp [mq_ws, mw_99_b30]))) (fun _ => mq_K_none)) (fun _ => mq_K_none))) (fun _ => mq_K_ret mq_kp_refl)) (fun _ => mq_K_none)) (fun _ => mq_K_ret mq_kp_refl)
def mw_99_L30 (p : Nat) : List (Nat × Option Nat) := [((p + 3), none), (p, some 4), (p, some 5)]
theorem mk_99_L30 {p : Nat} {n : Nat} {v2 : Int32} {s : Int32} {M : mm_M} : mq_K (mw_99_L30 p) M (mf_99_L30 p n v2 s M) := by
  unfold mf_99_L30
  exact mq_K_L (fun s M h => mq_K_call mk_99_b30 h (by simp [mq_sub, mw_99_b30, mw_99_L30])) mq_kp_refl
def mw_99_j141 (p : Nat) : List (Nat × Option Nat) := [((p + 4), none)]
theorem mk_99_j141 {p : Nat} {n : Nat} {v2 : Int32} {v3 : Int32} {s1 : Int32} {s2 : Int32} {s3 : Int32} {M : mm_M} : mq_K (mw_99_j141 p) M (mf_99_j141 p n v2 v3 s1 s2 s3 M) := by
  unfold mf_99_j141
  exact mq_K_ite (fun hc => mq_K_ret (mq_kp_pi mq_kp_refl (by simp [mq_ws, mw_99_j141]))) (fun _ => mq_K_none)
def mw_99_b105 (p : Nat) : List (Nat × Option Nat) := [((p + 4), none)]
theorem mk_99_b105 {p : Nat} {n : Nat} {v2 : Int32} {v3 : Int32} {M : mm_M} : mq_K (mw_99_b105 p) M (mf_99_b105 p n v2 v3 M) := by
  unfold mf_99_b105
  exact mq_K_ite (fun hc => mq_K_ret mq_kp_refl) (fun _ => mq_K_ite (fun hc => mq_K_ite (fun hc => mq_K_ite (fun hc => mq_K_call mk_99_j141 mq_kp_refl (by simp [mq_sub, mw_99_j141, mw_99_b105])) (fun _ => mq_K_none)) (fun _ => mq_K_call mk_99_j141 mq_kp_refl (by simp [mq_sub, mw_99_j141, mw_99_b105]))) (fun _ => mq_K_none))
def mw_99_L105 (p : Nat) : List (Nat × Option Nat) := [((p + 4), none)]
theorem mk_99_L105 {p : Nat} {n : Nat} {v2 : Int32} {s : Int32} {M : mm_M} : mq_K (mw_99_L105 p) M (mf_99_L105 p n v2 s M) := by
  unfold mf_99_L105
  exact mq_K_L (fun s M h => mq_K_call mk_99_b105 h (by simp [mq_sub, mw_99_b105, mw_99_L105])) mq_kp_refl
def mw_99_b151 (p : Nat) : List (Nat × Option Nat) := [((p + 2), none), ((p + 4), none)]
theorem mk_99_b151 {p : Nat} {n : Nat} {v2 : Int32} {v3 : Int32} {M : mm_M} : mq_K (mw_99_b151 p) M (mf_99_b151 p n v2 v3 M) := by
  unfold mf_99_b151
  exact mq_K_ite (fun hc => mq_K_ite (fun hc => mq_K_ite (fun hc => mq_K_ite (fun hc => mq_K_ret mq_kp_refl) (fun _ => mq_K_ite (fun hc => mq_K_ite (fun hc => mq_K_ite (fun hc => mq_K_ite (fun hc => mq_K_ret (mq_kp_pi (mq_kp_pi mq_kp_refl (by simp [mq_ws, mw_99_b151])) (by simp [mq_ws, mw_99_b151]))) (fun _ => mq_K_none)) (fun _ => mq_K_none)) (fun _ => mq_K_none)) (fun _ => mq_K_none))) (fun _ => mq_K_ret mq_kp_refl)) (fun _ => mq_K_none)) (fun _ => mq_K_ret mq_kp_refl)
def mw_99_L151 (p : Nat) : List (Nat × Option Nat) := [((p + 2), none), ((p + 4), none)]
theorem mk_99_L151 {p : Nat} {n : Nat} {v2 : Int32} {s : Int32} {M : mm_M} : mq_K (mw_99_L151 p) M (mf_99_L151 p n v2 s M) := by
  unfold mf_99_L151
  exact mq_K_L (fun s M h => mq_K_call mk_99_b151 h (by simp [mq_sub, mw_99_b151, mw_99_L151])) mq_kp_refl
def mw_99_j96 (p : Nat) : List (Nat × Option Nat) := [((p + 2), none), ((p + 4), none)]
theorem mk_99_j96 {p : Nat} {n : Nat} {v2 : Int32} {M : mm_M} : mq_K (mw_99_j96 p) M (mf_99_j96 p n v2 M) := by
  unfold mf_99_j96
  exact mq_K_ite (fun hc => mq_K_B (mq_K_call mk_99_L105 (mq_kp_pi mq_kp_refl (by simp [mq_ws, mw_99_j96])) (by simp [mq_sub, mw_99_L105, mw_99_j96])) (fun _ M1 hM1 => mq_K_B (mq_K_call mk_99_L151 hM1 (by simp [mq_sub, mw_99_L151, mw_99_j96])) (fun _ M6 hM6 => mq_K_ret hM6))) (fun _ => mq_K_none)
def mw_99 (p : Nat) : List (Nat × Option Nat) := [((p + 2), none), ((p + 3), none), ((p + 4), none), (p, some 4), (p, some 5)]
theorem mk_99 {p : Nat} {n : Nat} {v1 : Int32} {M : mm_M} : mq_K (mw_99 p) M (mf_99 p n v1 M) := by
  unfold mf_99
  exact mq_K_B (mq_K_call mk_290 mq_kp_refl (by simp [mq_sub, mw_290, mw_99])) (fun _ M1 hM1 => mq_K_B (mq_K_call mk_99_L30 (mq_kp_pi (mq_kp_pi hM1 (by simp [mq_ws, mw_99])) (by simp [mq_ws, mw_99])) (by simp [mq_sub, mw_99_L30, mw_99])) (fun _ M2 hM2 => mq_K_call mk_99_j96 hM2 (by simp [mq_sub, mw_99_j96, mw_99])))
-- 81: PlainPacks$Blocks.setKnownCodes
def mw_81_b2 : List (Nat × Option Nat) := [(18, none)]
theorem mk_81_b2 {v1 : Int32} {M : mm_M} : mq_K mw_81_b2 M (mf_81_b2 v1 M) := by
  unfold mf_81_b2
  exact mq_K_ite (fun hc => mq_K_B (mq_K_call mk_82 mq_kp_refl rfl) (fun _ M2 hM2 => mq_K_ite (fun hc => mq_K_ret (mq_kp_pi hM2 rfl)) (fun _ => mq_K_none))) (fun _ => mq_K_ret mq_kp_refl)
def mw_81_L2 : List (Nat × Option Nat) := [(18, none)]
theorem mk_81_L2 {s : Int32} {M : mm_M} : mq_K mw_81_L2 M (mf_81_L2 s M) := by
  unfold mf_81_L2
  exact mq_K_L (fun s M h => mq_K_call mk_81_b2 h rfl) mq_kp_refl
def mw_81_j28 : List (Nat × Option Nat) := [(17, some 4), (17, some 5), (19, none), (20, none), (21, none), (22, some 4), (22, some 5), (23, none), (24, none), (25, none), (26, none)]
theorem mk_81_j28 {M : mm_M} : mq_K mw_81_j28 M (mf_81_j28 M) := by
  unfold mf_81_j28
  exact mq_K_B (mq_K_call mk_99 mq_kp_refl rfl) (fun _ M1 hM1 => mq_K_B (mq_K_call mk_290 hM1 rfl) (fun _ M2 hM2 => mq_K_B (mq_K_call mk_99 hM2 rfl) (fun _ M3 hM3 => mq_K_ret hM3)))
def mw_81 : List (Nat × Option Nat) := [(17, some 4), (17, some 5), (18, none), (19, none), (20, none), (21, none), (22, some 4), (22, some 5), (23, none), (24, none), (25, none), (26, none)]
theorem mk_81 {M : mm_M} : mq_K mw_81 M (mf_81 M) := by
  unfold mf_81
  exact mq_K_B (mq_K_call mk_81_L2 mq_kp_refl rfl) (fun _ M1 hM1 => mq_K_call mk_81_j28 hM1 rfl)
-- 102: PlainPacks$Codes.isFullOrOne
def mw_102 (p : Nat) : List (Nat × Option Nat) := []
theorem mk_102 {p : Nat} {n : Nat} {M : mm_M} : mq_K (mw_102 p) M (mf_102 p n M) := by
  unfold mf_102
  exact mq_K_ite (fun hc => mq_K_ret mq_kp_refl) (fun _ => mq_K_ite (fun hc => mq_K_ite (fun hc => mq_K_ite (fun hc => mq_K_ret mq_kp_refl) (fun _ => mq_K_ret mq_kp_refl)) (fun _ => mq_K_none)) (fun _ => mq_K_ret mq_kp_refl))
-- 83: PlainPacks$Blocks.readRowCodes
def mw_83_b92 : List (Nat × Option Nat) := [(1, some 2), (1, some 5), (1, some 6), (28, none)]
theorem mk_83_b92 {v1 : Int32} {v2 : Int32} {M : mm_M} : mq_K mw_83_b92 M (mf_83_b92 v1 v2 M) := by
  unfold mf_83_b92
  exact mq_K_ite (fun hc => mq_K_ite (fun hc => mq_K_ite (fun hc => mq_K_B (mq_K_call mk_46 mq_kp_refl rfl) (fun _ M2 hM2 => mq_K_ite (fun hc => mq_K_ret (mq_kp_pi hM2 rfl)) (fun _ => mq_K_none))) (fun _ => mq_K_none)) (fun _ => mq_K_ret mq_kp_refl)) (fun _ => mq_K_ret mq_kp_refl)
def mw_83_L92 : List (Nat × Option Nat) := [(1, some 2), (1, some 5), (1, some 6), (28, none)]
theorem mk_83_L92 {v1 : Int32} {s : Int32} {M : mm_M} : mq_K mw_83_L92 M (mf_83_L92 v1 s M) := by
  unfold mf_83_L92
  exact mq_K_L (fun s M h => mq_K_call mk_83_b92 h rfl) mq_kp_refl
def mw_83_j159 : List (Nat × Option Nat) := []
theorem mk_83_j159 {s0 : Int32} {M : mm_M} : mq_K mw_83_j159 M (mf_83_j159 s0 M) := by
  unfold mf_83_j159
  exact mq_K_B (mq_K_call mk_27 mq_kp_refl rfl) (fun _ M1 hM1 => mq_K_ret hM1)
def mw_83_j133 : List (Nat × Option Nat) := [(27, some 4), (27, some 5), (29, none), (30, none), (31, none)]
theorem mk_83_j133 {M : mm_M} : mq_K mw_83_j133 M (mf_83_j133 M) := by
  unfold mf_83_j133
  exact mq_K_B (mq_K_call mk_99 mq_kp_refl rfl) (fun _ M1 hM1 => mq_K_B (mq_K_call mk_102 hM1 rfl) (fun _ M3 hM3 => mq_K_ite (fun hc => mq_K_call mk_83_j159 hM3 rfl) (fun _ => mq_K_call mk_83_j159 hM3 rfl)))
def mw_83_j64 : List (Nat × Option Nat) := [(1, some 2), (1, some 5), (1, some 6), (27, some 4), (27, some 5), (28, none), (29, none), (30, none), (31, none)]
theorem mk_83_j64 {s0 : Int32} {M : mm_M} : mq_K mw_83_j64 M (mf_83_j64 s0 M) := by
  unfold mf_83_j64
  exact mq_K_B (mq_K_call mk_27 mq_kp_refl rfl) (fun _ M1 hM1 => mq_K_B (mq_K_call mk_46 hM1 rfl) (fun _ M3 hM3 => mq_K_B (mq_K_call mk_290 hM3 rfl) (fun _ M4 hM4 => mq_K_B (mq_K_call mk_83_L92 hM4 rfl) (fun _ M5 hM5 => mq_K_call mk_83_j133 hM5 rfl))))
def mw_83_j32 : List (Nat × Option Nat) := [(1, some 2), (1, some 5), (1, some 6), (16, some 9), (27, some 4), (27, some 5), (28, none), (29, none), (30, none), (31, none)]
theorem mk_83_j32 {s0 : Int32} {M : mm_M} : mq_K mw_83_j32 M (mf_83_j32 s0 M) := by
  unfold mf_83_j32
  exact mq_K_B (mq_K_call mk_27 mq_kp_refl rfl) (fun _ M1 hM1 => mq_K_B (mq_K_call mk_46 hM1 rfl) (fun _ M3 hM3 => mq_K_ite (fun hc => mq_K_call mk_83_j64 (mq_kp_pi hM3 rfl) rfl) (fun _ => mq_K_call mk_83_j64 (mq_kp_pi hM3 rfl) rfl)))
def mw_83 : List (Nat × Option Nat) := [(1, some 2), (1, some 5), (1, some 6), (16, some 8), (16, some 9), (27, some 4), (27, some 5), (28, none), (29, none), (30, none), (31, none)]
theorem mk_83 {M : mm_M} : mq_K mw_83 M (mf_83 M) := by
  unfold mf_83
  exact mq_K_B (mq_K_call mk_46 mq_kp_refl rfl) (fun _ M2 hM2 => mq_K_ite (fun hc => mq_K_call mk_83_j32 (mq_kp_pi hM2 rfl) rfl) (fun _ => mq_K_call mk_83_j32 (mq_kp_pi hM2 rfl) rfl))
-- 103: PlainPacks$Codes.take
def mw_103_j97 (p : Nat) : List (Nat × Option Nat) := []
theorem mk_103_j97 {p : Nat} {n : Nat} {v2 : Int32} {v3 : Int32} {v4 : Int32} {v5 : Int32} {s0 : Int32} {M : mm_M} : mq_K (mw_103_j97 p) M (mf_103_j97 p n v2 v3 v4 v5 s0 M) := by
  unfold mf_103_j97
  exact mq_K_B (mq_K_call mk_27 mq_kp_refl (by simp [mq_sub, mw_27, mw_103_j97])) (fun _ M1 hM1 => mq_K_ite (fun hc => mq_K_ite (fun hc => mq_K_ret hM1) (fun _ => mq_K_none)) (fun _ => mq_K_none))
def mw_103_j78 (p : Nat) : List (Nat × Option Nat) := []
theorem mk_103_j78 {p : Nat} {n : Nat} {v2 : Int32} {v3 : Int32} {v4 : Int32} {v5 : Int32} {M : mm_M} : mq_K (mw_103_j78 p) M (mf_103_j78 p n v2 v3 v4 v5 M) := by
  unfold mf_103_j78
  exact mq_K_ite (fun hc => mq_K_call mk_103_j97 mq_kp_refl (by simp [mq_sub, mw_103_j97, mw_103_j78])) (fun _ => mq_K_call mk_103_j97 mq_kp_refl (by simp [mq_sub, mw_103_j97, mw_103_j78]))
def mw_103_b25 (p : Nat) : List (Nat × Option Nat) := [(1, some 2), (1, some 5), (1, some 6)]
theorem mk_103_b25 {p : Nat} {n : Nat} {v2 : Int32} {v3 : Int32} {v4 : Int32} {v5 : Int32} {M : mm_M} : mq_K (mw_103_b25 p) M (mf_103_b25 p n v2 v3 v4 v5 M) := by
  unfold mf_103_b25
  exact mq_K_ite (fun hc => mq_K_ret (mq_kp_th mq_kp_refl)) (fun _ => mq_K_B (mq_K_call mk_45 mq_kp_refl (by simp [mq_sub, mw_45, mw_103_b25])) (fun _ M2 hM2 => mq_K_ite (fun hc => mq_K_call mk_103_j78 hM2 (by simp [mq_sub, mw_103_j78, mw_103_b25])) (fun _ => mq_K_ite (fun hc => mq_K_ite (fun hc => mq_K_ret hM2) (fun _ => mq_K_call mk_103_j78 hM2 (by simp [mq_sub, mw_103_j78, mw_103_b25]))) (fun _ => mq_K_none))))
def mw_103_L25 (p : Nat) : List (Nat × Option Nat) := [(1, some 2), (1, some 5), (1, some 6)]
theorem mk_103_L25 {p : Nat} {n : Nat} {s : Int32 × Int32 × Int32 × Int32} {M : mm_M} : mq_K (mw_103_L25 p) M (mf_103_L25 p n s M) := by
  unfold mf_103_L25
  exact mq_K_L (fun s M h => mq_K_call mk_103_b25 h (by simp [mq_sub, mw_103_b25, mw_103_L25])) mq_kp_refl
def mw_103_j67 (p : Nat) : List (Nat × Option Nat) := []
theorem mk_103_j67 {p : Nat} {n : Nat} {v4 : Int32} {v6 : Int32} {M : mm_M} : mq_K (mw_103_j67 p) M (mf_103_j67 p n v4 v6 M) := by
  unfold mf_103_j67
  exact mq_K_ite (fun hc => mq_K_ret mq_kp_refl) (fun _ => mq_K_none)
def mw_103_j12 (p : Nat) : List (Nat × Option Nat) := [(1, some 2), (1, some 5), (1, some 6)]
theorem mk_103_j12 {p : Nat} {n : Nat} {s0 : Int32} {M : mm_M} : mq_K (mw_103_j12 p) M (mf_103_j12 p n s0 M) := by
  unfold mf_103_j12
  exact mq_K_B (mq_K_call mk_27 mq_kp_refl (by simp [mq_sub, mw_27, mw_103_j12])) (fun _ M1 hM1 => mq_K_B (mq_K_call mk_103_L25 hM1 (by simp [mq_sub, mw_103_L25, mw_103_j12])) (fun _ M2 hM2 => mq_K_call mk_103_j67 hM2 (by simp [mq_sub, mw_103_j67, mw_103_j12])))
def mw_103 (p : Nat) : List (Nat × Option Nat) := [(1, some 2), (1, some 5), (1, some 6)]
theorem mk_103 {p : Nat} {n : Nat} {M : mm_M} : mq_K (mw_103 p) M (mf_103 p n M) := by
  unfold mf_103
  exact mq_K_ite (fun hc => mq_K_call mk_103_j12 mq_kp_refl (by simp [mq_sub, mw_103_j12, mw_103])) (fun _ => mq_K_call mk_103_j12 mq_kp_refl (by simp [mq_sub, mw_103_j12, mw_103]))
-- 84: PlainPacks$Blocks.readRow
def mw_84_b151 : List (Nat × Option Nat) := [(32, none)]
theorem mk_84_b151 {v1 : Int32} {v2 : Int32} {v4 : Int32} {v5 : Int32} {v6 : Int32} {M : mm_M} : mq_K mw_84_b151 M (mf_84_b151 v1 v2 v4 v5 v6 M) := by
  unfold mf_84_b151
  exact mq_K_ite (fun hc => mq_K_ite (fun hc => mq_K_ret (mq_kp_pi mq_kp_refl rfl)) (fun _ => mq_K_none)) (fun _ => mq_K_ret mq_kp_refl)
def mw_84_L151 : List (Nat × Option Nat) := [(32, none)]
theorem mk_84_L151 {v1 : Int32} {v4 : Int32} {v5 : Int32} {s : Int32 × Int32} {M : mm_M} : mq_K mw_84_L151 M (mf_84_L151 v1 v4 v5 s M) := by
  unfold mf_84_L151
  exact mq_K_L (fun s M h => mq_K_call mk_84_b151 h rfl) mq_kp_refl
def mw_84_j145 : List (Nat × Option Nat) := [(32, none)]
theorem mk_84_j145 {v1 : Int32} {v2 : Int32} {v4 : Int32} {v5 : Int32} {s0 : Int32} {M : mm_M} : mq_K mw_84_j145 M (mf_84_j145 v1 v2 v4 v5 s0 M) := by
  unfold mf_84_j145
  exact mq_K_B (mq_K_call mk_27 mq_kp_refl rfl) (fun _ M1 hM1 => mq_K_B (mq_K_call mk_84_L151 hM1 rfl) (fun _ M2 hM2 => mq_K_ret hM2))
def mw_84_j132 : List (Nat × Option Nat) := [(32, none)]
theorem mk_84_j132 {v1 : Int32} {v2 : Int32} {v4 : Int32} {v5 : Int32} {M : mm_M} : mq_K mw_84_j132 M (mf_84_j132 v1 v2 v4 v5 M) := by
  unfold mf_84_j132
  exact mq_K_ite (fun hc => mq_K_call mk_84_j145 mq_kp_refl rfl) (fun _ => mq_K_call mk_84_j145 mq_kp_refl rfl)
def mw_84_j60 : List (Nat × Option Nat) := [(1, some 2), (1, some 5), (1, some 6), (32, none)]
theorem mk_84_j60 {v1 : Int32} {v2 : Int32} {s0 : Int32} {M : mm_M} : mq_K mw_84_j60 M (mf_84_j60 v1 v2 s0 M) := by
  unfold mf_84_j60
  exact mq_K_B (mq_K_call mk_27 mq_kp_refl rfl) (fun _ M1 hM1 => mq_K_ite (fun hc => mq_K_B (mq_K_call mk_46 hM1 rfl) (fun _ M3 hM3 => mq_K_call mk_84_j132 hM3 rfl)) (fun _ => mq_K_none))
def mw_84_j40 : List (Nat × Option Nat) := [(1, some 2), (1, some 5), (1, some 6), (32, none)]
theorem mk_84_j40 {v1 : Int32} {v2 : Int32} {v3 : Int32} {s0 : Int32} {M : mm_M} : mq_K mw_84_j40 M (mf_84_j40 v1 v2 v3 s0 M) := by
  unfold mf_84_j40
  exact mq_K_ite (fun hc => mq_K_ite (fun hc => mq_K_call mk_84_j60 mq_kp_refl rfl) (fun _ => mq_K_call mk_84_j60 mq_kp_refl rfl)) (fun _ => mq_K_ite (fun hc => mq_K_B (mq_K_call mk_46 mq_kp_refl rfl) (fun _ M2 hM2 => mq_K_call mk_84_j132 hM2 rfl)) (fun _ => mq_K_ite (fun hc => mq_K_B (mq_K_call mk_46 mq_kp_refl rfl) (fun _ M4 hM4 => mq_K_call mk_84_j132 hM4 rfl)) (fun _ => mq_K_call mk_84_j132 mq_kp_refl rfl)))
def mw_84_b12 : List (Nat × Option Nat) := [(1, some 2), (1, some 5), (1, some 6), (32, none)]
theorem mk_84_b12 {v1 : Int32} {v2 : Int32} {M : mm_M} : mq_K mw_84_b12 M (mf_84_b12 v1 v2 M) := by
  unfold mf_84_b12
  exact mq_K_ite (fun hc => mq_K_B (mq_K_call mk_103 mq_kp_refl rfl) (fun _ M2 hM2 => mq_K_ite (fun hc => mq_K_call mk_84_j40 hM2 rfl) (fun _ => mq_K_call mk_84_j40 hM2 rfl))) (fun _ => mq_K_ret mq_kp_refl)
def mw_84_L12 : List (Nat × Option Nat) := [(1, some 2), (1, some 5), (1, some 6), (32, none)]
theorem mk_84_L12 {v1 : Int32} {s : Int32} {M : mm_M} : mq_K mw_84_L12 M (mf_84_L12 v1 s M) := by
  unfold mf_84_L12
  exact mq_K_L (fun s M h => mq_K_call mk_84_b12 h rfl) mq_kp_refl
def mw_84 : List (Nat × Option Nat) := [(1, some 2), (1, some 5), (1, some 6), (32, none)]
theorem mk_84 {M : mm_M} : mq_K mw_84 M (mf_84 M) := by
  unfold mf_84
  exact mq_K_B (mq_K_call mk_84_L12 mq_kp_refl rfl) (fun _ M1 hM1 => mq_K_ret hM1)
-- 101: PlainPacks$Codes.isEmpty
def mw_101 (p : Nat) : List (Nat × Option Nat) := []
theorem mk_101 {p : Nat} {n : Nat} {M : mm_M} : mq_K (mw_101 p) M (mf_101 p n M) := by
  unfold mf_101
  exact mq_K_ite (fun hc => mq_K_ret mq_kp_refl) (fun _ => mq_K_ret mq_kp_refl)
-- 85: PlainPacks$Blocks.setRowCodes
def mw_85_j130 : List (Nat × Option Nat) := []
theorem mk_85_j130 {s0 : Int32} {M : mm_M} : mq_K mw_85_j130 M (mf_85_j130 s0 M) := by
  unfold mf_85_j130
  exact mq_K_B (mq_K_call mk_27 mq_kp_refl rfl) (fun _ M1 hM1 => mq_K_ret hM1)
def mw_85_j129 : List (Nat × Option Nat) := []
theorem mk_85_j129 {M : mm_M} : mq_K mw_85_j129 M (mf_85_j129 M) := by
  unfold mf_85_j129
  exact mq_K_call mk_85_j130 mq_kp_refl rfl
def mw_85_j102 : List (Nat × Option Nat) := []
theorem mk_85_j102 {s0 : Int32} {M : mm_M} : mq_K mw_85_j102 M (mf_85_j102 s0 M) := by
  unfold mf_85_j102
  exact mq_K_B (mq_K_call mk_27 mq_kp_refl rfl) (fun _ M1 hM1 => mq_K_B (mq_K_call mk_102 hM1 rfl) (fun _ M3 hM3 => mq_K_ite (fun hc => mq_K_B (mq_K_call mk_101 hM3 rfl) (fun _ M5 hM5 => mq_K_ite (fun hc => mq_K_call mk_85_j130 hM5 rfl) (fun _ => mq_K_call mk_85_j129 hM5 rfl))) (fun _ => mq_K_call mk_85_j129 hM3 rfl)))
def mw_85_j84 : List (Nat × Option Nat) := []
theorem mk_85_j84 {s0 : Int32} {M : mm_M} : mq_K mw_85_j84 M (mf_85_j84 s0 M) := by
  unfold mf_85_j84
  exact mq_K_B (mq_K_call mk_27 mq_kp_refl rfl) (fun _ M1 hM1 => mq_K_B (mq_K_call mk_102 hM1 rfl) (fun _ M3 hM3 => mq_K_ite (fun hc => mq_K_call mk_85_j102 hM3 rfl) (fun _ => mq_K_call mk_85_j102 hM3 rfl)))
def mw_85 : List (Nat × Option Nat) := [(17, some 4), (17, some 5), (18, none), (19, none), (20, none), (21, none), (22, some 4), (22, some 5), (23, none), (24, none), (25, none), (26, none)]
theorem mk_85 {M : mm_M} : mq_K mw_85 M (mf_85 M) := by
  unfold mf_85
  exact mq_K_ite (fun hc => mq_K_ite (fun hc => mq_K_B (mq_K_call mk_99 (mq_kp_cp (mq_kp_cp mq_kp_refl rfl) rfl) rfl) (fun _ M1 hM1 => mq_K_B (mq_K_call mk_99 hM1 rfl) (fun _ M2 hM2 => mq_K_ite (fun hc => mq_K_ite (fun hc => mq_K_call mk_85_j84 hM2 rfl) (fun _ => mq_K_call mk_85_j84 hM2 rfl)) (fun _ => mq_K_none)))) (fun _ => mq_K_none)) (fun _ => mq_K_none)
-- 87: PlainPacks$Blocks.readLength
def mw_87 : List (Nat × Option Nat) := [(1, some 2), (1, some 5), (1, some 6)]
theorem mk_87 {v1 : Int32} {M : mm_M} : mq_K mw_87 M (mf_87 v1 M) := by
  unfold mf_87
  exact mq_K_ite (fun hc => mq_K_ret mq_kp_refl) (fun _ => mq_K_ite (fun hc => mq_K_ret mq_kp_refl) (fun _ => mq_K_B (mq_K_call mk_46 mq_kp_refl rfl) (fun _ M2 hM2 => mq_K_ret hM2)))
-- 88: PlainPacks$Blocks.readDistance
def mw_88_j23 : List (Nat × Option Nat) := [(1, some 2), (1, some 5), (1, some 6)]
theorem mk_88_j23 {v1 : Int32} {s0 : Int32} {M : mm_M} : mq_K mw_88_j23 M (mf_88_j23 v1 s0 M) := by
  unfold mf_88_j23
  exact mq_K_B (mq_K_call mk_27 mq_kp_refl rfl) (fun _ M1 hM1 => mq_K_ite (fun hc => mq_K_ret hM1) (fun _ => mq_K_B (mq_K_call mk_46 hM1 rfl) (fun _ M3 hM3 => mq_K_ret hM3)))
def mw_88 : List (Nat × Option Nat) := [(1, some 2), (1, some 5), (1, some 6)]
theorem mk_88 {M : mm_M} : mq_K mw_88 M (mf_88 M) := by
  unfold mf_88
  exact mq_K_B (mq_K_call mk_103 mq_kp_refl rfl) (fun _ M2 hM2 => mq_K_ite (fun hc => mq_K_call mk_88_j23 hM2 rfl) (fun _ => mq_K_call mk_88_j23 hM2 rfl))
-- 54: PlainPacks$Sink.repeat
def mw_54_b22 : List (Nat × Option Nat) := [(3, some 1), (4, none)]
theorem mk_54_b22 {v1 : Int32} {v2 : Int32} {v3 : Int32} {M : mm_M} : mq_K mw_54_b22 M (mf_54_b22 v1 v2 v3 M) := by
  unfold mf_54_b22
  exact mq_K_ite (fun hc => mq_K_ite (fun hc => mq_K_B (mq_K_call mk_51 mq_kp_refl rfl) (fun _ M1 hM1 => mq_K_ret hM1)) (fun _ => mq_K_none)) (fun _ => mq_K_ret mq_kp_refl)
def mw_54_L22 : List (Nat × Option Nat) := [(3, some 1), (4, none)]
theorem mk_54_L22 {v1 : Int32} {v2 : Int32} {s : Int32} {M : mm_M} : mq_K mw_54_L22 M (mf_54_L22 v1 v2 s M) := by
  unfold mf_54_L22
  exact mq_K_L (fun s M h => mq_K_call mk_54_b22 h rfl) mq_kp_refl
def mw_54_j17 : List (Nat × Option Nat) := [(3, some 1), (4, none)]
theorem mk_54_j17 {v1 : Int32} {v2 : Int32} {s0 : Int32} {M : mm_M} : mq_K mw_54_j17 M (mf_54_j17 v1 v2 s0 M) := by
  unfold mf_54_j17
  exact mq_K_B (mq_K_call mk_27 mq_kp_refl rfl) (fun _ M1 hM1 => mq_K_B (mq_K_call mk_54_L22 hM1 rfl) (fun _ M2 hM2 => mq_K_ret hM2))
def mw_54 : List (Nat × Option Nat) := [(3, some 1), (4, none)]
theorem mk_54 {v1 : Int32} {v2 : Int32} {M : mm_M} : mq_K mw_54 M (mf_54 v1 v2 M) := by
  unfold mf_54
  exact mq_K_ite (fun hc => mq_K_call mk_54_j17 mq_kp_refl rfl) (fun _ => mq_K_ite (fun hc => mq_K_call mk_54_j17 mq_kp_refl rfl) (fun _ => mq_K_call mk_54_j17 mq_kp_refl rfl))
-- 53: PlainPacks$Sink.copy
def mw_53_j21 : List (Nat × Option Nat) := [(3, some 1), (3, some 3), (3, some 4), (3, some 5), (4, none)]
theorem mk_53_j21 {v1 : Int32} {v2 : Int64} {s0 : Int32} {M : mm_M} : mq_K mw_53_j21 M (mf_53_j21 v1 v2 s0 M) := by
  unfold mf_53_j21
  exact mq_K_B (mq_K_call mk_27 mq_kp_refl rfl) (fun _ M1 hM1 => mq_K_B (mq_K_call mk_54 (mq_kp_pi (mq_kp_pi (mq_kp_pi hM1 rfl) rfl) rfl) rfl) (fun _ M2 hM2 => mq_K_ret hM2))
def mw_53 : List (Nat × Option Nat) := [(3, some 1), (3, some 3), (3, some 4), (3, some 5), (4, none)]
theorem mk_53 {v1 : Int32} {v2 : Int64} {M : mm_M} : mq_K mw_53 M (mf_53 v1 v2 M) := by
  unfold mf_53
  exact mq_K_ite (fun hc => mq_K_ite (fun hc => mq_K_call mk_53_j21 mq_kp_refl rfl) (fun _ => mq_K_call mk_53_j21 mq_kp_refl rfl)) (fun _ => mq_K_call mk_53_j21 mq_kp_refl rfl)
-- 86: PlainPacks$Blocks.readLetters
def mw_86_j85 : List (Nat × Option Nat) := [(3, some 1), (3, some 3), (3, some 4), (3, some 5), (4, none)]
theorem mk_86_j85 {v1 : Int32} {v2 : Int32} {v4 : Int32} {v5 : Int32} {s0 : Int32} {M : mm_M} : mq_K mw_86_j85 M (mf_86_j85 v1 v2 v4 v5 s0 M) := by
  unfold mf_86_j85
  exact mq_K_B (mq_K_call mk_27 mq_kp_refl rfl) (fun _ M1 hM1 => mq_K_B (mq_K_call mk_53 hM1 rfl) (fun _ M2 hM2 => mq_K_ret hM2))
def mw_86_j58 : List (Nat × Option Nat) := [(1, some 2), (1, some 5), (1, some 6), (3, some 1), (3, some 3), (3, some 4), (3, some 5), (4, none)]
theorem mk_86_j58 {v1 : Int32} {v2 : Int32} {v3 : Int32} {s0 : Int32} {M : mm_M} : mq_K mw_86_j58 M (mf_86_j58 v1 v2 v3 s0 M) := by
  unfold mf_86_j58
  exact mq_K_B (mq_K_call mk_27 mq_kp_refl rfl) (fun _ M1 hM1 => mq_K_B (mq_K_call mk_87 hM1 rfl) (fun _ M3 hM3 => mq_K_B (mq_K_call mk_88 hM3 rfl) (fun _ M5 hM5 => mq_K_ite (fun hc => mq_K_call mk_86_j85 hM5 rfl) (fun _ => mq_K_call mk_86_j85 hM5 rfl))))
def mw_86_b2 : List (Nat × Option Nat) := [(1, some 2), (1, some 5), (1, some 6), (3, some 1), (3, some 2), (3, some 3), (3, some 4), (3, some 5), (4, none)]
theorem mk_86_b2 {v1 : Int32} {v2 : Int32} {M : mm_M} : mq_K mw_86_b2 M (mf_86_b2 v1 v2 M) := by
  unfold mf_86_b2
  exact mq_K_ite (fun hc => mq_K_B (mq_K_call mk_103 mq_kp_refl rfl) (fun _ M2 hM2 => mq_K_ite (fun hc => mq_K_ret hM2) (fun _ => mq_K_ite (fun hc => mq_K_B (mq_K_call mk_52 hM2 rfl) (fun _ M3 hM3 => mq_K_ret hM3)) (fun _ => mq_K_ite (fun hc => mq_K_call mk_86_j58 hM2 rfl) (fun _ => mq_K_call mk_86_j58 hM2 rfl))))) (fun _ => mq_K_ret mq_kp_refl)
def mw_86_L2 : List (Nat × Option Nat) := [(1, some 2), (1, some 5), (1, some 6), (3, some 1), (3, some 2), (3, some 3), (3, some 4), (3, some 5), (4, none)]
theorem mk_86_L2 {v1 : Int32} {s : Int32} {M : mm_M} : mq_K mw_86_L2 M (mf_86_L2 v1 s M) := by
  unfold mf_86_L2
  exact mq_K_L (fun s M h => mq_K_call mk_86_b2 h rfl) mq_kp_refl
def mw_86 : List (Nat × Option Nat) := [(1, some 2), (1, some 5), (1, some 6), (3, some 1), (3, some 2), (3, some 3), (3, some 4), (3, some 5), (4, none)]
theorem mk_86 {v1 : Int32} {M : mm_M} : mq_K mw_86 M (mf_86 v1 M) := by
  unfold mf_86
  exact mq_K_B (mq_K_call mk_86_L2 mq_kp_refl rfl) (fun _ M1 hM1 => mq_K_sm (fun _ => mq_K_ret hM1) (fun _ => mq_K_ret hM1))
-- 79: PlainPacks$Blocks.readBlocks
def mw_79_j106 : List (Nat × Option Nat) := [(1, some 2), (1, some 5), (1, some 6), (3, some 1), (3, some 2), (3, some 3), (3, some 4), (3, some 5), (4, none)]
theorem mk_79_j106 {v1 : Int32} {v2 : Int32} {v3 : Int32} {M : mm_M} : mq_K mw_79_j106 M (mf_79_j106 v1 v2 v3 M) := by
  unfold mf_79_j106
  exact mq_K_B (mq_K_call mk_86 mq_kp_refl rfl) (fun _ M1 hM1 => mq_K_ret hM1)
def mw_79_j53 : List (Nat × Option Nat) := [(1, some 2), (1, some 5), (1, some 6), (3, some 1), (3, some 2), (3, some 3), (3, some 4), (3, some 5), (3, some 6), (4, none), (16, some 8), (16, some 9), (17, some 4), (17, some 5), (18, none), (19, none), (20, none), (21, none), (22, some 4), (22, some 5), (23, none), (24, none), (25, none), (26, none), (27, some 4), (27, some 5), (28, none), (29, none), (30, none), (31, none), (32, none)]
theorem mk_79_j53 {v1 : Int32} {v2 : Int32} {v3 : Int32} {v4 : Int32} {s0 : Int32} {M : mm_M} : mq_K mw_79_j53 M (mf_79_j53 v1 v2 v3 v4 s0 M) := by
  unfold mf_79_j53
  exact mq_K_B (mq_K_call mk_27 mq_kp_refl rfl) (fun _ M1 hM1 => mq_K_ite (fun hc => mq_K_B (mq_K_call mk_80 (mq_kp_pi hM1 rfl) rfl) (fun _ M2 hM2 => mq_K_ret hM2)) (fun _ => mq_K_ite (fun hc => mq_K_B (mq_K_call mk_81 (mq_kp_pi hM1 rfl) rfl) (fun _ M3 hM3 => mq_K_call mk_79_j106 hM3 rfl)) (fun _ => mq_K_B (mq_K_call mk_83 (mq_kp_pi hM1 rfl) rfl) (fun _ M4 hM4 => mq_K_B (mq_K_call mk_84 hM4 rfl) (fun _ M5 hM5 => mq_K_B (mq_K_call mk_85 hM5 rfl) (fun _ M6 hM6 => mq_K_call mk_79_j106 hM6 rfl))))))
def mw_79_j30 : List (Nat × Option Nat) := [(1, some 2), (1, some 5), (1, some 6), (3, some 1), (3, some 2), (3, some 3), (3, some 4), (3, some 5), (3, some 6), (4, none), (16, some 8), (16, some 9), (17, some 4), (17, some 5), (18, none), (19, none), (20, none), (21, none), (22, some 4), (22, some 5), (23, none), (24, none), (25, none), (26, none), (27, some 4), (27, some 5), (28, none), (29, none), (30, none), (31, none), (32, none)]
theorem mk_79_j30 {v1 : Int32} {v3 : Int32} {s0 : Int32} {M : mm_M} : mq_K mw_79_j30 M (mf_79_j30 v1 v3 s0 M) := by
  unfold mf_79_j30
  exact mq_K_B (mq_K_call mk_46 mq_kp_refl rfl) (fun _ M2 hM2 => mq_K_ite (fun hc => mq_K_call mk_79_j53 hM2 rfl) (fun _ => mq_K_call mk_79_j53 hM2 rfl))
def mw_79_b4 : List (Nat × Option Nat) := [(1, some 2), (1, some 5), (1, some 6), (3, some 1), (3, some 2), (3, some 3), (3, some 4), (3, some 5), (3, some 6), (4, none), (16, some 8), (16, some 9), (17, some 4), (17, some 5), (18, none), (19, none), (20, none), (21, none), (22, some 4), (22, some 5), (23, none), (24, none), (25, none), (26, none), (27, some 4), (27, some 5), (28, none), (29, none), (30, none), (31, none), (32, none)]
theorem mk_79_b4 {v1 : Int32} {v2 : Int32} {v3 : Int32} {M : mm_M} : mq_K mw_79_b4 M (mf_79_b4 v1 v2 v3 M) := by
  unfold mf_79_b4
  exact mq_K_ite (fun hc => mq_K_ite (fun hc => mq_K_B (mq_K_call mk_45 mq_kp_refl rfl) (fun _ M2 hM2 => mq_K_ite (fun hc => mq_K_call mk_79_j30 hM2 rfl) (fun _ => mq_K_call mk_79_j30 hM2 rfl))) (fun _ => mq_K_ret mq_kp_refl)) (fun _ => mq_K_ret mq_kp_refl)
def mw_79_L4 : List (Nat × Option Nat) := [(1, some 2), (1, some 5), (1, some 6), (3, some 1), (3, some 2), (3, some 3), (3, some 4), (3, some 5), (3, some 6), (4, none), (16, some 8), (16, some 9), (17, some 4), (17, some 5), (18, none), (19, none), (20, none), (21, none), (22, some 4), (22, some 5), (23, none), (24, none), (25, none), (26, none), (27, some 4), (27, some 5), (28, none), (29, none), (30, none), (31, none), (32, none)]
theorem mk_79_L4 {v1 : Int32} {s : Int32 × Int32} {M : mm_M} : mq_K mw_79_L4 M (mf_79_L4 v1 s M) := by
  unfold mf_79_L4
  exact mq_K_L (fun s M h => mq_K_call mk_79_b4 h rfl) mq_kp_refl
def mw_79 : List (Nat × Option Nat) := [(1, some 2), (1, some 5), (1, some 6), (3, some 1), (3, some 2), (3, some 3), (3, some 4), (3, some 5), (3, some 6), (4, none), (16, some 8), (16, some 9), (17, some 4), (17, some 5), (18, none), (19, none), (20, none), (21, none), (22, some 4), (22, some 5), (23, none), (24, none), (25, none), (26, none), (27, some 4), (27, some 5), (28, none), (29, none), (30, none), (31, none), (32, none)]
theorem mk_79 {v1 : Int32} {M : mm_M} : mq_K mw_79 M (mf_79 v1 M) := by
  unfold mf_79
  exact mq_K_B (mq_K_call mk_79_L4 mq_kp_refl rfl) (fun _ M1 hM1 => mq_K_ret hM1)
-- 48: PlainPacks$Source.high
def mw_48_b5 : List (Nat × Option Nat) := [(1, some 2), (1, some 6)]
theorem mk_48_b5 {v1 : Int32} {v2 : Int64} {v4 : Int32} {M : mm_M} : mq_K mw_48_b5 M (mf_48_b5 v1 v2 v4 M) := by
  unfold mf_48_b5
  exact mq_K_ite (fun hc => mq_K_B (mq_K_call mk_44 mq_kp_refl rfl) (fun _ M2 hM2 => mq_K_ret hM2)) (fun _ => mq_K_ret mq_kp_refl)
def mw_48_L5 : List (Nat × Option Nat) := [(1, some 2), (1, some 6)]
theorem mk_48_L5 {v1 : Int32} {s : Int64 × Int32} {M : mm_M} : mq_K mw_48_L5 M (mf_48_L5 v1 s M) := by
  unfold mf_48_L5
  exact mq_K_L (fun s M h => mq_K_call mk_48_b5 h rfl) mq_kp_refl
def mw_48 : List (Nat × Option Nat) := [(1, some 2), (1, some 6)]
theorem mk_48 {v1 : Int32} {M : mm_M} : mq_K mw_48 M (mf_48 v1 M) := by
  unfold mf_48
  exact mq_K_B (mq_K_call mk_48_L5 mq_kp_refl rfl) (fun _ M1 hM1 => mq_K_ret hM1)
-- 30: PlainPacks.adlerOf
def mw_30_b8 (p : Nat) : List (Nat × Option Nat) := []
theorem mk_30_b8 {p : Nat} {n : Nat} {v2 : Int32} {v3 : Int32} {v4 : Int32} {v5 : Int32} {M : mm_M} : mq_K (mw_30_b8 p) M (mf_30_b8 p n v2 v3 v4 v5 M) := by
  unfold mf_30_b8
  exact mq_K_ite (fun hc => mq_K_ite (fun hc => mq_K_ret mq_kp_refl) (fun _ => mq_K_none)) (fun _ => mq_K_ret mq_kp_refl)
def mw_30_L8 (p : Nat) : List (Nat × Option Nat) := []
theorem mk_30_L8 {p : Nat} {n : Nat} {v2 : Int32} {s : Int32 × Int32 × Int32} {M : mm_M} : mq_K (mw_30_L8 p) M (mf_30_L8 p n v2 s M) := by
  unfold mf_30_L8
  exact mq_K_L (fun s M h => mq_K_call mk_30_b8 h (by simp [mq_sub, mw_30_b8, mw_30_L8])) mq_kp_refl
def mw_30 (p : Nat) : List (Nat × Option Nat) := []
theorem mk_30 {p : Nat} {n : Nat} {v1 : Int32} {v2 : Int32} {M : mm_M} : mq_K (mw_30 p) M (mf_30 p n v1 v2 M) := by
  unfold mf_30
  exact mq_K_B (mq_K_call mk_30_L8 mq_kp_refl (by simp [mq_sub, mw_30_L8, mw_30])) (fun _ M1 hM1 => mq_K_ret hM1)
-- 75: PlainPacks$Blocks.readWrapped
def mw_75_j110 : List (Nat × Option Nat) := []
theorem mk_75_j110 {s0 : Int32} {M : mm_M} : mq_K mw_75_j110 M (mf_75_j110 s0 M) := by
  unfold mf_75_j110
  exact mq_K_B (mq_K_call mk_27 mq_kp_refl rfl) (fun _ M1 hM1 => mq_K_ret hM1)
def mw_75_j59 : List (Nat × Option Nat) := [(1, some 2), (1, some 5), (1, some 6), (3, some 1), (3, some 2), (3, some 3), (3, some 4), (3, some 5), (3, some 6), (4, none), (16, some 8), (16, some 9), (17, some 4), (17, some 5), (18, none), (19, none), (20, none), (21, none), (22, some 4), (22, some 5), (23, none), (24, none), (25, none), (26, none), (27, some 4), (27, some 5), (28, none), (29, none), (30, none), (31, none), (32, none)]
theorem mk_75_j59 {v1 : Int32} {s0 : Int32} {M : mm_M} : mq_K mw_75_j59 M (mf_75_j59 v1 s0 M) := by
  unfold mf_75_j59
  exact mq_K_B (mq_K_call mk_27 mq_kp_refl rfl) (fun _ M1 hM1 => mq_K_B (mq_K_call mk_79 hM1 rfl) (fun _ M2 hM2 => mq_K_B (mq_K_call mk_48 hM2 rfl) (fun _ M4 hM4 => mq_K_B (mq_K_call mk_30 hM4 rfl) (fun _ M6 hM6 => mq_K_ite (fun hc => mq_K_call mk_75_j110 hM6 rfl) (fun _ => mq_K_call mk_75_j110 hM6 rfl)))))
def mw_75 : List (Nat × Option Nat) := [(1, some 2), (1, some 5), (1, some 6), (3, some 1), (3, some 2), (3, some 3), (3, some 4), (3, some 5), (3, some 6), (4, none), (16, some 8), (16, some 9), (17, some 4), (17, some 5), (18, none), (19, none), (20, none), (21, none), (22, some 4), (22, some 5), (23, none), (24, none), (25, none), (26, none), (27, some 4), (27, some 5), (28, none), (29, none), (30, none), (31, none), (32, none)]
theorem mk_75 {M : mm_M} : mq_K mw_75 M (mf_75 M) := by
  unfold mf_75
  exact mq_K_B (mq_K_call mk_44 mq_kp_refl rfl) (fun _ M2 hM2 => mq_K_B (mq_K_call mk_44 hM2 rfl) (fun _ M4 hM4 => mq_K_ite (fun hc => mq_K_ite (fun hc => mq_K_call mk_75_j59 hM4 rfl) (fun _ => mq_K_ite (fun hc => mq_K_ite (fun hc => mq_K_call mk_75_j59 hM4 rfl) (fun _ => mq_K_call mk_75_j59 hM4 rfl)) (fun _ => mq_K_call mk_75_j59 hM4 rfl))) (fun _ => mq_K_call mk_75_j59 hM4 rfl)))
-- 77: PlainPacks$Blocks.passBytes
def mw_77_b2 : List (Nat × Option Nat) := [(1, some 2), (1, some 6)]
theorem mk_77_b2 {v1 : Int32} {v2 : Int32} {M : mm_M} : mq_K mw_77_b2 M (mf_77_b2 v1 v2 M) := by
  unfold mf_77_b2
  exact mq_K_ite (fun hc => mq_K_B (mq_K_call mk_44 mq_kp_refl rfl) (fun _ M2 hM2 => mq_K_ret hM2)) (fun _ => mq_K_ret mq_kp_refl)
def mw_77_L2 : List (Nat × Option Nat) := [(1, some 2), (1, some 6)]
theorem mk_77_L2 {v1 : Int32} {s : Int32} {M : mm_M} : mq_K mw_77_L2 M (mf_77_L2 v1 s M) := by
  unfold mf_77_L2
  exact mq_K_L (fun s M h => mq_K_call mk_77_b2 h rfl) mq_kp_refl
def mw_77 : List (Nat × Option Nat) := [(1, some 2), (1, some 6)]
theorem mk_77 {v1 : Int32} {M : mm_M} : mq_K mw_77 M (mf_77 v1 M) := by
  unfold mf_77
  exact mq_K_B (mq_K_call mk_77_L2 mq_kp_refl rfl) (fun _ M1 hM1 => mq_K_ret hM1)
-- 78: PlainPacks$Blocks.passText
def mw_78_b10 : List (Nat × Option Nat) := [(1, some 2), (1, some 6)]
theorem mk_78_b10 {v1 : Int32} {v2 : Int32} {M : mm_M} : mq_K mw_78_b10 M (mf_78_b10 v1 v2 M) := by
  unfold mf_78_b10
  exact mq_K_ite (fun hc => mq_K_ite (fun hc => mq_K_ret mq_kp_refl) (fun _ => mq_K_B (mq_K_call mk_44 mq_kp_refl rfl) (fun _ M2 hM2 => mq_K_ret hM2))) (fun _ => mq_K_ret mq_kp_refl)
def mw_78_L10 : List (Nat × Option Nat) := [(1, some 2), (1, some 6)]
theorem mk_78_L10 {s : Int32 × Int32} {M : mm_M} : mq_K mw_78_L10 M (mf_78_L10 s M) := by
  unfold mf_78_L10
  exact mq_K_L (fun s M h => mq_K_call mk_78_b10 h rfl) mq_kp_refl
def mw_78 : List (Nat × Option Nat) := [(1, some 2), (1, some 6)]
theorem mk_78 {M : mm_M} : mq_K mw_78 M (mf_78 M) := by
  unfold mf_78
  exact mq_K_B (mq_K_call mk_44 mq_kp_refl rfl) (fun _ M2 hM2 => mq_K_B (mq_K_call mk_78_L10 hM2 rfl) (fun _ M3 hM3 => mq_K_ret hM3))
-- 28: PlainPacks.crcOf
def mw_28_b21 (p : Nat) : List (Nat × Option Nat) := []
theorem mk_28_b21 {p : Nat} {n : Nat} {v2 : Int32} {v3 : Int32} {v4 : Int32} {v5 : Int32} {M : mm_M} : mq_K (mw_28_b21 p) M (mf_28_b21 p n v2 v3 v4 v5 M) := by
  unfold mf_28_b21
  exact mq_K_ite (fun hc => mq_K_ite (fun hc => mq_K_ret mq_kp_refl) (fun _ => mq_K_ret mq_kp_refl)) (fun _ => mq_K_ret mq_kp_refl)
def mw_28_L21 (p : Nat) : List (Nat × Option Nat) := []
theorem mk_28_L21 {p : Nat} {n : Nat} {v2 : Int32} {v4 : Int32} {s : Int32 × Int32} {M : mm_M} : mq_K (mw_28_L21 p) M (mf_28_L21 p n v2 v4 s M) := by
  unfold mf_28_L21
  exact mq_K_L (fun s M h => mq_K_call mk_28_b21 h (by simp [mq_sub, mw_28_b21, mw_28_L21])) mq_kp_refl
def mw_28_b5 (p : Nat) : List (Nat × Option Nat) := []
theorem mk_28_b5 {p : Nat} {n : Nat} {v2 : Int32} {v3 : Int32} {v4 : Int32} {M : mm_M} : mq_K (mw_28_b5 p) M (mf_28_b5 p n v2 v3 v4 M) := by
  unfold mf_28_b5
  exact mq_K_ite (fun hc => mq_K_ite (fun hc => mq_K_B (mq_K_call mk_28_L21 mq_kp_refl (by simp [mq_sub, mw_28_L21, mw_28_b5])) (fun _ M1 hM1 => mq_K_ret hM1)) (fun _ => mq_K_none)) (fun _ => mq_K_ret mq_kp_refl)
def mw_28_L5 (p : Nat) : List (Nat × Option Nat) := []
theorem mk_28_L5 {p : Nat} {n : Nat} {v2 : Int32} {s : Int32 × Int32} {M : mm_M} : mq_K (mw_28_L5 p) M (mf_28_L5 p n v2 s M) := by
  unfold mf_28_L5
  exact mq_K_L (fun s M h => mq_K_call mk_28_b5 h (by simp [mq_sub, mw_28_b5, mw_28_L5])) mq_kp_refl
def mw_28 (p : Nat) : List (Nat × Option Nat) := []
theorem mk_28 {p : Nat} {n : Nat} {v1 : Int32} {v2 : Int32} {M : mm_M} : mq_K (mw_28 p) M (mf_28 p n v1 v2 M) := by
  unfold mf_28
  exact mq_K_B (mq_K_call mk_28_L5 mq_kp_refl (by simp [mq_sub, mw_28_L5, mw_28])) (fun _ M1 hM1 => mq_K_ret hM1)
-- 76: PlainPacks$Blocks.readFile
def mw_76_j248 : List (Nat × Option Nat) := []
theorem mk_76_j248 {s0 : Int32} {M : mm_M} : mq_K mw_76_j248 M (mf_76_j248 s0 M) := by
  unfold mf_76_j248
  exact mq_K_B (mq_K_call mk_27 mq_kp_refl rfl) (fun _ M1 hM1 => mq_K_ret hM1)
def mw_76_j220 : List (Nat × Option Nat) := [(1, some 2), (1, some 6)]
theorem mk_76_j220 {s0 : Int32} {M : mm_M} : mq_K mw_76_j220 M (mf_76_j220 s0 M) := by
  unfold mf_76_j220
  exact mq_K_B (mq_K_call mk_27 mq_kp_refl rfl) (fun _ M1 hM1 => mq_K_B (mq_K_call mk_47 hM1 rfl) (fun _ M3 hM3 => mq_K_ite (fun hc => mq_K_call mk_76_j248 hM3 rfl) (fun _ => mq_K_call mk_76_j248 hM3 rfl)))
def mw_76_j179 : List (Nat × Option Nat) := [(1, some 2), (1, some 5), (1, some 6), (3, some 1), (3, some 2), (3, some 3), (3, some 4), (3, some 5), (3, some 6), (4, none), (16, some 8), (16, some 9), (17, some 4), (17, some 5), (18, none), (19, none), (20, none), (21, none), (22, some 4), (22, some 5), (23, none), (24, none), (25, none), (26, none), (27, some 4), (27, some 5), (28, none), (29, none), (30, none), (31, none), (32, none)]
theorem mk_76_j179 {M : mm_M} : mq_K mw_76_j179 M (mf_76_j179 M) := by
  unfold mf_76_j179
  exact mq_K_B (mq_K_call mk_79 mq_kp_refl rfl) (fun _ M1 hM1 => mq_K_B (mq_K_call mk_47 hM1 rfl) (fun _ M3 hM3 => mq_K_B (mq_K_call mk_28 hM3 rfl) (fun _ M5 hM5 => mq_K_ite (fun hc => mq_K_call mk_76_j220 hM5 rfl) (fun _ => mq_K_call mk_76_j220 hM5 rfl))))
def mw_76_j176 : List (Nat × Option Nat) := [(1, some 2), (1, some 5), (1, some 6), (3, some 1), (3, some 2), (3, some 3), (3, some 4), (3, some 5), (3, some 6), (4, none), (16, some 8), (16, some 9), (17, some 4), (17, some 5), (18, none), (19, none), (20, none), (21, none), (22, some 4), (22, some 5), (23, none), (24, none), (25, none), (26, none), (27, some 4), (27, some 5), (28, none), (29, none), (30, none), (31, none), (32, none)]
theorem mk_76_j176 {s0 : Int32} {M : mm_M} : mq_K mw_76_j176 M (mf_76_j176 s0 M) := by
  unfold mf_76_j176
  exact mq_K_B (mq_K_call mk_27 mq_kp_refl rfl) (fun _ M1 hM1 => mq_K_call mk_76_j179 hM1 rfl)
def mw_76_j130 : List (Nat × Option Nat) := [(1, some 2), (1, some 5), (1, some 6), (3, some 1), (3, some 2), (3, some 3), (3, some 4), (3, some 5), (3, some 6), (4, none), (16, some 8), (16, some 9), (17, some 4), (17, some 5), (18, none), (19, none), (20, none), (21, none), (22, some 4), (22, some 5), (23, none), (24, none), (25, none), (26, none), (27, some 4), (27, some 5), (28, none), (29, none), (30, none), (31, none), (32, none)]
theorem mk_76_j130 {v1 : Int32} {M : mm_M} : mq_K mw_76_j130 M (mf_76_j130 v1 M) := by
  unfold mf_76_j130
  exact mq_K_ite (fun hc => mq_K_call mk_76_j179 mq_kp_refl rfl) (fun _ => mq_K_B (mq_K_call mk_28 mq_kp_refl rfl) (fun _ M2 hM2 => mq_K_B (mq_K_call mk_47 hM2 rfl) (fun _ M4 hM4 => mq_K_ite (fun hc => mq_K_call mk_76_j176 hM4 rfl) (fun _ => mq_K_call mk_76_j176 hM4 rfl))))
def mw_76_j119 : List (Nat × Option Nat) := [(1, some 2), (1, some 5), (1, some 6), (3, some 1), (3, some 2), (3, some 3), (3, some 4), (3, some 5), (3, some 6), (4, none), (16, some 8), (16, some 9), (17, some 4), (17, some 5), (18, none), (19, none), (20, none), (21, none), (22, some 4), (22, some 5), (23, none), (24, none), (25, none), (26, none), (27, some 4), (27, some 5), (28, none), (29, none), (30, none), (31, none), (32, none)]
theorem mk_76_j119 {v1 : Int32} {M : mm_M} : mq_K mw_76_j119 M (mf_76_j119 v1 M) := by
  unfold mf_76_j119
  exact mq_K_ite (fun hc => mq_K_call mk_76_j130 mq_kp_refl rfl) (fun _ => mq_K_B (mq_K_call mk_78 mq_kp_refl rfl) (fun _ M1 hM1 => mq_K_call mk_76_j130 hM1 rfl))
def mw_76_j108 : List (Nat × Option Nat) := [(1, some 2), (1, some 5), (1, some 6), (3, some 1), (3, some 2), (3, some 3), (3, some 4), (3, some 5), (3, some 6), (4, none), (16, some 8), (16, some 9), (17, some 4), (17, some 5), (18, none), (19, none), (20, none), (21, none), (22, some 4), (22, some 5), (23, none), (24, none), (25, none), (26, none), (27, some 4), (27, some 5), (28, none), (29, none), (30, none), (31, none), (32, none)]
theorem mk_76_j108 {v1 : Int32} {M : mm_M} : mq_K mw_76_j108 M (mf_76_j108 v1 M) := by
  unfold mf_76_j108
  exact mq_K_ite (fun hc => mq_K_call mk_76_j119 mq_kp_refl rfl) (fun _ => mq_K_B (mq_K_call mk_78 mq_kp_refl rfl) (fun _ M1 hM1 => mq_K_call mk_76_j119 hM1 rfl))
def mw_76_j80 : List (Nat × Option Nat) := [(1, some 2), (1, some 5), (1, some 6), (3, some 1), (3, some 2), (3, some 3), (3, some 4), (3, some 5), (3, some 6), (4, none), (16, some 8), (16, some 9), (17, some 4), (17, some 5), (18, none), (19, none), (20, none), (21, none), (22, some 4), (22, some 5), (23, none), (24, none), (25, none), (26, none), (27, some 4), (27, some 5), (28, none), (29, none), (30, none), (31, none), (32, none)]
theorem mk_76_j80 {v1 : Int32} {s0 : Int32} {M : mm_M} : mq_K mw_76_j80 M (mf_76_j80 v1 s0 M) := by
  unfold mf_76_j80
  exact mq_K_B (mq_K_call mk_27 mq_kp_refl rfl) (fun _ M1 hM1 => mq_K_B (mq_K_call mk_77 hM1 rfl) (fun _ M2 hM2 => mq_K_ite (fun hc => mq_K_call mk_76_j108 hM2 rfl) (fun _ => mq_K_B (mq_K_call mk_47 hM2 rfl) (fun _ M4 hM4 => mq_K_B (mq_K_call mk_77 hM4 rfl) (fun _ M5 hM5 => mq_K_call mk_76_j108 hM5 rfl)))))
def mw_76_j58 : List (Nat × Option Nat) := [(1, some 2), (1, some 5), (1, some 6), (3, some 1), (3, some 2), (3, some 3), (3, some 4), (3, some 5), (3, some 6), (4, none), (16, some 8), (16, some 9), (17, some 4), (17, some 5), (18, none), (19, none), (20, none), (21, none), (22, some 4), (22, some 5), (23, none), (24, none), (25, none), (26, none), (27, some 4), (27, some 5), (28, none), (29, none), (30, none), (31, none), (32, none)]
theorem mk_76_j58 {s0 : Int32} {M : mm_M} : mq_K mw_76_j58 M (mf_76_j58 s0 M) := by
  unfold mf_76_j58
  exact mq_K_B (mq_K_call mk_27 mq_kp_refl rfl) (fun _ M1 hM1 => mq_K_B (mq_K_call mk_44 hM1 rfl) (fun _ M3 hM3 => mq_K_ite (fun hc => mq_K_call mk_76_j80 hM3 rfl) (fun _ => mq_K_call mk_76_j80 hM3 rfl)))
def mw_76_j38 : List (Nat × Option Nat) := [(1, some 2), (1, some 5), (1, some 6), (3, some 1), (3, some 2), (3, some 3), (3, some 4), (3, some 5), (3, some 6), (4, none), (16, some 8), (16, some 9), (17, some 4), (17, some 5), (18, none), (19, none), (20, none), (21, none), (22, some 4), (22, some 5), (23, none), (24, none), (25, none), (26, none), (27, some 4), (27, some 5), (28, none), (29, none), (30, none), (31, none), (32, none)]
theorem mk_76_j38 {s0 : Int32} {M : mm_M} : mq_K mw_76_j38 M (mf_76_j38 s0 M) := by
  unfold mf_76_j38
  exact mq_K_B (mq_K_call mk_27 mq_kp_refl rfl) (fun _ M1 hM1 => mq_K_B (mq_K_call mk_44 hM1 rfl) (fun _ M3 hM3 => mq_K_ite (fun hc => mq_K_call mk_76_j58 hM3 rfl) (fun _ => mq_K_call mk_76_j58 hM3 rfl)))
def mw_76_j17 : List (Nat × Option Nat) := [(1, some 2), (1, some 5), (1, some 6), (3, some 1), (3, some 2), (3, some 3), (3, some 4), (3, some 5), (3, some 6), (4, none), (16, some 8), (16, some 9), (17, some 4), (17, some 5), (18, none), (19, none), (20, none), (21, none), (22, some 4), (22, some 5), (23, none), (24, none), (25, none), (26, none), (27, some 4), (27, some 5), (28, none), (29, none), (30, none), (31, none), (32, none)]
theorem mk_76_j17 {s0 : Int32} {M : mm_M} : mq_K mw_76_j17 M (mf_76_j17 s0 M) := by
  unfold mf_76_j17
  exact mq_K_B (mq_K_call mk_27 mq_kp_refl rfl) (fun _ M1 hM1 => mq_K_B (mq_K_call mk_44 hM1 rfl) (fun _ M3 hM3 => mq_K_ite (fun hc => mq_K_call mk_76_j38 hM3 rfl) (fun _ => mq_K_call mk_76_j38 hM3 rfl)))
def mw_76 : List (Nat × Option Nat) := [(1, some 2), (1, some 5), (1, some 6), (3, some 1), (3, some 2), (3, some 3), (3, some 4), (3, some 5), (3, some 6), (4, none), (16, some 8), (16, some 9), (17, some 4), (17, some 5), (18, none), (19, none), (20, none), (21, none), (22, some 4), (22, some 5), (23, none), (24, none), (25, none), (26, none), (27, some 4), (27, some 5), (28, none), (29, none), (30, none), (31, none), (32, none)]
theorem mk_76 {M : mm_M} : mq_K mw_76 M (mf_76 M) := by
  unfold mf_76
  exact mq_K_B (mq_K_call mk_44 mq_kp_refl rfl) (fun _ M2 hM2 => mq_K_ite (fun hc => mq_K_call mk_76_j17 hM2 rfl) (fun _ => mq_K_call mk_76_j17 hM2 rfl))
-- 34: PlainPacks.topBit
def mw_34_b6 : List (Nat × Option Nat) := []
theorem mk_34_b6 {v1 : Int32} {v2 : Int32} {M : mm_M} : mq_K mw_34_b6 M (mf_34_b6 v1 v2 M) := by
  unfold mf_34_b6
  exact mq_K_ite (fun hc => mq_K_ret mq_kp_refl) (fun _ => mq_K_ret mq_kp_refl)
def mw_34_L6 : List (Nat × Option Nat) := []
theorem mk_34_L6 {s : Int32 × Int32} {M : mm_M} : mq_K mw_34_L6 M (mf_34_L6 s M) := by
  unfold mf_34_L6
  exact mq_K_L (fun s M h => mq_K_call mk_34_b6 h rfl) mq_kp_refl
def mw_34 : List (Nat × Option Nat) := []
theorem mk_34 {v0 : Int32} {M : mm_M} : mq_K mw_34 M (mf_34 v0 M) := by
  unfold mf_34
  exact mq_K_B (mq_K_call mk_34_L6 mq_kp_refl rfl) (fun _ M1 hM1 => mq_K_ret hM1)
-- 105: PlainPacks$Words.forget
def mw_105 : List (Nat × Option Nat) := [(35, some 9), (35, some 10), (35, some 12)]
theorem mk_105 {M : mm_M} : mq_K mw_105 M (mf_105 M) := by
  unfold mf_105
  exact mq_K_B (mq_K_call mk_34 mq_kp_refl rfl) (fun _ M2 hM2 => mq_K_ret (mq_kp_pi (mq_kp_pi (mq_kp_pi hM2 rfl) rfl) rfl))
-- 104: PlainPacks$Words.begin
def mw_104 : List (Nat × Option Nat) := [(35, some 8), (35, some 9), (35, some 10), (35, some 11), (35, some 12)]
theorem mk_104 {v1 : Int32} {v2 : Int32} {M : mm_M} : mq_K mw_104 M (mf_104 v1 v2 M) := by
  unfold mf_104
  exact mq_K_B (mq_K_call mk_105 (mq_kp_pi (mq_kp_pi mq_kp_refl rfl) rfl) rfl) (fun _ M1 hM1 => mq_K_ret hM1)
-- 110: PlainPacks$Words.tellWord
def mw_110 : List (Nat × Option Nat) := [(35, some 10), (35, some 12), (36, none), (37, none)]
theorem mk_110 {M : mm_M} : mq_K mw_110 M (mf_110 M) := by
  unfold mf_110
  exact mq_K_ite (fun hc => mq_K_ite (fun hc => mq_K_ite (fun hc => mq_K_ite (fun hc => mq_K_ret (mq_kp_pi (mq_kp_pi (mq_kp_pi (mq_kp_pi mq_kp_refl rfl) rfl) rfl) rfl)) (fun _ => mq_K_none)) (fun _ => mq_K_none)) (fun _ => mq_K_ret (mq_kp_pi mq_kp_refl rfl))) (fun _ => mq_K_ret (mq_kp_pi mq_kp_refl rfl))
-- 111: PlainPacks$Words.putWord
def mw_111 : List (Nat × Option Nat) := [(3, some 1), (4, none), (35, some 13), (35, some 14)]
theorem mk_111 {v1 : Int32} {M : mm_M} : mq_K mw_111 M (mf_111 v1 M) := by
  unfold mf_111
  exact mq_K_ite (fun hc => mq_K_B (mq_K_call mk_51 mq_kp_refl rfl) (fun _ M1 hM1 => mq_K_ret (mq_kp_pi (mq_kp_pi hM1 rfl) rfl))) (fun _ => mq_K_ite (fun hc => mq_K_ite (fun hc => mq_K_B (mq_K_call mk_54 mq_kp_refl rfl) (fun _ M2 hM2 => mq_K_ite (fun hc => mq_K_ret (mq_kp_pi (mq_kp_pi hM2 rfl) rfl)) (fun _ => mq_K_none))) (fun _ => mq_K_none)) (fun _ => mq_K_none))
-- 106: PlainPacks$Words.widen
def mw_106 : List (Nat × Option Nat) := [(35, some 9)]
theorem mk_106 {M : mm_M} : mq_K mw_106 M (mf_106 M) := by
  unfold mf_106
  exact mq_K_ite (fun hc => mq_K_ite (fun hc => mq_K_ret mq_kp_refl) (fun _ => mq_K_ret (mq_kp_pi mq_kp_refl rfl))) (fun _ => mq_K_ret mq_kp_refl)
-- 109: PlainPacks$Words.readCodes
def mw_109_j64 : List (Nat × Option Nat) := [(3, some 1), (4, none), (35, some 9), (35, some 13), (35, some 14)]
theorem mk_109_j64 {v1 : Int32} {v2 : Int32} {s0 : Int32} {M : mm_M} : mq_K mw_109_j64 M (mf_109_j64 v1 v2 s0 M) := by
  unfold mf_109_j64
  exact mq_K_B (mq_K_call mk_27 mq_kp_refl rfl) (fun _ M1 hM1 => mq_K_B (mq_K_call mk_111 hM1 rfl) (fun _ M2 hM2 => mq_K_B (mq_K_call mk_106 hM2 rfl) (fun _ M3 hM3 => mq_K_ret hM3)))
def mw_109_b2 : List (Nat × Option Nat) := [(1, some 2), (1, some 5), (1, some 6), (3, some 1), (4, none), (35, some 9), (35, some 10), (35, some 12), (35, some 13), (35, some 14), (36, none), (37, none)]
theorem mk_109_b2 {v1 : Int32} {M : mm_M} : mq_K mw_109_b2 M (mf_109_b2 v1 M) := by
  unfold mf_109_b2
  exact mq_K_ite (fun hc => mq_K_B (mq_K_call mk_46 mq_kp_refl rfl) (fun _ M2 hM2 => mq_K_ite (fun hc => mq_K_ret hM2) (fun _ => mq_K_ite (fun hc => mq_K_B (mq_K_call mk_105 hM2 rfl) (fun _ M3 hM3 => mq_K_ret hM3)) (fun _ => mq_K_B (mq_K_call mk_110 hM2 rfl) (fun _ M4 hM4 => mq_K_ite (fun hc => mq_K_call mk_109_j64 hM4 rfl) (fun _ => mq_K_call mk_109_j64 hM4 rfl)))))) (fun _ => mq_K_ret mq_kp_refl)
def mw_109_L2 : List (Nat × Option Nat) := [(1, some 2), (1, some 5), (1, some 6), (3, some 1), (4, none), (35, some 9), (35, some 10), (35, some 12), (35, some 13), (35, some 14), (36, none), (37, none)]
theorem mk_109_L2 {s : Int32} {M : mm_M} : mq_K mw_109_L2 M (mf_109_L2 s M) := by
  unfold mf_109_L2
  exact mq_K_L (fun s M h => mq_K_call mk_109_b2 h rfl) mq_kp_refl
def mw_109 : List (Nat × Option Nat) := [(1, some 2), (1, some 5), (1, some 6), (3, some 1), (4, none), (35, some 9), (35, some 10), (35, some 12), (35, some 13), (35, some 14), (36, none), (37, none)]
theorem mk_109 {M : mm_M} : mq_K mw_109 M (mf_109 M) := by
  unfold mf_109
  exact mq_K_B (mq_K_call mk_109_L2 mq_kp_refl rfl) (fun _ M1 hM1 => mq_K_sm (fun _ => mq_K_ret hM1) (fun _ => mq_K_ret hM1))
-- 107: PlainPacks$Words.readLow
def mw_107_j24 : List (Nat × Option Nat) := [(1, some 2), (1, some 5), (1, some 6), (3, some 1), (4, none), (35, some 8), (35, some 9), (35, some 10), (35, some 11), (35, some 12), (35, some 13), (35, some 14), (36, none), (37, none)]
theorem mk_107_j24 {v1 : Int32} {s0 : Int32} {M : mm_M} : mq_K mw_107_j24 M (mf_107_j24 v1 s0 M) := by
  unfold mf_107_j24
  exact mq_K_B (mq_K_call mk_27 mq_kp_refl rfl) (fun _ M1 hM1 => mq_K_B (mq_K_call mk_104 hM1 rfl) (fun _ M2 hM2 => mq_K_B (mq_K_call mk_109 hM2 rfl) (fun _ M3 hM3 => mq_K_ret hM3)))
def mw_107 : List (Nat × Option Nat) := [(1, some 2), (1, some 5), (1, some 6), (3, some 1), (4, none), (35, some 8), (35, some 9), (35, some 10), (35, some 11), (35, some 12), (35, some 13), (35, some 14), (36, none), (37, none)]
theorem mk_107 {M : mm_M} : mq_K mw_107 M (mf_107 M) := by
  unfold mf_107
  exact mq_K_B (mq_K_call mk_44 mq_kp_refl rfl) (fun _ M2 hM2 => mq_K_ite (fun hc => mq_K_call mk_107_j24 hM2 rfl) (fun _ => mq_K_ite (fun hc => mq_K_call mk_107_j24 hM2 rfl) (fun _ => mq_K_call mk_107_j24 hM2 rfl)))
-- 108: PlainPacks$Words.readHigh
def mw_108 : List (Nat × Option Nat) := [(1, some 2), (1, some 4), (1, some 5), (1, some 6), (3, some 1), (4, none), (35, some 8), (35, some 9), (35, some 10), (35, some 11), (35, some 12), (35, some 13), (35, some 14), (36, none), (37, none)]
theorem mk_108 {M : mm_M} : mq_K mw_108 M (mf_108 M) := by
  unfold mf_108
  exact mq_K_B (mq_K_call mk_104 (mq_kp_pi mq_kp_refl rfl) rfl) (fun _ M1 hM1 => mq_K_B (mq_K_call mk_109 hM1 rfl) (fun _ M2 hM2 => mq_K_ret hM2))
-- 119: PlainPacks$Pieces.readMore
def mw_119_j54 : List (Nat × Option Nat) := []
theorem mk_119_j54 {v2 : Int32} {v4 : Int32} {v5 : Int32} {s0 : Int32} {M : mm_M} : mq_K mw_119_j54 M (mf_119_j54 v2 v4 v5 s0 M) := by
  unfold mf_119_j54
  exact mq_K_B (mq_K_call mk_27 mq_kp_refl rfl) (fun _ M1 hM1 => mq_K_ite (fun hc => mq_K_ret hM1) (fun _ => mq_K_ret hM1))
def mw_119_b17 : List (Nat × Option Nat) := [(1, some 2), (1, some 6)]
theorem mk_119_b17 {v2 : Int32} {v3 : Int32} {v4 : Int32} {M : mm_M} : mq_K mw_119_b17 M (mf_119_b17 v2 v3 v4 M) := by
  unfold mf_119_b17
  exact mq_K_ite (fun hc => mq_K_ite (fun hc => mq_K_ret mq_kp_refl) (fun _ => mq_K_B (mq_K_call mk_44 mq_kp_refl rfl) (fun _ M2 hM2 => mq_K_ite (fun hc => mq_K_call mk_119_j54 hM2 rfl) (fun _ => mq_K_call mk_119_j54 hM2 rfl)))) (fun _ => mq_K_ret mq_kp_refl)
def mw_119_L17 : List (Nat × Option Nat) := [(1, some 2), (1, some 6)]
theorem mk_119_L17 {s : Int32 × Int32 × Int32} {M : mm_M} : mq_K mw_119_L17 M (mf_119_L17 s M) := by
  unfold mf_119_L17
  exact mq_K_L (fun s M h => mq_K_call mk_119_b17 h rfl) mq_kp_refl
def mw_119 : List (Nat × Option Nat) := [(1, some 2), (1, some 6)]
theorem mk_119 {v1 : Int32} {M : mm_M} : mq_K mw_119 M (mf_119 v1 M) := by
  unfold mf_119
  exact mq_K_ite (fun hc => mq_K_B (mq_K_call mk_119_L17 mq_kp_refl rfl) (fun _ M1 hM1 => mq_K_ret hM1)) (fun _ => mq_K_B (mq_K_call mk_119_L17 mq_kp_refl rfl) (fun _ M8 hM8 => mq_K_ret hM8))
-- 120: PlainPacks$Pieces.putPlain
def mw_120_b2 : List (Nat × Option Nat) := [(1, some 2), (1, some 6), (3, some 1), (3, some 2), (4, none)]
theorem mk_120_b2 {v1 : Int64} {v3 : Int64} {M : mm_M} : mq_K mw_120_b2 M (mf_120_b2 v1 v3 M) := by
  unfold mf_120_b2
  exact mq_K_ite (fun hc => mq_K_B (mq_K_call mk_44 mq_kp_refl rfl) (fun _ M2 hM2 => mq_K_B (mq_K_call mk_52 hM2 rfl) (fun _ M3 hM3 => mq_K_ret hM3))) (fun _ => mq_K_ret mq_kp_refl)
def mw_120_L2 : List (Nat × Option Nat) := [(1, some 2), (1, some 6), (3, some 1), (3, some 2), (4, none)]
theorem mk_120_L2 {v1 : Int64} {s : Int64} {M : mm_M} : mq_K mw_120_L2 M (mf_120_L2 v1 s M) := by
  unfold mf_120_L2
  exact mq_K_L (fun s M h => mq_K_call mk_120_b2 h rfl) mq_kp_refl
def mw_120 : List (Nat × Option Nat) := [(1, some 2), (1, some 6), (3, some 1), (3, some 2), (4, none)]
theorem mk_120 {v1 : Int64} {M : mm_M} : mq_K mw_120 M (mf_120 v1 M) := by
  unfold mf_120
  exact mq_K_B (mq_K_call mk_120_L2 mq_kp_refl rfl) (fun _ M1 hM1 => mq_K_ret hM1)
