/-! WHAT IS KEPT 1 -/
-- 39: PlainPacks$Source.add
def mw_39 : List (Nat × Option Nat) := [(1, some 1), (2, none)]
theorem mk_39_b3 {v1 : Int32} {v2 : Int32} {M0 M : mm_M} (h : mq_kp mw_39 M0 M) : mq_K mw_39 M0 (mf_39_b3 v1 v2 M) := by
  unfold mf_39_b3
  exact mq_K_ite (fun hc => mq_K_ret h) (fun _ => mq_K_ite (fun hc => mq_K_ite (fun hc => mq_K_ret (mq_kp_pi (mq_kp_pi h rfl) rfl)) (fun _ => mq_K_none)) (fun _ => mq_K_ret h))
theorem mk_39_L3 {v1 : Int32} {s : Int32} {M0 M : mm_M} (h : mq_kp mw_39 M0 M) : mq_K mw_39 M0 (mf_39_L3 v1 s M) := by
  unfold mf_39_L3
  exact mq_K_L (fun s M h => mk_39_b3 h) h
theorem mk_39 {v1 : Int32} {M : mm_M} : mq_K mw_39 M (mf_39 v1 M) := by
  unfold mf_39
  exact mq_K_B (mk_39_L3 mq_kp_refl) (fun _ M1 hM1 => mq_K_ret hM1)
-- 13: PlainPacks.feed
def mw_13 : List (Nat × Option Nat) := [(1, some 1), (2, none)]
theorem mk_13 {v1 : Int32} {v2 : Int32} {v3 : Int32} {v4 : Int32} {v5 : Int32} {M : mm_M} : mq_K mw_13 M (mf_13 v1 v2 v3 v4 v5 M) := by
  unfold mf_13
  exact mq_K_ite (fun hc => mq_K_ret (mq_kp_th mq_kp_refl)) (fun _ => mq_K_B (mq_K_call mk_39 mq_kp_refl rfl) (fun _ M1 hM1 => mq_K_B (mq_K_call mk_39 hM1 rfl) (fun _ M2 hM2 => mq_K_B (mq_K_call mk_39 hM2 rfl) (fun _ M3 hM3 => mq_K_B (mq_K_call mk_39 hM3 rfl) (fun _ M4 hM4 => mq_K_B (mq_K_call mk_39 hM4 rfl) (fun _ M5 hM5 => mq_K_ret hM5))))))
-- 174: PlainPacksModel.good
def mw_174 : List (Nat × Option Nat) := [(84, some 0)]
theorem mk_174 {v1 : Int32} {M : mm_M} : mq_K mw_174 M (mf_174 v1 M) := by
  unfold mf_174
  exact mq_K_ite (fun hc => mq_K_ite (fun hc => mq_K_ret (mq_kp_pi mq_kp_refl rfl)) (fun _ => mq_K_none)) (fun _ => mq_K_ite (fun hc => mq_K_ret (mq_kp_pi mq_kp_refl rfl)) (fun _ => mq_K_none))
-- 175: PlainPacksModel.feed
def mw_175 : List (Nat × Option Nat) := [(84, some 0), (84, some 2), (85, none)]
theorem mk_175_j83 {v1 : Int32} {v2 : Int32} {v3 : Int32} {v4 : Int32} {v5 : Int32} {v6 : Int32} {s0 : Int32} {M0 M : mm_M} (h : mq_kp mw_175 M0 M) : mq_K mw_175 M0 (mf_175_j83 v1 v2 v3 v4 v5 v6 s0 M) := by
  unfold mf_175_j83
  exact mq_K_ite (fun hc => mq_K_ret (mq_kp_pi (mq_kp_pi h rfl) rfl)) (fun _ => mq_K_none)
theorem mk_175_b30 {v1 : Int32} {v2 : Int32} {v3 : Int32} {v4 : Int32} {v5 : Int32} {v6 : Int32} {M0 M : mm_M} (h : mq_kp mw_175 M0 M) : mq_K mw_175 M0 (mf_175_b30 v1 v2 v3 v4 v5 v6 M) := by
  unfold mf_175_b30
  exact mq_K_ite (fun hc => mq_K_ite (fun hc => mk_175_j83 h) (fun _ => mq_K_ite (fun hc => mk_175_j83 h) (fun _ => mq_K_ite (fun hc => mk_175_j83 h) (fun _ => mq_K_ite (fun hc => mk_175_j83 h) (fun _ => mk_175_j83 h))))) (fun _ => mq_K_ret h)
theorem mk_175_L30 {v1 : Int32} {v2 : Int32} {v3 : Int32} {v4 : Int32} {v5 : Int32} {s : Int32} {M0 M : mm_M} (h : mq_kp mw_175 M0 M) : mq_K mw_175 M0 (mf_175_L30 v1 v2 v3 v4 v5 s M) := by
  unfold mf_175_L30
  exact mq_K_L (fun s M h => mk_175_b30 h) h
theorem mk_175_j19 {v1 : Int32} {v2 : Int32} {v3 : Int32} {v4 : Int32} {v5 : Int32} {s1 : Int32} {M0 M : mm_M} (h : mq_kp mw_175 M0 M) : mq_K mw_175 M0 (mf_175_j19 v1 v2 v3 v4 v5 s1 M) := by
  unfold mf_175_j19
  exact mq_K_B (mq_K_call mk_174 h rfl) (fun _ M2 hM2 => mq_K_ite (fun hc => mq_K_ret hM2) (fun _ => mq_K_B (mk_175_L30 hM2) (fun _ M3 hM3 => mq_K_ret hM3)))
theorem mk_175 {v1 : Int32} {v2 : Int32} {v3 : Int32} {v4 : Int32} {v5 : Int32} {M : mm_M} : mq_K mw_175 M (mf_175 v1 v2 v3 v4 v5 M) := by
  unfold mf_175
  exact mq_K_ite (fun hc => mk_175_j19 mq_kp_refl) (fun _ => mk_175_j19 mq_kp_refl)
-- 173: PlainPacksModel.thrown
def mw_173 : List (Nat × Option Nat) := []
theorem mk_173 {M : mm_M} : mq_K mw_173 M (mf_173 M) := by
  unfold mf_173
  exact mq_K_ret mq_kp_refl
-- 14: PlainPacks.end
def mw_14 : List (Nat × Option Nat) := [(1, some 1)]
theorem mk_14 {v1 : Int32} {M : mm_M} : mq_K mw_14 M (mf_14 v1 M) := by
  unfold mf_14
  exact mq_K_ite (fun hc => mq_K_ret (mq_kp_th mq_kp_refl)) (fun _ => mq_K_ite (fun hc => mq_K_ret (mq_kp_th mq_kp_refl)) (fun _ => mq_K_ret (mq_kp_pi mq_kp_refl rfl)))
-- 176: PlainPacksModel.end
def mw_176 : List (Nat × Option Nat) := [(84, some 0), (84, some 2)]
theorem mk_176_j18 {v1 : Int32} {s1 : Int32} {M0 M : mm_M} (h : mq_kp mw_176 M0 M) : mq_K mw_176 M0 (mf_176_j18 v1 s1 M) := by
  unfold mf_176_j18
  exact mq_K_B (mq_K_call mk_174 h rfl) (fun _ M2 hM2 => mq_K_ite (fun hc => mq_K_ret hM2) (fun _ => mq_K_ret (mq_kp_pi hM2 rfl)))
theorem mk_176_j17 {v1 : Int32} {M0 M : mm_M} (h : mq_kp mw_176 M0 M) : mq_K mw_176 M0 (mf_176_j17 v1 M) := by
  unfold mf_176_j17
  exact mk_176_j18 h
theorem mk_176 {v1 : Int32} {M : mm_M} : mq_K mw_176 M (mf_176 v1 M) := by
  unfold mf_176
  exact mq_K_ite (fun hc => mk_176_j17 mq_kp_refl) (fun _ => mq_K_ite (fun hc => mk_176_j17 mq_kp_refl) (fun _ => mk_176_j18 mq_kp_refl))
-- 15: PlainPacks.alter
def mw_15 : List (Nat × Option Nat) := [(2, none)]
theorem mk_15 {v1 : Int32} {v2 : Int32} {M : mm_M} : mq_K mw_15 M (mf_15 v1 v2 M) := by
  unfold mf_15
  exact mq_K_ite (fun hc => mq_K_ret (mq_kp_th mq_kp_refl)) (fun _ => mq_K_ite (fun hc => mq_K_ite (fun hc => mq_K_ite (fun hc => mq_K_ret (mq_kp_pi mq_kp_refl rfl)) (fun _ => mq_K_none)) (fun _ => mq_K_none)) (fun _ => mq_K_ret (mq_kp_th mq_kp_refl)))
-- 177: PlainPacksModel.alter
def mw_177 : List (Nat × Option Nat) := [(84, some 0), (85, none)]
theorem mk_177_j18 {v1 : Int32} {v2 : Int32} {s1 : Int32} {M0 M : mm_M} (h : mq_kp mw_177 M0 M) : mq_K mw_177 M0 (mf_177_j18 v1 v2 s1 M) := by
  unfold mf_177_j18
  exact mq_K_B (mq_K_call mk_174 h rfl) (fun _ M2 hM2 => mq_K_ite (fun hc => mq_K_ret hM2) (fun _ => mq_K_ite (fun hc => mq_K_ite (fun hc => mq_K_ret (mq_kp_pi hM2 rfl)) (fun _ => mq_K_none)) (fun _ => mq_K_none)))
theorem mk_177_j17 {v1 : Int32} {v2 : Int32} {M0 M : mm_M} (h : mq_kp mw_177 M0 M) : mq_K mw_177 M0 (mf_177_j17 v1 v2 M) := by
  unfold mf_177_j17
  exact mk_177_j18 h
theorem mk_177 {v1 : Int32} {v2 : Int32} {M : mm_M} : mq_K mw_177 M (mf_177 v1 v2 M) := by
  unfold mf_177
  exact mq_K_ite (fun hc => mk_177_j17 mq_kp_refl) (fun _ => mq_K_ite (fun hc => mk_177_j18 mq_kp_refl) (fun _ => mk_177_j17 mq_kp_refl))
-- 16: PlainPacks.turn
def mw_16 : List (Nat × Option Nat) := [(1, some 1), (2, none)]
theorem mk_16 {M : mm_M} : mq_K mw_16 M (mf_16 M) := by
  unfold mf_16
  exact mq_K_ite (fun hc => mq_K_ret (mq_kp_th mq_kp_refl)) (fun _ => mq_K_ite (fun hc => mq_K_ret (mq_kp_pi (mq_kp_cp mq_kp_refl rfl) rfl)) (fun _ => mq_K_none))
-- 178: PlainPacksModel.turn
def mw_178 : List (Nat × Option Nat) := [(84, some 0), (84, some 2), (85, none)]
theorem mk_178_b26 {v1 : Int32} {M0 M : mm_M} (h : mq_kp mw_178 M0 M) : mq_K mw_178 M0 (mf_178_b26 v1 M) := by
  unfold mf_178_b26
  exact mq_K_ite (fun hc => mq_K_ite (fun hc => mq_K_ite (fun hc => mq_K_ret (mq_kp_pi h rfl)) (fun _ => mq_K_none)) (fun _ => mq_K_none)) (fun _ => mq_K_ret h)
theorem mk_178_L26 {s : Int32} {M0 M : mm_M} (h : mq_kp mw_178 M0 M) : mq_K mw_178 M0 (mf_178_L26 s M) := by
  unfold mf_178_L26
  exact mq_K_L (fun s M h => mk_178_b26 h) h
theorem mk_178_j16 {s1 : Int32} {M0 M : mm_M} (h : mq_kp mw_178 M0 M) : mq_K mw_178 M0 (mf_178_j16 s1 M) := by
  unfold mf_178_j16
  exact mq_K_B (mq_K_call mk_174 h rfl) (fun _ M2 hM2 => mq_K_ite (fun hc => mq_K_ret hM2) (fun _ => mq_K_B (mk_178_L26 hM2) (fun _ M3 hM3 => mq_K_ret (mq_kp_pi hM3 rfl))))
theorem mk_178 {M : mm_M} : mq_K mw_178 M (mf_178 M) := by
  unfold mf_178
  exact mq_K_ite (fun hc => mk_178_j16 mq_kp_refl) (fun _ => mk_178_j16 mq_kp_refl)
-- 26: PlainPacks.needForm
def mw_26 : List (Nat × Option Nat) := []
theorem mk_26 {v0 : Int32} {M : mm_M} : mq_K mw_26 M (mf_26 v0 M) := by
  unfold mf_26
  exact mq_K_ite (fun hc => mq_K_ret (mq_kp_th mq_kp_refl)) (fun _ => mq_K_ite (fun hc => mq_K_ret (mq_kp_th mq_kp_refl)) (fun _ => mq_K_ret mq_kp_refl))
-- 40: PlainPacks$Source.start
def mw_40 : List (Nat × Option Nat) := [(1, some 2), (1, some 3), (1, some 4), (1, some 5), (1, some 6)]
theorem mk_40 {M : mm_M} : mq_K mw_40 M (mf_40 M) := by
  unfold mf_40
  exact mq_K_ret (mq_kp_pi (mq_kp_pi (mq_kp_pi (mq_kp_pi (mq_kp_pi mq_kp_refl rfl) rfl) rfl) rfl) rfl)
-- 49: PlainPacks$Sink.start
def mw_49 : List (Nat × Option Nat) := [(3, some 1), (3, some 2), (3, some 3), (3, some 4), (3, some 5), (3, some 6)]
theorem mk_49 {M : mm_M} : mq_K mw_49 M (mf_49 M) := by
  unfold mf_49
  exact mq_K_ret (mq_kp_pi (mq_kp_pi (mq_kp_pi (mq_kp_pi (mq_kp_pi (mq_kp_pi mq_kp_refl rfl) rfl) rfl) rfl) rfl) rfl)
-- 43: PlainPacks$Source.atEdge
def mw_43 : List (Nat × Option Nat) := []
theorem mk_43 {M : mm_M} : mq_K mw_43 M (mf_43 M) := by
  unfold mf_43
  exact mq_K_ite (fun hc => mq_K_ret mq_kp_refl) (fun _ => mq_K_ret mq_kp_refl)
-- 44: PlainPacks$Source.next
def mw_44 : List (Nat × Option Nat) := [(1, some 2), (1, some 6)]
theorem mk_44 {M : mm_M} : mq_K mw_44 M (mf_44 M) := by
  unfold mf_44
  exact mq_K_ite (fun hc => mq_K_ite (fun hc => mq_K_ret (mq_kp_pi (mq_kp_pi mq_kp_refl rfl) rfl)) (fun _ => mq_K_none)) (fun _ => mq_K_ret (mq_kp_th mq_kp_refl))
-- 51: PlainPacks$Sink.put
def mw_51 : List (Nat × Option Nat) := [(3, some 1), (4, none)]
theorem mk_51 {v1 : Int32} {M : mm_M} : mq_K mw_51 M (mf_51 v1 M) := by
  unfold mf_51
  exact mq_K_ite (fun hc => mq_K_ite (fun hc => mq_K_ret (mq_kp_pi (mq_kp_pi mq_kp_refl rfl) rfl)) (fun _ => mq_K_none)) (fun _ => mq_K_ret (mq_kp_th mq_kp_refl))
-- 117: PlainPacks$Pieces.readRuns
def mw_117 : List (Nat × Option Nat) := [(1, some 2), (1, some 6), (3, some 1), (4, none)]
theorem mk_117_b35 {v1 : Int32} {v2 : Int32} {v3 : Int32} {M0 M : mm_M} (h : mq_kp mw_117 M0 M) : mq_K mw_117 M0 (mf_117_b35 v1 v2 v3 M) := by
  unfold mf_117_b35
  exact mq_K_ite (fun hc => mq_K_ret h) (fun _ => mq_K_B (mq_K_call mk_44 h rfl) (fun _ M2 hM2 => mq_K_B (mq_K_call mk_51 hM2 rfl) (fun _ M3 hM3 => mq_K_ret hM3)))
theorem mk_117_L35 {v1 : Int32} {v2 : Int32} {s : Int32} {M0 M : mm_M} (h : mq_kp mw_117 M0 M) : mq_K mw_117 M0 (mf_117_L35 v1 v2 s M) := by
  unfold mf_117_L35
  exact mq_K_L (fun s M h => mk_117_b35 h) h
theorem mk_117_b81 {v1 : Int32} {v2 : Int32} {v3 : Int32} {v4 : Int32} {M0 M : mm_M} (h : mq_kp mw_117 M0 M) : mq_K mw_117 M0 (mf_117_b81 v1 v2 v3 v4 M) := by
  unfold mf_117_b81
  exact mq_K_ite (fun hc => mq_K_B (mq_K_call mk_51 h rfl) (fun _ M1 hM1 => mq_K_ret hM1)) (fun _ => mq_K_ret h)
theorem mk_117_L81 {v1 : Int32} {v2 : Int32} {v3 : Int32} {s : Int32} {M0 M : mm_M} (h : mq_kp mw_117 M0 M) : mq_K mw_117 M0 (mf_117_L81 v1 v2 v3 s M) := by
  unfold mf_117_L81
  exact mq_K_L (fun s M h => mk_117_b81 h) h
theorem mk_117_b2 {v1 : Int32} {M0 M : mm_M} (h : mq_kp mw_117 M0 M) : mq_K mw_117 M0 (mf_117_b2 v1 M) := by
  unfold mf_117_b2
  exact mq_K_ite (fun hc => mq_K_B (mq_K_call mk_43 h rfl) (fun _ M2 hM2 => mq_K_ite (fun hc => mq_K_B (mq_K_call mk_44 hM2 rfl) (fun _ M4 hM4 => mq_K_ite (fun hc => mq_K_B (mk_117_L35 hM4) (fun _ M5 hM5 => mq_K_ret hM5)) (fun _ => mq_K_ite (fun hc => mq_K_B (mq_K_call mk_44 hM4 rfl) (fun _ M11 hM11 => mq_K_B (mk_117_L81 hM11) (fun _ M12 hM12 => mq_K_ret hM12))) (fun _ => mq_K_ret hM4)))) (fun _ => mq_K_ret hM2))) (fun _ => mq_K_ret h)
theorem mk_117_L2 {s : Int32} {M0 M : mm_M} (h : mq_kp mw_117 M0 M) : mq_K mw_117 M0 (mf_117_L2 s M) := by
  unfold mf_117_L2
  exact mq_K_L (fun s M h => mk_117_b2 h) h
theorem mk_117 {M : mm_M} : mq_K mw_117 M (mf_117 M) := by
  unfold mf_117
  exact mq_K_B (mk_117_L2 mq_kp_refl) (fun _ M1 hM1 => mq_K_ret hM1)
-- 45: PlainPacks$Source.bit
def mw_45 : List (Nat × Option Nat) := [(1, some 2), (1, some 5), (1, some 6)]
theorem mk_45_j57 {M0 M : mm_M} (h : mq_kp mw_45 M0 M) : mq_K mw_45 M0 (mf_45_j57 M) := by
  unfold mf_45_j57
  exact mq_K_ite (fun hc => mq_K_ret (mq_kp_pi h rfl)) (fun _ => mq_K_ret (mq_kp_pi h rfl))
theorem mk_45 {M : mm_M} : mq_K mw_45 M (mf_45 M) := by
  unfold mf_45
  exact mq_K_ite (fun hc => mq_K_ite (fun hc => mq_K_ite (fun hc => mk_45_j57 (mq_kp_pi (mq_kp_pi (mq_kp_pi mq_kp_refl rfl) rfl) rfl)) (fun _ => mq_K_none)) (fun _ => mq_K_ret (mq_kp_th mq_kp_refl))) (fun _ => mk_45_j57 mq_kp_refl)
-- 46: PlainPacks$Source.bits
def mw_46 : List (Nat × Option Nat) := [(1, some 2), (1, some 5), (1, some 6)]
theorem mk_46_b5 {v1 : Int32} {v2 : Int64} {v4 : Int32} {M0 M : mm_M} (h : mq_kp mw_46 M0 M) : mq_K mw_46 M0 (mf_46_b5 v1 v2 v4 M) := by
  unfold mf_46_b5
  exact mq_K_ite (fun hc => mq_K_B (mq_K_call mk_45 h rfl) (fun _ M2 hM2 => mq_K_ite (fun hc => mq_K_ret hM2) (fun _ => mq_K_ret hM2))) (fun _ => mq_K_ret h)
theorem mk_46_L5 {v1 : Int32} {s : Int64 × Int32} {M0 M : mm_M} (h : mq_kp mw_46 M0 M) : mq_K mw_46 M0 (mf_46_L5 v1 s M) := by
  unfold mf_46_L5
  exact mq_K_L (fun s M h => mk_46_b5 h) h
theorem mk_46 {v1 : Int32} {M : mm_M} : mq_K mw_46 M (mf_46 v1 M) := by
  unfold mf_46
  exact mq_K_B (mk_46_L5 mq_kp_refl) (fun _ M1 hM1 => mq_K_ret hM1)
-- 27: PlainPacks.wrongIf
def mw_27 : List (Nat × Option Nat) := []
theorem mk_27 {v0 : Int32} {M : mm_M} : mq_K mw_27 M (mf_27 v0 M) := by
  unfold mf_27
  exact mq_K_ite (fun hc => mq_K_ret mq_kp_refl) (fun _ => mq_K_ret (mq_kp_th mq_kp_refl))
-- 47: PlainPacks$Source.low
def mw_47 : List (Nat × Option Nat) := [(1, some 2), (1, some 6)]
theorem mk_47_b5 {v1 : Int32} {v2 : Int64} {v4 : Int32} {M0 M : mm_M} (h : mq_kp mw_47 M0 M) : mq_K mw_47 M0 (mf_47_b5 v1 v2 v4 M) := by
  unfold mf_47_b5
  exact mq_K_ite (fun hc => mq_K_B (mq_K_call mk_44 h rfl) (fun _ M2 hM2 => mq_K_ret hM2)) (fun _ => mq_K_ret h)
theorem mk_47_L5 {v1 : Int32} {s : Int64 × Int32} {M0 M : mm_M} (h : mq_kp mw_47 M0 M) : mq_K mw_47 M0 (mf_47_L5 v1 s M) := by
  unfold mf_47_L5
  exact mq_K_L (fun s M h => mk_47_b5 h) h
theorem mk_47 {v1 : Int32} {M : mm_M} : mq_K mw_47 M (mf_47 v1 M) := by
  unfold mf_47
  exact mq_K_B (mk_47_L5 mq_kp_refl) (fun _ M1 hM1 => mq_K_ret hM1)
-- 52: PlainPacks$Sink.putPlain
def mw_52 : List (Nat × Option Nat) := [(3, some 1), (3, some 2), (4, none)]
theorem mk_52 {v1 : Int32} {M : mm_M} : mq_K mw_52 M (mf_52 v1 M) := by
  unfold mf_52
  exact mq_K_B (mq_K_call mk_51 mq_kp_refl rfl) (fun _ M1 hM1 => mq_K_ret (mq_kp_pi hM1 rfl))
-- 80: PlainPacks$Blocks.readPlain
def mw_80 : List (Nat × Option Nat) := [(1, some 2), (1, some 6), (3, some 1), (3, some 2), (4, none)]
theorem mk_80_b36 {v1 : Int32} {v2 : Int32} {M0 M : mm_M} (h : mq_kp mw_80 M0 M) : mq_K mw_80 M0 (mf_80_b36 v1 v2 M) := by
  unfold mf_80_b36
  exact mq_K_ite (fun hc => mq_K_B (mq_K_call mk_44 h rfl) (fun _ M2 hM2 => mq_K_B (mq_K_call mk_52 hM2 rfl) (fun _ M3 hM3 => mq_K_ret hM3))) (fun _ => mq_K_ret h)
theorem mk_80_L36 {v1 : Int32} {s : Int32} {M0 M : mm_M} (h : mq_kp mw_80 M0 M) : mq_K mw_80 M0 (mf_80_L36 v1 s M) := by
  unfold mf_80_L36
  exact mq_K_L (fun s M h => mk_80_b36 h) h
theorem mk_80_j31 {v1 : Int32} {s0 : Int32} {M0 M : mm_M} (h : mq_kp mw_80 M0 M) : mq_K mw_80 M0 (mf_80_j31 v1 s0 M) := by
  unfold mf_80_j31
  exact mq_K_B (mq_K_call mk_27 h rfl) (fun _ M1 hM1 => mq_K_B (mk_80_L36 hM1) (fun _ M2 hM2 => mq_K_ret hM2))
theorem mk_80 {M : mm_M} : mq_K mw_80 M (mf_80 M) := by
  unfold mf_80
  exact mq_K_B (mq_K_call mk_47 mq_kp_refl rfl) (fun _ M2 hM2 => mq_K_B (mq_K_call mk_47 hM2 rfl) (fun _ M4 hM4 => mq_K_ite (fun hc => mk_80_j31 hM4) (fun _ => mk_80_j31 hM4)))
-- 82: PlainPacks$Blocks.knownLength
def mw_82 : List (Nat × Option Nat) := []
theorem mk_82 {v0 : Int32} {M : mm_M} : mq_K mw_82 M (mf_82 v0 M) := by
  unfold mf_82
  exact mq_K_ite (fun hc => mq_K_ret mq_kp_refl) (fun _ => mq_K_ite (fun hc => mq_K_ret mq_kp_refl) (fun _ => mq_K_ite (fun hc => mq_K_ret mq_kp_refl) (fun _ => mq_K_ret mq_kp_refl)))
-- 290: java/util/Arrays.fill
def mw_290 (p : Nat) : List (Nat × Option Nat) := [(p, none)]
theorem mk_290_b5 {p : Nat} {n : Nat} {v1 : Int32} {v2 : Int32} {v3 : Int32} {M0 M : mm_M} (h : mq_kp (mw_290 p) M0 M) : mq_K (mw_290 p) M0 (mf_290_b5 p n v1 v2 v3 M) := by
  unfold mf_290_b5
  exact mq_K_ite (fun hc => mq_K_ite (fun hc => mq_K_ret (mq_kp_pi h (by simp [mq_ws, mw_290]))) (fun _ => mq_K_none)) (fun _ => mq_K_ret h)
theorem mk_290_L5 {p : Nat} {n : Nat} {v1 : Int32} {v3 : Int32} {s : Int32} {M0 M : mm_M} (h : mq_kp (mw_290 p) M0 M) : mq_K (mw_290 p) M0 (mf_290_L5 p n v1 v3 s M) := by
  unfold mf_290_L5
  exact mq_K_L (fun s M h => mk_290_b5 h) h
theorem mk_290 {p : Nat} {n : Nat} {v1 : Int32} {M : mm_M} : mq_K (mw_290 p) M (mf_290 p n v1 M) := by
  unfold mf_290
  exact mq_K_B (mk_290_L5 mq_kp_refl) (fun _ M1 hM1 => mq_K_ret hM1)
-- 99: PlainPacks$Codes.make
def mw_99 (p : Nat) : List (Nat × Option Nat) := [((p + 2), none), ((p + 3), none), ((p + 4), none), (p, some 4), (p, some 5)]
theorem mk_99_b30 {p : Nat} {n : Nat} {v2 : Int32} {v3 : Int32} {M0 M : mm_M} (h : mq_kp (mw_99 p) M0 M) : mq_K (mw_99 p) M0 (mf_99_b30 p n v2 v3 M) := by
  unfold mf_99_b30
  exact mq_K_ite (fun hc => mq_K_ite (fun hc => mq_K_ite (fun hc => mq_K_ite (fun hc => mq_K_ret h) (fun _ => mq_K_ite (fun hc => mq_K_ite (fun hc => mq_K_ret (mq_kp_pi (mq_kp_pi (mq_kp_pi h (by simp [mq_ws, mw_99])) (by simp [mq_ws, mw_99])) (by simp [mq_ws, mw_99]))) (fun _ => mq_K_none)) (fun _ => mq_K_none))) (fun _ => mq_K_ret h)) (fun _ => mq_K_none)) (fun _ => mq_K_ret h)
theorem mk_99_L30 {p : Nat} {n : Nat} {v2 : Int32} {s : Int32} {M0 M : mm_M} (h : mq_kp (mw_99 p) M0 M) : mq_K (mw_99 p) M0 (mf_99_L30 p n v2 s M) := by
  unfold mf_99_L30
  exact mq_K_L (fun s M h => mk_99_b30 h) h
theorem mk_99_j141 {p : Nat} {n : Nat} {v2 : Int32} {v3 : Int32} {s1 : Int32} {s2 : Int32} {s3 : Int32} {M0 M : mm_M} (h : mq_kp (mw_99 p) M0 M) : mq_K (mw_99 p) M0 (mf_99_j141 p n v2 v3 s1 s2 s3 M) := by
  unfold mf_99_j141
  exact mq_K_ite (fun hc => mq_K_ret (mq_kp_pi h (by simp [mq_ws, mw_99]))) (fun _ => mq_K_none)
theorem mk_99_b105 {p : Nat} {n : Nat} {v2 : Int32} {v3 : Int32} {M0 M : mm_M} (h : mq_kp (mw_99 p) M0 M) : mq_K (mw_99 p) M0 (mf_99_b105 p n v2 v3 M) := by
  unfold mf_99_b105
  exact mq_K_ite (fun hc => mq_K_ret h) (fun _ => mq_K_ite (fun hc => mq_K_ite (fun hc => mq_K_ite (fun hc => mk_99_j141 h) (fun _ => mq_K_none)) (fun _ => mk_99_j141 h)) (fun _ => mq_K_none))
theorem mk_99_L105 {p : Nat} {n : Nat} {v2 : Int32} {s : Int32} {M0 M : mm_M} (h : mq_kp (mw_99 p) M0 M) : mq_K (mw_99 p) M0 (mf_99_L105 p n v2 s M) := by
  unfold mf_99_L105
  exact mq_K_L (fun s M h => mk_99_b105 h) h
theorem mk_99_b151 {p : Nat} {n : Nat} {v2 : Int32} {v3 : Int32} {M0 M : mm_M} (h : mq_kp (mw_99 p) M0 M) : mq_K (mw_99 p) M0 (mf_99_b151 p n v2 v3 M) := by
  unfold mf_99_b151
  exact mq_K_ite (fun hc => mq_K_ite (fun hc => mq_K_ite (fun hc => mq_K_ite (fun hc => mq_K_ret h) (fun _ => mq_K_ite (fun hc => mq_K_ite (fun hc => mq_K_ite (fun hc => mq_K_ite (fun hc => mq_K_ret (mq_kp_pi (mq_kp_pi h (by simp [mq_ws, mw_99])) (by simp [mq_ws, mw_99]))) (fun _ => mq_K_none)) (fun _ => mq_K_none)) (fun _ => mq_K_none)) (fun _ => mq_K_none))) (fun _ => mq_K_ret h)) (fun _ => mq_K_none)) (fun _ => mq_K_ret h)
theorem mk_99_L151 {p : Nat} {n : Nat} {v2 : Int32} {s : Int32} {M0 M : mm_M} (h : mq_kp (mw_99 p) M0 M) : mq_K (mw_99 p) M0 (mf_99_L151 p n v2 s M) := by
  unfold mf_99_L151
  exact mq_K_L (fun s M h => mk_99_b151 h) h
theorem mk_99_j96 {p : Nat} {n : Nat} {v2 : Int32} {M0 M : mm_M} (h : mq_kp (mw_99 p) M0 M) : mq_K (mw_99 p) M0 (mf_99_j96 p n v2 M) := by
  unfold mf_99_j96
  exact mq_K_ite (fun hc => mq_K_B (mk_99_L105 (mq_kp_pi h (by simp [mq_ws, mw_99]))) (fun _ M1 hM1 => mq_K_B (mk_99_L151 hM1) (fun _ M6 hM6 => mq_K_ret hM6))) (fun _ => mq_K_none)
theorem mk_99 {p : Nat} {n : Nat} {v1 : Int32} {M : mm_M} : mq_K (mw_99 p) M (mf_99 p n v1 M) := by
  unfold mf_99
  exact mq_K_B (mq_K_call mk_290 mq_kp_refl (by simp [mq_sub, mw_290, mw_99])) (fun _ M1 hM1 => mq_K_B (mk_99_L30 (mq_kp_pi (mq_kp_pi hM1 (by simp [mq_ws, mw_99])) (by simp [mq_ws, mw_99]))) (fun _ M2 hM2 => mk_99_j96 hM2))
-- 81: PlainPacks$Blocks.setKnownCodes
def mw_81 : List (Nat × Option Nat) := [(17, some 4), (17, some 5), (18, none), (19, none), (20, none), (21, none), (22, some 4), (22, some 5), (23, none), (24, none), (25, none), (26, none)]
theorem mk_81_b2 {v1 : Int32} {M0 M : mm_M} (h : mq_kp mw_81 M0 M) : mq_K mw_81 M0 (mf_81_b2 v1 M) := by
  unfold mf_81_b2
  exact mq_K_ite (fun hc => mq_K_B (mq_K_call mk_82 h rfl) (fun _ M2 hM2 => mq_K_ite (fun hc => mq_K_ret (mq_kp_pi hM2 rfl)) (fun _ => mq_K_none))) (fun _ => mq_K_ret h)
theorem mk_81_L2 {s : Int32} {M0 M : mm_M} (h : mq_kp mw_81 M0 M) : mq_K mw_81 M0 (mf_81_L2 s M) := by
  unfold mf_81_L2
  exact mq_K_L (fun s M h => mk_81_b2 h) h
theorem mk_81_j28 {M0 M : mm_M} (h : mq_kp mw_81 M0 M) : mq_K mw_81 M0 (mf_81_j28 M) := by
  unfold mf_81_j28
  exact mq_K_B (mq_K_call mk_99 h rfl) (fun _ M1 hM1 => mq_K_B (mq_K_call mk_290 hM1 rfl) (fun _ M2 hM2 => mq_K_B (mq_K_call mk_99 hM2 rfl) (fun _ M3 hM3 => mq_K_ret hM3)))
theorem mk_81 {M : mm_M} : mq_K mw_81 M (mf_81 M) := by
  unfold mf_81
  exact mq_K_B (mk_81_L2 mq_kp_refl) (fun _ M1 hM1 => mk_81_j28 hM1)
-- 102: PlainPacks$Codes.isFullOrOne
def mw_102 (p : Nat) : List (Nat × Option Nat) := []
theorem mk_102 {p : Nat} {n : Nat} {M : mm_M} : mq_K (mw_102 p) M (mf_102 p n M) := by
  unfold mf_102
  exact mq_K_ite (fun hc => mq_K_ret mq_kp_refl) (fun _ => mq_K_ite (fun hc => mq_K_ite (fun hc => mq_K_ite (fun hc => mq_K_ret mq_kp_refl) (fun _ => mq_K_ret mq_kp_refl)) (fun _ => mq_K_none)) (fun _ => mq_K_ret mq_kp_refl))
-- 83: PlainPacks$Blocks.readRowCodes
def mw_83 : List (Nat × Option Nat) := [(1, some 2), (1, some 5), (1, some 6), (16, some 8), (16, some 9), (27, some 4), (27, some 5), (28, none), (29, none), (30, none), (31, none)]
theorem mk_83_b92 {v1 : Int32} {v2 : Int32} {M0 M : mm_M} (h : mq_kp mw_83 M0 M) : mq_K mw_83 M0 (mf_83_b92 v1 v2 M) := by
  unfold mf_83_b92
  exact mq_K_ite (fun hc => mq_K_ite (fun hc => mq_K_ite (fun hc => mq_K_B (mq_K_call mk_46 h rfl) (fun _ M2 hM2 => mq_K_ite (fun hc => mq_K_ret (mq_kp_pi hM2 rfl)) (fun _ => mq_K_none))) (fun _ => mq_K_none)) (fun _ => mq_K_ret h)) (fun _ => mq_K_ret h)
theorem mk_83_L92 {v1 : Int32} {s : Int32} {M0 M : mm_M} (h : mq_kp mw_83 M0 M) : mq_K mw_83 M0 (mf_83_L92 v1 s M) := by
  unfold mf_83_L92
  exact mq_K_L (fun s M h => mk_83_b92 h) h
theorem mk_83_j159 {s0 : Int32} {M0 M : mm_M} (h : mq_kp mw_83 M0 M) : mq_K mw_83 M0 (mf_83_j159 s0 M) := by
  unfold mf_83_j159
  exact mq_K_B (mq_K_call mk_27 h rfl) (fun _ M1 hM1 => mq_K_ret hM1)
theorem mk_83_j133 {M0 M : mm_M} (h : mq_kp mw_83 M0 M) : mq_K mw_83 M0 (mf_83_j133 M) := by
  unfold mf_83_j133
  exact mq_K_B (mq_K_call mk_99 h rfl) (fun _ M1 hM1 => mq_K_B (mq_K_call mk_102 hM1 rfl) (fun _ M3 hM3 => mq_K_ite (fun hc => mk_83_j159 hM3) (fun _ => mk_83_j159 hM3)))
theorem mk_83_j64 {s0 : Int32} {M0 M : mm_M} (h : mq_kp mw_83 M0 M) : mq_K mw_83 M0 (mf_83_j64 s0 M) := by
  unfold mf_83_j64
  exact mq_K_B (mq_K_call mk_27 h rfl) (fun _ M1 hM1 => mq_K_B (mq_K_call mk_46 hM1 rfl) (fun _ M3 hM3 => mq_K_B (mq_K_call mk_290 hM3 rfl) (fun _ M4 hM4 => mq_K_B (mk_83_L92 hM4) (fun _ M5 hM5 => mk_83_j133 hM5))))
theorem mk_83_j32 {s0 : Int32} {M0 M : mm_M} (h : mq_kp mw_83 M0 M) : mq_K mw_83 M0 (mf_83_j32 s0 M) := by
  unfold mf_83_j32
  exact mq_K_B (mq_K_call mk_27 h rfl) (fun _ M1 hM1 => mq_K_B (mq_K_call mk_46 hM1 rfl) (fun _ M3 hM3 => mq_K_ite (fun hc => mk_83_j64 (mq_kp_pi hM3 rfl)) (fun _ => mk_83_j64 (mq_kp_pi hM3 rfl))))
theorem mk_83 {M : mm_M} : mq_K mw_83 M (mf_83 M) := by
  unfold mf_83
  exact mq_K_B (mq_K_call mk_46 mq_kp_refl rfl) (fun _ M2 hM2 => mq_K_ite (fun hc => mk_83_j32 (mq_kp_pi hM2 rfl)) (fun _ => mk_83_j32 (mq_kp_pi hM2 rfl)))
-- 103: PlainPacks$Codes.take
def mw_103 (p : Nat) : List (Nat × Option Nat) := [(1, some 2), (1, some 5), (1, some 6)]
theorem mk_103_j97 {p : Nat} {n : Nat} {v2 : Int32} {v3 : Int32} {v4 : Int32} {v5 : Int32} {s0 : Int32} {M0 M : mm_M} (h : mq_kp (mw_103 p) M0 M) : mq_K (mw_103 p) M0 (mf_103_j97 p n v2 v3 v4 v5 s0 M) := by
  unfold mf_103_j97
  exact mq_K_B (mq_K_call mk_27 h (by simp [mq_sub, mw_27, mw_103])) (fun _ M1 hM1 => mq_K_ite (fun hc => mq_K_ite (fun hc => mq_K_ret hM1) (fun _ => mq_K_none)) (fun _ => mq_K_none))
theorem mk_103_j78 {p : Nat} {n : Nat} {v2 : Int32} {v3 : Int32} {v4 : Int32} {v5 : Int32} {M0 M : mm_M} (h : mq_kp (mw_103 p) M0 M) : mq_K (mw_103 p) M0 (mf_103_j78 p n v2 v3 v4 v5 M) := by
  unfold mf_103_j78
  exact mq_K_ite (fun hc => mk_103_j97 h) (fun _ => mk_103_j97 h)
theorem mk_103_b25 {p : Nat} {n : Nat} {v2 : Int32} {v3 : Int32} {v4 : Int32} {v5 : Int32} {M0 M : mm_M} (h : mq_kp (mw_103 p) M0 M) : mq_K (mw_103 p) M0 (mf_103_b25 p n v2 v3 v4 v5 M) := by
  unfold mf_103_b25
  exact mq_K_ite (fun hc => mq_K_ret (mq_kp_th h)) (fun _ => mq_K_B (mq_K_call mk_45 h (by simp [mq_sub, mw_45, mw_103])) (fun _ M2 hM2 => mq_K_ite (fun hc => mk_103_j78 hM2) (fun _ => mq_K_ite (fun hc => mq_K_ite (fun hc => mq_K_ret hM2) (fun _ => mk_103_j78 hM2)) (fun _ => mq_K_none))))
theorem mk_103_L25 {p : Nat} {n : Nat} {s : Int32 × Int32 × Int32 × Int32} {M0 M : mm_M} (h : mq_kp (mw_103 p) M0 M) : mq_K (mw_103 p) M0 (mf_103_L25 p n s M) := by
  unfold mf_103_L25
  exact mq_K_L (fun s M h => mk_103_b25 h) h
theorem mk_103_j67 {p : Nat} {n : Nat} {v4 : Int32} {v6 : Int32} {M0 M : mm_M} (h : mq_kp (mw_103 p) M0 M) : mq_K (mw_103 p) M0 (mf_103_j67 p n v4 v6 M) := by
  unfold mf_103_j67
  exact mq_K_ite (fun hc => mq_K_ret h) (fun _ => mq_K_none)
theorem mk_103_j12 {p : Nat} {n : Nat} {s0 : Int32} {M0 M : mm_M} (h : mq_kp (mw_103 p) M0 M) : mq_K (mw_103 p) M0 (mf_103_j12 p n s0 M) := by
  unfold mf_103_j12
  exact mq_K_B (mq_K_call mk_27 h (by simp [mq_sub, mw_27, mw_103])) (fun _ M1 hM1 => mq_K_B (mk_103_L25 hM1) (fun _ M2 hM2 => mk_103_j67 hM2))
theorem mk_103 {p : Nat} {n : Nat} {M : mm_M} : mq_K (mw_103 p) M (mf_103 p n M) := by
  unfold mf_103
  exact mq_K_ite (fun hc => mk_103_j12 mq_kp_refl) (fun _ => mk_103_j12 mq_kp_refl)
-- 84: PlainPacks$Blocks.readRow
def mw_84 : List (Nat × Option Nat) := [(1, some 2), (1, some 5), (1, some 6), (32, none)]
theorem mk_84_b151 {v1 : Int32} {v2 : Int32} {v4 : Int32} {v5 : Int32} {v6 : Int32} {M0 M : mm_M} (h : mq_kp mw_84 M0 M) : mq_K mw_84 M0 (mf_84_b151 v1 v2 v4 v5 v6 M) := by
  unfold mf_84_b151
  exact mq_K_ite (fun hc => mq_K_ite (fun hc => mq_K_ret (mq_kp_pi h rfl)) (fun _ => mq_K_none)) (fun _ => mq_K_ret h)
theorem mk_84_L151 {v1 : Int32} {v4 : Int32} {v5 : Int32} {s : Int32 × Int32} {M0 M : mm_M} (h : mq_kp mw_84 M0 M) : mq_K mw_84 M0 (mf_84_L151 v1 v4 v5 s M) := by
  unfold mf_84_L151
  exact mq_K_L (fun s M h => mk_84_b151 h) h
theorem mk_84_j145 {v1 : Int32} {v2 : Int32} {v4 : Int32} {v5 : Int32} {s0 : Int32} {M0 M : mm_M} (h : mq_kp mw_84 M0 M) : mq_K mw_84 M0 (mf_84_j145 v1 v2 v4 v5 s0 M) := by
  unfold mf_84_j145
  exact mq_K_B (mq_K_call mk_27 h rfl) (fun _ M1 hM1 => mq_K_B (mk_84_L151 hM1) (fun _ M2 hM2 => mq_K_ret hM2))
theorem mk_84_j132 {v1 : Int32} {v2 : Int32} {v4 : Int32} {v5 : Int32} {M0 M : mm_M} (h : mq_kp mw_84 M0 M) : mq_K mw_84 M0 (mf_84_j132 v1 v2 v4 v5 M) := by
  unfold mf_84_j132
  exact mq_K_ite (fun hc => mk_84_j145 h) (fun _ => mk_84_j145 h)
theorem mk_84_j60 {v1 : Int32} {v2 : Int32} {s0 : Int32} {M0 M : mm_M} (h : mq_kp mw_84 M0 M) : mq_K mw_84 M0 (mf_84_j60 v1 v2 s0 M) := by
  unfold mf_84_j60
  exact mq_K_B (mq_K_call mk_27 h rfl) (fun _ M1 hM1 => mq_K_ite (fun hc => mq_K_B (mq_K_call mk_46 hM1 rfl) (fun _ M3 hM3 => mk_84_j132 hM3)) (fun _ => mq_K_none))
theorem mk_84_j40 {v1 : Int32} {v2 : Int32} {v3 : Int32} {s0 : Int32} {M0 M : mm_M} (h : mq_kp mw_84 M0 M) : mq_K mw_84 M0 (mf_84_j40 v1 v2 v3 s0 M) := by
  unfold mf_84_j40
  exact mq_K_ite (fun hc => mq_K_ite (fun hc => mk_84_j60 h) (fun _ => mk_84_j60 h)) (fun _ => mq_K_ite (fun hc => mq_K_B (mq_K_call mk_46 h rfl) (fun _ M2 hM2 => mk_84_j132 hM2)) (fun _ => mq_K_ite (fun hc => mq_K_B (mq_K_call mk_46 h rfl) (fun _ M4 hM4 => mk_84_j132 hM4)) (fun _ => mk_84_j132 h)))
theorem mk_84_b12 {v1 : Int32} {v2 : Int32} {M0 M : mm_M} (h : mq_kp mw_84 M0 M) : mq_K mw_84 M0 (mf_84_b12 v1 v2 M) := by
  unfold mf_84_b12
  exact mq_K_ite (fun hc => mq_K_B (mq_K_call mk_103 h rfl) (fun _ M2 hM2 => mq_K_ite (fun hc => mk_84_j40 hM2) (fun _ => mk_84_j40 hM2))) (fun _ => mq_K_ret h)
theorem mk_84_L12 {v1 : Int32} {s : Int32} {M0 M : mm_M} (h : mq_kp mw_84 M0 M) : mq_K mw_84 M0 (mf_84_L12 v1 s M) := by
  unfold mf_84_L12
  exact mq_K_L (fun s M h => mk_84_b12 h) h
theorem mk_84 {M : mm_M} : mq_K mw_84 M (mf_84 M) := by
  unfold mf_84
  exact mq_K_B (mk_84_L12 mq_kp_refl) (fun _ M1 hM1 => mq_K_ret hM1)
-- 101: PlainPacks$Codes.isEmpty
def mw_101 (p : Nat) : List (Nat × Option Nat) := []
theorem mk_101 {p : Nat} {n : Nat} {M : mm_M} : mq_K (mw_101 p) M (mf_101 p n M) := by
  unfold mf_101
  exact mq_K_ite (fun hc => mq_K_ret mq_kp_refl) (fun _ => mq_K_ret mq_kp_refl)
-- 85: PlainPacks$Blocks.setRowCodes
def mw_85 : List (Nat × Option Nat) := [(17, some 4), (17, some 5), (18, none), (19, none), (20, none), (21, none), (22, some 4), (22, some 5), (23, none), (24, none), (25, none), (26, none)]
theorem mk_85_j130 {s0 : Int32} {M0 M : mm_M} (h : mq_kp mw_85 M0 M) : mq_K mw_85 M0 (mf_85_j130 s0 M) := by
  unfold mf_85_j130
  exact mq_K_B (mq_K_call mk_27 h rfl) (fun _ M1 hM1 => mq_K_ret hM1)
theorem mk_85_j129 {M0 M : mm_M} (h : mq_kp mw_85 M0 M) : mq_K mw_85 M0 (mf_85_j129 M) := by
  unfold mf_85_j129
  exact mk_85_j130 h
theorem mk_85_j102 {s0 : Int32} {M0 M : mm_M} (h : mq_kp mw_85 M0 M) : mq_K mw_85 M0 (mf_85_j102 s0 M) := by
  unfold mf_85_j102
  exact mq_K_B (mq_K_call mk_27 h rfl) (fun _ M1 hM1 => mq_K_B (mq_K_call mk_102 hM1 rfl) (fun _ M3 hM3 => mq_K_ite (fun hc => mq_K_B (mq_K_call mk_101 hM3 rfl) (fun _ M5 hM5 => mq_K_ite (fun hc => mk_85_j130 hM5) (fun _ => mk_85_j129 hM5))) (fun _ => mk_85_j129 hM3)))
theorem mk_85_j84 {s0 : Int32} {M0 M : mm_M} (h : mq_kp mw_85 M0 M) : mq_K mw_85 M0 (mf_85_j84 s0 M) := by
  unfold mf_85_j84
  exact mq_K_B (mq_K_call mk_27 h rfl) (fun _ M1 hM1 => mq_K_B (mq_K_call mk_102 hM1 rfl) (fun _ M3 hM3 => mq_K_ite (fun hc => mk_85_j102 hM3) (fun _ => mk_85_j102 hM3)))
theorem mk_85 {M : mm_M} : mq_K mw_85 M (mf_85 M) := by
  unfold mf_85
  exact mq_K_ite (fun hc => mq_K_ite (fun hc => mq_K_B (mq_K_call mk_99 (mq_kp_cp (mq_kp_cp mq_kp_refl rfl) rfl) rfl) (fun _ M1 hM1 => mq_K_B (mq_K_call mk_99 hM1 rfl) (fun _ M2 hM2 => mq_K_ite (fun hc => mq_K_ite (fun hc => mk_85_j84 hM2) (fun _ => mk_85_j84 hM2)) (fun _ => mq_K_none)))) (fun _ => mq_K_none)) (fun _ => mq_K_none)
-- 87: PlainPacks$Blocks.readLength
def mw_87 : List (Nat × Option Nat) := [(1, some 2), (1, some 5), (1, some 6)]
theorem mk_87 {v1 : Int32} {M : mm_M} : mq_K mw_87 M (mf_87 v1 M) := by
  unfold mf_87
  exact mq_K_ite (fun hc => mq_K_ret mq_kp_refl) (fun _ => mq_K_ite (fun hc => mq_K_ret mq_kp_refl) (fun _ => mq_K_B (mq_K_call mk_46 mq_kp_refl rfl) (fun _ M2 hM2 => mq_K_ret hM2)))
-- 88: PlainPacks$Blocks.readDistance
def mw_88 : List (Nat × Option Nat) := [(1, some 2), (1, some 5), (1, some 6)]
theorem mk_88_j23 {v1 : Int32} {s0 : Int32} {M0 M : mm_M} (h : mq_kp mw_88 M0 M) : mq_K mw_88 M0 (mf_88_j23 v1 s0 M) := by
  unfold mf_88_j23
  exact mq_K_B (mq_K_call mk_27 h rfl) (fun _ M1 hM1 => mq_K_ite (fun hc => mq_K_ret hM1) (fun _ => mq_K_B (mq_K_call mk_46 hM1 rfl) (fun _ M3 hM3 => mq_K_ret hM3)))
theorem mk_88 {M : mm_M} : mq_K mw_88 M (mf_88 M) := by
  unfold mf_88
  exact mq_K_B (mq_K_call mk_103 mq_kp_refl rfl) (fun _ M2 hM2 => mq_K_ite (fun hc => mk_88_j23 hM2) (fun _ => mk_88_j23 hM2))
-- 54: PlainPacks$Sink.repeat
def mw_54 : List (Nat × Option Nat) := [(3, some 1), (4, none)]
theorem mk_54_b22 {v1 : Int32} {v2 : Int32} {v3 : Int32} {M0 M : mm_M} (h : mq_kp mw_54 M0 M) : mq_K mw_54 M0 (mf_54_b22 v1 v2 v3 M) := by
  unfold mf_54_b22
  exact mq_K_ite (fun hc => mq_K_ite (fun hc => mq_K_B (mq_K_call mk_51 h rfl) (fun _ M1 hM1 => mq_K_ret hM1)) (fun _ => mq_K_none)) (fun _ => mq_K_ret h)
theorem mk_54_L22 {v1 : Int32} {v2 : Int32} {s : Int32} {M0 M : mm_M} (h : mq_kp mw_54 M0 M) : mq_K mw_54 M0 (mf_54_L22 v1 v2 s M) := by
  unfold mf_54_L22
  exact mq_K_L (fun s M h => mk_54_b22 h) h
theorem mk_54_j17 {v1 : Int32} {v2 : Int32} {s0 : Int32} {M0 M : mm_M} (h : mq_kp mw_54 M0 M) : mq_K mw_54 M0 (mf_54_j17 v1 v2 s0 M) := by
  unfold mf_54_j17
  exact mq_K_B (mq_K_call mk_27 h rfl) (fun _ M1 hM1 => mq_K_B (mk_54_L22 hM1) (fun _ M2 hM2 => mq_K_ret hM2))
theorem mk_54 {v1 : Int32} {v2 : Int32} {M : mm_M} : mq_K mw_54 M (mf_54 v1 v2 M) := by
  unfold mf_54
  exact mq_K_ite (fun hc => mk_54_j17 mq_kp_refl) (fun _ => mq_K_ite (fun hc => mk_54_j17 mq_kp_refl) (fun _ => mk_54_j17 mq_kp_refl))
-- 53: PlainPacks$Sink.copy
def mw_53 : List (Nat × Option Nat) := [(3, some 1), (3, some 3), (3, some 4), (3, some 5), (4, none)]
theorem mk_53_j21 {v1 : Int32} {v2 : Int64} {s0 : Int32} {M0 M : mm_M} (h : mq_kp mw_53 M0 M) : mq_K mw_53 M0 (mf_53_j21 v1 v2 s0 M) := by
  unfold mf_53_j21
  exact mq_K_B (mq_K_call mk_27 h rfl) (fun _ M1 hM1 => mq_K_B (mq_K_call mk_54 (mq_kp_pi (mq_kp_pi (mq_kp_pi hM1 rfl) rfl) rfl) rfl) (fun _ M2 hM2 => mq_K_ret hM2))
theorem mk_53 {v1 : Int32} {v2 : Int64} {M : mm_M} : mq_K mw_53 M (mf_53 v1 v2 M) := by
  unfold mf_53
  exact mq_K_ite (fun hc => mq_K_ite (fun hc => mk_53_j21 mq_kp_refl) (fun _ => mk_53_j21 mq_kp_refl)) (fun _ => mk_53_j21 mq_kp_refl)
-- 86: PlainPacks$Blocks.readLetters
def mw_86 : List (Nat × Option Nat) := [(1, some 2), (1, some 5), (1, some 6), (3, some 1), (3, some 2), (3, some 3), (3, some 4), (3, some 5), (4, none)]
theorem mk_86_j85 {v1 : Int32} {v2 : Int32} {v4 : Int32} {v5 : Int32} {s0 : Int32} {M0 M : mm_M} (h : mq_kp mw_86 M0 M) : mq_K mw_86 M0 (mf_86_j85 v1 v2 v4 v5 s0 M) := by
  unfold mf_86_j85
  exact mq_K_B (mq_K_call mk_27 h rfl) (fun _ M1 hM1 => mq_K_B (mq_K_call mk_53 hM1 rfl) (fun _ M2 hM2 => mq_K_ret hM2))
theorem mk_86_j58 {v1 : Int32} {v2 : Int32} {v3 : Int32} {s0 : Int32} {M0 M : mm_M} (h : mq_kp mw_86 M0 M) : mq_K mw_86 M0 (mf_86_j58 v1 v2 v3 s0 M) := by
  unfold mf_86_j58
  exact mq_K_B (mq_K_call mk_27 h rfl) (fun _ M1 hM1 => mq_K_B (mq_K_call mk_87 hM1 rfl) (fun _ M3 hM3 => mq_K_B (mq_K_call mk_88 hM3 rfl) (fun _ M5 hM5 => mq_K_ite (fun hc => mk_86_j85 hM5) (fun _ => mk_86_j85 hM5))))
theorem mk_86_b2 {v1 : Int32} {v2 : Int32} {M0 M : mm_M} (h : mq_kp mw_86 M0 M) : mq_K mw_86 M0 (mf_86_b2 v1 v2 M) := by
  unfold mf_86_b2
  exact mq_K_ite (fun hc => mq_K_B (mq_K_call mk_103 h rfl) (fun _ M2 hM2 => mq_K_ite (fun hc => mq_K_ret hM2) (fun _ => mq_K_ite (fun hc => mq_K_B (mq_K_call mk_52 hM2 rfl) (fun _ M3 hM3 => mq_K_ret hM3)) (fun _ => mq_K_ite (fun hc => mk_86_j58 hM2) (fun _ => mk_86_j58 hM2))))) (fun _ => mq_K_ret h)
theorem mk_86_L2 {v1 : Int32} {s : Int32} {M0 M : mm_M} (h : mq_kp mw_86 M0 M) : mq_K mw_86 M0 (mf_86_L2 v1 s M) := by
  unfold mf_86_L2
  exact mq_K_L (fun s M h => mk_86_b2 h) h
theorem mk_86 {v1 : Int32} {M : mm_M} : mq_K mw_86 M (mf_86 v1 M) := by
  unfold mf_86
  exact mq_K_B (mk_86_L2 mq_kp_refl) (fun _ M1 hM1 => mq_K_sm (fun _ => mq_K_ret hM1) (fun _ => mq_K_ret hM1))
-- 79: PlainPacks$Blocks.readBlocks
def mw_79 : List (Nat × Option Nat) := [(1, some 2), (1, some 5), (1, some 6), (3, some 1), (3, some 2), (3, some 3), (3, some 4), (3, some 5), (3, some 6), (4, none), (16, some 8), (16, some 9), (17, some 4), (17, some 5), (18, none), (19, none), (20, none), (21, none), (22, some 4), (22, some 5), (23, none), (24, none), (25, none), (26, none), (27, some 4), (27, some 5), (28, none), (29, none), (30, none), (31, none), (32, none)]
theorem mk_79_j106 {v1 : Int32} {v2 : Int32} {v3 : Int32} {M0 M : mm_M} (h : mq_kp mw_79 M0 M) : mq_K mw_79 M0 (mf_79_j106 v1 v2 v3 M) := by
  unfold mf_79_j106
  exact mq_K_B (mq_K_call mk_86 h rfl) (fun _ M1 hM1 => mq_K_ret hM1)
theorem mk_79_j53 {v1 : Int32} {v2 : Int32} {v3 : Int32} {v4 : Int32} {s0 : Int32} {M0 M : mm_M} (h : mq_kp mw_79 M0 M) : mq_K mw_79 M0 (mf_79_j53 v1 v2 v3 v4 s0 M) := by
  unfold mf_79_j53
  exact mq_K_B (mq_K_call mk_27 h rfl) (fun _ M1 hM1 => mq_K_ite (fun hc => mq_K_B (mq_K_call mk_80 (mq_kp_pi hM1 rfl) rfl) (fun _ M2 hM2 => mq_K_ret hM2)) (fun _ => mq_K_ite (fun hc => mq_K_B (mq_K_call mk_81 (mq_kp_pi hM1 rfl) rfl) (fun _ M3 hM3 => mk_79_j106 hM3)) (fun _ => mq_K_B (mq_K_call mk_83 (mq_kp_pi hM1 rfl) rfl) (fun _ M4 hM4 => mq_K_B (mq_K_call mk_84 hM4 rfl) (fun _ M5 hM5 => mq_K_B (mq_K_call mk_85 hM5 rfl) (fun _ M6 hM6 => mk_79_j106 hM6))))))
theorem mk_79_j30 {v1 : Int32} {v3 : Int32} {s0 : Int32} {M0 M : mm_M} (h : mq_kp mw_79 M0 M) : mq_K mw_79 M0 (mf_79_j30 v1 v3 s0 M) := by
  unfold mf_79_j30
  exact mq_K_B (mq_K_call mk_46 h rfl) (fun _ M2 hM2 => mq_K_ite (fun hc => mk_79_j53 hM2) (fun _ => mk_79_j53 hM2))
theorem mk_79_b4 {v1 : Int32} {v2 : Int32} {v3 : Int32} {M0 M : mm_M} (h : mq_kp mw_79 M0 M) : mq_K mw_79 M0 (mf_79_b4 v1 v2 v3 M) := by
  unfold mf_79_b4
  exact mq_K_ite (fun hc => mq_K_ite (fun hc => mq_K_B (mq_K_call mk_45 h rfl) (fun _ M2 hM2 => mq_K_ite (fun hc => mk_79_j30 hM2) (fun _ => mk_79_j30 hM2))) (fun _ => mq_K_ret h)) (fun _ => mq_K_ret h)
theorem mk_79_L4 {v1 : Int32} {s : Int32 × Int32} {M0 M : mm_M} (h : mq_kp mw_79 M0 M) : mq_K mw_79 M0 (mf_79_L4 v1 s M) := by
  unfold mf_79_L4
  exact mq_K_L (fun s M h => mk_79_b4 h) h
theorem mk_79 {v1 : Int32} {M : mm_M} : mq_K mw_79 M (mf_79 v1 M) := by
  unfold mf_79
  exact mq_K_B (mk_79_L4 mq_kp_refl) (fun _ M1 hM1 => mq_K_ret hM1)
-- 48: PlainPacks$Source.high
def mw_48 : List (Nat × Option Nat) := [(1, some 2), (1, some 6)]
theorem mk_48_b5 {v1 : Int32} {v2 : Int64} {v4 : Int32} {M0 M : mm_M} (h : mq_kp mw_48 M0 M) : mq_K mw_48 M0 (mf_48_b5 v1 v2 v4 M) := by
  unfold mf_48_b5
  exact mq_K_ite (fun hc => mq_K_B (mq_K_call mk_44 h rfl) (fun _ M2 hM2 => mq_K_ret hM2)) (fun _ => mq_K_ret h)
theorem mk_48_L5 {v1 : Int32} {s : Int64 × Int32} {M0 M : mm_M} (h : mq_kp mw_48 M0 M) : mq_K mw_48 M0 (mf_48_L5 v1 s M) := by
  unfold mf_48_L5
  exact mq_K_L (fun s M h => mk_48_b5 h) h
theorem mk_48 {v1 : Int32} {M : mm_M} : mq_K mw_48 M (mf_48 v1 M) := by
  unfold mf_48
  exact mq_K_B (mk_48_L5 mq_kp_refl) (fun _ M1 hM1 => mq_K_ret hM1)
-- 30: PlainPacks.adlerOf
def mw_30 (p : Nat) : List (Nat × Option Nat) := []
theorem mk_30_b8 {p : Nat} {n : Nat} {v2 : Int32} {v3 : Int32} {v4 : Int32} {v5 : Int32} {M0 M : mm_M} (h : mq_kp (mw_30 p) M0 M) : mq_K (mw_30 p) M0 (mf_30_b8 p n v2 v3 v4 v5 M) := by
  unfold mf_30_b8
  exact mq_K_ite (fun hc => mq_K_ite (fun hc => mq_K_ret h) (fun _ => mq_K_none)) (fun _ => mq_K_ret h)
theorem mk_30_L8 {p : Nat} {n : Nat} {v2 : Int32} {s : Int32 × Int32 × Int32} {M0 M : mm_M} (h : mq_kp (mw_30 p) M0 M) : mq_K (mw_30 p) M0 (mf_30_L8 p n v2 s M) := by
  unfold mf_30_L8
  exact mq_K_L (fun s M h => mk_30_b8 h) h
theorem mk_30 {p : Nat} {n : Nat} {v1 : Int32} {v2 : Int32} {M : mm_M} : mq_K (mw_30 p) M (mf_30 p n v1 v2 M) := by
  unfold mf_30
  exact mq_K_B (mk_30_L8 mq_kp_refl) (fun _ M1 hM1 => mq_K_ret hM1)
-- 75: PlainPacks$Blocks.readWrapped
def mw_75 : List (Nat × Option Nat) := [(1, some 2), (1, some 5), (1, some 6), (3, some 1), (3, some 2), (3, some 3), (3, some 4), (3, some 5), (3, some 6), (4, none), (16, some 8), (16, some 9), (17, some 4), (17, some 5), (18, none), (19, none), (20, none), (21, none), (22, some 4), (22, some 5), (23, none), (24, none), (25, none), (26, none), (27, some 4), (27, some 5), (28, none), (29, none), (30, none), (31, none), (32, none)]
theorem mk_75_j110 {s0 : Int32} {M0 M : mm_M} (h : mq_kp mw_75 M0 M) : mq_K mw_75 M0 (mf_75_j110 s0 M) := by
  unfold mf_75_j110
  exact mq_K_B (mq_K_call mk_27 h rfl) (fun _ M1 hM1 => mq_K_ret hM1)
theorem mk_75_j59 {v1 : Int32} {s0 : Int32} {M0 M : mm_M} (h : mq_kp mw_75 M0 M) : mq_K mw_75 M0 (mf_75_j59 v1 s0 M) := by
  unfold mf_75_j59
  exact mq_K_B (mq_K_call mk_27 h rfl) (fun _ M1 hM1 => mq_K_B (mq_K_call mk_79 hM1 rfl) (fun _ M2 hM2 => mq_K_B (mq_K_call mk_48 hM2 rfl) (fun _ M4 hM4 => mq_K_B (mq_K_call mk_30 hM4 rfl) (fun _ M6 hM6 => mq_K_ite (fun hc => mk_75_j110 hM6) (fun _ => mk_75_j110 hM6)))))
theorem mk_75 {M : mm_M} : mq_K mw_75 M (mf_75 M) := by
  unfold mf_75
  exact mq_K_B (mq_K_call mk_44 mq_kp_refl rfl) (fun _ M2 hM2 => mq_K_B (mq_K_call mk_44 hM2 rfl) (fun _ M4 hM4 => mq_K_ite (fun hc => mq_K_ite (fun hc => mk_75_j59 hM4) (fun _ => mq_K_ite (fun hc => mq_K_ite (fun hc => mk_75_j59 hM4) (fun _ => mk_75_j59 hM4)) (fun _ => mk_75_j59 hM4))) (fun _ => mk_75_j59 hM4)))
-- 77: PlainPacks$Blocks.passBytes
def mw_77 : List (Nat × Option Nat) := [(1, some 2), (1, some 6)]
theorem mk_77_b2 {v1 : Int32} {v2 : Int32} {M0 M : mm_M} (h : mq_kp mw_77 M0 M) : mq_K mw_77 M0 (mf_77_b2 v1 v2 M) := by
  unfold mf_77_b2
  exact mq_K_ite (fun hc => mq_K_B (mq_K_call mk_44 h rfl) (fun _ M2 hM2 => mq_K_ret hM2)) (fun _ => mq_K_ret h)
theorem mk_77_L2 {v1 : Int32} {s : Int32} {M0 M : mm_M} (h : mq_kp mw_77 M0 M) : mq_K mw_77 M0 (mf_77_L2 v1 s M) := by
  unfold mf_77_L2
  exact mq_K_L (fun s M h => mk_77_b2 h) h
theorem mk_77 {v1 : Int32} {M : mm_M} : mq_K mw_77 M (mf_77 v1 M) := by
  unfold mf_77
  exact mq_K_B (mk_77_L2 mq_kp_refl) (fun _ M1 hM1 => mq_K_ret hM1)
-- 78: PlainPacks$Blocks.passText
def mw_78 : List (Nat × Option Nat) := [(1, some 2), (1, some 6)]
theorem mk_78_b10 {v1 : Int32} {v2 : Int32} {M0 M : mm_M} (h : mq_kp mw_78 M0 M) : mq_K mw_78 M0 (mf_78_b10 v1 v2 M) := by
  unfold mf_78_b10
  exact mq_K_ite (fun hc => mq_K_ite (fun hc => mq_K_ret h) (fun _ => mq_K_B (mq_K_call mk_44 h rfl) (fun _ M2 hM2 => mq_K_ret hM2))) (fun _ => mq_K_ret h)
theorem mk_78_L10 {s : Int32 × Int32} {M0 M : mm_M} (h : mq_kp mw_78 M0 M) : mq_K mw_78 M0 (mf_78_L10 s M) := by
  unfold mf_78_L10
  exact mq_K_L (fun s M h => mk_78_b10 h) h
theorem mk_78 {M : mm_M} : mq_K mw_78 M (mf_78 M) := by
  unfold mf_78
  exact mq_K_B (mq_K_call mk_44 mq_kp_refl rfl) (fun _ M2 hM2 => mq_K_B (mk_78_L10 hM2) (fun _ M3 hM3 => mq_K_ret hM3))
-- 28: PlainPacks.crcOf
def mw_28 (p : Nat) : List (Nat × Option Nat) := []
theorem mk_28_b21 {p : Nat} {n : Nat} {v2 : Int32} {v3 : Int32} {v4 : Int32} {v5 : Int32} {M0 M : mm_M} (h : mq_kp (mw_28 p) M0 M) : mq_K (mw_28 p) M0 (mf_28_b21 p n v2 v3 v4 v5 M) := by
  unfold mf_28_b21
  exact mq_K_ite (fun hc => mq_K_ite (fun hc => mq_K_ret h) (fun _ => mq_K_ret h)) (fun _ => mq_K_ret h)
theorem mk_28_L21 {p : Nat} {n : Nat} {v2 : Int32} {v4 : Int32} {s : Int32 × Int32} {M0 M : mm_M} (h : mq_kp (mw_28 p) M0 M) : mq_K (mw_28 p) M0 (mf_28_L21 p n v2 v4 s M) := by
  unfold mf_28_L21
  exact mq_K_L (fun s M h => mk_28_b21 h) h
theorem mk_28_b5 {p : Nat} {n : Nat} {v2 : Int32} {v3 : Int32} {v4 : Int32} {M0 M : mm_M} (h : mq_kp (mw_28 p) M0 M) : mq_K (mw_28 p) M0 (mf_28_b5 p n v2 v3 v4 M) := by
  unfold mf_28_b5
  exact mq_K_ite (fun hc => mq_K_ite (fun hc => mq_K_B (mk_28_L21 h) (fun _ M1 hM1 => mq_K_ret hM1)) (fun _ => mq_K_none)) (fun _ => mq_K_ret h)
theorem mk_28_L5 {p : Nat} {n : Nat} {v2 : Int32} {s : Int32 × Int32} {M0 M : mm_M} (h : mq_kp (mw_28 p) M0 M) : mq_K (mw_28 p) M0 (mf_28_L5 p n v2 s M) := by
  unfold mf_28_L5
  exact mq_K_L (fun s M h => mk_28_b5 h) h
theorem mk_28 {p : Nat} {n : Nat} {v1 : Int32} {v2 : Int32} {M : mm_M} : mq_K (mw_28 p) M (mf_28 p n v1 v2 M) := by
  unfold mf_28
  exact mq_K_B (mk_28_L5 mq_kp_refl) (fun _ M1 hM1 => mq_K_ret hM1)
-- 76: PlainPacks$Blocks.readFile
def mw_76 : List (Nat × Option Nat) := [(1, some 2), (1, some 5), (1, some 6), (3, some 1), (3, some 2), (3, some 3), (3, some 4), (3, some 5), (3, some 6), (4, none), (16, some 8), (16, some 9), (17, some 4), (17, some 5), (18, none), (19, none), (20, none), (21, none), (22, some 4), (22, some 5), (23, none), (24, none), (25, none), (26, none), (27, some 4), (27, some 5), (28, none), (29, none), (30, none), (31, none), (32, none)]
theorem mk_76_j248 {s0 : Int32} {M0 M : mm_M} (h : mq_kp mw_76 M0 M) : mq_K mw_76 M0 (mf_76_j248 s0 M) := by
  unfold mf_76_j248
  exact mq_K_B (mq_K_call mk_27 h rfl) (fun _ M1 hM1 => mq_K_ret hM1)
theorem mk_76_j220 {s0 : Int32} {M0 M : mm_M} (h : mq_kp mw_76 M0 M) : mq_K mw_76 M0 (mf_76_j220 s0 M) := by
  unfold mf_76_j220
  exact mq_K_B (mq_K_call mk_27 h rfl) (fun _ M1 hM1 => mq_K_B (mq_K_call mk_47 hM1 rfl) (fun _ M3 hM3 => mq_K_ite (fun hc => mk_76_j248 hM3) (fun _ => mk_76_j248 hM3)))
theorem mk_76_j179 {M0 M : mm_M} (h : mq_kp mw_76 M0 M) : mq_K mw_76 M0 (mf_76_j179 M) := by
  unfold mf_76_j179
  exact mq_K_B (mq_K_call mk_79 h rfl) (fun _ M1 hM1 => mq_K_B (mq_K_call mk_47 hM1 rfl) (fun _ M3 hM3 => mq_K_B (mq_K_call mk_28 hM3 rfl) (fun _ M5 hM5 => mq_K_ite (fun hc => mk_76_j220 hM5) (fun _ => mk_76_j220 hM5))))
theorem mk_76_j176 {s0 : Int32} {M0 M : mm_M} (h : mq_kp mw_76 M0 M) : mq_K mw_76 M0 (mf_76_j176 s0 M) := by
  unfold mf_76_j176
  exact mq_K_B (mq_K_call mk_27 h rfl) (fun _ M1 hM1 => mk_76_j179 hM1)
theorem mk_76_j130 {v1 : Int32} {M0 M : mm_M} (h : mq_kp mw_76 M0 M) : mq_K mw_76 M0 (mf_76_j130 v1 M) := by
  unfold mf_76_j130
  exact mq_K_ite (fun hc => mk_76_j179 h) (fun _ => mq_K_B (mq_K_call mk_28 h rfl) (fun _ M2 hM2 => mq_K_B (mq_K_call mk_47 hM2 rfl) (fun _ M4 hM4 => mq_K_ite (fun hc => mk_76_j176 hM4) (fun _ => mk_76_j176 hM4))))
theorem mk_76_j119 {v1 : Int32} {M0 M : mm_M} (h : mq_kp mw_76 M0 M) : mq_K mw_76 M0 (mf_76_j119 v1 M) := by
  unfold mf_76_j119
  exact mq_K_ite (fun hc => mk_76_j130 h) (fun _ => mq_K_B (mq_K_call mk_78 h rfl) (fun _ M1 hM1 => mk_76_j130 hM1))
theorem mk_76_j108 {v1 : Int32} {M0 M : mm_M} (h : mq_kp mw_76 M0 M) : mq_K mw_76 M0 (mf_76_j108 v1 M) := by
  unfold mf_76_j108
  exact mq_K_ite (fun hc => mk_76_j119 h) (fun _ => mq_K_B (mq_K_call mk_78 h rfl) (fun _ M1 hM1 => mk_76_j119 hM1))
theorem mk_76_j80 {v1 : Int32} {s0 : Int32} {M0 M : mm_M} (h : mq_kp mw_76 M0 M) : mq_K mw_76 M0 (mf_76_j80 v1 s0 M) := by
  unfold mf_76_j80
  exact mq_K_B (mq_K_call mk_27 h rfl) (fun _ M1 hM1 => mq_K_B (mq_K_call mk_77 hM1 rfl) (fun _ M2 hM2 => mq_K_ite (fun hc => mk_76_j108 hM2) (fun _ => mq_K_B (mq_K_call mk_47 hM2 rfl) (fun _ M4 hM4 => mq_K_B (mq_K_call mk_77 hM4 rfl) (fun _ M5 hM5 => mk_76_j108 hM5)))))
theorem mk_76_j58 {s0 : Int32} {M0 M : mm_M} (h : mq_kp mw_76 M0 M) : mq_K mw_76 M0 (mf_76_j58 s0 M) := by
  unfold mf_76_j58
  exact mq_K_B (mq_K_call mk_27 h rfl) (fun _ M1 hM1 => mq_K_B (mq_K_call mk_44 hM1 rfl) (fun _ M3 hM3 => mq_K_ite (fun hc => mk_76_j80 hM3) (fun _ => mk_76_j80 hM3)))
theorem mk_76_j38 {s0 : Int32} {M0 M : mm_M} (h : mq_kp mw_76 M0 M) : mq_K mw_76 M0 (mf_76_j38 s0 M) := by
  unfold mf_76_j38
  exact mq_K_B (mq_K_call mk_27 h rfl) (fun _ M1 hM1 => mq_K_B (mq_K_call mk_44 hM1 rfl) (fun _ M3 hM3 => mq_K_ite (fun hc => mk_76_j58 hM3) (fun _ => mk_76_j58 hM3)))
theorem mk_76_j17 {s0 : Int32} {M0 M : mm_M} (h : mq_kp mw_76 M0 M) : mq_K mw_76 M0 (mf_76_j17 s0 M) := by
  unfold mf_76_j17
  exact mq_K_B (mq_K_call mk_27 h rfl) (fun _ M1 hM1 => mq_K_B (mq_K_call mk_44 hM1 rfl) (fun _ M3 hM3 => mq_K_ite (fun hc => mk_76_j38 hM3) (fun _ => mk_76_j38 hM3)))
theorem mk_76 {M : mm_M} : mq_K mw_76 M (mf_76 M) := by
  unfold mf_76
  exact mq_K_B (mq_K_call mk_44 mq_kp_refl rfl) (fun _ M2 hM2 => mq_K_ite (fun hc => mk_76_j17 hM2) (fun _ => mk_76_j17 hM2))
-- 34: PlainPacks.topBit
def mw_34 : List (Nat × Option Nat) := []
theorem mk_34_b6 {v1 : Int32} {v2 : Int32} {M0 M : mm_M} (h : mq_kp mw_34 M0 M) : mq_K mw_34 M0 (mf_34_b6 v1 v2 M) := by
  unfold mf_34_b6
  exact mq_K_ite (fun hc => mq_K_ret h) (fun _ => mq_K_ret h)
theorem mk_34_L6 {s : Int32 × Int32} {M0 M : mm_M} (h : mq_kp mw_34 M0 M) : mq_K mw_34 M0 (mf_34_L6 s M) := by
  unfold mf_34_L6
  exact mq_K_L (fun s M h => mk_34_b6 h) h
theorem mk_34 {v0 : Int32} {M : mm_M} : mq_K mw_34 M (mf_34 v0 M) := by
  unfold mf_34
  exact mq_K_B (mk_34_L6 mq_kp_refl) (fun _ M1 hM1 => mq_K_ret hM1)
-- 105: PlainPacks$Words.forget
def mw_105 : List (Nat × Option Nat) := [(35, some 9), (35, some 10), (35, some 12)]
theorem mk_105 {M : mm_M} : mq_K mw_105 M (mf_105 M) := by
  unfold mf_105
  exact mq_K_B (mq_K_call mk_34 mq_kp_refl rfl) (fun _ M2 hM2 => mq_K_ret (mq_kp_pi (mq_kp_pi (mq_kp_pi hM2 rfl) rfl) rfl))
-- 104: PlainPacks$Words.begin
def mw_104 : List (Nat × Option Nat) := [(35, some 8), (35, some 9), (35, some 10), (35, some 11), (35, some 12)]
theorem mk_104 {v1 : Int32} {v2 : Int32} {M : mm_M} : mq_K mw_104 M (mf_104 v1 v2 M) := by
  unfold mf_104
  exact mq_K_B (mq_K_call mk_105 (mq_kp_pi (mq_kp_pi mq_kp_refl rfl) rfl) rfl) (fun _ M1 hM1 => mq_K_ret hM1)
-- 110: PlainPacks$Words.tellWord
def mw_110 : List (Nat × Option Nat) := [(35, some 10), (35, some 12), (36, none), (37, none)]
theorem mk_110 {M : mm_M} : mq_K mw_110 M (mf_110 M) := by
  unfold mf_110
  exact mq_K_ite (fun hc => mq_K_ite (fun hc => mq_K_ite (fun hc => mq_K_ite (fun hc => mq_K_ret (mq_kp_pi (mq_kp_pi (mq_kp_pi (mq_kp_pi mq_kp_refl rfl) rfl) rfl) rfl)) (fun _ => mq_K_none)) (fun _ => mq_K_none)) (fun _ => mq_K_ret (mq_kp_pi mq_kp_refl rfl))) (fun _ => mq_K_ret (mq_kp_pi mq_kp_refl rfl))
-- 111: PlainPacks$Words.putWord
def mw_111 : List (Nat × Option Nat) := [(3, some 1), (4, none), (35, some 13), (35, some 14)]
theorem mk_111 {v1 : Int32} {M : mm_M} : mq_K mw_111 M (mf_111 v1 M) := by
  unfold mf_111
  exact mq_K_ite (fun hc => mq_K_B (mq_K_call mk_51 mq_kp_refl rfl) (fun _ M1 hM1 => mq_K_ret (mq_kp_pi (mq_kp_pi hM1 rfl) rfl))) (fun _ => mq_K_ite (fun hc => mq_K_ite (fun hc => mq_K_B (mq_K_call mk_54 mq_kp_refl rfl) (fun _ M2 hM2 => mq_K_ite (fun hc => mq_K_ret (mq_kp_pi (mq_kp_pi hM2 rfl) rfl)) (fun _ => mq_K_none))) (fun _ => mq_K_none)) (fun _ => mq_K_none))
-- 106: PlainPacks$Words.widen
def mw_106 : List (Nat × Option Nat) := [(35, some 9)]
theorem mk_106 {M : mm_M} : mq_K mw_106 M (mf_106 M) := by
  unfold mf_106
  exact mq_K_ite (fun hc => mq_K_ite (fun hc => mq_K_ret mq_kp_refl) (fun _ => mq_K_ret (mq_kp_pi mq_kp_refl rfl))) (fun _ => mq_K_ret mq_kp_refl)
-- 109: PlainPacks$Words.readCodes
def mw_109 : List (Nat × Option Nat) := [(1, some 2), (1, some 5), (1, some 6), (3, some 1), (4, none), (35, some 9), (35, some 10), (35, some 12), (35, some 13), (35, some 14), (36, none), (37, none)]
theorem mk_109_j64 {v1 : Int32} {v2 : Int32} {s0 : Int32} {M0 M : mm_M} (h : mq_kp mw_109 M0 M) : mq_K mw_109 M0 (mf_109_j64 v1 v2 s0 M) := by
  unfold mf_109_j64
  exact mq_K_B (mq_K_call mk_27 h rfl) (fun _ M1 hM1 => mq_K_B (mq_K_call mk_111 hM1 rfl) (fun _ M2 hM2 => mq_K_B (mq_K_call mk_106 hM2 rfl) (fun _ M3 hM3 => mq_K_ret hM3)))
theorem mk_109_b2 {v1 : Int32} {M0 M : mm_M} (h : mq_kp mw_109 M0 M) : mq_K mw_109 M0 (mf_109_b2 v1 M) := by
  unfold mf_109_b2
  exact mq_K_ite (fun hc => mq_K_B (mq_K_call mk_46 h rfl) (fun _ M2 hM2 => mq_K_ite (fun hc => mq_K_ret hM2) (fun _ => mq_K_ite (fun hc => mq_K_B (mq_K_call mk_105 hM2 rfl) (fun _ M3 hM3 => mq_K_ret hM3)) (fun _ => mq_K_B (mq_K_call mk_110 hM2 rfl) (fun _ M4 hM4 => mq_K_ite (fun hc => mk_109_j64 hM4) (fun _ => mk_109_j64 hM4)))))) (fun _ => mq_K_ret h)
theorem mk_109_L2 {s : Int32} {M0 M : mm_M} (h : mq_kp mw_109 M0 M) : mq_K mw_109 M0 (mf_109_L2 s M) := by
  unfold mf_109_L2
  exact mq_K_L (fun s M h => mk_109_b2 h) h
theorem mk_109 {M : mm_M} : mq_K mw_109 M (mf_109 M) := by
  unfold mf_109
  exact mq_K_B (mk_109_L2 mq_kp_refl) (fun _ M1 hM1 => mq_K_sm (fun _ => mq_K_ret hM1) (fun _ => mq_K_ret hM1))
-- 107: PlainPacks$Words.readLow
def mw_107 : List (Nat × Option Nat) := [(1, some 2), (1, some 5), (1, some 6), (3, some 1), (4, none), (35, some 8), (35, some 9), (35, some 10), (35, some 11), (35, some 12), (35, some 13), (35, some 14), (36, none), (37, none)]
theorem mk_107_j24 {v1 : Int32} {s0 : Int32} {M0 M : mm_M} (h : mq_kp mw_107 M0 M) : mq_K mw_107 M0 (mf_107_j24 v1 s0 M) := by
  unfold mf_107_j24
  exact mq_K_B (mq_K_call mk_27 h rfl) (fun _ M1 hM1 => mq_K_B (mq_K_call mk_104 hM1 rfl) (fun _ M2 hM2 => mq_K_B (mq_K_call mk_109 hM2 rfl) (fun _ M3 hM3 => mq_K_ret hM3)))
theorem mk_107 {M : mm_M} : mq_K mw_107 M (mf_107 M) := by
  unfold mf_107
  exact mq_K_B (mq_K_call mk_44 mq_kp_refl rfl) (fun _ M2 hM2 => mq_K_ite (fun hc => mk_107_j24 hM2) (fun _ => mq_K_ite (fun hc => mk_107_j24 hM2) (fun _ => mk_107_j24 hM2)))
-- 108: PlainPacks$Words.readHigh
def mw_108 : List (Nat × Option Nat) := [(1, some 2), (1, some 4), (1, some 5), (1, some 6), (3, some 1), (4, none), (35, some 8), (35, some 9), (35, some 10), (35, some 11), (35, some 12), (35, some 13), (35, some 14), (36, none), (37, none)]
theorem mk_108 {M : mm_M} : mq_K mw_108 M (mf_108 M) := by
  unfold mf_108
  exact mq_K_B (mq_K_call mk_104 (mq_kp_pi mq_kp_refl rfl) rfl) (fun _ M1 hM1 => mq_K_B (mq_K_call mk_109 hM1 rfl) (fun _ M2 hM2 => mq_K_ret hM2))
-- 119: PlainPacks$Pieces.readMore
def mw_119 : List (Nat × Option Nat) := [(1, some 2), (1, some 6)]
theorem mk_119_j54 {v2 : Int32} {v4 : Int32} {v5 : Int32} {s0 : Int32} {M0 M : mm_M} (h : mq_kp mw_119 M0 M) : mq_K mw_119 M0 (mf_119_j54 v2 v4 v5 s0 M) := by
  unfold mf_119_j54
  exact mq_K_B (mq_K_call mk_27 h rfl) (fun _ M1 hM1 => mq_K_ite (fun hc => mq_K_ret hM1) (fun _ => mq_K_ret hM1))
theorem mk_119_b17 {v2 : Int32} {v3 : Int32} {v4 : Int32} {M0 M : mm_M} (h : mq_kp mw_119 M0 M) : mq_K mw_119 M0 (mf_119_b17 v2 v3 v4 M) := by
  unfold mf_119_b17
  exact mq_K_ite (fun hc => mq_K_ite (fun hc => mq_K_ret h) (fun _ => mq_K_B (mq_K_call mk_44 h rfl) (fun _ M2 hM2 => mq_K_ite (fun hc => mk_119_j54 hM2) (fun _ => mk_119_j54 hM2)))) (fun _ => mq_K_ret h)
theorem mk_119_L17 {s : Int32 × Int32 × Int32} {M0 M : mm_M} (h : mq_kp mw_119 M0 M) : mq_K mw_119 M0 (mf_119_L17 s M) := by
  unfold mf_119_L17
  exact mq_K_L (fun s M h => mk_119_b17 h) h
theorem mk_119 {v1 : Int32} {M : mm_M} : mq_K mw_119 M (mf_119 v1 M) := by
  unfold mf_119
  exact mq_K_ite (fun hc => mq_K_B (mk_119_L17 mq_kp_refl) (fun _ M1 hM1 => mq_K_ret hM1)) (fun _ => mq_K_B (mk_119_L17 mq_kp_refl) (fun _ M8 hM8 => mq_K_ret hM8))
-- 120: PlainPacks$Pieces.putPlain
def mw_120 : List (Nat × Option Nat) := [(1, some 2), (1, some 6), (3, some 1), (3, some 2), (4, none)]
theorem mk_120_b2 {v1 : Int64} {v3 : Int64} {M0 M : mm_M} (h : mq_kp mw_120 M0 M) : mq_K mw_120 M0 (mf_120_b2 v1 v3 M) := by
  unfold mf_120_b2
  exact mq_K_ite (fun hc => mq_K_B (mq_K_call mk_44 h rfl) (fun _ M2 hM2 => mq_K_B (mq_K_call mk_52 hM2 rfl) (fun _ M3 hM3 => mq_K_ret hM3))) (fun _ => mq_K_ret h)
theorem mk_120_L2 {v1 : Int64} {s : Int64} {M0 M : mm_M} (h : mq_kp mw_120 M0 M) : mq_K mw_120 M0 (mf_120_L2 v1 s M) := by
  unfold mf_120_L2
  exact mq_K_L (fun s M h => mk_120_b2 h) h
theorem mk_120 {v1 : Int64} {M : mm_M} : mq_K mw_120 M (mf_120 v1 M) := by
  unfold mf_120
  exact mq_K_B (mk_120_L2 mq_kp_refl) (fun _ M1 hM1 => mq_K_ret hM1)
-- 118: PlainPacks$Pieces.readPieces
def mw_118 : List (Nat × Option Nat) := [(1, some 2), (1, some 6), (3, some 1), (3, some 2), (3, some 3), (3, some 4), (3, some 5), (4, none)]
theorem mk_118_j74 {v1 : Int32} {v2 : Int32} {v3 : Int32} {v4 : Int32} {s0 : Int32} {M0 M : mm_M} (h : mq_kp mw_118 M0 M) : mq_K mw_118 M0 (mf_118_j74 v1 v2 v3 v4 s0 M) := by
  unfold mf_118_j74
  exact mq_K_B (mq_K_call mk_27 h rfl) (fun _ M1 hM1 => mq_K_B (mq_K_call mk_119 hM1 rfl) (fun _ M3 hM3 => mq_K_B (mq_K_call mk_53 hM3 rfl) (fun _ M4 hM4 => mq_K_ret hM4)))
theorem mk_118_b2 {v1 : Int32} {v2 : Int32} {M0 M : mm_M} (h : mq_kp mw_118 M0 M) : mq_K mw_118 M0 (mf_118_b2 v1 v2 M) := by
  unfold mf_118_b2
  exact mq_K_ite (fun hc => mq_K_B (mq_K_call mk_44 h rfl) (fun _ M2 hM2 => mq_K_B (mq_K_call mk_119 hM2 rfl) (fun _ M4 hM4 => mq_K_B (mq_K_call mk_120 hM4 rfl) (fun _ M5 hM5 => mq_K_B (mq_K_call mk_43 hM5 rfl) (fun _ M7 hM7 => mq_K_ite (fun hc => mq_K_B (mq_K_call mk_47 hM7 rfl) (fun _ M9 hM9 => mq_K_ite (fun hc => mk_118_j74 hM9) (fun _ => mq_K_ite (fun hc => mk_118_j74 hM9) (fun _ => mk_118_j74 hM9)))) (fun _ => mq_K_ret hM7)))))) (fun _ => mq_K_ret h)
theorem mk_118_L2 {v1 : Int32} {s : Int32} {M0 M : mm_M} (h : mq_kp mw_118 M0 M) : mq_K mw_118 M0 (mf_118_L2 v1 s M) := by
  unfold mf_118_L2
  exact mq_K_L (fun s M h => mk_118_b2 h) h
theorem mk_118 {v1 : Int32} {M : mm_M} : mq_K mw_118 M (mf_118 v1 M) := by
  unfold mf_118
  exact mq_K_B (mk_118_L2 mq_kp_refl) (fun _ M1 hM1 => mq_K_sm (fun _ => mq_K_ret hM1) (fun _ => mq_K_ret hM1))
-- 33: PlainPacks.lowWord
def mw_33 (p : Nat) : List (Nat × Option Nat) := []
theorem mk_33 {p : Nat} {n : Nat} {v1 : Int32} {M : mm_M} : mq_K (mw_33 p) M (mf_33 p n v1 M) := by
  unfold mf_33
  exact mq_K_ite (fun hc => mq_K_ite (fun hc => mq_K_ite (fun hc => mq_K_ite (fun hc => mq_K_ret mq_kp_refl) (fun _ => mq_K_none)) (fun _ => mq_K_none)) (fun _ => mq_K_none)) (fun _ => mq_K_none)
-- 32: PlainPacks.turnedLeft
def mw_32 : List (Nat × Option Nat) := []
theorem mk_32 {v0 : Int32} {v1 : Int32} {M : mm_M} : mq_K mw_32 M (mf_32 v0 v1 M) := by
  unfold mf_32
  exact mq_K_ret mq_kp_refl
-- 31: PlainPacks.xxOf
def mw_31 (p : Nat) : List (Nat × Option Nat) := []
theorem mk_31_b187 {p : Nat} {n : Nat} {v2 : Int32} {v3 : Int32} {v4 : Int32} {M0 M : mm_M} (h : mq_kp (mw_31 p) M0 M) : mq_K (mw_31 p) M0 (mf_31_b187 p n v2 v3 v4 M) := by
  unfold mf_31_b187
  exact mq_K_ite (fun hc => mq_K_ret h) (fun _ => mq_K_B (mq_K_call mk_33 h (by simp [mq_sub, mw_33, mw_31])) (fun _ M2 hM2 => mq_K_B (mq_K_call mk_32 hM2 (by simp [mq_sub, mw_32, mw_31])) (fun _ M4 hM4 => mq_K_ret hM4)))
theorem mk_31_L187 {p : Nat} {n : Nat} {v2 : Int32} {s : Int32 × Int32} {M0 M : mm_M} (h : mq_kp (mw_31 p) M0 M) : mq_K (mw_31 p) M0 (mf_31_L187 p n v2 s M) := by
  unfold mf_31_L187
  exact mq_K_L (fun s M h => mk_31_b187 h) h
theorem mk_31_b223 {p : Nat} {n : Nat} {v2 : Int32} {v3 : Int32} {v4 : Int32} {M0 M : mm_M} (h : mq_kp (mw_31 p) M0 M) : mq_K (mw_31 p) M0 (mf_31_b223 p n v2 v3 v4 M) := by
  unfold mf_31_b223
  exact mq_K_ite (fun hc => mq_K_ite (fun hc => mq_K_B (mq_K_call mk_32 h (by simp [mq_sub, mw_32, mw_31])) (fun _ M2 hM2 => mq_K_ret hM2)) (fun _ => mq_K_none)) (fun _ => mq_K_ret h)
theorem mk_31_L223 {p : Nat} {n : Nat} {v2 : Int32} {s : Int32 × Int32} {M0 M : mm_M} (h : mq_kp (mw_31 p) M0 M) : mq_K (mw_31 p) M0 (mf_31_L223 p n v2 s M) := by
  unfold mf_31_L223
  exact mq_K_L (fun s M h => mk_31_b223 h) h
theorem mk_31_j255 {p : Nat} {n : Nat} {v4 : Int32} {M0 M : mm_M} (h : mq_kp (mw_31 p) M0 M) : mq_K (mw_31 p) M0 (mf_31_j255 p n v4 M) := by
  unfold mf_31_j255
  exact mq_K_ret h
theorem mk_31_b33 {p : Nat} {n : Nat} {v1 : Int32} {v2 : Int32} {v3 : Int32} {v5 : Int32} {v6 : Int32} {v7 : Int32} {v8 : Int32} {M0 M : mm_M} (h : mq_kp (mw_31 p) M0 M) : mq_K (mw_31 p) M0 (mf_31_b33 p n v1 v2 v3 v5 v6 v7 v8 M) := by
  unfold mf_31_b33
  exact mq_K_ite (fun hc => mq_K_ret h) (fun _ => mq_K_B (mq_K_call mk_33 h (by simp [mq_sub, mw_33, mw_31])) (fun _ M2 hM2 => mq_K_B (mq_K_call mk_32 hM2 (by simp [mq_sub, mw_32, mw_31])) (fun _ M4 hM4 => mq_K_B (mq_K_call mk_33 hM4 (by simp [mq_sub, mw_33, mw_31])) (fun _ M6 hM6 => mq_K_B (mq_K_call mk_32 hM6 (by simp [mq_sub, mw_32, mw_31])) (fun _ M8 hM8 => mq_K_B (mq_K_call mk_33 hM8 (by simp [mq_sub, mw_33, mw_31])) (fun _ M10 hM10 => mq_K_B (mq_K_call mk_32 hM10 (by simp [mq_sub, mw_32, mw_31])) (fun _ M12 hM12 => mq_K_B (mq_K_call mk_33 hM12 (by simp [mq_sub, mw_33, mw_31])) (fun _ M14 hM14 => mq_K_B (mq_K_call mk_32 hM14 (by simp [mq_sub, mw_32, mw_31])) (fun _ M16 hM16 => mq_K_ret hM16)))))))))
theorem mk_31_L33 {p : Nat} {n : Nat} {v1 : Int32} {v2 : Int32} {s : Int32 × Int32 × Int32 × Int32 × Int32} {M0 M : mm_M} (h : mq_kp (mw_31 p) M0 M) : mq_K (mw_31 p) M0 (mf_31_L33 p n v1 v2 s M) := by
  unfold mf_31_L33
  exact mq_K_L (fun s M h => mk_31_b33 h) h
theorem mk_31_j147 {p : Nat} {n : Nat} {v1 : Int32} {v2 : Int32} {v3 : Int32} {v5 : Int32} {v6 : Int32} {v7 : Int32} {v8 : Int32} {M0 M : mm_M} (h : mq_kp (mw_31 p) M0 M) : mq_K (mw_31 p) M0 (mf_31_j147 p n v1 v2 v3 v5 v6 v7 v8 M) := by
  unfold mf_31_j147
  exact mq_K_B (mq_K_call mk_32 h (by simp [mq_sub, mw_32, mw_31])) (fun _ M2 hM2 => mq_K_B (mq_K_call mk_32 hM2 (by simp [mq_sub, mw_32, mw_31])) (fun _ M4 hM4 => mq_K_B (mq_K_call mk_32 hM4 (by simp [mq_sub, mw_32, mw_31])) (fun _ M6 hM6 => mq_K_B (mq_K_call mk_32 hM6 (by simp [mq_sub, mw_32, mw_31])) (fun _ M8 hM8 => mq_K_B (mk_31_L187 hM8) (fun _ M9 hM9 => mq_K_B (mk_31_L223 hM9) (fun _ M16 hM16 => mk_31_j255 hM16))))))
theorem mk_31 {p : Nat} {n : Nat} {v1 : Int32} {v2 : Int32} {M : mm_M} : mq_K (mw_31 p) M (mf_31 p n v1 v2 M) := by
  unfold mf_31
  exact mq_K_ite (fun hc => mq_K_B (mk_31_L187 mq_kp_refl) (fun _ M1 hM1 => mq_K_B (mk_31_L223 hM1) (fun _ M8 hM8 => mk_31_j255 hM8))) (fun _ => mq_K_B (mk_31_L33 mq_kp_refl) (fun _ M18 hM18 => mk_31_j147 hM18))
-- 122: PlainPacks$Pieces.readFrameHead
def mw_122 : List (Nat × Option Nat) := [(1, some 2), (1, some 6), (41, some 4), (41, some 5)]
theorem mk_122_j166 {v4 : Int64} {s0 : Int32} {M0 M : mm_M} (h : mq_kp mw_122 M0 M) : mq_K mw_122 M0 (mf_122_j166 v4 s0 M) := by
  unfold mf_122_j166
  exact mq_K_B (mq_K_call mk_27 h rfl) (fun _ M1 hM1 => mq_K_ret hM1)
theorem mk_122_j120 {v1 : Int32} {s0 : Int64} {M0 M : mm_M} (h : mq_kp mw_122 M0 M) : mq_K mw_122 M0 (mf_122_j120 v1 s0 M) := by
  unfold mf_122_j120
  exact mq_K_B (mq_K_call mk_31 h rfl) (fun _ M2 hM2 => mq_K_B (mq_K_call mk_44 hM2 rfl) (fun _ M4 hM4 => mq_K_ite (fun hc => mk_122_j166 hM4) (fun _ => mk_122_j166 hM4)))
theorem mk_122_j82 {v1 : Int32} {v3 : Int32} {s0 : Int32} {M0 M : mm_M} (h : mq_kp mw_122 M0 M) : mq_K mw_122 M0 (mf_122_j82 v1 v3 s0 M) := by
  unfold mf_122_j82
  exact mq_K_B (mq_K_call mk_27 h rfl) (fun _ M1 hM1 => mq_K_ite (fun hc => mk_122_j120 (mq_kp_pl hM1 rfl)) (fun _ => mq_K_B (mq_K_call mk_47 (mq_kp_pl hM1 rfl) rfl) (fun _ M3 hM3 => mk_122_j120 hM3)))
theorem mk_122_j44 {v1 : Int32} {s0 : Int32} {M0 M : mm_M} (h : mq_kp mw_122 M0 M) : mq_K mw_122 M0 (mf_122_j44 v1 s0 M) := by
  unfold mf_122_j44
  exact mq_K_B (mq_K_call mk_27 h rfl) (fun _ M1 hM1 => mq_K_B (mq_K_call mk_44 hM1 rfl) (fun _ M3 hM3 => mq_K_ite (fun hc => mq_K_ite (fun hc => mk_122_j82 hM3) (fun _ => mq_K_ite (fun hc => mk_122_j82 hM3) (fun _ => mk_122_j82 hM3))) (fun _ => mk_122_j82 hM3)))
theorem mk_122 {M : mm_M} : mq_K mw_122 M (mf_122 M) := by
  unfold mf_122
  exact mq_K_B (mq_K_call mk_44 mq_kp_refl rfl) (fun _ M2 hM2 => mq_K_ite (fun hc => mq_K_ite (fun hc => mk_122_j44 (mq_kp_pi hM2 rfl)) (fun _ => mk_122_j44 (mq_kp_pi hM2 rfl))) (fun _ => mk_122_j44 (mq_kp_pi hM2 rfl)))
-- 41: PlainPacks$Source.closeBehind
def mw_41 : List (Nat × Option Nat) := [(1, some 3)]
theorem mk_41 {v1 : Int32} {M : mm_M} : mq_K mw_41 M (mf_41 v1 M) := by
  unfold mf_41
  exact mq_K_ite (fun hc => mq_K_ret (mq_kp_pi mq_kp_refl rfl)) (fun _ => mq_K_ret (mq_kp_pi mq_kp_refl rfl))
-- 42: PlainPacks$Source.reopen
def mw_42 : List (Nat × Option Nat) := [(1, some 3)]
theorem mk_42 {M : mm_M} : mq_K mw_42 M (mf_42 M) := by
  unfold mf_42
  exact mq_K_ret (mq_kp_pi mq_kp_refl rfl)
-- 123: PlainPacks$Pieces.readFrameBlock
def mw_123 : List (Nat × Option Nat) := [(1, some 2), (1, some 3), (1, some 6), (3, some 1), (3, some 2), (3, some 3), (3, some 4), (3, some 5), (3, some 6), (4, none)]
theorem mk_123_j174 {s0 : Int32} {M0 M : mm_M} (h : mq_kp mw_123 M0 M) : mq_K mw_123 M0 (mf_123_j174 s0 M) := by
  unfold mf_123_j174
  exact mq_K_B (mq_K_call mk_27 h rfl) (fun _ M1 hM1 => mq_K_ret hM1)
theorem mk_123_j124 {v6 : Int32} {M0 M : mm_M} (h : mq_kp mw_123 M0 M) : mq_K mw_123 M0 (mf_123_j124 v6 M) := by
  unfold mf_123_j124
  exact mq_K_ite (fun hc => mq_K_ret h) (fun _ => mq_K_B (mq_K_call mk_47 h rfl) (fun _ M2 hM2 => mq_K_B (mq_K_call mk_31 hM2 rfl) (fun _ M4 hM4 => mq_K_ite (fun hc => mk_123_j174 hM4) (fun _ => mk_123_j174 hM4))))
theorem mk_123_j114 {v6 : Int32} {s1 : Int32} {M0 M : mm_M} (h : mq_kp mw_123 M0 M) : mq_K mw_123 M0 (mf_123_j114 v6 s1 M) := by
  unfold mf_123_j114
  exact mq_K_B (mq_K_call mk_118 h rfl) (fun _ M1 hM1 => mq_K_B (mq_K_call mk_42 hM1 rfl) (fun _ M2 hM2 => mk_123_j124 hM2))
theorem mk_123_j44 {v3 : Int32} {v4 : Int64} {s0 : Int32} {M0 M : mm_M} (h : mq_kp mw_123 M0 M) : mq_K mw_123 M0 (mf_123_j44 v3 v4 s0 M) := by
  unfold mf_123_j44
  exact mq_K_B (mq_K_call mk_27 h rfl) (fun _ M1 hM1 => mq_K_ite (fun hc => mq_K_B (mq_K_call mk_41 (mq_kp_pi hM1 rfl) rfl) (fun _ M2 hM2 => mq_K_ite (fun hc => mk_123_j114 hM2) (fun _ => mk_123_j114 hM2))) (fun _ => mq_K_B (mq_K_call mk_120 (mq_kp_pi hM1 rfl) rfl) (fun _ M3 hM3 => mk_123_j124 hM3)))
theorem mk_123_j27 {v3 : Int32} {s0 : Int64} {M0 M : mm_M} (h : mq_kp mw_123 M0 M) : mq_K mw_123 M0 (mf_123_j27 v3 s0 M) := by
  unfold mf_123_j27
  exact mq_K_ite (fun hc => mk_123_j44 h) (fun _ => mk_123_j44 h)
theorem mk_123_j13 {v1 : Int64} {s0 : Int32} {M0 M : mm_M} (h : mq_kp mw_123 M0 M) : mq_K mw_123 M0 (mf_123_j13 v1 s0 M) := by
  unfold mf_123_j13
  exact mq_K_ite (fun hc => mk_123_j27 h) (fun _ => mk_123_j27 h)
theorem mk_123 {v1 : Int64} {M : mm_M} : mq_K mw_123 M (mf_123 v1 M) := by
  unfold mf_123
  exact mq_K_ite (fun hc => mk_123_j13 mq_kp_refl) (fun _ => mk_123_j13 mq_kp_refl)
-- 121: PlainPacks$Pieces.readFrame
def mw_121 : List (Nat × Option Nat) := [(1, some 2), (1, some 3), (1, some 6), (3, some 1), (3, some 2), (3, some 3), (3, some 4), (3, some 5), (3, some 6), (4, none), (41, some 4), (41, some 5)]
theorem mk_121_j122 {v1 : Int64} {v4 : Int32} {v5 : Int64} {s0 : Int32} {M0 M : mm_M} (h : mq_kp mw_121 M0 M) : mq_K mw_121 M0 (mf_121_j122 v1 v4 v5 s0 M) := by
  unfold mf_121_j122
  exact mq_K_ite (fun hc => mq_K_ret h) (fun _ => mq_K_B (mq_K_call mk_123 h rfl) (fun _ M1 hM1 => mq_K_ret hM1))
theorem mk_121_b89 {v1 : Int64} {v3 : Int32} {v4 : Int32} {M0 M : mm_M} (h : mq_kp mw_121 M0 M) : mq_K mw_121 M0 (mf_121_b89 v1 v3 v4 M) := by
  unfold mf_121_b89
  exact mq_K_ite (fun hc => mq_K_ite (fun hc => mq_K_ret h) (fun _ => mq_K_B (mq_K_call mk_47 h rfl) (fun _ M2 hM2 => mq_K_ite (fun hc => mk_121_j122 hM2) (fun _ => mk_121_j122 hM2)))) (fun _ => mq_K_ret h)
theorem mk_121_L89 {v1 : Int64} {s : Int32 × Int32} {M0 M : mm_M} (h : mq_kp mw_121 M0 M) : mq_K mw_121 M0 (mf_121_L89 v1 s M) := by
  unfold mf_121_L89
  exact mq_K_L (fun s M h => mk_121_b89 h) h
theorem mk_121_j214 {s0 : Int32} {M0 M : mm_M} (h : mq_kp mw_121 M0 M) : mq_K mw_121 M0 (mf_121_j214 s0 M) := by
  unfold mf_121_j214
  exact mq_K_B (mq_K_call mk_27 h rfl) (fun _ M1 hM1 => mq_K_ret hM1)
theorem mk_121_j167 {s0 : Int32} {M0 M : mm_M} (h : mq_kp mw_121 M0 M) : mq_K mw_121 M0 (mf_121_j167 s0 M) := by
  unfold mf_121_j167
  exact mq_K_B (mq_K_call mk_27 h rfl) (fun _ M1 hM1 => mq_K_ite (fun hc => mq_K_ret hM1) (fun _ => mq_K_B (mq_K_call mk_47 hM1 rfl) (fun _ M3 hM3 => mq_K_B (mq_K_call mk_31 hM3 rfl) (fun _ M5 hM5 => mq_K_ite (fun hc => mk_121_j214 hM5) (fun _ => mk_121_j214 hM5)))))
theorem mk_121_j166 {M0 M : mm_M} (h : mq_kp mw_121 M0 M) : mq_K mw_121 M0 (mf_121_j166 M) := by
  unfold mf_121_j166
  exact mk_121_j167 h
theorem mk_121_j139 {v1 : Int64} {M0 M : mm_M} (h : mq_kp mw_121 M0 M) : mq_K mw_121 M0 (mf_121_j139 v1 M) := by
  unfold mf_121_j139
  exact mq_K_ite (fun hc => mk_121_j166 h) (fun _ => mq_K_ite (fun hc => mk_121_j166 h) (fun _ => mk_121_j167 h))
theorem mk_121_j76 {s0 : Int32} {M0 M : mm_M} (h : mq_kp mw_121 M0 M) : mq_K mw_121 M0 (mf_121_j76 s0 M) := by
  unfold mf_121_j76
  exact mq_K_B (mq_K_call mk_27 h rfl) (fun _ M1 hM1 => mq_K_B (mq_K_call mk_122 hM1 rfl) (fun _ M3 hM3 => mq_K_B (mk_121_L89 hM3) (fun _ M4 hM4 => mk_121_j139 hM4)))
theorem mk_121_j56 {s0 : Int32} {M0 M : mm_M} (h : mq_kp mw_121 M0 M) : mq_K mw_121 M0 (mf_121_j56 s0 M) := by
  unfold mf_121_j56
  exact mq_K_B (mq_K_call mk_27 h rfl) (fun _ M1 hM1 => mq_K_B (mq_K_call mk_44 hM1 rfl) (fun _ M3 hM3 => mq_K_ite (fun hc => mk_121_j76 hM3) (fun _ => mk_121_j76 hM3)))
theorem mk_121_j36 {s0 : Int32} {M0 M : mm_M} (h : mq_kp mw_121 M0 M) : mq_K mw_121 M0 (mf_121_j36 s0 M) := by
  unfold mf_121_j36
  exact mq_K_B (mq_K_call mk_27 h rfl) (fun _ M1 hM1 => mq_K_B (mq_K_call mk_44 hM1 rfl) (fun _ M3 hM3 => mq_K_ite (fun hc => mk_121_j56 hM3) (fun _ => mk_121_j56 hM3)))
theorem mk_121_j16 {s0 : Int32} {M0 M : mm_M} (h : mq_kp mw_121 M0 M) : mq_K mw_121 M0 (mf_121_j16 s0 M) := by
  unfold mf_121_j16
  exact mq_K_B (mq_K_call mk_27 h rfl) (fun _ M1 hM1 => mq_K_B (mq_K_call mk_44 hM1 rfl) (fun _ M3 hM3 => mq_K_ite (fun hc => mk_121_j36 hM3) (fun _ => mk_121_j36 hM3)))
theorem mk_121 {M : mm_M} : mq_K mw_121 M (mf_121 M) := by
  unfold mf_121
  exact mq_K_B (mq_K_call mk_44 mq_kp_refl rfl) (fun _ M2 hM2 => mq_K_ite (fun hc => mk_121_j16 hM2) (fun _ => mk_121_j16 hM2))
-- 125: PlainPacks$Pieces.readTagCount
def mw_125 : List (Nat × Option Nat) := [(1, some 2), (1, some 6)]
theorem mk_125_b7 {v1 : Int64} {v3 : Int32} {v4 : Int32} {M0 M : mm_M} (h : mq_kp mw_125 M0 M) : mq_K mw_125 M0 (mf_125_b7 v1 v3 v4 M) := by
  unfold mf_125_b7
  exact mq_K_ite (fun hc => mq_K_ite (fun hc => mq_K_ret h) (fun _ => mq_K_B (mq_K_call mk_44 h rfl) (fun _ M2 hM2 => mq_K_ite (fun hc => mq_K_ret hM2) (fun _ => mq_K_ret hM2)))) (fun _ => mq_K_ret h)
theorem mk_125_L7 {s : Int64 × Int32 × Int32} {M0 M : mm_M} (h : mq_kp mw_125 M0 M) : mq_K mw_125 M0 (mf_125_L7 s M) := by
  unfold mf_125_L7
  exact mq_K_L (fun s M h => mk_125_b7 h) h
theorem mk_125_j78 {v1 : Int64} {s0 : Int32} {M0 M : mm_M} (h : mq_kp mw_125 M0 M) : mq_K mw_125 M0 (mf_125_j78 v1 s0 M) := by
  unfold mf_125_j78
  exact mq_K_B (mq_K_call mk_27 h rfl) (fun _ M1 hM1 => mq_K_ret hM1)
theorem mk_125_j61 {v1 : Int64} {v3 : Int32} {M0 M : mm_M} (h : mq_kp mw_125 M0 M) : mq_K mw_125 M0 (mf_125_j61 v1 v3 M) := by
  unfold mf_125_j61
  exact mq_K_ite (fun hc => mq_K_ite (fun hc => mk_125_j78 h) (fun _ => mk_125_j78 h)) (fun _ => mk_125_j78 h)
theorem mk_125 {M : mm_M} : mq_K mw_125 M (mf_125 M) := by
  unfold mf_125
  exact mq_K_B (mk_125_L7 mq_kp_refl) (fun _ M1 hM1 => mk_125_j61 hM1)
-- 126: PlainPacks$Pieces.readTagDistance
def mw_126 : List (Nat × Option Nat) := [(1, some 2), (1, some 6)]
theorem mk_126_j41 {s1 : Int32} {M0 M : mm_M} (h : mq_kp mw_126 M0 M) : mq_K mw_126 M0 (mf_126_j41 s1 M) := by
  unfold mf_126_j41
  exact mq_K_B (mq_K_call mk_47 h rfl) (fun _ M2 hM2 => mq_K_ret hM2)
theorem mk_126 {v1 : Int32} {M : mm_M} : mq_K mw_126 M (mf_126 v1 M) := by
  unfold mf_126
  exact mq_K_ite (fun hc => mq_K_B (mq_K_call mk_44 mq_kp_refl rfl) (fun _ M2 hM2 => mq_K_ret hM2)) (fun _ => mq_K_ite (fun hc => mk_126_j41 mq_kp_refl) (fun _ => mk_126_j41 mq_kp_refl))
-- 124: PlainPacks$Pieces.readTags
def mw_124 : List (Nat × Option Nat) := [(1, some 2), (1, some 6), (3, some 1), (3, some 2), (3, some 3), (3, some 4), (3, some 5), (4, none)]
theorem mk_124_j114 {v1 : Int64} {v3 : Int32} {v6 : Int64} {s0 : Int32} {M0 M : mm_M} (h : mq_kp mw_124 M0 M) : mq_K mw_124 M0 (mf_124_j114 v1 v3 v6 s0 M) := by
  unfold mf_124_j114
  exact mq_K_B (mq_K_call mk_27 h rfl) (fun _ M1 hM1 => mq_K_B (mq_K_call mk_120 hM1 rfl) (fun _ M2 hM2 => mq_K_ret hM2))
theorem mk_124_j90 {v1 : Int64} {v3 : Int32} {s0 : Int64} {s1 : Int64} {M0 M : mm_M} (h : mq_kp mw_124 M0 M) : mq_K mw_124 M0 (mf_124_j90 v1 v3 s0 s1 M) := by
  unfold mf_124_j90
  exact mq_K_ite (fun hc => mk_124_j114 h) (fun _ => mk_124_j114 h)
theorem mk_124_j171 {v1 : Int64} {v3 : Int32} {v4 : Int32} {v6 : Int32} {s0 : Int32} {M0 M : mm_M} (h : mq_kp mw_124 M0 M) : mq_K mw_124 M0 (mf_124_j171 v1 v3 v4 v6 s0 M) := by
  unfold mf_124_j171
  exact mq_K_B (mq_K_call mk_27 h rfl) (fun _ M1 hM1 => mq_K_B (mq_K_call mk_126 hM1 rfl) (fun _ M3 hM3 => mq_K_B (mq_K_call mk_53 hM3 rfl) (fun _ M4 hM4 => mq_K_ret hM4)))
theorem mk_124_j148 {v1 : Int64} {v3 : Int32} {v4 : Int32} {s0 : Int32} {M0 M : mm_M} (h : mq_kp mw_124 M0 M) : mq_K mw_124 M0 (mf_124_j148 v1 v3 v4 s0 M) := by
  unfold mf_124_j148
  exact mq_K_ite (fun hc => mk_124_j171 h) (fun _ => mk_124_j171 h)
theorem mk_124_b23 {v1 : Int64} {v3 : Int32} {M0 M : mm_M} (h : mq_kp mw_124 M0 M) : mq_K mw_124 M0 (mf_124_b23 v1 v3 M) := by
  unfold mf_124_b23
  exact mq_K_ite (fun hc => mq_K_ite (fun hc => mq_K_B (mq_K_call mk_44 h rfl) (fun _ M2 hM2 => mq_K_ite (fun hc => mq_K_ite (fun hc => mk_124_j90 hM2) (fun _ => mq_K_B (mq_K_call mk_47 hM2 rfl) (fun _ M4 hM4 => mk_124_j90 hM4))) (fun _ => mq_K_ite (fun hc => mk_124_j148 hM2) (fun _ => mk_124_j148 hM2)))) (fun _ => mq_K_ret h)) (fun _ => mq_K_ret h)
theorem mk_124_L23 {v1 : Int64} {s : Int32} {M0 M : mm_M} (h : mq_kp mw_124 M0 M) : mq_K mw_124 M0 (mf_124_L23 v1 s M) := by
  unfold mf_124_L23
  exact mq_K_L (fun s M h => mk_124_b23 h) h
theorem mk_124_j18 {v1 : Int64} {s0 : Int32} {M0 M : mm_M} (h : mq_kp mw_124 M0 M) : mq_K mw_124 M0 (mf_124_j18 v1 s0 M) := by
  unfold mf_124_j18
  exact mq_K_B (mq_K_call mk_27 h rfl) (fun _ M1 hM1 => mq_K_B (mk_124_L23 hM1) (fun _ M2 hM2 => mq_K_ret hM2))
theorem mk_124 {M : mm_M} : mq_K mw_124 M (mf_124 M) := by
  unfold mf_124
  exact mq_K_B (mq_K_call mk_125 mq_kp_refl rfl) (fun _ M2 hM2 => mq_K_ite (fun hc => mk_124_j18 hM2) (fun _ => mk_124_j18 hM2))
