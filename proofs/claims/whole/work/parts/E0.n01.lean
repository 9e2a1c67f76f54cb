/-! HOW MANY THROWS 1 -/
-- 39: PlainPacks$Source.add
theorem mn_39_b3 {v1 : Int32} {v2 : Int32} {M : mm_M} : mq_N M.2.2 (mf_39_b3 v1 v2 M) := by
  unfold mf_39_b3
  exact mq_N_ite (mq_N_ret rfl) (mq_N_ite (mq_N_ite (mq_N_ret rfl) (mq_N_none)) (mq_N_ret rfl))
theorem mn_39_L3 {v1 : Int32} {s : Int32} {M : mm_M} : mq_N M.2.2 (mf_39_L3 v1 s M) := by
  unfold mf_39_L3
  exact mq_N_L (fun s M h => mq_N_call mn_39_b3 h) rfl
theorem mn_39 {v1 : Int32} {M : mm_M} : mq_N M.2.2 (mf_39 v1 M) := by
  unfold mf_39
  exact mq_N_B (mq_N_call mn_39_L3 rfl) (fun _ M1 hM1 => mq_N_ret hM1)
-- 13: PlainPacks.feed
theorem mn_13 {v1 : Int32} {v2 : Int32} {v3 : Int32} {v4 : Int32} {v5 : Int32} {M : mm_M} : mq_N M.2.2 (mf_13 v1 v2 v3 v4 v5 M) := by
  unfold mf_13
  exact mq_N_ite (mq_N_thr rfl) (mq_N_B (mq_N_call mn_39 rfl) (fun _ M1 hM1 => mq_N_B (mq_N_call mn_39 hM1) (fun _ M2 hM2 => mq_N_B (mq_N_call mn_39 hM2) (fun _ M3 hM3 => mq_N_B (mq_N_call mn_39 hM3) (fun _ M4 hM4 => mq_N_B (mq_N_call mn_39 hM4) (fun _ M5 hM5 => mq_N_ret hM5))))))
-- 174: PlainPacksModel.good
theorem mn_174 {v1 : Int32} {M : mm_M} : mq_N M.2.2 (mf_174 v1 M) := by
  unfold mf_174
  exact mq_N_ite (mq_N_ite (mq_N_ret rfl) (mq_N_none)) (mq_N_ite (mq_N_ret rfl) (mq_N_none))
-- 175: PlainPacksModel.feed
theorem mn_175_j83 {v1 : Int32} {v2 : Int32} {v3 : Int32} {v4 : Int32} {v5 : Int32} {v6 : Int32} {s0 : Int32} {M : mm_M} : mq_N M.2.2 (mf_175_j83 v1 v2 v3 v4 v5 v6 s0 M) := by
  unfold mf_175_j83
  exact mq_N_ite (mq_N_ret rfl) (mq_N_none)
theorem mn_175_b30 {v1 : Int32} {v2 : Int32} {v3 : Int32} {v4 : Int32} {v5 : Int32} {v6 : Int32} {M : mm_M} : mq_N M.2.2 (mf_175_b30 v1 v2 v3 v4 v5 v6 M) := by
  unfold mf_175_b30
  exact mq_N_ite (mq_N_ite (mq_N_call mn_175_j83 rfl) (mq_N_ite (mq_N_call mn_175_j83 rfl) (mq_N_ite (mq_N_call mn_175_j83 rfl) (mq_N_ite (mq_N_call mn_175_j83 rfl) (mq_N_call mn_175_j83 rfl))))) (mq_N_ret rfl)
theorem mn_175_L30 {v1 : Int32} {v2 : Int32} {v3 : Int32} {v4 : Int32} {v5 : Int32} {s : Int32} {M : mm_M} : mq_N M.2.2 (mf_175_L30 v1 v2 v3 v4 v5 s M) := by
  unfold mf_175_L30
  exact mq_N_L (fun s M h => mq_N_call mn_175_b30 h) rfl
theorem mn_175_j19 {v1 : Int32} {v2 : Int32} {v3 : Int32} {v4 : Int32} {v5 : Int32} {s1 : Int32} {M : mm_M} : mq_N M.2.2 (mf_175_j19 v1 v2 v3 v4 v5 s1 M) := by
  unfold mf_175_j19
  exact mq_N_B (mq_N_call mn_174 rfl) (fun _ M2 hM2 => mq_N_ite (mq_N_ret hM2) (mq_N_B (mq_N_call mn_175_L30 hM2) (fun _ M3 hM3 => mq_N_ret hM3)))
theorem mn_175 {v1 : Int32} {v2 : Int32} {v3 : Int32} {v4 : Int32} {v5 : Int32} {M : mm_M} : mq_N M.2.2 (mf_175 v1 v2 v3 v4 v5 M) := by
  unfold mf_175
  exact mq_N_ite (mq_N_call mn_175_j19 rfl) (mq_N_call mn_175_j19 rfl)
-- 173: PlainPacksModel.thrown
theorem mn_173 {M : mm_M} : mq_N M.2.2 (mf_173 M) := by
  unfold mf_173
  exact mq_N_ret rfl
-- 14: PlainPacks.end
theorem mn_14 {v1 : Int32} {M : mm_M} : mq_N M.2.2 (mf_14 v1 M) := by
  unfold mf_14
  exact mq_N_ite (mq_N_thr rfl) (mq_N_ite (mq_N_thr rfl) (mq_N_ret rfl))
-- 176: PlainPacksModel.end
theorem mn_176_j18 {v1 : Int32} {s1 : Int32} {M : mm_M} : mq_N M.2.2 (mf_176_j18 v1 s1 M) := by
  unfold mf_176_j18
  exact mq_N_B (mq_N_call mn_174 rfl) (fun _ M2 hM2 => mq_N_ite (mq_N_ret hM2) (mq_N_ret hM2))
theorem mn_176_j17 {v1 : Int32} {M : mm_M} : mq_N M.2.2 (mf_176_j17 v1 M) := by
  unfold mf_176_j17
  exact mq_N_call mn_176_j18 rfl
theorem mn_176 {v1 : Int32} {M : mm_M} : mq_N M.2.2 (mf_176 v1 M) := by
  unfold mf_176
  exact mq_N_ite (mq_N_call mn_176_j17 rfl) (mq_N_ite (mq_N_call mn_176_j17 rfl) (mq_N_call mn_176_j18 rfl))
-- 15: PlainPacks.alter
theorem mn_15 {v1 : Int32} {v2 : Int32} {M : mm_M} : mq_N M.2.2 (mf_15 v1 v2 M) := by
  unfold mf_15
  exact mq_N_ite (mq_N_thr rfl) (mq_N_ite (mq_N_ite (mq_N_ite (mq_N_ret rfl) (mq_N_none)) (mq_N_none)) (mq_N_thr rfl))
-- 177: PlainPacksModel.alter
theorem mn_177_j18 {v1 : Int32} {v2 : Int32} {s1 : Int32} {M : mm_M} : mq_N M.2.2 (mf_177_j18 v1 v2 s1 M) := by
  unfold mf_177_j18
  exact mq_N_B (mq_N_call mn_174 rfl) (fun _ M2 hM2 => mq_N_ite (mq_N_ret hM2) (mq_N_ite (mq_N_ite (mq_N_ret hM2) (mq_N_none)) (mq_N_none)))
theorem mn_177_j17 {v1 : Int32} {v2 : Int32} {M : mm_M} : mq_N M.2.2 (mf_177_j17 v1 v2 M) := by
  unfold mf_177_j17
  exact mq_N_call mn_177_j18 rfl
theorem mn_177 {v1 : Int32} {v2 : Int32} {M : mm_M} : mq_N M.2.2 (mf_177 v1 v2 M) := by
  unfold mf_177
  exact mq_N_ite (mq_N_call mn_177_j17 rfl) (mq_N_ite (mq_N_call mn_177_j18 rfl) (mq_N_call mn_177_j17 rfl))
-- 16: PlainPacks.turn
theorem mn_16 {M : mm_M} : mq_N M.2.2 (mf_16 M) := by
  unfold mf_16
  exact mq_N_ite (mq_N_thr rfl) (mq_N_ite (mq_N_ret rfl) (mq_N_none))
-- 178: PlainPacksModel.turn
theorem mn_178_b26 {v1 : Int32} {M : mm_M} : mq_N M.2.2 (mf_178_b26 v1 M) := by
  unfold mf_178_b26
  exact mq_N_ite (mq_N_ite (mq_N_ite (mq_N_ret rfl) (mq_N_none)) (mq_N_none)) (mq_N_ret rfl)
theorem mn_178_L26 {s : Int32} {M : mm_M} : mq_N M.2.2 (mf_178_L26 s M) := by
  unfold mf_178_L26
  exact mq_N_L (fun s M h => mq_N_call mn_178_b26 h) rfl
theorem mn_178_j16 {s1 : Int32} {M : mm_M} : mq_N M.2.2 (mf_178_j16 s1 M) := by
  unfold mf_178_j16
  exact mq_N_B (mq_N_call mn_174 rfl) (fun _ M2 hM2 => mq_N_ite (mq_N_ret hM2) (mq_N_B (mq_N_call mn_178_L26 hM2) (fun _ M3 hM3 => mq_N_ret hM3)))
theorem mn_178 {M : mm_M} : mq_N M.2.2 (mf_178 M) := by
  unfold mf_178
  exact mq_N_ite (mq_N_call mn_178_j16 rfl) (mq_N_call mn_178_j16 rfl)
-- 26: PlainPacks.needForm
theorem mn_26 {v0 : Int32} {M : mm_M} : mq_N M.2.2 (mf_26 v0 M) := by
  unfold mf_26
  exact mq_N_ite (mq_N_thr rfl) (mq_N_ite (mq_N_thr rfl) (mq_N_ret rfl))
-- 40: PlainPacks$Source.start
theorem mn_40 {M : mm_M} : mq_N M.2.2 (mf_40 M) := by
  unfold mf_40
  exact mq_N_ret rfl
-- 49: PlainPacks$Sink.start
theorem mn_49 {M : mm_M} : mq_N M.2.2 (mf_49 M) := by
  unfold mf_49
  exact mq_N_ret rfl
-- 43: PlainPacks$Source.atEdge
theorem mn_43 {M : mm_M} : mq_N M.2.2 (mf_43 M) := by
  unfold mf_43
  exact mq_N_ite (mq_N_ret rfl) (mq_N_ret rfl)
-- 44: PlainPacks$Source.next
theorem mn_44 {M : mm_M} : mq_N M.2.2 (mf_44 M) := by
  unfold mf_44
  exact mq_N_ite (mq_N_ite (mq_N_ret rfl) (mq_N_none)) (mq_N_thr rfl)
-- 51: PlainPacks$Sink.put
theorem mn_51 {v1 : Int32} {M : mm_M} : mq_N M.2.2 (mf_51 v1 M) := by
  unfold mf_51
  exact mq_N_ite (mq_N_ite (mq_N_ret rfl) (mq_N_none)) (mq_N_thr rfl)
-- 117: PlainPacks$Pieces.readRuns
theorem mn_117_b35 {v1 : Int32} {v2 : Int32} {v3 : Int32} {M : mm_M} : mq_N M.2.2 (mf_117_b35 v1 v2 v3 M) := by
  unfold mf_117_b35
  exact mq_N_ite (mq_N_ret rfl) (mq_N_B (mq_N_call mn_44 rfl) (fun _ M2 hM2 => mq_N_B (mq_N_call mn_51 hM2) (fun _ M3 hM3 => mq_N_ret hM3)))
theorem mn_117_L35 {v1 : Int32} {v2 : Int32} {s : Int32} {M : mm_M} : mq_N M.2.2 (mf_117_L35 v1 v2 s M) := by
  unfold mf_117_L35
  exact mq_N_L (fun s M h => mq_N_call mn_117_b35 h) rfl
theorem mn_117_b81 {v1 : Int32} {v2 : Int32} {v3 : Int32} {v4 : Int32} {M : mm_M} : mq_N M.2.2 (mf_117_b81 v1 v2 v3 v4 M) := by
  unfold mf_117_b81
  exact mq_N_ite (mq_N_B (mq_N_call mn_51 rfl) (fun _ M1 hM1 => mq_N_ret hM1)) (mq_N_ret rfl)
theorem mn_117_L81 {v1 : Int32} {v2 : Int32} {v3 : Int32} {s : Int32} {M : mm_M} : mq_N M.2.2 (mf_117_L81 v1 v2 v3 s M) := by
  unfold mf_117_L81
  exact mq_N_L (fun s M h => mq_N_call mn_117_b81 h) rfl
theorem mn_117_b2 {v1 : Int32} {M : mm_M} : mq_N M.2.2 (mf_117_b2 v1 M) := by
  unfold mf_117_b2
  exact mq_N_ite (mq_N_B (mq_N_call mn_43 rfl) (fun _ M2 hM2 => mq_N_ite (mq_N_B (mq_N_call mn_44 hM2) (fun _ M4 hM4 => mq_N_ite (mq_N_B (mq_N_call mn_117_L35 hM4) (fun _ M5 hM5 => mq_N_ret hM5)) (mq_N_ite (mq_N_B (mq_N_call mn_44 hM4) (fun _ M11 hM11 => mq_N_B (mq_N_call mn_117_L81 hM11) (fun _ M12 hM12 => mq_N_ret hM12))) (mq_N_ret hM4)))) (mq_N_ret hM2))) (mq_N_ret rfl)
theorem mn_117_L2 {s : Int32} {M : mm_M} : mq_N M.2.2 (mf_117_L2 s M) := by
  unfold mf_117_L2
  exact mq_N_L (fun s M h => mq_N_call mn_117_b2 h) rfl
theorem mn_117 {M : mm_M} : mq_N M.2.2 (mf_117 M) := by
  unfold mf_117
  exact mq_N_B (mq_N_call mn_117_L2 rfl) (fun _ M1 hM1 => mq_N_ret hM1)
-- 45: PlainPacks$Source.bit
theorem mn_45_j57 {M : mm_M} : mq_N M.2.2 (mf_45_j57 M) := by
  unfold mf_45_j57
  exact mq_N_ite (mq_N_ret rfl) (mq_N_ret rfl)
theorem mn_45 {M : mm_M} : mq_N M.2.2 (mf_45 M) := by
  unfold mf_45
  exact mq_N_ite (mq_N_ite (mq_N_ite (mq_N_call mn_45_j57 rfl) (mq_N_none)) (mq_N_thr rfl)) (mq_N_call mn_45_j57 rfl)
-- 46: PlainPacks$Source.bits
theorem mn_46_b5 {v1 : Int32} {v2 : Int64} {v4 : Int32} {M : mm_M} : mq_N M.2.2 (mf_46_b5 v1 v2 v4 M) := by
  unfold mf_46_b5
  exact mq_N_ite (mq_N_B (mq_N_call mn_45 rfl) (fun _ M2 hM2 => mq_N_ite (mq_N_ret hM2) (mq_N_ret hM2))) (mq_N_ret rfl)
theorem mn_46_L5 {v1 : Int32} {s : Int64 × Int32} {M : mm_M} : mq_N M.2.2 (mf_46_L5 v1 s M) := by
  unfold mf_46_L5
  exact mq_N_L (fun s M h => mq_N_call mn_46_b5 h) rfl
theorem mn_46 {v1 : Int32} {M : mm_M} : mq_N M.2.2 (mf_46 v1 M) := by
  unfold mf_46
  exact mq_N_B (mq_N_call mn_46_L5 rfl) (fun _ M1 hM1 => mq_N_ret hM1)
-- 27: PlainPacks.wrongIf
theorem mn_27 {v0 : Int32} {M : mm_M} : mq_N M.2.2 (mf_27 v0 M) := by
  unfold mf_27
  exact mq_N_ite (mq_N_ret rfl) (mq_N_thr rfl)
-- 47: PlainPacks$Source.low
theorem mn_47_b5 {v1 : Int32} {v2 : Int64} {v4 : Int32} {M : mm_M} : mq_N M.2.2 (mf_47_b5 v1 v2 v4 M) := by
  unfold mf_47_b5
  exact mq_N_ite (mq_N_B (mq_N_call mn_44 rfl) (fun _ M2 hM2 => mq_N_ret hM2)) (mq_N_ret rfl)
theorem mn_47_L5 {v1 : Int32} {s : Int64 × Int32} {M : mm_M} : mq_N M.2.2 (mf_47_L5 v1 s M) := by
  unfold mf_47_L5
  exact mq_N_L (fun s M h => mq_N_call mn_47_b5 h) rfl
theorem mn_47 {v1 : Int32} {M : mm_M} : mq_N M.2.2 (mf_47 v1 M) := by
  unfold mf_47
  exact mq_N_B (mq_N_call mn_47_L5 rfl) (fun _ M1 hM1 => mq_N_ret hM1)
-- 52: PlainPacks$Sink.putPlain
theorem mn_52 {v1 : Int32} {M : mm_M} : mq_N M.2.2 (mf_52 v1 M) := by
  unfold mf_52
  exact mq_N_B (mq_N_call mn_51 rfl) (fun _ M1 hM1 => mq_N_ret hM1)
-- 80: PlainPacks$Blocks.readPlain
theorem mn_80_b36 {v1 : Int32} {v2 : Int32} {M : mm_M} : mq_N M.2.2 (mf_80_b36 v1 v2 M) := by
  unfold mf_80_b36
  exact mq_N_ite (mq_N_B (mq_N_call mn_44 rfl) (fun _ M2 hM2 => mq_N_B (mq_N_call mn_52 hM2) (fun _ M3 hM3 => mq_N_ret hM3))) (mq_N_ret rfl)
theorem mn_80_L36 {v1 : Int32} {s : Int32} {M : mm_M} : mq_N M.2.2 (mf_80_L36 v1 s M) := by
  unfold mf_80_L36
  exact mq_N_L (fun s M h => mq_N_call mn_80_b36 h) rfl
theorem mn_80_j31 {v1 : Int32} {s0 : Int32} {M : mm_M} : mq_N M.2.2 (mf_80_j31 v1 s0 M) := by
  unfold mf_80_j31
  exact mq_N_B (mq_N_call mn_27 rfl) (fun _ M1 hM1 => mq_N_B (mq_N_call mn_80_L36 hM1) (fun _ M2 hM2 => mq_N_ret hM2))
theorem mn_80 {M : mm_M} : mq_N M.2.2 (mf_80 M) := by
  unfold mf_80
  exact mq_N_B (mq_N_call mn_47 rfl) (fun _ M2 hM2 => mq_N_B (mq_N_call mn_47 hM2) (fun _ M4 hM4 => mq_N_ite (mq_N_call mn_80_j31 hM4) (mq_N_call mn_80_j31 hM4)))
-- 82: PlainPacks$Blocks.knownLength
theorem mn_82 {v0 : Int32} {M : mm_M} : mq_N M.2.2 (mf_82 v0 M) := by
  unfold mf_82
  exact mq_N_ite (mq_N_ret rfl) (mq_N_ite (mq_N_ret rfl) (mq_N_ite (mq_N_ret rfl) (mq_N_ret rfl)))
-- 290: java/util/Arrays.fill
theorem mn_290_b5 {p : Nat} {n : Nat} {v1 : Int32} {v2 : Int32} {v3 : Int32} {M : mm_M} : mq_N M.2.2 (mf_290_b5 p n v1 v2 v3 M) := by
  unfold mf_290_b5
  exact mq_N_ite (mq_N_ite (mq_N_ret rfl) (mq_N_none)) (mq_N_ret rfl)
theorem mn_290_L5 {p : Nat} {n : Nat} {v1 : Int32} {v3 : Int32} {s : Int32} {M : mm_M} : mq_N M.2.2 (mf_290_L5 p n v1 v3 s M) := by
  unfold mf_290_L5
  exact mq_N_L (fun s M h => mq_N_call mn_290_b5 h) rfl
theorem mn_290 {p : Nat} {n : Nat} {v1 : Int32} {M : mm_M} : mq_N M.2.2 (mf_290 p n v1 M) := by
  unfold mf_290
  exact mq_N_B (mq_N_call mn_290_L5 rfl) (fun _ M1 hM1 => mq_N_ret hM1)
-- 99: PlainPacks$Codes.make
theorem mn_99_b30 {p : Nat} {n : Nat} {v2 : Int32} {v3 : Int32} {M : mm_M} : mq_N M.2.2 (mf_99_b30 p n v2 v3 M) := by
  unfold mf_99_b30
  exact mq_N_ite (mq_N_ite (mq_N_ite (mq_N_ite (mq_N_ret rfl) (mq_N_ite (mq_N_ite (mq_N_ret rfl) (mq_N_none)) (mq_N_none))) (mq_N_ret rfl)) (mq_N_none)) (mq_N_ret rfl)
theorem mn_99_L30 {p : Nat} {n : Nat} {v2 : Int32} {s : Int32} {M : mm_M} : mq_N M.2.2 (mf_99_L30 p n v2 s M) := by
  unfold mf_99_L30
  exact mq_N_L (fun s M h => mq_N_call mn_99_b30 h) rfl
theorem mn_99_j141 {p : Nat} {n : Nat} {v2 : Int32} {v3 : Int32} {s1 : Int32} {s2 : Int32} {s3 : Int32} {M : mm_M} : mq_N M.2.2 (mf_99_j141 p n v2 v3 s1 s2 s3 M) := by
  unfold mf_99_j141
  exact mq_N_ite (mq_N_ret rfl) (mq_N_none)
theorem mn_99_b105 {p : Nat} {n : Nat} {v2 : Int32} {v3 : Int32} {M : mm_M} : mq_N M.2.2 (mf_99_b105 p n v2 v3 M) := by
  unfold mf_99_b105
  exact mq_N_ite (mq_N_ret rfl) (mq_N_ite (mq_N_ite (mq_N_ite (mq_N_call mn_99_j141 rfl) (mq_N_none)) (mq_N_call mn_99_j141 rfl)) (mq_N_none))
theorem mn_99_L105 {p : Nat} {n : Nat} {v2 : Int32} {s : Int32} {M : mm_M} : mq_N M.2.2 (mf_99_L105 p n v2 s M) := by
  unfold mf_99_L105
  exact mq_N_L (fun s M h => mq_N_call mn_99_b105 h) rfl
theorem mn_99_b151 {p : Nat} {n : Nat} {v2 : Int32} {v3 : Int32} {M : mm_M} : mq_N M.2.2 (mf_99_b151 p n v2 v3 M) := by
  unfold mf_99_b151
  exact mq_N_ite (mq_N_ite (mq_N_ite (mq_N_ite (mq_N_ret rfl) (mq_N_ite (mq_N_ite (mq_N_ite (mq_N_ite (mq_N_ret rfl) (mq_N_none)) (mq_N_none)) (mq_N_none)) (mq_N_none))) (mq_N_ret rfl)) (mq_N_none)) (mq_N_ret rfl)
theorem mn_99_L151 {p : Nat} {n : Nat} {v2 : Int32} {s : Int32} {M : mm_M} : mq_N M.2.2 (mf_99_L151 p n v2 s M) := by
  unfold mf_99_L151
  exact mq_N_L (fun s M h => mq_N_call mn_99_b151 h) rfl
theorem mn_99_j96 {p : Nat} {n : Nat} {v2 : Int32} {M : mm_M} : mq_N M.2.2 (mf_99_j96 p n v2 M) := by
  unfold mf_99_j96
  exact mq_N_ite (mq_N_B (mq_N_call mn_99_L105 rfl) (fun _ M1 hM1 => mq_N_B (mq_N_call mn_99_L151 hM1) (fun _ M6 hM6 => mq_N_ret hM6))) (mq_N_none)
theorem mn_99 {p : Nat} {n : Nat} {v1 : Int32} {M : mm_M} : mq_N M.2.2 (mf_99 p n v1 M) := by
  unfold mf_99
  exact mq_N_B (mq_N_call mn_290 rfl) (fun _ M1 hM1 => mq_N_B (mq_N_call mn_99_L30 hM1) (fun _ M2 hM2 => mq_N_call mn_99_j96 hM2))
-- 81: PlainPacks$Blocks.setKnownCodes
theorem mn_81_b2 {v1 : Int32} {M : mm_M} : mq_N M.2.2 (mf_81_b2 v1 M) := by
  unfold mf_81_b2
  exact mq_N_ite (mq_N_B (mq_N_call mn_82 rfl) (fun _ M2 hM2 => mq_N_ite (mq_N_ret hM2) (mq_N_none))) (mq_N_ret rfl)
theorem mn_81_L2 {s : Int32} {M : mm_M} : mq_N M.2.2 (mf_81_L2 s M) := by
  unfold mf_81_L2
  exact mq_N_L (fun s M h => mq_N_call mn_81_b2 h) rfl
theorem mn_81_j28 {M : mm_M} : mq_N M.2.2 (mf_81_j28 M) := by
  unfold mf_81_j28
  exact mq_N_B (mq_N_call mn_99 rfl) (fun _ M1 hM1 => mq_N_B (mq_N_call mn_290 hM1) (fun _ M2 hM2 => mq_N_B (mq_N_call mn_99 hM2) (fun _ M3 hM3 => mq_N_ret hM3)))
theorem mn_81 {M : mm_M} : mq_N M.2.2 (mf_81 M) := by
  unfold mf_81
  exact mq_N_B (mq_N_call mn_81_L2 rfl) (fun _ M1 hM1 => mq_N_call mn_81_j28 hM1)
-- 102: PlainPacks$Codes.isFullOrOne
theorem mn_102 {p : Nat} {n : Nat} {M : mm_M} : mq_N M.2.2 (mf_102 p n M) := by
  unfold mf_102
  exact mq_N_ite (mq_N_ret rfl) (mq_N_ite (mq_N_ite (mq_N_ite (mq_N_ret rfl) (mq_N_ret rfl)) (mq_N_none)) (mq_N_ret rfl))
-- 83: PlainPacks$Blocks.readRowCodes
theorem mn_83_b92 {v1 : Int32} {v2 : Int32} {M : mm_M} : mq_N M.2.2 (mf_83_b92 v1 v2 M) := by
  unfold mf_83_b92
  exact mq_N_ite (mq_N_ite (mq_N_ite (mq_N_B (mq_N_call mn_46 rfl) (fun _ M2 hM2 => mq_N_ite (mq_N_ret hM2) (mq_N_none))) (mq_N_none)) (mq_N_ret rfl)) (mq_N_ret rfl)
theorem mn_83_L92 {v1 : Int32} {s : Int32} {M : mm_M} : mq_N M.2.2 (mf_83_L92 v1 s M) := by
  unfold mf_83_L92
  exact mq_N_L (fun s M h => mq_N_call mn_83_b92 h) rfl
theorem mn_83_j159 {s0 : Int32} {M : mm_M} : mq_N M.2.2 (mf_83_j159 s0 M) := by
  unfold mf_83_j159
  exact mq_N_B (mq_N_call mn_27 rfl) (fun _ M1 hM1 => mq_N_ret hM1)
theorem mn_83_j133 {M : mm_M} : mq_N M.2.2 (mf_83_j133 M) := by
  unfold mf_83_j133
  exact mq_N_B (mq_N_call mn_99 rfl) (fun _ M1 hM1 => mq_N_B (mq_N_call mn_102 hM1) (fun _ M3 hM3 => mq_N_ite (mq_N_call mn_83_j159 hM3) (mq_N_call mn_83_j159 hM3)))
theorem mn_83_j64 {s0 : Int32} {M : mm_M} : mq_N M.2.2 (mf_83_j64 s0 M) := by
  unfold mf_83_j64
  exact mq_N_B (mq_N_call mn_27 rfl) (fun _ M1 hM1 => mq_N_B (mq_N_call mn_46 hM1) (fun _ M3 hM3 => mq_N_B (mq_N_call mn_290 hM3) (fun _ M4 hM4 => mq_N_B (mq_N_call mn_83_L92 hM4) (fun _ M5 hM5 => mq_N_call mn_83_j133 hM5))))
theorem mn_83_j32 {s0 : Int32} {M : mm_M} : mq_N M.2.2 (mf_83_j32 s0 M) := by
  unfold mf_83_j32
  exact mq_N_B (mq_N_call mn_27 rfl) (fun _ M1 hM1 => mq_N_B (mq_N_call mn_46 hM1) (fun _ M3 hM3 => mq_N_ite (mq_N_call mn_83_j64 hM3) (mq_N_call mn_83_j64 hM3)))
theorem mn_83 {M : mm_M} : mq_N M.2.2 (mf_83 M) := by
  unfold mf_83
  exact mq_N_B (mq_N_call mn_46 rfl) (fun _ M2 hM2 => mq_N_ite (mq_N_call mn_83_j32 hM2) (mq_N_call mn_83_j32 hM2))
-- 103: PlainPacks$Codes.take
theorem mn_103_j97 {p : Nat} {n : Nat} {v2 : Int32} {v3 : Int32} {v4 : Int32} {v5 : Int32} {s0 : Int32} {M : mm_M} : mq_N M.2.2 (mf_103_j97 p n v2 v3 v4 v5 s0 M) := by
  unfold mf_103_j97
  exact mq_N_B (mq_N_call mn_27 rfl) (fun _ M1 hM1 => mq_N_ite (mq_N_ite (mq_N_ret hM1) (mq_N_none)) (mq_N_none))
theorem mn_103_j78 {p : Nat} {n : Nat} {v2 : Int32} {v3 : Int32} {v4 : Int32} {v5 : Int32} {M : mm_M} : mq_N M.2.2 (mf_103_j78 p n v2 v3 v4 v5 M) := by
  unfold mf_103_j78
  exact mq_N_ite (mq_N_call mn_103_j97 rfl) (mq_N_call mn_103_j97 rfl)
theorem mn_103_b25 {p : Nat} {n : Nat} {v2 : Int32} {v3 : Int32} {v4 : Int32} {v5 : Int32} {M : mm_M} : mq_N M.2.2 (mf_103_b25 p n v2 v3 v4 v5 M) := by
  unfold mf_103_b25
  exact mq_N_ite (mq_N_thr rfl) (mq_N_B (mq_N_call mn_45 rfl) (fun _ M2 hM2 => mq_N_ite (mq_N_call mn_103_j78 hM2) (mq_N_ite (mq_N_ite (mq_N_ret hM2) (mq_N_call mn_103_j78 hM2)) (mq_N_none))))
theorem mn_103_L25 {p : Nat} {n : Nat} {s : Int32 × Int32 × Int32 × Int32} {M : mm_M} : mq_N M.2.2 (mf_103_L25 p n s M) := by
  unfold mf_103_L25
  exact mq_N_L (fun s M h => mq_N_call mn_103_b25 h) rfl
theorem mn_103_j67 {p : Nat} {n : Nat} {v4 : Int32} {v6 : Int32} {M : mm_M} : mq_N M.2.2 (mf_103_j67 p n v4 v6 M) := by
  unfold mf_103_j67
  exact mq_N_ite (mq_N_ret rfl) (mq_N_none)
theorem mn_103_j12 {p : Nat} {n : Nat} {s0 : Int32} {M : mm_M} : mq_N M.2.2 (mf_103_j12 p n s0 M) := by
  unfold mf_103_j12
  exact mq_N_B (mq_N_call mn_27 rfl) (fun _ M1 hM1 => mq_N_B (mq_N_call mn_103_L25 hM1) (fun _ M2 hM2 => mq_N_call mn_103_j67 hM2))
theorem mn_103 {p : Nat} {n : Nat} {M : mm_M} : mq_N M.2.2 (mf_103 p n M) := by
  unfold mf_103
  exact mq_N_ite (mq_N_call mn_103_j12 rfl) (mq_N_call mn_103_j12 rfl)
-- 84: PlainPacks$Blocks.readRow
theorem mn_84_b151 {v1 : Int32} {v2 : Int32} {v4 : Int32} {v5 : Int32} {v6 : Int32} {M : mm_M} : mq_N M.2.2 (mf_84_b151 v1 v2 v4 v5 v6 M) := by
  unfold mf_84_b151
  exact mq_N_ite (mq_N_ite (mq_N_ret rfl) (mq_N_none)) (mq_N_ret rfl)
theorem mn_84_L151 {v1 : Int32} {v4 : Int32} {v5 : Int32} {s : Int32 × Int32} {M : mm_M} : mq_N M.2.2 (mf_84_L151 v1 v4 v5 s M) := by
  unfold mf_84_L151
  exact mq_N_L (fun s M h => mq_N_call mn_84_b151 h) rfl
theorem mn_84_j145 {v1 : Int32} {v2 : Int32} {v4 : Int32} {v5 : Int32} {s0 : Int32} {M : mm_M} : mq_N M.2.2 (mf_84_j145 v1 v2 v4 v5 s0 M) := by
  unfold mf_84_j145
  exact mq_N_B (mq_N_call mn_27 rfl) (fun _ M1 hM1 => mq_N_B (mq_N_call mn_84_L151 hM1) (fun _ M2 hM2 => mq_N_ret hM2))
theorem mn_84_j132 {v1 : Int32} {v2 : Int32} {v4 : Int32} {v5 : Int32} {M : mm_M} : mq_N M.2.2 (mf_84_j132 v1 v2 v4 v5 M) := by
  unfold mf_84_j132
  exact mq_N_ite (mq_N_call mn_84_j145 rfl) (mq_N_call mn_84_j145 rfl)
theorem mn_84_j60 {v1 : Int32} {v2 : Int32} {s0 : Int32} {M : mm_M} : mq_N M.2.2 (mf_84_j60 v1 v2 s0 M) := by
  unfold mf_84_j60
  exact mq_N_B (mq_N_call mn_27 rfl) (fun _ M1 hM1 => mq_N_ite (mq_N_B (mq_N_call mn_46 hM1) (fun _ M3 hM3 => mq_N_call mn_84_j132 hM3)) (mq_N_none))
theorem mn_84_j40 {v1 : Int32} {v2 : Int32} {v3 : Int32} {s0 : Int32} {M : mm_M} : mq_N M.2.2 (mf_84_j40 v1 v2 v3 s0 M) := by
  unfold mf_84_j40
  exact mq_N_ite (mq_N_ite (mq_N_call mn_84_j60 rfl) (mq_N_call mn_84_j60 rfl)) (mq_N_ite (mq_N_B (mq_N_call mn_46 rfl) (fun _ M2 hM2 => mq_N_call mn_84_j132 hM2)) (mq_N_ite (mq_N_B (mq_N_call mn_46 rfl) (fun _ M4 hM4 => mq_N_call mn_84_j132 hM4)) (mq_N_call mn_84_j132 rfl)))
theorem mn_84_b12 {v1 : Int32} {v2 : Int32} {M : mm_M} : mq_N M.2.2 (mf_84_b12 v1 v2 M) := by
  unfold mf_84_b12
  exact mq_N_ite (mq_N_B (mq_N_call mn_103 rfl) (fun _ M2 hM2 => mq_N_ite (mq_N_call mn_84_j40 hM2) (mq_N_call mn_84_j40 hM2))) (mq_N_ret rfl)
theorem mn_84_L12 {v1 : Int32} {s : Int32} {M : mm_M} : mq_N M.2.2 (mf_84_L12 v1 s M) := by
  unfold mf_84_L12
  exact mq_N_L (fun s M h => mq_N_call mn_84_b12 h) rfl
theorem mn_84 {M : mm_M} : mq_N M.2.2 (mf_84 M) := by
  unfold mf_84
  exact mq_N_B (mq_N_call mn_84_L12 rfl) (fun _ M1 hM1 => mq_N_ret hM1)
-- 101: PlainPacks$Codes.isEmpty
theorem mn_101 {p : Nat} {n : Nat} {M : mm_M} : mq_N M.2.2 (mf_101 p n M) := by
  unfold mf_101
  exact mq_N_ite (mq_N_ret rfl) (mq_N_ret rfl)
-- 85: PlainPacks$Blocks.setRowCodes
theorem mn_85_j130 {s0 : Int32} {M : mm_M} : mq_N M.2.2 (mf_85_j130 s0 M) := by
  unfold mf_85_j130
  exact mq_N_B (mq_N_call mn_27 rfl) (fun _ M1 hM1 => mq_N_ret hM1)
theorem mn_85_j129 {M : mm_M} : mq_N M.2.2 (mf_85_j129 M) := by
  unfold mf_85_j129
  exact mq_N_call mn_85_j130 rfl
theorem mn_85_j102 {s0 : Int32} {M : mm_M} : mq_N M.2.2 (mf_85_j102 s0 M) := by
  unfold mf_85_j102
  exact mq_N_B (mq_N_call mn_27 rfl) (fun _ M1 hM1 => mq_N_B (mq_N_call mn_102 hM1) (fun _ M3 hM3 => mq_N_ite (mq_N_B (mq_N_call mn_101 hM3) (fun _ M5 hM5 => mq_N_ite (mq_N_call mn_85_j130 hM5) (mq_N_call mn_85_j129 hM5))) (mq_N_call mn_85_j129 hM3)))
theorem mn_85_j84 {s0 : Int32} {M : mm_M} : mq_N M.2.2 (mf_85_j84 s0 M) := by
  unfold mf_85_j84
  exact mq_N_B (mq_N_call mn_27 rfl) (fun _ M1 hM1 => mq_N_B (mq_N_call mn_102 hM1) (fun _ M3 hM3 => mq_N_ite (mq_N_call mn_85_j102 hM3) (mq_N_call mn_85_j102 hM3)))
theorem mn_85 {M : mm_M} : mq_N M.2.2 (mf_85 M) := by
  unfold mf_85
  exact mq_N_ite (mq_N_ite (mq_N_B (mq_N_call mn_99 rfl) (fun _ M1 hM1 => mq_N_B (mq_N_call mn_99 hM1) (fun _ M2 hM2 => mq_N_ite (mq_N_ite (mq_N_call mn_85_j84 hM2) (mq_N_call mn_85_j84 hM2)) (mq_N_none)))) (mq_N_none)) (mq_N_none)
-- 87: PlainPacks$Blocks.readLength
theorem mn_87 {v1 : Int32} {M : mm_M} : mq_N M.2.2 (mf_87 v1 M) := by
  unfold mf_87
  exact mq_N_ite (mq_N_ret rfl) (mq_N_ite (mq_N_ret rfl) (mq_N_B (mq_N_call mn_46 rfl) (fun _ M2 hM2 => mq_N_ret hM2)))
-- 88: PlainPacks$Blocks.readDistance
theorem mn_88_j23 {v1 : Int32} {s0 : Int32} {M : mm_M} : mq_N M.2.2 (mf_88_j23 v1 s0 M) := by
  unfold mf_88_j23
  exact mq_N_B (mq_N_call mn_27 rfl) (fun _ M1 hM1 => mq_N_ite (mq_N_ret hM1) (mq_N_B (mq_N_call mn_46 hM1) (fun _ M3 hM3 => mq_N_ret hM3)))
theorem mn_88 {M : mm_M} : mq_N M.2.2 (mf_88 M) := by
  unfold mf_88
  exact mq_N_B (mq_N_call mn_103 rfl) (fun _ M2 hM2 => mq_N_ite (mq_N_call mn_88_j23 hM2) (mq_N_call mn_88_j23 hM2))
-- 54: PlainPacks$Sink.repeat
theorem mn_54_b22 {v1 : Int32} {v2 : Int32} {v3 : Int32} {M : mm_M} : mq_N M.2.2 (mf_54_b22 v1 v2 v3 M) := by
  unfold mf_54_b22
  exact mq_N_ite (mq_N_ite (mq_N_B (mq_N_call mn_51 rfl) (fun _ M1 hM1 => mq_N_ret hM1)) (mq_N_none)) (mq_N_ret rfl)
theorem mn_54_L22 {v1 : Int32} {v2 : Int32} {s : Int32} {M : mm_M} : mq_N M.2.2 (mf_54_L22 v1 v2 s M) := by
  unfold mf_54_L22
  exact mq_N_L (fun s M h => mq_N_call mn_54_b22 h) rfl
theorem mn_54_j17 {v1 : Int32} {v2 : Int32} {s0 : Int32} {M : mm_M} : mq_N M.2.2 (mf_54_j17 v1 v2 s0 M) := by
  unfold mf_54_j17
  exact mq_N_B (mq_N_call mn_27 rfl) (fun _ M1 hM1 => mq_N_B (mq_N_call mn_54_L22 hM1) (fun _ M2 hM2 => mq_N_ret hM2))
theorem mn_54 {v1 : Int32} {v2 : Int32} {M : mm_M} : mq_N M.2.2 (mf_54 v1 v2 M) := by
  unfold mf_54
  exact mq_N_ite (mq_N_call mn_54_j17 rfl) (mq_N_ite (mq_N_call mn_54_j17 rfl) (mq_N_call mn_54_j17 rfl))
-- 53: PlainPacks$Sink.copy
theorem mn_53_j21 {v1 : Int32} {v2 : Int64} {s0 : Int32} {M : mm_M} : mq_N M.2.2 (mf_53_j21 v1 v2 s0 M) := by
  unfold mf_53_j21
  exact mq_N_B (mq_N_call mn_27 rfl) (fun _ M1 hM1 => mq_N_B (mq_N_call mn_54 hM1) (fun _ M2 hM2 => mq_N_ret hM2))
theorem mn_53 {v1 : Int32} {v2 : Int64} {M : mm_M} : mq_N M.2.2 (mf_53 v1 v2 M) := by
  unfold mf_53
  exact mq_N_ite (mq_N_ite (mq_N_call mn_53_j21 rfl) (mq_N_call mn_53_j21 rfl)) (mq_N_call mn_53_j21 rfl)
-- 86: PlainPacks$Blocks.readLetters
theorem mn_86_j85 {v1 : Int32} {v2 : Int32} {v4 : Int32} {v5 : Int32} {s0 : Int32} {M : mm_M} : mq_N M.2.2 (mf_86_j85 v1 v2 v4 v5 s0 M) := by
  unfold mf_86_j85
  exact mq_N_B (mq_N_call mn_27 rfl) (fun _ M1 hM1 => mq_N_B (mq_N_call mn_53 hM1) (fun _ M2 hM2 => mq_N_ret hM2))
theorem mn_86_j58 {v1 : Int32} {v2 : Int32} {v3 : Int32} {s0 : Int32} {M : mm_M} : mq_N M.2.2 (mf_86_j58 v1 v2 v3 s0 M) := by
  unfold mf_86_j58
  exact mq_N_B (mq_N_call mn_27 rfl) (fun _ M1 hM1 => mq_N_B (mq_N_call mn_87 hM1) (fun _ M3 hM3 => mq_N_B (mq_N_call mn_88 hM3) (fun _ M5 hM5 => mq_N_ite (mq_N_call mn_86_j85 hM5) (mq_N_call mn_86_j85 hM5))))
theorem mn_86_b2 {v1 : Int32} {v2 : Int32} {M : mm_M} : mq_N M.2.2 (mf_86_b2 v1 v2 M) := by
  unfold mf_86_b2
  exact mq_N_ite (mq_N_B (mq_N_call mn_103 rfl) (fun _ M2 hM2 => mq_N_ite (mq_N_ret hM2) (mq_N_ite (mq_N_B (mq_N_call mn_52 hM2) (fun _ M3 hM3 => mq_N_ret hM3)) (mq_N_ite (mq_N_call mn_86_j58 hM2) (mq_N_call mn_86_j58 hM2))))) (mq_N_ret rfl)
theorem mn_86_L2 {v1 : Int32} {s : Int32} {M : mm_M} : mq_N M.2.2 (mf_86_L2 v1 s M) := by
  unfold mf_86_L2
  exact mq_N_L (fun s M h => mq_N_call mn_86_b2 h) rfl
theorem mn_86 {v1 : Int32} {M : mm_M} : mq_N M.2.2 (mf_86 v1 M) := by
  unfold mf_86
  exact mq_N_B (mq_N_call mn_86_L2 rfl) (fun _ M1 hM1 => mq_N_sm (fun _ => mq_N_ret hM1) (fun _ => mq_N_ret hM1))
-- 79: PlainPacks$Blocks.readBlocks
theorem mn_79_j106 {v1 : Int32} {v2 : Int32} {v3 : Int32} {M : mm_M} : mq_N M.2.2 (mf_79_j106 v1 v2 v3 M) := by
  unfold mf_79_j106
  exact mq_N_B (mq_N_call mn_86 rfl) (fun _ M1 hM1 => mq_N_ret hM1)
theorem mn_79_j53 {v1 : Int32} {v2 : Int32} {v3 : Int32} {v4 : Int32} {s0 : Int32} {M : mm_M} : mq_N M.2.2 (mf_79_j53 v1 v2 v3 v4 s0 M) := by
  unfold mf_79_j53
  exact mq_N_B (mq_N_call mn_27 rfl) (fun _ M1 hM1 => mq_N_ite (mq_N_B (mq_N_call mn_80 hM1) (fun _ M2 hM2 => mq_N_ret hM2)) (mq_N_ite (mq_N_B (mq_N_call mn_81 hM1) (fun _ M3 hM3 => mq_N_call mn_79_j106 hM3)) (mq_N_B (mq_N_call mn_83 hM1) (fun _ M4 hM4 => mq_N_B (mq_N_call mn_84 hM4) (fun _ M5 hM5 => mq_N_B (mq_N_call mn_85 hM5) (fun _ M6 hM6 => mq_N_call mn_79_j106 hM6))))))
theorem mn_79_j30 {v1 : Int32} {v3 : Int32} {s0 : Int32} {M : mm_M} : mq_N M.2.2 (mf_79_j30 v1 v3 s0 M) := by
  unfold mf_79_j30
  exact mq_N_B (mq_N_call mn_46 rfl) (fun _ M2 hM2 => mq_N_ite (mq_N_call mn_79_j53 hM2) (mq_N_call mn_79_j53 hM2))
theorem mn_79_b4 {v1 : Int32} {v2 : Int32} {v3 : Int32} {M : mm_M} : mq_N M.2.2 (mf_79_b4 v1 v2 v3 M) := by
  unfold mf_79_b4
  exact mq_N_ite (mq_N_ite (mq_N_B (mq_N_call mn_45 rfl) (fun _ M2 hM2 => mq_N_ite (mq_N_call mn_79_j30 hM2) (mq_N_call mn_79_j30 hM2))) (mq_N_ret rfl)) (mq_N_ret rfl)
theorem mn_79_L4 {v1 : Int32} {s : Int32 × Int32} {M : mm_M} : mq_N M.2.2 (mf_79_L4 v1 s M) := by
  unfold mf_79_L4
  exact mq_N_L (fun s M h => mq_N_call mn_79_b4 h) rfl
theorem mn_79 {v1 : Int32} {M : mm_M} : mq_N M.2.2 (mf_79 v1 M) := by
  unfold mf_79
  exact mq_N_B (mq_N_call mn_79_L4 rfl) (fun _ M1 hM1 => mq_N_ret hM1)
-- 48: PlainPacks$Source.high
theorem mn_48_b5 {v1 : Int32} {v2 : Int64} {v4 : Int32} {M : mm_M} : mq_N M.2.2 (mf_48_b5 v1 v2 v4 M) := by
  unfold mf_48_b5
  exact mq_N_ite (mq_N_B (mq_N_call mn_44 rfl) (fun _ M2 hM2 => mq_N_ret hM2)) (mq_N_ret rfl)
theorem mn_48_L5 {v1 : Int32} {s : Int64 × Int32} {M : mm_M} : mq_N M.2.2 (mf_48_L5 v1 s M) := by
  unfold mf_48_L5
  exact mq_N_L (fun s M h => mq_N_call mn_48_b5 h) rfl
theorem mn_48 {v1 : Int32} {M : mm_M} : mq_N M.2.2 (mf_48 v1 M) := by
  unfold mf_48
  exact mq_N_B (mq_N_call mn_48_L5 rfl) (fun _ M1 hM1 => mq_N_ret hM1)
-- 30: PlainPacks.adlerOf
theorem mn_30_b8 {p : Nat} {n : Nat} {v2 : Int32} {v3 : Int32} {v4 : Int32} {v5 : Int32} {M : mm_M} : mq_N M.2.2 (mf_30_b8 p n v2 v3 v4 v5 M) := by
  unfold mf_30_b8
  exact mq_N_ite (mq_N_ite (mq_N_ret rfl) (mq_N_none)) (mq_N_ret rfl)
theorem mn_30_L8 {p : Nat} {n : Nat} {v2 : Int32} {s : Int32 × Int32 × Int32} {M : mm_M} : mq_N M.2.2 (mf_30_L8 p n v2 s M) := by
  unfold mf_30_L8
  exact mq_N_L (fun s M h => mq_N_call mn_30_b8 h) rfl
theorem mn_30 {p : Nat} {n : Nat} {v1 : Int32} {v2 : Int32} {M : mm_M} : mq_N M.2.2 (mf_30 p n v1 v2 M) := by
  unfold mf_30
  exact mq_N_B (mq_N_call mn_30_L8 rfl) (fun _ M1 hM1 => mq_N_ret hM1)
-- 75: PlainPacks$Blocks.readWrapped
theorem mn_75_j110 {s0 : Int32} {M : mm_M} : mq_N M.2.2 (mf_75_j110 s0 M) := by
  unfold mf_75_j110
  exact mq_N_B (mq_N_call mn_27 rfl) (fun _ M1 hM1 => mq_N_ret hM1)
theorem mn_75_j59 {v1 : Int32} {s0 : Int32} {M : mm_M} : mq_N M.2.2 (mf_75_j59 v1 s0 M) := by
  unfold mf_75_j59
  exact mq_N_B (mq_N_call mn_27 rfl) (fun _ M1 hM1 => mq_N_B (mq_N_call mn_79 hM1) (fun _ M2 hM2 => mq_N_B (mq_N_call mn_48 hM2) (fun _ M4 hM4 => mq_N_B (mq_N_call mn_30 hM4) (fun _ M6 hM6 => mq_N_ite (mq_N_call mn_75_j110 hM6) (mq_N_call mn_75_j110 hM6)))))
theorem mn_75 {M : mm_M} : mq_N M.2.2 (mf_75 M) := by
  unfold mf_75
  exact mq_N_B (mq_N_call mn_44 rfl) (fun _ M2 hM2 => mq_N_B (mq_N_call mn_44 hM2) (fun _ M4 hM4 => mq_N_ite (mq_N_ite (mq_N_call mn_75_j59 hM4) (mq_N_ite (mq_N_ite (mq_N_call mn_75_j59 hM4) (mq_N_call mn_75_j59 hM4)) (mq_N_call mn_75_j59 hM4))) (mq_N_call mn_75_j59 hM4)))
-- 77: PlainPacks$Blocks.passBytes
theorem mn_77_b2 {v1 : Int32} {v2 : Int32} {M : mm_M} : mq_N M.2.2 (mf_77_b2 v1 v2 M) := by
  unfold mf_77_b2
  exact mq_N_ite (mq_N_B (mq_N_call mn_44 rfl) (fun _ M2 hM2 => mq_N_ret hM2)) (mq_N_ret rfl)
theorem mn_77_L2 {v1 : Int32} {s : Int32} {M : mm_M} : mq_N M.2.2 (mf_77_L2 v1 s M) := by
  unfold mf_77_L2
  exact mq_N_L (fun s M h => mq_N_call mn_77_b2 h) rfl
theorem mn_77 {v1 : Int32} {M : mm_M} : mq_N M.2.2 (mf_77 v1 M) := by
  unfold mf_77
  exact mq_N_B (mq_N_call mn_77_L2 rfl) (fun _ M1 hM1 => mq_N_ret hM1)
-- 78: PlainPacks$Blocks.passText
theorem mn_78_b10 {v1 : Int32} {v2 : Int32} {M : mm_M} : mq_N M.2.2 (mf_78_b10 v1 v2 M) := by
  unfold mf_78_b10
  exact mq_N_ite (mq_N_ite (mq_N_ret rfl) (mq_N_B (mq_N_call mn_44 rfl) (fun _ M2 hM2 => mq_N_ret hM2))) (mq_N_ret rfl)
theorem mn_78_L10 {s : Int32 × Int32} {M : mm_M} : mq_N M.2.2 (mf_78_L10 s M) := by
  unfold mf_78_L10
  exact mq_N_L (fun s M h => mq_N_call mn_78_b10 h) rfl
theorem mn_78 {M : mm_M} : mq_N M.2.2 (mf_78 M) := by
  unfold mf_78
  exact mq_N_B (mq_N_call mn_44 rfl) (fun _ M2 hM2 => mq_N_B (mq_N_call mn_78_L10 hM2) (fun _ M3 hM3 => mq_N_ret hM3))
-- 28: PlainPacks.crcOf
theorem mn_28_b21 {p : Nat} {n : Nat} {v2 : Int32} {v3 : Int32} {v4 : Int32} {v5 : Int32} {M : mm_M} : mq_N M.2.2 (mf_28_b21 p n v2 v3 v4 v5 M) := by
  unfold mf_28_b21
  exact mq_N_ite (mq_N_ite (mq_N_ret rfl) (mq_N_ret rfl)) (mq_N_ret rfl)
theorem mn_28_L21 {p : Nat} {n : Nat} {v2 : Int32} {v4 : Int32} {s : Int32 × Int32} {M : mm_M} : mq_N M.2.2 (mf_28_L21 p n v2 v4 s M) := by
  unfold mf_28_L21
  exact mq_N_L (fun s M h => mq_N_call mn_28_b21 h) rfl
theorem mn_28_b5 {p : Nat} {n : Nat} {v2 : Int32} {v3 : Int32} {v4 : Int32} {M : mm_M} : mq_N M.2.2 (mf_28_b5 p n v2 v3 v4 M) := by
  unfold mf_28_b5
  exact mq_N_ite (mq_N_ite (mq_N_B (mq_N_call mn_28_L21 rfl) (fun _ M1 hM1 => mq_N_ret hM1)) (mq_N_none)) (mq_N_ret rfl)
theorem mn_28_L5 {p : Nat} {n : Nat} {v2 : Int32} {s : Int32 × Int32} {M : mm_M} : mq_N M.2.2 (mf_28_L5 p n v2 s M) := by
  unfold mf_28_L5
  exact mq_N_L (fun s M h => mq_N_call mn_28_b5 h) rfl
theorem mn_28 {p : Nat} {n : Nat} {v1 : Int32} {v2 : Int32} {M : mm_M} : mq_N M.2.2 (mf_28 p n v1 v2 M) := by
  unfold mf_28
  exact mq_N_B (mq_N_call mn_28_L5 rfl) (fun _ M1 hM1 => mq_N_ret hM1)
-- 76: PlainPacks$Blocks.readFile
theorem mn_76_j248 {s0 : Int32} {M : mm_M} : mq_N M.2.2 (mf_76_j248 s0 M) := by
  unfold mf_76_j248
  exact mq_N_B (mq_N_call mn_27 rfl) (fun _ M1 hM1 => mq_N_ret hM1)
theorem mn_76_j220 {s0 : Int32} {M : mm_M} : mq_N M.2.2 (mf_76_j220 s0 M) := by
  unfold mf_76_j220
  exact mq_N_B (mq_N_call mn_27 rfl) (fun _ M1 hM1 => mq_N_B (mq_N_call mn_47 hM1) (fun _ M3 hM3 => mq_N_ite (mq_N_call mn_76_j248 hM3) (mq_N_call mn_76_j248 hM3)))
theorem mn_76_j179 {M : mm_M} : mq_N M.2.2 (mf_76_j179 M) := by
  unfold mf_76_j179
  exact mq_N_B (mq_N_call mn_79 rfl) (fun _ M1 hM1 => mq_N_B (mq_N_call mn_47 hM1) (fun _ M3 hM3 => mq_N_B (mq_N_call mn_28 hM3) (fun _ M5 hM5 => mq_N_ite (mq_N_call mn_76_j220 hM5) (mq_N_call mn_76_j220 hM5))))
theorem mn_76_j176 {s0 : Int32} {M : mm_M} : mq_N M.2.2 (mf_76_j176 s0 M) := by
  unfold mf_76_j176
  exact mq_N_B (mq_N_call mn_27 rfl) (fun _ M1 hM1 => mq_N_call mn_76_j179 hM1)
theorem mn_76_j130 {v1 : Int32} {M : mm_M} : mq_N M.2.2 (mf_76_j130 v1 M) := by
  unfold mf_76_j130
  exact mq_N_ite (mq_N_call mn_76_j179 rfl) (mq_N_B (mq_N_call mn_28 rfl) (fun _ M2 hM2 => mq_N_B (mq_N_call mn_47 hM2) (fun _ M4 hM4 => mq_N_ite (mq_N_call mn_76_j176 hM4) (mq_N_call mn_76_j176 hM4))))
theorem mn_76_j119 {v1 : Int32} {M : mm_M} : mq_N M.2.2 (mf_76_j119 v1 M) := by
  unfold mf_76_j119
  exact mq_N_ite (mq_N_call mn_76_j130 rfl) (mq_N_B (mq_N_call mn_78 rfl) (fun _ M1 hM1 => mq_N_call mn_76_j130 hM1))
theorem mn_76_j108 {v1 : Int32} {M : mm_M} : mq_N M.2.2 (mf_76_j108 v1 M) := by
  unfold mf_76_j108
  exact mq_N_ite (mq_N_call mn_76_j119 rfl) (mq_N_B (mq_N_call mn_78 rfl) (fun _ M1 hM1 => mq_N_call mn_76_j119 hM1))
theorem mn_76_j80 {v1 : Int32} {s0 : Int32} {M : mm_M} : mq_N M.2.2 (mf_76_j80 v1 s0 M) := by
  unfold mf_76_j80
  exact mq_N_B (mq_N_call mn_27 rfl) (fun _ M1 hM1 => mq_N_B (mq_N_call mn_77 hM1) (fun _ M2 hM2 => mq_N_ite (mq_N_call mn_76_j108 hM2) (mq_N_B (mq_N_call mn_47 hM2) (fun _ M4 hM4 => mq_N_B (mq_N_call mn_77 hM4) (fun _ M5 hM5 => mq_N_call mn_76_j108 hM5)))))
theorem mn_76_j58 {s0 : Int32} {M : mm_M} : mq_N M.2.2 (mf_76_j58 s0 M) := by
  unfold mf_76_j58
  exact mq_N_B (mq_N_call mn_27 rfl) (fun _ M1 hM1 => mq_N_B (mq_N_call mn_44 hM1) (fun _ M3 hM3 => mq_N_ite (mq_N_call mn_76_j80 hM3) (mq_N_call mn_76_j80 hM3)))
theorem mn_76_j38 {s0 : Int32} {M : mm_M} : mq_N M.2.2 (mf_76_j38 s0 M) := by
  unfold mf_76_j38
  exact mq_N_B (mq_N_call mn_27 rfl) (fun _ M1 hM1 => mq_N_B (mq_N_call mn_44 hM1) (fun _ M3 hM3 => mq_N_ite (mq_N_call mn_76_j58 hM3) (mq_N_call mn_76_j58 hM3)))
theorem mn_76_j17 {s0 : Int32} {M : mm_M} : mq_N M.2.2 (mf_76_j17 s0 M) := by
  unfold mf_76_j17
  exact mq_N_B (mq_N_call mn_27 rfl) (fun _ M1 hM1 => mq_N_B (mq_N_call mn_44 hM1) (fun _ M3 hM3 => mq_N_ite (mq_N_call mn_76_j38 hM3) (mq_N_call mn_76_j38 hM3)))
theorem mn_76 {M : mm_M} : mq_N M.2.2 (mf_76 M) := by
  unfold mf_76
  exact mq_N_B (mq_N_call mn_44 rfl) (fun _ M2 hM2 => mq_N_ite (mq_N_call mn_76_j17 hM2) (mq_N_call mn_76_j17 hM2))
-- 34: PlainPacks.topBit
theorem mn_34_b6 {v1 : Int32} {v2 : Int32} {M : mm_M} : mq_N M.2.2 (mf_34_b6 v1 v2 M) := by
  unfold mf_34_b6
  exact mq_N_ite (mq_N_ret rfl) (mq_N_ret rfl)
theorem mn_34_L6 {s : Int32 × Int32} {M : mm_M} : mq_N M.2.2 (mf_34_L6 s M) := by
  unfold mf_34_L6
  exact mq_N_L (fun s M h => mq_N_call mn_34_b6 h) rfl
theorem mn_34 {v0 : Int32} {M : mm_M} : mq_N M.2.2 (mf_34 v0 M) := by
  unfold mf_34
  exact mq_N_B (mq_N_call mn_34_L6 rfl) (fun _ M1 hM1 => mq_N_ret hM1)
-- 105: PlainPacks$Words.forget
theorem mn_105 {M : mm_M} : mq_N M.2.2 (mf_105 M) := by
  unfold mf_105
  exact mq_N_B (mq_N_call mn_34 rfl) (fun _ M2 hM2 => mq_N_ret hM2)
-- 104: PlainPacks$Words.begin
theorem mn_104 {v1 : Int32} {v2 : Int32} {M : mm_M} : mq_N M.2.2 (mf_104 v1 v2 M) := by
  unfold mf_104
  exact mq_N_B (mq_N_call mn_105 rfl) (fun _ M1 hM1 => mq_N_ret hM1)
-- 110: PlainPacks$Words.tellWord
theorem mn_110 {M : mm_M} : mq_N M.2.2 (mf_110 M) := by
  unfold mf_110
  exact mq_N_ite (mq_N_ite (mq_N_ite (mq_N_ite (mq_N_ret rfl) (mq_N_none)) (mq_N_none)) (mq_N_ret rfl)) (mq_N_ret rfl)
-- 111: PlainPacks$Words.putWord
theorem mn_111 {v1 : Int32} {M : mm_M} : mq_N M.2.2 (mf_111 v1 M) := by
  unfold mf_111
  exact mq_N_ite (mq_N_B (mq_N_call mn_51 rfl) (fun _ M1 hM1 => mq_N_ret hM1)) (mq_N_ite (mq_N_ite (mq_N_B (mq_N_call mn_54 rfl) (fun _ M2 hM2 => mq_N_ite (mq_N_ret hM2) (mq_N_none))) (mq_N_none)) (mq_N_none))
-- 106: PlainPacks$Words.widen
theorem mn_106 {M : mm_M} : mq_N M.2.2 (mf_106 M) := by
  unfold mf_106
  exact mq_N_ite (mq_N_ite (mq_N_ret rfl) (mq_N_ret rfl)) (mq_N_ret rfl)
-- 109: PlainPacks$Words.readCodes
theorem mn_109_j64 {v1 : Int32} {v2 : Int32} {s0 : Int32} {M : mm_M} : mq_N M.2.2 (mf_109_j64 v1 v2 s0 M) := by
  unfold mf_109_j64
  exact mq_N_B (mq_N_call mn_27 rfl) (fun _ M1 hM1 => mq_N_B (mq_N_call mn_111 hM1) (fun _ M2 hM2 => mq_N_B (mq_N_call mn_106 hM2) (fun _ M3 hM3 => mq_N_ret hM3)))
theorem mn_109_b2 {v1 : Int32} {M : mm_M} : mq_N M.2.2 (mf_109_b2 v1 M) := by
  unfold mf_109_b2
  exact mq_N_ite (mq_N_B (mq_N_call mn_46 rfl) (fun _ M2 hM2 => mq_N_ite (mq_N_ret hM2) (mq_N_ite (mq_N_B (mq_N_call mn_105 hM2) (fun _ M3 hM3 => mq_N_ret hM3)) (mq_N_B (mq_N_call mn_110 hM2) (fun _ M4 hM4 => mq_N_ite (mq_N_call mn_109_j64 hM4) (mq_N_call mn_109_j64 hM4)))))) (mq_N_ret rfl)
theorem mn_109_L2 {s : Int32} {M : mm_M} : mq_N M.2.2 (mf_109_L2 s M) := by
  unfold mf_109_L2
  exact mq_N_L (fun s M h => mq_N_call mn_109_b2 h) rfl
theorem mn_109 {M : mm_M} : mq_N M.2.2 (mf_109 M) := by
  unfold mf_109
  exact mq_N_B (mq_N_call mn_109_L2 rfl) (fun _ M1 hM1 => mq_N_sm (fun _ => mq_N_ret hM1) (fun _ => mq_N_ret hM1))
-- 107: PlainPacks$Words.readLow
theorem mn_107_j24 {v1 : Int32} {s0 : Int32} {M : mm_M} : mq_N M.2.2 (mf_107_j24 v1 s0 M) := by
  unfold mf_107_j24
  exact mq_N_B (mq_N_call mn_27 rfl) (fun _ M1 hM1 => mq_N_B (mq_N_call mn_104 hM1) (fun _ M2 hM2 => mq_N_B (mq_N_call mn_109 hM2) (fun _ M3 hM3 => mq_N_ret hM3)))
theorem mn_107 {M : mm_M} : mq_N M.2.2 (mf_107 M) := by
  unfold mf_107
  exact mq_N_B (mq_N_call mn_44 rfl) (fun _ M2 hM2 => mq_N_ite (mq_N_call mn_107_j24 hM2) (mq_N_ite (mq_N_call mn_107_j24 hM2) (mq_N_call mn_107_j24 hM2)))
-- 108: PlainPacks$Words.readHigh
theorem mn_108 {M : mm_M} : mq_N M.2.2 (mf_108 M) := by
  unfold mf_108
  exact mq_N_B (mq_N_call mn_104 rfl) (fun _ M1 hM1 => mq_N_B (mq_N_call mn_109 hM1) (fun _ M2 hM2 => mq_N_ret hM2))
-- 119: PlainPacks$Pieces.readMore
theorem mn_119_j54 {v2 : Int32} {v4 : Int32} {v5 : Int32} {s0 : Int32} {M : mm_M} : mq_N M.2.2 (mf_119_j54 v2 v4 v5 s0 M) := by
  unfold mf_119_j54
  exact mq_N_B (mq_N_call mn_27 rfl) (fun _ M1 hM1 => mq_N_ite (mq_N_ret hM1) (mq_N_ret hM1))
theorem mn_119_b17 {v2 : Int32} {v3 : Int32} {v4 : Int32} {M : mm_M} : mq_N M.2.2 (mf_119_b17 v2 v3 v4 M) := by
  unfold mf_119_b17
  exact mq_N_ite (mq_N_ite (mq_N_ret rfl) (mq_N_B (mq_N_call mn_44 rfl) (fun _ M2 hM2 => mq_N_ite (mq_N_call mn_119_j54 hM2) (mq_N_call mn_119_j54 hM2)))) (mq_N_ret rfl)
theorem mn_119_L17 {s : Int32 × Int32 × Int32} {M : mm_M} : mq_N M.2.2 (mf_119_L17 s M) := by
  unfold mf_119_L17
  exact mq_N_L (fun s M h => mq_N_call mn_119_b17 h) rfl
theorem mn_119 {v1 : Int32} {M : mm_M} : mq_N M.2.2 (mf_119 v1 M) := by
  unfold mf_119
  exact mq_N_ite (mq_N_B (mq_N_call mn_119_L17 rfl) (fun _ M1 hM1 => mq_N_ret hM1)) (mq_N_B (mq_N_call mn_119_L17 rfl) (fun _ M8 hM8 => mq_N_ret hM8))
-- 120: PlainPacks$Pieces.putPlain
theorem mn_120_b2 {v1 : Int64} {v3 : Int64} {M : mm_M} : mq_N M.2.2 (mf_120_b2 v1 v3 M) := by
  unfold mf_120_b2
  exact mq_N_ite (mq_N_B (mq_N_call mn_44 rfl) (fun _ M2 hM2 => mq_N_B (mq_N_call mn_52 hM2) (fun _ M3 hM3 => mq_N_ret hM3))) (mq_N_ret rfl)
theorem mn_120_L2 {v1 : Int64} {s : Int64} {M : mm_M} : mq_N M.2.2 (mf_120_L2 v1 s M) := by
  unfold mf_120_L2
  exact mq_N_L (fun s M h => mq_N_call mn_120_b2 h) rfl
theorem mn_120 {v1 : Int64} {M : mm_M} : mq_N M.2.2 (mf_120 v1 M) := by
  unfold mf_120
  exact mq_N_B (mq_N_call mn_120_L2 rfl) (fun _ M1 hM1 => mq_N_ret hM1)
-- 118: PlainPacks$Pieces.readPieces
theorem mn_118_j74 {v1 : Int32} {v2 : Int32} {v3 : Int32} {v4 : Int32} {s0 : Int32} {M : mm_M} : mq_N M.2.2 (mf_118_j74 v1 v2 v3 v4 s0 M) := by
  unfold mf_118_j74
  exact mq_N_B (mq_N_call mn_27 rfl) (fun _ M1 hM1 => mq_N_B (mq_N_call mn_119 hM1) (fun _ M3 hM3 => mq_N_B (mq_N_call mn_53 hM3) (fun _ M4 hM4 => mq_N_ret hM4)))
theorem mn_118_b2 {v1 : Int32} {v2 : Int32} {M : mm_M} : mq_N M.2.2 (mf_118_b2 v1 v2 M) := by
  unfold mf_118_b2
  exact mq_N_ite (mq_N_B (mq_N_call mn_44 rfl) (fun _ M2 hM2 => mq_N_B (mq_N_call mn_119 hM2) (fun _ M4 hM4 => mq_N_B (mq_N_call mn_120 hM4) (fun _ M5 hM5 => mq_N_B (mq_N_call mn_43 hM5) (fun _ M7 hM7 => mq_N_ite (mq_N_B (mq_N_call mn_47 hM7) (fun _ M9 hM9 => mq_N_ite (mq_N_call mn_118_j74 hM9) (mq_N_ite (mq_N_call mn_118_j74 hM9) (mq_N_call mn_118_j74 hM9)))) (mq_N_ret hM7)))))) (mq_N_ret rfl)
theorem mn_118_L2 {v1 : Int32} {s : Int32} {M : mm_M} : mq_N M.2.2 (mf_118_L2 v1 s M) := by
  unfold mf_118_L2
  exact mq_N_L (fun s M h => mq_N_call mn_118_b2 h) rfl
theorem mn_118 {v1 : Int32} {M : mm_M} : mq_N M.2.2 (mf_118 v1 M) := by
  unfold mf_118
  exact mq_N_B (mq_N_call mn_118_L2 rfl) (fun _ M1 hM1 => mq_N_sm (fun _ => mq_N_ret hM1) (fun _ => mq_N_ret hM1))
-- 33: PlainPacks.lowWord
theorem mn_33 {p : Nat} {n : Nat} {v1 : Int32} {M : mm_M} : mq_N M.2.2 (mf_33 p n v1 M) := by
  unfold mf_33
  exact mq_N_ite (mq_N_ite (mq_N_ite (mq_N_ite (mq_N_ret rfl) (mq_N_none)) (mq_N_none)) (mq_N_none)) (mq_N_none)
-- 32: PlainPacks.turnedLeft
theorem mn_32 {v0 : Int32} {v1 : Int32} {M : mm_M} : mq_N M.2.2 (mf_32 v0 v1 M) := by
  unfold mf_32
  exact mq_N_ret rfl
-- 31: PlainPacks.xxOf
theorem mn_31_b187 {p : Nat} {n : Nat} {v2 : Int32} {v3 : Int32} {v4 : Int32} {M : mm_M} : mq_N M.2.2 (mf_31_b187 p n v2 v3 v4 M) := by
  unfold mf_31_b187
  exact mq_N_ite (mq_N_ret rfl) (mq_N_B (mq_N_call mn_33 rfl) (fun _ M2 hM2 => mq_N_B (mq_N_call mn_32 hM2) (fun _ M4 hM4 => mq_N_ret hM4)))
theorem mn_31_L187 {p : Nat} {n : Nat} {v2 : Int32} {s : Int32 × Int32} {M : mm_M} : mq_N M.2.2 (mf_31_L187 p n v2 s M) := by
  unfold mf_31_L187
  exact mq_N_L (fun s M h => mq_N_call mn_31_b187 h) rfl
theorem mn_31_b223 {p : Nat} {n : Nat} {v2 : Int32} {v3 : Int32} {v4 : Int32} {M : mm_M} : mq_N M.2.2 (mf_31_b223 p n v2 v3 v4 M) := by
  unfold mf_31_b223
  exact mq_N_ite (mq_N_ite (mq_N_B (mq_N_call mn_32 rfl) (fun _ M2 hM2 => mq_N_ret hM2)) (mq_N_none)) (mq_N_ret rfl)
theorem mn_31_L223 {p : Nat} {n : Nat} {v2 : Int32} {s : Int32 × Int32} {M : mm_M} : mq_N M.2.2 (mf_31_L223 p n v2 s M) := by
  unfold mf_31_L223
  exact mq_N_L (fun s M h => mq_N_call mn_31_b223 h) rfl
theorem mn_31_j255 {p : Nat} {n : Nat} {v4 : Int32} {M : mm_M} : mq_N M.2.2 (mf_31_j255 p n v4 M) := by
  unfold mf_31_j255
  exact mq_N_ret rfl
theorem mn_31_b33 {p : Nat} {n : Nat} {v1 : Int32} {v2 : Int32} {v3 : Int32} {v5 : Int32} {v6 : Int32} {v7 : Int32} {v8 : Int32} {M : mm_M} : mq_N M.2.2 (mf_31_b33 p n v1 v2 v3 v5 v6 v7 v8 M) := by
  unfold mf_31_b33
  exact mq_N_ite (mq_N_ret rfl) (mq_N_B (mq_N_call mn_33 rfl) (fun _ M2 hM2 => mq_N_B (mq_N_call mn_32 hM2) (fun _ M4 hM4 => mq_N_B (mq_N_call mn_33 hM4) (fun _ M6 hM6 => mq_N_B (mq_N_call mn_32 hM6) (fun _ M8 hM8 => mq_N_B (mq_N_call mn_33 hM8) (fun _ M10 hM10 => mq_N_B (mq_N_call mn_32 hM10) (fun _ M12 hM12 => mq_N_B (mq_N_call mn_33 hM12) (fun _ M14 hM14 => mq_N_B (mq_N_call mn_32 hM14) (fun _ M16 hM16 => mq_N_ret hM16)))))))))
theorem mn_31_L33 {p : Nat} {n : Nat} {v1 : Int32} {v2 : Int32} {s : Int32 × Int32 × Int32 × Int32 × Int32} {M : mm_M} : mq_N M.2.2 (mf_31_L33 p n v1 v2 s M) := by
  unfold mf_31_L33
  exact mq_N_L (fun s M h => mq_N_call mn_31_b33 h) rfl
theorem mn_31_j147 {p : Nat} {n : Nat} {v1 : Int32} {v2 : Int32} {v3 : Int32} {v5 : Int32} {v6 : Int32} {v7 : Int32} {v8 : Int32} {M : mm_M} : mq_N M.2.2 (mf_31_j147 p n v1 v2 v3 v5 v6 v7 v8 M) := by
  unfold mf_31_j147
  exact mq_N_B (mq_N_call mn_32 rfl) (fun _ M2 hM2 => mq_N_B (mq_N_call mn_32 hM2) (fun _ M4 hM4 => mq_N_B (mq_N_call mn_32 hM4) (fun _ M6 hM6 => mq_N_B (mq_N_call mn_32 hM6) (fun _ M8 hM8 => mq_N_B (mq_N_call mn_31_L187 hM8) (fun _ M9 hM9 => mq_N_B (mq_N_call mn_31_L223 hM9) (fun _ M16 hM16 => mq_N_call mn_31_j255 hM16))))))
theorem mn_31 {p : Nat} {n : Nat} {v1 : Int32} {v2 : Int32} {M : mm_M} : mq_N M.2.2 (mf_31 p n v1 v2 M) := by
  unfold mf_31
  exact mq_N_ite (mq_N_B (mq_N_call mn_31_L187 rfl) (fun _ M1 hM1 => mq_N_B (mq_N_call mn_31_L223 hM1) (fun _ M8 hM8 => mq_N_call mn_31_j255 hM8))) (mq_N_B (mq_N_call mn_31_L33 rfl) (fun _ M18 hM18 => mq_N_call mn_31_j147 hM18))
-- 122: PlainPacks$Pieces.readFrameHead
theorem mn_122_j166 {v4 : Int64} {s0 : Int32} {M : mm_M} : mq_N M.2.2 (mf_122_j166 v4 s0 M) := by
  unfold mf_122_j166
  exact mq_N_B (mq_N_call mn_27 rfl) (fun _ M1 hM1 => mq_N_ret hM1)
theorem mn_122_j120 {v1 : Int32} {s0 : Int64} {M : mm_M} : mq_N M.2.2 (mf_122_j120 v1 s0 M) := by
  unfold mf_122_j120
  exact mq_N_B (mq_N_call mn_31 rfl) (fun _ M2 hM2 => mq_N_B (mq_N_call mn_44 hM2) (fun _ M4 hM4 => mq_N_ite (mq_N_call mn_122_j166 hM4) (mq_N_call mn_122_j166 hM4)))
theorem mn_122_j82 {v1 : Int32} {v3 : Int32} {s0 : Int32} {M : mm_M} : mq_N M.2.2 (mf_122_j82 v1 v3 s0 M) := by
  unfold mf_122_j82
  exact mq_N_B (mq_N_call mn_27 rfl) (fun _ M1 hM1 => mq_N_ite (mq_N_call mn_122_j120 hM1) (mq_N_B (mq_N_call mn_47 hM1) (fun _ M3 hM3 => mq_N_call mn_122_j120 hM3)))
theorem mn_122_j44 {v1 : Int32} {s0 : Int32} {M : mm_M} : mq_N M.2.2 (mf_122_j44 v1 s0 M) := by
  unfold mf_122_j44
  exact mq_N_B (mq_N_call mn_27 rfl) (fun _ M1 hM1 => mq_N_B (mq_N_call mn_44 hM1) (fun _ M3 hM3 => mq_N_ite (mq_N_ite (mq_N_call mn_122_j82 hM3) (mq_N_ite (mq_N_call mn_122_j82 hM3) (mq_N_call mn_122_j82 hM3))) (mq_N_call mn_122_j82 hM3)))
theorem mn_122 {M : mm_M} : mq_N M.2.2 (mf_122 M) := by
  unfold mf_122
  exact mq_N_B (mq_N_call mn_44 rfl) (fun _ M2 hM2 => mq_N_ite (mq_N_ite (mq_N_call mn_122_j44 hM2) (mq_N_call mn_122_j44 hM2)) (mq_N_call mn_122_j44 hM2))
-- 41: PlainPacks$Source.closeBehind
theorem mn_41 {v1 : Int32} {M : mm_M} : mq_N M.2.2 (mf_41 v1 M) := by
  unfold mf_41
  exact mq_N_ite (mq_N_ret rfl) (mq_N_ret rfl)
-- 42: PlainPacks$Source.reopen
theorem mn_42 {M : mm_M} : mq_N M.2.2 (mf_42 M) := by
  unfold mf_42
  exact mq_N_ret rfl
-- 123: PlainPacks$Pieces.readFrameBlock
theorem mn_123_j174 {s0 : Int32} {M : mm_M} : mq_N M.2.2 (mf_123_j174 s0 M) := by
  unfold mf_123_j174
  exact mq_N_B (mq_N_call mn_27 rfl) (fun _ M1 hM1 => mq_N_ret hM1)
theorem mn_123_j124 {v6 : Int32} {M : mm_M} : mq_N M.2.2 (mf_123_j124 v6 M) := by
  unfold mf_123_j124
  exact mq_N_ite (mq_N_ret rfl) (mq_N_B (mq_N_call mn_47 rfl) (fun _ M2 hM2 => mq_N_B (mq_N_call mn_31 hM2) (fun _ M4 hM4 => mq_N_ite (mq_N_call mn_123_j174 hM4) (mq_N_call mn_123_j174 hM4))))
theorem mn_123_j114 {v6 : Int32} {s1 : Int32} {M : mm_M} : mq_N M.2.2 (mf_123_j114 v6 s1 M) := by
  unfold mf_123_j114
  exact mq_N_B (mq_N_call mn_118 rfl) (fun _ M1 hM1 => mq_N_B (mq_N_call mn_42 hM1) (fun _ M2 hM2 => mq_N_call mn_123_j124 hM2))
theorem mn_123_j44 {v3 : Int32} {v4 : Int64} {s0 : Int32} {M : mm_M} : mq_N M.2.2 (mf_123_j44 v3 v4 s0 M) := by
  unfold mf_123_j44
  exact mq_N_B (mq_N_call mn_27 rfl) (fun _ M1 hM1 => mq_N_ite (mq_N_B (mq_N_call mn_41 hM1) (fun _ M2 hM2 => mq_N_ite (mq_N_call mn_123_j114 hM2) (mq_N_call mn_123_j114 hM2))) (mq_N_B (mq_N_call mn_120 hM1) (fun _ M3 hM3 => mq_N_call mn_123_j124 hM3)))
theorem mn_123_j27 {v3 : Int32} {s0 : Int64} {M : mm_M} : mq_N M.2.2 (mf_123_j27 v3 s0 M) := by
  unfold mf_123_j27
  exact mq_N_ite (mq_N_call mn_123_j44 rfl) (mq_N_call mn_123_j44 rfl)
theorem mn_123_j13 {v1 : Int64} {s0 : Int32} {M : mm_M} : mq_N M.2.2 (mf_123_j13 v1 s0 M) := by
  unfold mf_123_j13
  exact mq_N_ite (mq_N_call mn_123_j27 rfl) (mq_N_call mn_123_j27 rfl)
theorem mn_123 {v1 : Int64} {M : mm_M} : mq_N M.2.2 (mf_123 v1 M) := by
  unfold mf_123
  exact mq_N_ite (mq_N_call mn_123_j13 rfl) (mq_N_call mn_123_j13 rfl)
-- 121: PlainPacks$Pieces.readFrame
theorem mn_121_j122 {v1 : Int64} {v4 : Int32} {v5 : Int64} {s0 : Int32} {M : mm_M} : mq_N M.2.2 (mf_121_j122 v1 v4 v5 s0 M) := by
  unfold mf_121_j122
  exact mq_N_ite (mq_N_ret rfl) (mq_N_B (mq_N_call mn_123 rfl) (fun _ M1 hM1 => mq_N_ret hM1))
theorem mn_121_b89 {v1 : Int64} {v3 : Int32} {v4 : Int32} {M : mm_M} : mq_N M.2.2 (mf_121_b89 v1 v3 v4 M) := by
  unfold mf_121_b89
  exact mq_N_ite (mq_N_ite (mq_N_ret rfl) (mq_N_B (mq_N_call mn_47 rfl) (fun _ M2 hM2 => mq_N_ite (mq_N_call mn_121_j122 hM2) (mq_N_call mn_121_j122 hM2)))) (mq_N_ret rfl)
theorem mn_121_L89 {v1 : Int64} {s : Int32 × Int32} {M : mm_M} : mq_N M.2.2 (mf_121_L89 v1 s M) := by
  unfold mf_121_L89
  exact mq_N_L (fun s M h => mq_N_call mn_121_b89 h) rfl
theorem mn_121_j214 {s0 : Int32} {M : mm_M} : mq_N M.2.2 (mf_121_j214 s0 M) := by
  unfold mf_121_j214
  exact mq_N_B (mq_N_call mn_27 rfl) (fun _ M1 hM1 => mq_N_ret hM1)
theorem mn_121_j167 {s0 : Int32} {M : mm_M} : mq_N M.2.2 (mf_121_j167 s0 M) := by
  unfold mf_121_j167
  exact mq_N_B (mq_N_call mn_27 rfl) (fun _ M1 hM1 => mq_N_ite (mq_N_ret hM1) (mq_N_B (mq_N_call mn_47 hM1) (fun _ M3 hM3 => mq_N_B (mq_N_call mn_31 hM3) (fun _ M5 hM5 => mq_N_ite (mq_N_call mn_121_j214 hM5) (mq_N_call mn_121_j214 hM5)))))
theorem mn_121_j166 {M : mm_M} : mq_N M.2.2 (mf_121_j166 M) := by
  unfold mf_121_j166
  exact mq_N_call mn_121_j167 rfl
theorem mn_121_j139 {v1 : Int64} {M : mm_M} : mq_N M.2.2 (mf_121_j139 v1 M) := by
  unfold mf_121_j139
  exact mq_N_ite (mq_N_call mn_121_j166 rfl) (mq_N_ite (mq_N_call mn_121_j166 rfl) (mq_N_call mn_121_j167 rfl))
theorem mn_121_j76 {s0 : Int32} {M : mm_M} : mq_N M.2.2 (mf_121_j76 s0 M) := by
  unfold mf_121_j76
  exact mq_N_B (mq_N_call mn_27 rfl) (fun _ M1 hM1 => mq_N_B (mq_N_call mn_122 hM1) (fun _ M3 hM3 => mq_N_B (mq_N_call mn_121_L89 hM3) (fun _ M4 hM4 => mq_N_call mn_121_j139 hM4)))
theorem mn_121_j56 {s0 : Int32} {M : mm_M} : mq_N M.2.2 (mf_121_j56 s0 M) := by
  unfold mf_121_j56
  exact mq_N_B (mq_N_call mn_27 rfl) (fun _ M1 hM1 => mq_N_B (mq_N_call mn_44 hM1) (fun _ M3 hM3 => mq_N_ite (mq_N_call mn_121_j76 hM3) (mq_N_call mn_121_j76 hM3)))
theorem mn_121_j36 {s0 : Int32} {M : mm_M} : mq_N M.2.2 (mf_121_j36 s0 M) := by
  unfold mf_121_j36
  exact mq_N_B (mq_N_call mn_27 rfl) (fun _ M1 hM1 => mq_N_B (mq_N_call mn_44 hM1) (fun _ M3 hM3 => mq_N_ite (mq_N_call mn_121_j56 hM3) (mq_N_call mn_121_j56 hM3)))
theorem mn_121_j16 {s0 : Int32} {M : mm_M} : mq_N M.2.2 (mf_121_j16 s0 M) := by
  unfold mf_121_j16
  exact mq_N_B (mq_N_call mn_27 rfl) (fun _ M1 hM1 => mq_N_B (mq_N_call mn_44 hM1) (fun _ M3 hM3 => mq_N_ite (mq_N_call mn_121_j36 hM3) (mq_N_call mn_121_j36 hM3)))
theorem mn_121 {M : mm_M} : mq_N M.2.2 (mf_121 M) := by
  unfold mf_121
  exact mq_N_B (mq_N_call mn_44 rfl) (fun _ M2 hM2 => mq_N_ite (mq_N_call mn_121_j16 hM2) (mq_N_call mn_121_j16 hM2))
-- 125: PlainPacks$Pieces.readTagCount
theorem mn_125_b7 {v1 : Int64} {v3 : Int32} {v4 : Int32} {M : mm_M} : mq_N M.2.2 (mf_125_b7 v1 v3 v4 M) := by
  unfold mf_125_b7
  exact mq_N_ite (mq_N_ite (mq_N_ret rfl) (mq_N_B (mq_N_call mn_44 rfl) (fun _ M2 hM2 => mq_N_ite (mq_N_ret hM2) (mq_N_ret hM2)))) (mq_N_ret rfl)
theorem mn_125_L7 {s : Int64 × Int32 × Int32} {M : mm_M} : mq_N M.2.2 (mf_125_L7 s M) := by
  unfold mf_125_L7
  exact mq_N_L (fun s M h => mq_N_call mn_125_b7 h) rfl
theorem mn_125_j78 {v1 : Int64} {s0 : Int32} {M : mm_M} : mq_N M.2.2 (mf_125_j78 v1 s0 M) := by
  unfold mf_125_j78
  exact mq_N_B (mq_N_call mn_27 rfl) (fun _ M1 hM1 => mq_N_ret hM1)
theorem mn_125_j61 {v1 : Int64} {v3 : Int32} {M : mm_M} : mq_N M.2.2 (mf_125_j61 v1 v3 M) := by
  unfold mf_125_j61
  exact mq_N_ite (mq_N_ite (mq_N_call mn_125_j78 rfl) (mq_N_call mn_125_j78 rfl)) (mq_N_call mn_125_j78 rfl)
theorem mn_125 {M : mm_M} : mq_N M.2.2 (mf_125 M) := by
  unfold mf_125
  exact mq_N_B (mq_N_call mn_125_L7 rfl) (fun _ M1 hM1 => mq_N_call mn_125_j61 hM1)
-- 126: PlainPacks$Pieces.readTagDistance
theorem mn_126_j41 {s1 : Int32} {M : mm_M} : mq_N M.2.2 (mf_126_j41 s1 M) := by
  unfold mf_126_j41
  exact mq_N_B (mq_N_call mn_47 rfl) (fun _ M2 hM2 => mq_N_ret hM2)
theorem mn_126 {v1 : Int32} {M : mm_M} : mq_N M.2.2 (mf_126 v1 M) := by
  unfold mf_126
  exact mq_N_ite (mq_N_B (mq_N_call mn_44 rfl) (fun _ M2 hM2 => mq_N_ret hM2)) (mq_N_ite (mq_N_call mn_126_j41 rfl) (mq_N_call mn_126_j41 rfl))
-- 124: PlainPacks$Pieces.readTags
theorem mn_124_j114 {v1 : Int64} {v3 : Int32} {v6 : Int64} {s0 : Int32} {M : mm_M} : mq_N M.2.2 (mf_124_j114 v1 v3 v6 s0 M) := by
  unfold mf_124_j114
  exact mq_N_B (mq_N_call mn_27 rfl) (fun _ M1 hM1 => mq_N_B (mq_N_call mn_120 hM1) (fun _ M2 hM2 => mq_N_ret hM2))
theorem mn_124_j90 {v1 : Int64} {v3 : Int32} {s0 : Int64} {s1 : Int64} {M : mm_M} : mq_N M.2.2 (mf_124_j90 v1 v3 s0 s1 M) := by
  unfold mf_124_j90
  exact mq_N_ite (mq_N_call mn_124_j114 rfl) (mq_N_call mn_124_j114 rfl)
theorem mn_124_j171 {v1 : Int64} {v3 : Int32} {v4 : Int32} {v6 : Int32} {s0 : Int32} {M : mm_M} : mq_N M.2.2 (mf_124_j171 v1 v3 v4 v6 s0 M) := by
  unfold mf_124_j171
  exact mq_N_B (mq_N_call mn_27 rfl) (fun _ M1 hM1 => mq_N_B (mq_N_call mn_126 hM1) (fun _ M3 hM3 => mq_N_B (mq_N_call mn_53 hM3) (fun _ M4 hM4 => mq_N_ret hM4)))
theorem mn_124_j148 {v1 : Int64} {v3 : Int32} {v4 : Int32} {s0 : Int32} {M : mm_M} : mq_N M.2.2 (mf_124_j148 v1 v3 v4 s0 M) := by
  unfold mf_124_j148
  exact mq_N_ite (mq_N_call mn_124_j171 rfl) (mq_N_call mn_124_j171 rfl)
theorem mn_124_b23 {v1 : Int64} {v3 : Int32} {M : mm_M} : mq_N M.2.2 (mf_124_b23 v1 v3 M) := by
  unfold mf_124_b23
  exact mq_N_ite (mq_N_ite (mq_N_B (mq_N_call mn_44 rfl) (fun _ M2 hM2 => mq_N_ite (mq_N_ite (mq_N_call mn_124_j90 hM2) (mq_N_B (mq_N_call mn_47 hM2) (fun _ M4 hM4 => mq_N_call mn_124_j90 hM4))) (mq_N_ite (mq_N_call mn_124_j148 hM2) (mq_N_call mn_124_j148 hM2)))) (mq_N_ret rfl)) (mq_N_ret rfl)
theorem mn_124_L23 {v1 : Int64} {s : Int32} {M : mm_M} : mq_N M.2.2 (mf_124_L23 v1 s M) := by
  unfold mf_124_L23
  exact mq_N_L (fun s M h => mq_N_call mn_124_b23 h) rfl
theorem mn_124_j18 {v1 : Int64} {s0 : Int32} {M : mm_M} : mq_N M.2.2 (mf_124_j18 v1 s0 M) := by
  unfold mf_124_j18
  exact mq_N_B (mq_N_call mn_27 rfl) (fun _ M1 hM1 => mq_N_B (mq_N_call mn_124_L23 hM1) (fun _ M2 hM2 => mq_N_ret hM2))
theorem mn_124 {M : mm_M} : mq_N M.2.2 (mf_124 M) := by
  unfold mf_124
  exact mq_N_B (mq_N_call mn_125 rfl) (fun _ M2 hM2 => mq_N_ite (mq_N_call mn_124_j18 hM2) (mq_N_call mn_124_j18 hM2))
-- 139: PlainPacks$Sorted.readOccurring
theorem mn_139_b53 {v1 : Int32} {v2 : Int32} {v3 : Int32} {v4 : Int32} {M : mm_M} : mq_N M.2.2 (mf_139_b53 v1 v2 v3 v4 M) := by
  unfold mf_139_b53
  exact mq_N_ite (mq_N_ite (mq_N_ret rfl) (mq_N_ite (mq_N_ret rfl) (mq_N_none))) (mq_N_ret rfl)
theorem mn_139_L53 {v1 : Int32} {v2 : Int32} {v3 : Int32} {s : Int32} {M : mm_M} : mq_N M.2.2 (mf_139_L53 v1 v2 v3 s M) := by
  unfold mf_139_L53
  exact mq_N_L (fun s M h => mq_N_call mn_139_b53 h) rfl
theorem mn_139_b18 {v1 : Int32} {v2 : Int32} {M : mm_M} : mq_N M.2.2 (mf_139_b18 v1 v2 M) := by
  unfold mf_139_b18
  exact mq_N_ite (mq_N_ite (mq_N_B (mq_N_call mn_139_L53 rfl) (fun _ M1 hM1 => mq_N_ret hM1)) (mq_N_B (mq_N_call mn_46 rfl) (fun _ M6 hM6 => mq_N_B (mq_N_call mn_139_L53 hM6) (fun _ M7 hM7 => mq_N_ret hM7)))) (mq_N_ret rfl)
theorem mn_139_L18 {v1 : Int32} {s : Int32} {M : mm_M} : mq_N M.2.2 (mf_139_L18 v1 s M) := by
  unfold mf_139_L18
  exact mq_N_L (fun s M h => mq_N_call mn_139_b18 h) rfl
theorem mn_139_j122 {s0 : Int32} {M : mm_M} : mq_N M.2.2 (mf_139_j122 s0 M) := by
  unfold mf_139_j122
  exact mq_N_B (mq_N_call mn_27 rfl) (fun _ M1 hM1 => mq_N_ret hM1)
theorem mn_139_j110 {M : mm_M} : mq_N M.2.2 (mf_139_j110 M) := by
  unfold mf_139_j110
  exact mq_N_ite (mq_N_call mn_139_j122 rfl) (mq_N_call mn_139_j122 rfl)
theorem mn_139 {M : mm_M} : mq_N M.2.2 (mf_139 M) := by
  unfold mf_139
  exact mq_N_B (mq_N_call mn_46 rfl) (fun _ M2 hM2 => mq_N_B (mq_N_call mn_139_L18 hM2) (fun _ M3 hM3 => mq_N_call mn_139_j110 hM3))
-- 141: PlainPacks$Sorted.moveToFront
theorem mn_141_b17 {p : Nat} {n : Nat} {v2 : Int32} {v3 : Int32} {M : mm_M} : mq_N M.2.2 (mf_141_b17 p n v2 v3 M) := by
  unfold mf_141_b17
  exact mq_N_ite (mq_N_ite (mq_N_ite (mq_N_ret rfl) (mq_N_none)) (mq_N_none)) (mq_N_ret rfl)
theorem mn_141_L17 {p : Nat} {n : Nat} {v2 : Int32} {s : Int32} {M : mm_M} : mq_N M.2.2 (mf_141_L17 p n v2 s M) := by
  unfold mf_141_L17
  exact mq_N_L (fun s M h => mq_N_call mn_141_b17 h) rfl
theorem mn_141_j35 {p : Nat} {n : Nat} {v2 : Int32} {M : mm_M} : mq_N M.2.2 (mf_141_j35 p n v2 M) := by
  unfold mf_141_j35
  exact mq_N_ite (mq_N_ret rfl) (mq_N_none)
theorem mn_141 {p : Nat} {n : Nat} {v1 : Int32} {M : mm_M} : mq_N M.2.2 (mf_141 p n v1 M) := by
  unfold mf_141
  exact mq_N_ite (mq_N_ret rfl) (mq_N_ite (mq_N_ite (mq_N_B (mq_N_call mn_141_L17 rfl) (fun _ M1 hM1 => mq_N_call mn_141_j35 hM1)) (mq_N_none)) (mq_N_ret rfl))
-- 140: PlainPacks$Sorted.readSelectors
theorem mn_140_b32 {v1 : Int32} {v2 : Int32} {M : mm_M} : mq_N M.2.2 (mf_140_b32 v1 v2 M) := by
  unfold mf_140_b32
  exact mq_N_ite (mq_N_ite (mq_N_ret rfl) (mq_N_none)) (mq_N_ret rfl)
theorem mn_140_L32 {v1 : Int32} {s : Int32} {M : mm_M} : mq_N M.2.2 (mf_140_L32 v1 s M) := by
  unfold mf_140_L32
  exact mq_N_L (fun s M h => mq_N_call mn_140_b32 h) rfl
theorem mn_140_b63 {v1 : Int32} {v2 : Int32} {v3 : Int32} {M : mm_M} : mq_N M.2.2 (mf_140_b63 v1 v2 v3 M) := by
  unfold mf_140_b63
  exact mq_N_ite (mq_N_B (mq_N_call mn_45 rfl) (fun _ M2 hM2 => mq_N_ite (mq_N_ret hM2) (mq_N_ret hM2))) (mq_N_ret rfl)
theorem mn_140_L63 {v1 : Int32} {v2 : Int32} {s : Int32} {M : mm_M} : mq_N M.2.2 (mf_140_L63 v1 v2 s M) := by
  unfold mf_140_L63
  exact mq_N_L (fun s M h => mq_N_call mn_140_b63 h) rfl
theorem mn_140_j95 {v1 : Int32} {v2 : Int32} {v3 : Int32} {s0 : Int32} {M : mm_M} : mq_N M.2.2 (mf_140_j95 v1 v2 v3 s0 M) := by
  unfold mf_140_j95
  exact mq_N_B (mq_N_call mn_27 rfl) (fun _ M1 hM1 => mq_N_B (mq_N_call mn_141 hM1) (fun _ M2 hM2 => mq_N_ite (mq_N_ite (mq_N_ite (mq_N_ret hM2) (mq_N_none)) (mq_N_none)) (mq_N_ret hM2)))
theorem mn_140_j85 {v1 : Int32} {v2 : Int32} {v3 : Int32} {M : mm_M} : mq_N M.2.2 (mf_140_j85 v1 v2 v3 M) := by
  unfold mf_140_j85
  exact mq_N_ite (mq_N_call mn_140_j95 rfl) (mq_N_call mn_140_j95 rfl)
theorem mn_140_b53 {v1 : Int32} {v2 : Int32} {M : mm_M} : mq_N M.2.2 (mf_140_b53 v1 v2 M) := by
  unfold mf_140_b53
  exact mq_N_ite (mq_N_B (mq_N_call mn_140_L63 rfl) (fun _ M1 hM1 => mq_N_call mn_140_j85 hM1)) (mq_N_ret rfl)
theorem mn_140_L53 {v1 : Int32} {s : Int32} {M : mm_M} : mq_N M.2.2 (mf_140_L53 v1 s M) := by
  unfold mf_140_L53
  exact mq_N_L (fun s M h => mq_N_call mn_140_b53 h) rfl
theorem mn_140_j27 {v1 : Int32} {s0 : Int32} {M : mm_M} : mq_N M.2.2 (mf_140_j27 v1 s0 M) := by
  unfold mf_140_j27
  exact mq_N_B (mq_N_call mn_27 rfl) (fun _ M1 hM1 => mq_N_B (mq_N_call mn_140_L32 hM1) (fun _ M2 hM2 => mq_N_B (mq_N_call mn_140_L53 hM2) (fun _ M6 hM6 => mq_N_ret hM6)))
theorem mn_140 {v1 : Int32} {M : mm_M} : mq_N M.2.2 (mf_140 v1 M) := by
  unfold mf_140
  exact mq_N_B (mq_N_call mn_46 rfl) (fun _ M2 hM2 => mq_N_ite (mq_N_call mn_140_j27 hM2) (mq_N_call mn_140_j27 hM2))
-- 100: PlainPacks$Codes.isOver
theorem mn_100 {p : Nat} {n : Nat} {M : mm_M} : mq_N M.2.2 (mf_100 p n M) := by
  unfold mf_100
  exact mq_N_ite (mq_N_ret rfl) (mq_N_ret rfl)
-- 142: PlainPacks$Sorted.readTable
theorem mn_142_j96 {p : Nat} {n : Nat} {v2 : Int32} {v3 : Int32} {v4 : Int32} {s0 : Int32} {M : mm_M} : mq_N M.2.2 (mf_142_j96 p n v2 v3 v4 s0 M) := by
  unfold mf_142_j96
  exact mq_N_B (mq_N_call mn_27 rfl) (fun _ M1 hM1 => mq_N_ret hM1)
theorem mn_142_j78 {p : Nat} {n : Nat} {v3 : Int32} {v4 : Int32} {s0 : Int32} {s1 : Int32} {M : mm_M} : mq_N M.2.2 (mf_142_j78 p n v3 v4 s0 s1 M) := by
  unfold mf_142_j78
  exact mq_N_ite (mq_N_call mn_142_j96 rfl) (mq_N_ite (mq_N_call mn_142_j96 rfl) (mq_N_call mn_142_j96 rfl))
theorem mn_142_b44 {p : Nat} {n : Nat} {v2 : Int32} {v3 : Int32} {v4 : Int32} {M : mm_M} : mq_N M.2.2 (mf_142_b44 p n v2 v3 v4 M) := by
  unfold mf_142_b44
  exact mq_N_ite (mq_N_B (mq_N_call mn_45 rfl) (fun _ M2 hM2 => mq_N_ite (mq_N_B (mq_N_call mn_45 hM2) (fun _ M4 hM4 => mq_N_ite (mq_N_call mn_142_j78 hM4) (mq_N_call mn_142_j78 hM4))) (mq_N_ret hM2))) (mq_N_ret rfl)
theorem mn_142_L44 {p : Nat} {n : Nat} {v3 : Int32} {s : Int32 × Int32} {M : mm_M} : mq_N M.2.2 (mf_142_L44 p n v3 s M) := by
  unfold mf_142_L44
  exact mq_N_L (fun s M h => mq_N_call mn_142_b44 h) rfl
theorem mn_142_j105 {p : Nat} {n : Nat} {v2 : Int32} {v3 : Int32} {M : mm_M} : mq_N M.2.2 (mf_142_j105 p n v2 v3 M) := by
  unfold mf_142_j105
  exact mq_N_ite (mq_N_ret rfl) (mq_N_none)
theorem mn_142_b31 {p : Nat} {n : Nat} {v2 : Int32} {v3 : Int32} {M : mm_M} : mq_N M.2.2 (mf_142_b31 p n v2 v3 M) := by
  unfold mf_142_b31
  exact mq_N_ite (mq_N_B (mq_N_call mn_142_L44 rfl) (fun _ M1 hM1 => mq_N_call mn_142_j105 hM1)) (mq_N_ret rfl)
theorem mn_142_L31 {p : Nat} {n : Nat} {s : Int32 × Int32} {M : mm_M} : mq_N M.2.2 (mf_142_L31 p n s M) := by
  unfold mf_142_L31
  exact mq_N_L (fun s M h => mq_N_call mn_142_b31 h) rfl
theorem mn_142_j118 {p : Nat} {n : Nat} {M : mm_M} : mq_N M.2.2 (mf_142_j118 p n M) := by
  unfold mf_142_j118
  exact mq_N_B (mq_N_call mn_99 rfl) (fun _ M1 hM1 => mq_N_B (mq_N_call mn_100 hM1) (fun _ M3 hM3 => mq_N_B (mq_N_call mn_27 hM3) (fun _ M4 hM4 => mq_N_ret hM4)))
theorem mn_142_j26 {p : Nat} {n : Nat} {v2 : Int32} {s0 : Int32} {M : mm_M} : mq_N M.2.2 (mf_142_j26 p n v2 s0 M) := by
  unfold mf_142_j26
  exact mq_N_B (mq_N_call mn_27 rfl) (fun _ M1 hM1 => mq_N_B (mq_N_call mn_142_L31 hM1) (fun _ M2 hM2 => mq_N_call mn_142_j118 hM2))
theorem mn_142 {p : Nat} {n : Nat} {M : mm_M} : mq_N M.2.2 (mf_142 p n M) := by
  unfold mf_142
  exact mq_N_B (mq_N_call mn_46 rfl) (fun _ M2 hM2 => mq_N_ite (mq_N_call mn_142_j26 hM2) (mq_N_ite (mq_N_call mn_142_j26 hM2) (mq_N_call mn_142_j26 hM2)))
-- 144: PlainPacks$Sorted.addBytes
theorem mn_144_b25 {v1 : Int32} {v2 : Int64} {v4 : Int32} {M : mm_M} : mq_N M.2.2 (mf_144_b25 v1 v2 v4 M) := by
  unfold mf_144_b25
  exact mq_N_ite (mq_N_ite (mq_N_ret rfl) (mq_N_none)) (mq_N_ret rfl)
theorem mn_144_L25 {v1 : Int32} {v2 : Int64} {s : Int32} {M : mm_M} : mq_N M.2.2 (mf_144_L25 v1 v2 s M) := by
  unfold mf_144_L25
  exact mq_N_L (fun s M h => mq_N_call mn_144_b25 h) rfl
theorem mn_144_j19 {v1 : Int32} {v2 : Int64} {s0 : Int32} {M : mm_M} : mq_N M.2.2 (mf_144_j19 v1 v2 s0 M) := by
  unfold mf_144_j19
  exact mq_N_B (mq_N_call mn_27 rfl) (fun _ M1 hM1 => mq_N_B (mq_N_call mn_144_L25 hM1) (fun _ M2 hM2 => mq_N_ret hM2))
theorem mn_144 {v1 : Int32} {v2 : Int64} {M : mm_M} : mq_N M.2.2 (mf_144 v1 v2 M) := by
  unfold mf_144
  exact mq_N_ite (mq_N_call mn_144_j19 rfl) (mq_N_call mn_144_j19 rfl)
-- 143: PlainPacks$Sorted.readLetters
theorem mn_143_j81 {v1 : Int64} {v3 : Int32} {t4 : Nat} {v5 : Int32} {M : mm_M} : mq_N M.2.2 (mf_143_j81 v1 v3 t4 v5 M) := by
  unfold mf_143_j81
  exact mq_N_ite (mq_N_B (mq_N_call mn_103 rfl) (fun _ M2 hM2 => mq_N_ite (mq_N_ite (mq_N_ret hM2) (mq_N_ret hM2)) (mq_N_ite (mq_N_B (mq_N_call mn_144 hM2) (fun _ M3 hM3 => mq_N_ite (mq_N_ret hM3) (mq_N_B (mq_N_call mn_141 hM3) (fun _ M4 hM4 => mq_N_ite (mq_N_B (mq_N_call mn_144 hM4) (fun _ M5 hM5 => mq_N_ret hM5)) (mq_N_none))))) (mq_N_none)))) (mq_N_none)
theorem mn_143_j64 {v1 : Int64} {v3 : Int32} {v5 : Int32} {v6 : Int32} {s0 : Int32} {M : mm_M} : mq_N M.2.2 (mf_143_j64 v1 v3 v5 v6 s0 M) := by
  unfold mf_143_j64
  exact mq_N_B (mq_N_call mn_27 rfl) (fun _ M1 hM1 => mq_N_ite (mq_N_ite (mq_N_call mn_143_j81 hM1) (mq_N_none)) (mq_N_none))
theorem mn_143_b20 {v1 : Int64} {v3 : Int32} {t4 : Nat} {v5 : Int32} {M : mm_M} : mq_N M.2.2 (mf_143_b20 v1 v3 t4 v5 M) := by
  unfold mf_143_b20
  exact mq_N_ite (mq_N_ite (mq_N_ite (mq_N_ite (mq_N_call mn_143_j64 rfl) (mq_N_call mn_143_j64 rfl)) (mq_N_call mn_143_j64 rfl)) (mq_N_call mn_143_j81 rfl)) (mq_N_ret rfl)
theorem mn_143_L20 {s : Int64 × Int32 × Nat × Int32} {M : mm_M} : mq_N M.2.2 (mf_143_L20 s M) := by
  unfold mf_143_L20
  exact mq_N_L (fun s M h => mq_N_call mn_143_b20 h) rfl
theorem mn_143 {M : mm_M} : mq_N M.2.2 (mf_143 M) := by
  unfold mf_143
  exact mq_N_ite (mq_N_B (mq_N_call mn_143_L20 rfl) (fun _ M1 hM1 => mq_N_sm (fun _ => mq_N_ret hM1) (fun _ => mq_N_ret hM1))) (mq_N_none)
-- 138: PlainPacks$Sorted.readBlock
theorem mn_138_b72 {v1 : Int32} {v2 : Int32} {M : mm_M} : mq_N M.2.2 (mf_138_b72 v1 v2 M) := by
  unfold mf_138_b72
  exact mq_N_ite (mq_N_ite (mq_N_ite (mq_N_B (mq_N_call mn_142 rfl) (fun _ M1 hM1 => mq_N_ret hM1)) (mq_N_none)) (mq_N_none)) (mq_N_ret rfl)
theorem mn_138_L72 {v1 : Int32} {s : Int32} {M : mm_M} : mq_N M.2.2 (mf_138_L72 v1 s M) := by
  unfold mf_138_L72
  exact mq_N_L (fun s M h => mq_N_call mn_138_b72 h) rfl
theorem mn_138_j113 {s0 : Int32} {M : mm_M} : mq_N M.2.2 (mf_138_j113 s0 M) := by
  unfold mf_138_j113
  exact mq_N_B (mq_N_call mn_27 rfl) (fun _ M1 hM1 => mq_N_ret hM1)
theorem mn_138_j93 {M : mm_M} : mq_N M.2.2 (mf_138_j93 M) := by
  unfold mf_138_j93
  exact mq_N_B (mq_N_call mn_143 rfl) (fun _ M1 hM1 => mq_N_ite (mq_N_call mn_138_j113 hM1) (mq_N_call mn_138_j113 hM1))
theorem mn_138_j62 {v1 : Int32} {s0 : Int32} {M : mm_M} : mq_N M.2.2 (mf_138_j62 v1 s0 M) := by
  unfold mf_138_j62
  exact mq_N_B (mq_N_call mn_27 rfl) (fun _ M1 hM1 => mq_N_B (mq_N_call mn_140 hM1) (fun _ M2 hM2 => mq_N_B (mq_N_call mn_138_L72 hM2) (fun _ M3 hM3 => mq_N_call mn_138_j93 hM3)))
theorem mn_138_j15 {s0 : Int32} {M : mm_M} : mq_N M.2.2 (mf_138_j15 s0 M) := by
  unfold mf_138_j15
  exact mq_N_B (mq_N_call mn_27 rfl) (fun _ M1 hM1 => mq_N_B (mq_N_call mn_46 hM1) (fun _ M3 hM3 => mq_N_B (mq_N_call mn_139 hM3) (fun _ M4 hM4 => mq_N_B (mq_N_call mn_46 hM4) (fun _ M6 hM6 => mq_N_ite (mq_N_call mn_138_j62 hM6) (mq_N_ite (mq_N_call mn_138_j62 hM6) (mq_N_call mn_138_j62 hM6))))))
theorem mn_138 {M : mm_M} : mq_N M.2.2 (mf_138 M) := by
  unfold mf_138
  exact mq_N_B (mq_N_call mn_45 rfl) (fun _ M2 hM2 => mq_N_ite (mq_N_call mn_138_j15 hM2) (mq_N_call mn_138_j15 hM2))
-- 145: PlainPacks$Sorted.sortSteps
theorem mn_145_b10 {v1 : Int32} {M : mm_M} : mq_N M.2.2 (mf_145_b10 v1 M) := by
  unfold mf_145_b10
  exact mq_N_ite (mq_N_ite (mq_N_ite (mq_N_ite (mq_N_ret rfl) (mq_N_none)) (mq_N_none)) (mq_N_none)) (mq_N_ret rfl)
theorem mn_145_L10 {s : Int32} {M : mm_M} : mq_N M.2.2 (mf_145_L10 s M) := by
  unfold mf_145_L10
  exact mq_N_L (fun s M h => mq_N_call mn_145_b10 h) rfl
theorem mn_145_b43 {v1 : Int32} {M : mm_M} : mq_N M.2.2 (mf_145_b43 v1 M) := by
  unfold mf_145_b43
  exact mq_N_ite (mq_N_ite (mq_N_ite (mq_N_ite (mq_N_ret rfl) (mq_N_none)) (mq_N_none)) (mq_N_none)) (mq_N_ret rfl)
theorem mn_145_L43 {s : Int32} {M : mm_M} : mq_N M.2.2 (mf_145_L43 s M) := by
  unfold mf_145_L43
  exact mq_N_L (fun s M h => mq_N_call mn_145_b43 h) rfl
theorem mn_145_b77 {v1 : Int32} {M : mm_M} : mq_N M.2.2 (mf_145_b77 v1 M) := by
  unfold mf_145_b77
  exact mq_N_ite (mq_N_ite (mq_N_ite (mq_N_ite (mq_N_ite (mq_N_ite (mq_N_ret rfl) (mq_N_none)) (mq_N_none)) (mq_N_none)) (mq_N_none)) (mq_N_none)) (mq_N_ret rfl)
theorem mn_145_L77 {s : Int32} {M : mm_M} : mq_N M.2.2 (mf_145_L77 s M) := by
  unfold mf_145_L77
  exact mq_N_L (fun s M h => mq_N_call mn_145_b77 h) rfl
theorem mn_145 {M : mm_M} : mq_N M.2.2 (mf_145 M) := by
  unfold mf_145
  exact mq_N_B (mq_N_call mn_290 rfl) (fun _ M1 hM1 => mq_N_B (mq_N_call mn_145_L10 hM1) (fun _ M2 hM2 => mq_N_B (mq_N_call mn_145_L43 hM2) (fun _ M6 hM6 => mq_N_B (mq_N_call mn_145_L77 hM6) (fun _ M10 hM10 => mq_N_ret hM10))))
-- 146: PlainPacks$Sorted.putText
theorem mn_146_b49 {v1 : Int32} {v3 : Int32} {v4 : Int32} {v5 : Int32} {v6 : Int32} {M : mm_M} : mq_N M.2.2 (mf_146_b49 v1 v3 v4 v5 v6 M) := by
  unfold mf_146_b49
  exact mq_N_ite (mq_N_B (mq_N_call mn_51 rfl) (fun _ M1 hM1 => mq_N_ret hM1)) (mq_N_ret rfl)
theorem mn_146_L49 {v1 : Int32} {v3 : Int32} {v4 : Int32} {v5 : Int32} {s : Int32} {M : mm_M} : mq_N M.2.2 (mf_146_L49 v1 v3 v4 v5 s M) := by
  unfold mf_146_L49
  exact mq_N_L (fun s M h => mq_N_call mn_146_b49 h) rfl
theorem mn_146_j90 {v3 : Int32} {v4 : Int32} {v5 : Int32} {s0 : Int32} {M : mm_M} : mq_N M.2.2 (mf_146_j90 v3 v4 v5 s0 M) := by
  unfold mf_146_j90
  exact mq_N_B (mq_N_call mn_51 rfl) (fun _ M1 hM1 => mq_N_ret hM1)
theorem mn_146_b17 {v1 : Int32} {v2 : Int32} {v3 : Int32} {v4 : Int32} {M : mm_M} : mq_N M.2.2 (mf_146_b17 v1 v2 v3 v4 M) := by
  unfold mf_146_b17
  exact mq_N_ite (mq_N_ite (mq_N_ite (mq_N_ite (mq_N_B (mq_N_call mn_146_L49 rfl) (fun _ M1 hM1 => mq_N_ret hM1)) (mq_N_ite (mq_N_call mn_146_j90 rfl) (mq_N_call mn_146_j90 rfl))) (mq_N_none)) (mq_N_none)) (mq_N_ret rfl)
theorem mn_146_L17 {s : Int32 × Int32 × Int32 × Int32} {M : mm_M} : mq_N M.2.2 (mf_146_L17 s M) := by
  unfold mf_146_L17
  exact mq_N_L (fun s M h => mq_N_call mn_146_b17 h) rfl
theorem mn_146 {M : mm_M} : mq_N M.2.2 (mf_146 M) := by
  unfold mf_146
  exact mq_N_ite (mq_N_B (mq_N_call mn_146_L17 rfl) (fun _ M1 hM1 => mq_N_ret hM1)) (mq_N_none)
-- 29: PlainPacks.crcHighOf
theorem mn_29_b24 {p : Nat} {n : Nat} {v2 : Int32} {v3 : Int32} {v4 : Int32} {v5 : Int32} {M : mm_M} : mq_N M.2.2 (mf_29_b24 p n v2 v3 v4 v5 M) := by
  unfold mf_29_b24
  exact mq_N_ite (mq_N_ite (mq_N_ret rfl) (mq_N_ret rfl)) (mq_N_ret rfl)
theorem mn_29_L24 {p : Nat} {n : Nat} {v2 : Int32} {v4 : Int32} {s : Int32 × Int32} {M : mm_M} : mq_N M.2.2 (mf_29_L24 p n v2 v4 s M) := by
  unfold mf_29_L24
  exact mq_N_L (fun s M h => mq_N_call mn_29_b24 h) rfl
theorem mn_29_b5 {p : Nat} {n : Nat} {v2 : Int32} {v3 : Int32} {v4 : Int32} {M : mm_M} : mq_N M.2.2 (mf_29_b5 p n v2 v3 v4 M) := by
  unfold mf_29_b5
  exact mq_N_ite (mq_N_ite (mq_N_B (mq_N_call mn_29_L24 rfl) (fun _ M1 hM1 => mq_N_ret hM1)) (mq_N_none)) (mq_N_ret rfl)
theorem mn_29_L5 {p : Nat} {n : Nat} {v2 : Int32} {s : Int32 × Int32} {M : mm_M} : mq_N M.2.2 (mf_29_L5 p n v2 s M) := by
  unfold mf_29_L5
  exact mq_N_L (fun s M h => mq_N_call mn_29_b5 h) rfl
theorem mn_29 {p : Nat} {n : Nat} {v1 : Int32} {v2 : Int32} {M : mm_M} : mq_N M.2.2 (mf_29 p n v1 v2 M) := by
  unfold mf_29
  exact mq_N_B (mq_N_call mn_29_L5 rfl) (fun _ M1 hM1 => mq_N_ret hM1)
-- 137: PlainPacks$Sorted.readSorted
theorem mn_137_j241 {v2 : Int32} {v3 : Int32} {v6 : Int32} {s0 : Int32} {M : mm_M} : mq_N M.2.2 (mf_137_j241 v2 v3 v6 s0 M) := by
  unfold mf_137_j241
  exact mq_N_B (mq_N_call mn_27 rfl) (fun _ M1 hM1 => mq_N_B (mq_N_call mn_32 hM1) (fun _ M3 hM3 => mq_N_ret hM3))
theorem mn_137_j163 {v2 : Int32} {v3 : Int32} {s0 : Int32} {M : mm_M} : mq_N M.2.2 (mf_137_j163 v2 v3 s0 M) := by
  unfold mf_137_j163
  exact mq_N_B (mq_N_call mn_27 rfl) (fun _ M1 hM1 => mq_N_B (mq_N_call mn_46 hM1) (fun _ M3 hM3 => mq_N_B (mq_N_call mn_138 hM3) (fun _ M4 hM4 => mq_N_B (mq_N_call mn_145 hM4) (fun _ M5 hM5 => mq_N_B (mq_N_call mn_146 hM5) (fun _ M6 hM6 => mq_N_B (mq_N_call mn_29 hM6) (fun _ M8 hM8 => mq_N_ite (mq_N_call mn_137_j241 hM8) (mq_N_call mn_137_j241 hM8)))))))
theorem mn_137_b100 {v2 : Int32} {v3 : Int32} {M : mm_M} : mq_N M.2.2 (mf_137_b100 v2 v3 M) := by
  unfold mf_137_b100
  exact mq_N_ite (mq_N_B (mq_N_call mn_46 rfl) (fun _ M2 hM2 => mq_N_ite (mq_N_ret hM2) (mq_N_ite (mq_N_call mn_137_j163 hM2) (mq_N_call mn_137_j163 hM2)))) (mq_N_ret rfl)
theorem mn_137_L100 {s : Int32 × Int32} {M : mm_M} : mq_N M.2.2 (mf_137_L100 s M) := by
  unfold mf_137_L100
  exact mq_N_L (fun s M h => mq_N_call mn_137_b100 h) rfl
theorem mn_137_j145 {s0 : Int32} {M : mm_M} : mq_N M.2.2 (mf_137_j145 s0 M) := by
  unfold mf_137_j145
  exact mq_N_B (mq_N_call mn_27 rfl) (fun _ M1 hM1 => mq_N_ret hM1)
theorem mn_137_j126 {v2 : Int32} {M : mm_M} : mq_N M.2.2 (mf_137_j126 v2 M) := by
  unfold mf_137_j126
  exact mq_N_B (mq_N_call mn_46 rfl) (fun _ M2 hM2 => mq_N_ite (mq_N_call mn_137_j145 hM2) (mq_N_call mn_137_j145 hM2))
theorem mn_137_j85 {s0 : Int32} {M : mm_M} : mq_N M.2.2 (mf_137_j85 s0 M) := by
  unfold mf_137_j85
  exact mq_N_B (mq_N_call mn_27 rfl) (fun _ M1 hM1 => mq_N_B (mq_N_call mn_137_L100 hM1) (fun _ M2 hM2 => mq_N_sm (fun _ => mq_N_call mn_137_j126 hM2) (fun _ => mq_N_ret hM2)))
theorem mn_137_j57 {s0 : Int32} {M : mm_M} : mq_N M.2.2 (mf_137_j57 s0 M) := by
  unfold mf_137_j57
  exact mq_N_B (mq_N_call mn_27 rfl) (fun _ M1 hM1 => mq_N_B (mq_N_call mn_44 hM1) (fun _ M3 hM3 => mq_N_ite (mq_N_call mn_137_j85 hM3) (mq_N_ite (mq_N_call mn_137_j85 hM3) (mq_N_call mn_137_j85 hM3))))
theorem mn_137_j37 {s0 : Int32} {M : mm_M} : mq_N M.2.2 (mf_137_j37 s0 M) := by
  unfold mf_137_j37
  exact mq_N_B (mq_N_call mn_27 rfl) (fun _ M1 hM1 => mq_N_B (mq_N_call mn_44 hM1) (fun _ M3 hM3 => mq_N_ite (mq_N_call mn_137_j57 hM3) (mq_N_call mn_137_j57 hM3)))
theorem mn_137_j17 {s0 : Int32} {M : mm_M} : mq_N M.2.2 (mf_137_j17 s0 M) := by
  unfold mf_137_j17
  exact mq_N_B (mq_N_call mn_27 rfl) (fun _ M1 hM1 => mq_N_B (mq_N_call mn_44 hM1) (fun _ M3 hM3 => mq_N_ite (mq_N_call mn_137_j37 hM3) (mq_N_call mn_137_j37 hM3)))
theorem mn_137 {M : mm_M} : mq_N M.2.2 (mf_137 M) := by
  unfold mf_137
  exact mq_N_B (mq_N_call mn_44 rfl) (fun _ M2 hM2 => mq_N_ite (mq_N_call mn_137_j17 hM2) (mq_N_call mn_137_j17 hM2))
-- 160: PlainPacks$Chances.readHead
theorem mn_160_j119 {s0 : Int32} {M : mm_M} : mq_N M.2.2 (mf_160_j119 s0 M) := by
  unfold mf_160_j119
  exact mq_N_B (mq_N_call mn_27 rfl) (fun _ M1 hM1 => mq_N_ret hM1)
theorem mn_160_j67 {s0 : Int32} {M : mm_M} : mq_N M.2.2 (mf_160_j67 s0 M) := by
  unfold mf_160_j67
  exact mq_N_B (mq_N_call mn_27 rfl) (fun _ M1 hM1 => mq_N_B (mq_N_call mn_47 hM1) (fun _ M3 hM3 => mq_N_B (mq_N_call mn_47 hM3) (fun _ M5 hM5 => mq_N_ite (mq_N_call mn_160_j119 hM5) (mq_N_ite (mq_N_call mn_160_j119 hM5) (mq_N_call mn_160_j119 hM5)))))
theorem mn_160_j20 {v1 : Int32} {s0 : Int32} {M : mm_M} : mq_N M.2.2 (mf_160_j20 v1 s0 M) := by
  unfold mf_160_j20
  exact mq_N_B (mq_N_call mn_27 rfl) (fun _ M1 hM1 => mq_N_ite (mq_N_call mn_160_j67 hM1) (mq_N_call mn_160_j67 hM1))
theorem mn_160 {M : mm_M} : mq_N M.2.2 (mf_160 M) := by
  unfold mf_160
  exact mq_N_B (mq_N_call mn_44 rfl) (fun _ M2 hM2 => mq_N_ite (mq_N_call mn_160_j20 hM2) (mq_N_call mn_160_j20 hM2))
-- 158: PlainPacks$Chances.begin
theorem mn_158 {M : mm_M} : mq_N M.2.2 (mf_158 M) := by
  unfold mf_158
  exact mq_N_B (mq_N_call mn_290 rfl) (fun _ M1 hM1 => mq_N_ret hM1)
-- 161: PlainPacks$Chances.bit
theorem mn_161_j90 {v5 : Int32} {M : mm_M} : mq_N M.2.2 (mf_161_j90 v5 M) := by
  unfold mf_161_j90
  exact mq_N_ite (mq_N_B (mq_N_call mn_44 rfl) (fun _ M2 hM2 => mq_N_ret hM2)) (mq_N_ret rfl)
theorem mn_161 {v1 : Int32} {M : mm_M} : mq_N M.2.2 (mf_161 v1 M) := by
  unfold mf_161
  exact mq_N_ite (mq_N_ite (mq_N_ite (mq_N_call mn_161_j90 rfl) (mq_N_none)) (mq_N_ite (mq_N_call mn_161_j90 rfl) (mq_N_none))) (mq_N_none)
-- 165: PlainPacks$Chances.readByte
theorem mn_165_b178 {v4 : Int32} {v5 : Int32} {M : mm_M} : mq_N M.2.2 (mf_165_b178 v4 v5 M) := by
  unfold mf_165_b178
  exact mq_N_ite (mq_N_B (mq_N_call mn_161 rfl) (fun _ M2 hM2 => mq_N_ret hM2)) (mq_N_ret rfl)
theorem mn_165_L178 {v4 : Int32} {s : Int32} {M : mm_M} : mq_N M.2.2 (mf_165_L178 v4 s M) := by
  unfold mf_165_L178
  exact mq_N_L (fun s M h => mq_N_call mn_165_b178 h) rfl
theorem mn_165_j245 {v5 : Int32} {M : mm_M} : mq_N M.2.2 (mf_165_j245 v5 M) := by
  unfold mf_165_j245
  exact mq_N_B (mq_N_call mn_52 rfl) (fun _ M1 hM1 => mq_N_ret hM1)
theorem mn_165_j241 {v5 : Int32} {s1 : Int32} {s2 : Int32} {M : mm_M} : mq_N M.2.2 (mf_165_j241 v5 s1 s2 M) := by
  unfold mf_165_j241
  exact mq_N_call mn_165_j245 rfl
theorem mn_165_j205 {v5 : Int32} {M : mm_M} : mq_N M.2.2 (mf_165_j205 v5 M) := by
  unfold mf_165_j205
  exact mq_N_ite (mq_N_call mn_165_j245 rfl) (mq_N_ite (mq_N_call mn_165_j241 rfl) (mq_N_call mn_165_j241 rfl))
theorem mn_165_b108 {v4 : Int32} {v5 : Int32} {v6 : Int32} {v7 : Int32} {v8 : Int32} {M : mm_M} : mq_N M.2.2 (mf_165_b108 v4 v5 v6 v7 v8 M) := by
  unfold mf_165_b108
  exact mq_N_ite (mq_N_ret rfl) (mq_N_ite (mq_N_ret rfl) (mq_N_B (mq_N_call mn_161 rfl) (fun _ M2 hM2 => mq_N_ite (mq_N_ret hM2) (mq_N_ret hM2))))
theorem mn_165_L108 {v4 : Int32} {v6 : Int32} {s : Int32 × Int32 × Int32} {M : mm_M} : mq_N M.2.2 (mf_165_L108 v4 v6 s M) := by
  unfold mf_165_L108
  exact mq_N_L (fun s M h => mq_N_call mn_165_b108 h) rfl
theorem mn_165_j27 {v1 : Int32} {s0 : Int32} {M : mm_M} : mq_N M.2.2 (mf_165_j27 v1 s0 M) := by
  unfold mf_165_j27
  exact mq_N_ite (mq_N_B (mq_N_call mn_165_L178 rfl) (fun _ M1 hM1 => mq_N_call mn_165_j205 hM1)) (mq_N_ite (mq_N_B (mq_N_call mn_165_L178 rfl) (fun _ M12 hM12 => mq_N_call mn_165_j205 hM12)) (mq_N_ite (mq_N_B (mq_N_call mn_165_L108 rfl) (fun _ M23 hM23 => mq_N_B (mq_N_call mn_165_L178 hM23) (fun _ M33 hM33 => mq_N_call mn_165_j205 hM33))) (mq_N_none)))
theorem mn_165 {M : mm_M} : mq_N M.2.2 (mf_165 M) := by
  unfold mf_165
  exact mq_N_ite (mq_N_ite (mq_N_call mn_165_j27 rfl) (mq_N_none)) (mq_N_call mn_165_j27 rfl)
-- 163: PlainPacks$Chances.tree
theorem mn_163_b5 {v1 : Int32} {v2 : Int32} {v3 : Int32} {v4 : Int32} {M : mm_M} : mq_N M.2.2 (mf_163_b5 v1 v2 v3 v4 M) := by
  unfold mf_163_b5
  exact mq_N_ite (mq_N_B (mq_N_call mn_161 rfl) (fun _ M2 hM2 => mq_N_ret hM2)) (mq_N_ret rfl)
theorem mn_163_L5 {v1 : Int32} {v2 : Int32} {s : Int32 × Int32} {M : mm_M} : mq_N M.2.2 (mf_163_L5 v1 v2 s M) := by
  unfold mf_163_L5
  exact mq_N_L (fun s M h => mq_N_call mn_163_b5 h) rfl
theorem mn_163 {v1 : Int32} {v2 : Int32} {M : mm_M} : mq_N M.2.2 (mf_163 v1 v2 M) := by
  unfold mf_163
  exact mq_N_B (mq_N_call mn_163_L5 rfl) (fun _ M1 hM1 => mq_N_ret hM1)
-- 169: PlainPacks$Chances.readLength
theorem mn_169_j106 {v3 : Int32} {s0 : Int32} {M : mm_M} : mq_N M.2.2 (mf_169_j106 v3 s0 M) := by
  unfold mf_169_j106
  exact mq_N_B (mq_N_call mn_27 rfl) (fun _ M1 hM1 => mq_N_ret hM1)
theorem mn_169_j105 {v3 : Int32} {M : mm_M} : mq_N M.2.2 (mf_169_j105 v3 M) := by
  unfold mf_169_j105
  exact mq_N_call mn_169_j106 rfl
theorem mn_169_j74 {v3 : Int32} {M : mm_M} : mq_N M.2.2 (mf_169_j74 v3 M) := by
  unfold mf_169_j74
  exact mq_N_ite (mq_N_call mn_169_j105 rfl) (mq_N_ite (mq_N_call mn_169_j106 rfl) (mq_N_call mn_169_j105 rfl))
theorem mn_169 {v1 : Int32} {v2 : Int32} {M : mm_M} : mq_N M.2.2 (mf_169 v1 v2 M) := by
  unfold mf_169
  exact mq_N_B (mq_N_call mn_161 rfl) (fun _ M2 hM2 => mq_N_ite (mq_N_B (mq_N_call mn_163 hM2) (fun _ M4 hM4 => mq_N_call mn_169_j74 hM4)) (mq_N_B (mq_N_call mn_161 hM2) (fun _ M6 hM6 => mq_N_ite (mq_N_B (mq_N_call mn_163 hM6) (fun _ M8 hM8 => mq_N_call mn_169_j74 hM8)) (mq_N_B (mq_N_call mn_163 hM6) (fun _ M10 hM10 => mq_N_call mn_169_j74 hM10)))))
-- 164: PlainPacks$Chances.turnedTree
theorem mn_164_b8 {v1 : Int32} {v2 : Int32} {v3 : Int32} {v4 : Int32} {v5 : Int32} {M : mm_M} : mq_N M.2.2 (mf_164_b8 v1 v2 v3 v4 v5 M) := by
  unfold mf_164_b8
  exact mq_N_ite (mq_N_B (mq_N_call mn_161 rfl) (fun _ M2 hM2 => mq_N_ret hM2)) (mq_N_ret rfl)
theorem mn_164_L8 {v1 : Int32} {v2 : Int32} {s : Int32 × Int32 × Int32} {M : mm_M} : mq_N M.2.2 (mf_164_L8 v1 v2 s M) := by
  unfold mf_164_L8
  exact mq_N_L (fun s M h => mq_N_call mn_164_b8 h) rfl
theorem mn_164 {v1 : Int32} {v2 : Int32} {M : mm_M} : mq_N M.2.2 (mf_164 v1 v2 M) := by
  unfold mf_164
  exact mq_N_B (mq_N_call mn_164_L8 rfl) (fun _ M1 hM1 => mq_N_ret hM1)
-- 162: PlainPacks$Chances.plainBit
theorem mn_162_j41 {v1 : Int32} {M : mm_M} : mq_N M.2.2 (mf_162_j41 v1 M) := by
  unfold mf_162_j41
  exact mq_N_ite (mq_N_B (mq_N_call mn_44 rfl) (fun _ M2 hM2 => mq_N_ret hM2)) (mq_N_ret rfl)
theorem mn_162 {M : mm_M} : mq_N M.2.2 (mf_162 M) := by
  unfold mf_162
  exact mq_N_ite (mq_N_call mn_162_j41 rfl) (mq_N_call mn_162_j41 rfl)
-- 170: PlainPacks$Chances.readDistance
theorem mn_170_b82 {v4 : Int64} {v6 : Int32} {M : mm_M} : mq_N M.2.2 (mf_170_b82 v4 v6 M) := by
  unfold mf_170_b82
  exact mq_N_ite (mq_N_ret rfl) (mq_N_B (mq_N_call mn_162 rfl) (fun _ M2 hM2 => mq_N_ret hM2))
theorem mn_170_L82 {s : Int64 × Int32} {M : mm_M} : mq_N M.2.2 (mf_170_L82 s M) := by
  unfold mf_170_L82
  exact mq_N_L (fun s M h => mq_N_call mn_170_b82 h) rfl
theorem mn_170_j107 {v4 : Int64} {M : mm_M} : mq_N M.2.2 (mf_170_j107 v4 M) := by
  unfold mf_170_j107
  exact mq_N_B (mq_N_call mn_164 rfl) (fun _ M2 hM2 => mq_N_ret hM2)
theorem mn_170 {v1 : Int32} {M : mm_M} : mq_N M.2.2 (mf_170 v1 M) := by
  unfold mf_170
  exact mq_N_B (mq_N_call mn_163 rfl) (fun _ M2 hM2 => mq_N_ite (mq_N_ret hM2) (mq_N_ite (mq_N_B (mq_N_call mn_164 hM2) (fun _ M4 hM4 => mq_N_ret hM4)) (mq_N_B (mq_N_call mn_170_L82 hM2) (fun _ M5 hM5 => mq_N_call mn_170_j107 hM5))))
-- 166: PlainPacks$Chances.readMatch
theorem mn_166_j102 {v2 : Int32} {s1 : Int32} {M : mm_M} : mq_N M.2.2 (mf_166_j102 v2 s1 M) := by
  unfold mf_166_j102
  exact mq_N_B (mq_N_call mn_53 rfl) (fun _ M1 hM1 => mq_N_ret hM1)
theorem mn_166_j52 {v2 : Int32} {v3 : Int64} {s0 : Int32} {M : mm_M} : mq_N M.2.2 (mf_166_j52 v2 v3 s0 M) := by
  unfold mf_166_j52
  exact mq_N_B (mq_N_call mn_27 rfl) (fun _ M1 hM1 => mq_N_ite (mq_N_call mn_166_j102 hM1) (mq_N_call mn_166_j102 hM1))
theorem mn_166_j34 {v2 : Int32} {v3 : Int64} {M : mm_M} : mq_N M.2.2 (mf_166_j34 v2 v3 M) := by
  unfold mf_166_j34
  exact mq_N_ite (mq_N_call mn_166_j52 rfl) (mq_N_call mn_166_j52 rfl)
theorem mn_166 {v1 : Int32} {M : mm_M} : mq_N M.2.2 (mf_166 v1 M) := by
  unfold mf_166
  exact mq_N_B (mq_N_call mn_169 rfl) (fun _ M2 hM2 => mq_N_B (mq_N_call mn_170 hM2) (fun _ M4 hM4 => mq_N_ite (mq_N_ite (mq_N_ret hM4) (mq_N_call mn_166_j34 hM4)) (mq_N_call mn_166_j34 hM4)))
-- 168: PlainPacks$Chances.bringToFront
theorem mn_168_j55 {v1 : Int32} {M : mm_M} : mq_N M.2.2 (mf_168_j55 v1 M) := by
  unfold mf_168_j55
  exact mq_N_ret rfl
theorem mn_168 {M : mm_M} : mq_N M.2.2 (mf_168 M) := by
  unfold mf_168
  exact mq_N_B (mq_N_call mn_161 rfl) (fun _ M2 hM2 => mq_N_ite (mq_N_B (mq_N_call mn_161 hM2) (fun _ M4 hM4 => mq_N_ite (mq_N_call mn_168_j55 hM4) (mq_N_call mn_168_j55 hM4))) (mq_N_ret hM2))
-- 167: PlainPacks$Chances.readRepeat
theorem mn_167_j160 {v3 : Int32} {s1 : Int32} {M : mm_M} : mq_N M.2.2 (mf_167_j160 v3 s1 M) := by
  unfold mf_167_j160
  exact mq_N_B (mq_N_call mn_53 rfl) (fun _ M1 hM1 => mq_N_ret hM1)
theorem mn_167_j115 {s1 : Int32} {M : mm_M} : mq_N M.2.2 (mf_167_j115 s1 M) := by
  unfold mf_167_j115
  exact mq_N_B (mq_N_call mn_53 rfl) (fun _ M1 hM1 => mq_N_ret hM1)
theorem mn_167_j94 {v1 : Int32} {v2 : Int32} {M : mm_M} : mq_N M.2.2 (mf_167_j94 v1 v2 M) := by
  unfold mf_167_j94
  exact mq_N_ite (mq_N_B (mq_N_call mn_169 rfl) (fun _ M2 hM2 => mq_N_ite (mq_N_call mn_167_j160 hM2) (mq_N_call mn_167_j160 hM2))) (mq_N_ite (mq_N_call mn_167_j115 rfl) (mq_N_call mn_167_j115 rfl))
theorem mn_167_j36 {v1 : Int32} {s0 : Int32} {M : mm_M} : mq_N M.2.2 (mf_167_j36 v1 s0 M) := by
  unfold mf_167_j36
  exact mq_N_B (mq_N_call mn_27 rfl) (fun _ M1 hM1 => mq_N_B (mq_N_call mn_161 hM1) (fun _ M3 hM3 => mq_N_ite (mq_N_call mn_167_j94 hM3) (mq_N_call mn_167_j94 hM3)))
theorem mn_167_j91 {v1 : Int32} {v2 : Int32} {s0 : Int32} {M : mm_M} : mq_N M.2.2 (mf_167_j91 v1 v2 s0 M) := by
  unfold mf_167_j91
  exact mq_N_B (mq_N_call mn_27 rfl) (fun _ M1 hM1 => mq_N_call mn_167_j94 hM1)
theorem mn_167 {v1 : Int32} {M : mm_M} : mq_N M.2.2 (mf_167 v1 M) := by
  unfold mf_167
  exact mq_N_B (mq_N_call mn_161 rfl) (fun _ M2 hM2 => mq_N_ite (mq_N_ite (mq_N_call mn_167_j36 hM2) (mq_N_call mn_167_j36 hM2)) (mq_N_B (mq_N_call mn_168 hM2) (fun _ M3 hM3 => mq_N_ite (mq_N_call mn_167_j91 hM3) (mq_N_call mn_167_j91 hM3))))
-- 159: PlainPacks$Chances.readChances
theorem mn_159_b42 {v1 : Int32} {v2 : Int32} {M : mm_M} : mq_N M.2.2 (mf_159_b42 v1 v2 M) := by
  unfold mf_159_b42
  exact mq_N_ite (mq_N_ret rfl) (mq_N_ite (mq_N_ret rfl) (mq_N_ite (mq_N_ret rfl) (mq_N_B (mq_N_call mn_161 rfl) (fun _ M2 hM2 => mq_N_ite (mq_N_B (mq_N_call mn_165 hM2) (fun _ M3 hM3 => mq_N_ret hM3)) (mq_N_B (mq_N_call mn_161 hM2) (fun _ M5 hM5 => mq_N_ite (mq_N_B (mq_N_call mn_166 hM5) (fun _ M7 hM7 => mq_N_ret hM7)) (mq_N_B (mq_N_call mn_167 hM5) (fun _ M8 hM8 => mq_N_ret hM8))))))))
theorem mn_159_L42 {s : Int32 × Int32} {M : mm_M} : mq_N M.2.2 (mf_159_L42 s M) := by
  unfold mf_159_L42
  exact mq_N_L (fun s M h => mq_N_call mn_159_b42 h) rfl
theorem mn_159_j160 {s0 : Int32} {M : mm_M} : mq_N M.2.2 (mf_159_j160 s0 M) := by
  unfold mf_159_j160
  exact mq_N_B (mq_N_call mn_27 rfl) (fun _ M1 hM1 => mq_N_ret hM1)
theorem mn_159_j146 {M : mm_M} : mq_N M.2.2 (mf_159_j146 M) := by
  unfold mf_159_j146
  exact mq_N_ite (mq_N_call mn_159_j160 rfl) (mq_N_call mn_159_j160 rfl)
theorem mn_159_j23 {s0 : Int32} {M : mm_M} : mq_N M.2.2 (mf_159_j23 s0 M) := by
  unfold mf_159_j23
  exact mq_N_B (mq_N_call mn_27 rfl) (fun _ M1 hM1 => mq_N_B (mq_N_call mn_48 hM1) (fun _ M3 hM3 => mq_N_B (mq_N_call mn_159_L42 hM3) (fun _ M4 hM4 => mq_N_call mn_159_j146 hM4)))
theorem mn_159 {M : mm_M} : mq_N M.2.2 (mf_159 M) := by
  unfold mf_159
  exact mq_N_B (mq_N_call mn_160 rfl) (fun _ M1 hM1 => mq_N_B (mq_N_call mn_158 hM1) (fun _ M2 hM2 => mq_N_B (mq_N_call mn_44 hM2) (fun _ M4 hM4 => mq_N_ite (mq_N_call mn_159_j23 hM4) (mq_N_call mn_159_j23 hM4))))
-- 190: PlainPacksModel.bad
theorem mn_190 {M : mm_M} : mq_N M.2.2 (mf_190 M) := by
  unfold mf_190
  exact mq_N_ret rfl
-- 191: PlainPacksModel.next
theorem mn_191_j29 {M : mm_M} : mq_N M.2.2 (mf_191_j29 M) := by
  unfold mf_191_j29
  exact mq_N_B (mq_N_call mn_190 rfl) (fun _ M1 hM1 => mq_N_ret hM1)
theorem mn_191 {M : mm_M} : mq_N M.2.2 (mf_191 M) := by
  unfold mf_191
  exact mq_N_ite (mq_N_ite (mq_N_ite (mq_N_ite (mq_N_ret rfl) (mq_N_none)) (mq_N_call mn_191_j29 rfl)) (mq_N_call mn_191_j29 rfl)) (mq_N_call mn_191_j29 rfl)
-- 194: PlainPacksModel.put
theorem mn_194_j21 {v1 : Int32} {M : mm_M} : mq_N M.2.2 (mf_194_j21 v1 M) := by
  unfold mf_194_j21
  exact mq_N_ite (mq_N_ite (mq_N_ret rfl) (mq_N_none)) (mq_N_ret rfl)
theorem mn_194 {v1 : Int32} {M : mm_M} : mq_N M.2.2 (mf_194 v1 M) := by
  unfold mf_194
  exact mq_N_ite (mq_N_ite (mq_N_B (mq_N_call mn_190 rfl) (fun _ M1 hM1 => mq_N_call mn_194_j21 hM1)) (mq_N_call mn_194_j21 rfl)) (mq_N_call mn_194_j21 rfl)
-- 214: PlainPacksModel.runs
theorem mn_214_b32 {v1 : Int32} {v2 : Int32} {M : mm_M} : mq_N M.2.2 (mf_214_b32 v1 v2 M) := by
  unfold mf_214_b32
  exact mq_N_ite (mq_N_ret rfl) (mq_N_ite (mq_N_B (mq_N_call mn_191 rfl) (fun _ M2 hM2 => mq_N_B (mq_N_call mn_194 hM2) (fun _ M4 hM4 => mq_N_ret hM4))) (mq_N_ret rfl))
theorem mn_214_L32 {v1 : Int32} {s : Int32} {M : mm_M} : mq_N M.2.2 (mf_214_L32 v1 s M) := by
  unfold mf_214_L32
  exact mq_N_L (fun s M h => mq_N_call mn_214_b32 h) rfl
theorem mn_214_b78 {v1 : Int32} {v2 : Int32} {v3 : Int32} {M : mm_M} : mq_N M.2.2 (mf_214_b78 v1 v2 v3 M) := by
  unfold mf_214_b78
  exact mq_N_ite (mq_N_ite (mq_N_B (mq_N_call mn_194 rfl) (fun _ M2 hM2 => mq_N_ret hM2)) (mq_N_ret rfl)) (mq_N_ret rfl)
theorem mn_214_L78 {v1 : Int32} {v2 : Int32} {s : Int32} {M : mm_M} : mq_N M.2.2 (mf_214_L78 v1 v2 s M) := by
  unfold mf_214_L78
  exact mq_N_L (fun s M h => mq_N_call mn_214_b78 h) rfl
theorem mn_214_b0 {M : mm_M} : mq_N M.2.2 (mf_214_b0 M) := by
  unfold mf_214_b0
  exact mq_N_ite (mq_N_ite (mq_N_B (mq_N_call mn_191 rfl) (fun _ M2 hM2 => mq_N_ite (mq_N_B (mq_N_call mn_214_L32 hM2) (fun _ M3 hM3 => mq_N_ret hM3)) (mq_N_ite (mq_N_B (mq_N_call mn_191 hM2) (fun _ M9 hM9 => mq_N_B (mq_N_call mn_214_L78 hM9) (fun _ M10 hM10 => mq_N_ret hM10))) (mq_N_ret hM2)))) (mq_N_ret rfl)) (mq_N_ret rfl)
theorem mn_214_L0 {s : Unit} {M : mm_M} : mq_N M.2.2 (mf_214_L0 s M) := by
  unfold mf_214_L0
  exact mq_N_L (fun s M h => mq_N_call mn_214_b0 h) rfl
theorem mn_214 {M : mm_M} : mq_N M.2.2 (mf_214 M) := by
  unfold mf_214
  exact mq_N_B (mq_N_call mn_214_L0 rfl) (fun _ M1 hM1 => mq_N_ret hM1)
-- 197: PlainPacksModel.bit
theorem mn_197_j21 {M : mm_M} : mq_N M.2.2 (mf_197_j21 M) := by
  unfold mf_197_j21
  exact mq_N_ite (mq_N_ite (mq_N_ret rfl) (mq_N_ret rfl)) (mq_N_ret rfl)
theorem mn_197 {M : mm_M} : mq_N M.2.2 (mf_197 M) := by
  unfold mf_197
  exact mq_N_ite (mq_N_B (mq_N_call mn_191 rfl) (fun _ M2 hM2 => mq_N_call mn_197_j21 hM2)) (mq_N_call mn_197_j21 rfl)
-- 198: PlainPacksModel.number
theorem mn_198_b5 {v1 : Int32} {v2 : Int64} {v4 : Int32} {M : mm_M} : mq_N M.2.2 (mf_198_b5 v1 v2 v4 M) := by
  unfold mf_198_b5
  exact mq_N_ite (mq_N_ite (mq_N_B (mq_N_call mn_197 rfl) (fun _ M2 hM2 => mq_N_ite (mq_N_ret hM2) (mq_N_ret hM2))) (mq_N_ret rfl)) (mq_N_ret rfl)
theorem mn_198_L5 {v1 : Int32} {s : Int64 × Int32} {M : mm_M} : mq_N M.2.2 (mf_198_L5 v1 s M) := by
  unfold mf_198_L5
  exact mq_N_L (fun s M h => mq_N_call mn_198_b5 h) rfl
theorem mn_198 {v1 : Int32} {M : mm_M} : mq_N M.2.2 (mf_198 v1 M) := by
  unfold mf_198
  exact mq_N_B (mq_N_call mn_198_L5 rfl) (fun _ M1 hM1 => mq_N_ret hM1)
-- 193: PlainPacksModel.low
theorem mn_193_b5 {v1 : Int32} {v2 : Int64} {v4 : Int32} {M : mm_M} : mq_N M.2.2 (mf_193_b5 v1 v2 v4 M) := by
  unfold mf_193_b5
  exact mq_N_ite (mq_N_B (mq_N_call mn_191 rfl) (fun _ M2 hM2 => mq_N_ret hM2)) (mq_N_ret rfl)
theorem mn_193_L5 {v1 : Int32} {s : Int64 × Int32} {M : mm_M} : mq_N M.2.2 (mf_193_L5 v1 s M) := by
  unfold mf_193_L5
  exact mq_N_L (fun s M h => mq_N_call mn_193_b5 h) rfl
theorem mn_193 {v1 : Int32} {M : mm_M} : mq_N M.2.2 (mf_193 v1 M) := by
  unfold mf_193
  exact mq_N_B (mq_N_call mn_193_L5 rfl) (fun _ M1 hM1 => mq_N_ret hM1)
-- 195: PlainPacksModel.pass
theorem mn_195_b2 {v1 : Int64} {v3 : Int64} {M : mm_M} : mq_N M.2.2 (mf_195_b2 v1 v3 M) := by
  unfold mf_195_b2
  exact mq_N_ite (mq_N_ite (mq_N_B (mq_N_call mn_191 rfl) (fun _ M2 hM2 => mq_N_ite (mq_N_B (mq_N_call mn_194 hM2) (fun _ M4 hM4 => mq_N_ite (mq_N_ret hM4) (mq_N_ret hM4))) (mq_N_ret hM2))) (mq_N_ret rfl)) (mq_N_ret rfl)
theorem mn_195_L2 {v1 : Int64} {s : Int64} {M : mm_M} : mq_N M.2.2 (mf_195_L2 v1 s M) := by
  unfold mf_195_L2
  exact mq_N_L (fun s M h => mq_N_call mn_195_b2 h) rfl
theorem mn_195 {v1 : Int64} {M : mm_M} : mq_N M.2.2 (mf_195 v1 M) := by
  unfold mf_195
  exact mq_N_B (mq_N_call mn_195_L2 rfl) (fun _ M1 hM1 => mq_N_ret hM1)
-- 204: PlainPacksModel.stored
theorem mn_204_j38 {v1 : Int32} {M : mm_M} : mq_N M.2.2 (mf_204_j38 v1 M) := by
  unfold mf_204_j38
  exact mq_N_B (mq_N_call mn_195 rfl) (fun _ M1 hM1 => mq_N_ret hM1)
theorem mn_204 {M : mm_M} : mq_N M.2.2 (mf_204 M) := by
  unfold mf_204
  exact mq_N_B (mq_N_call mn_193 rfl) (fun _ M2 hM2 => mq_N_B (mq_N_call mn_193 hM2) (fun _ M4 hM4 => mq_N_ite (mq_N_ite (mq_N_call mn_204_j38 hM4) (mq_N_B (mq_N_call mn_190 hM4) (fun _ M5 hM5 => mq_N_call mn_204_j38 hM5))) (mq_N_call mn_204_j38 hM4)))
-- 199: PlainPacksModel.assign
theorem mn_199_b19 {v1 : Int32} {v2 : Int32} {v3 : Int32} {v4 : Int32} {v5 : Int32} {M : mm_M} : mq_N M.2.2 (mf_199_b19 v1 v2 v3 v4 v5 M) := by
  unfold mf_199_b19
  exact mq_N_ite (mq_N_ite (mq_N_ite (mq_N_ite (mq_N_ret rfl) (mq_N_none)) (mq_N_ret rfl)) (mq_N_none)) (mq_N_ret rfl)
theorem mn_199_L19 {v1 : Int32} {v2 : Int32} {v4 : Int32} {s : Int32 × Int32} {M : mm_M} : mq_N M.2.2 (mf_199_L19 v1 v2 v4 s M) := by
  unfold mf_199_L19
  exact mq_N_L (fun s M h => mq_N_call mn_199_b19 h) rfl
theorem mn_199_b5 {v1 : Int32} {v2 : Int32} {v3 : Int32} {v4 : Int32} {M : mm_M} : mq_N M.2.2 (mf_199_b5 v1 v2 v3 v4 M) := by
  unfold mf_199_b5
  exact mq_N_ite (mq_N_ret rfl) (mq_N_B (mq_N_call mn_199_L19 rfl) (fun _ M1 hM1 => mq_N_ret hM1))
theorem mn_199_L5 {v1 : Int32} {v2 : Int32} {s : Int32 × Int32} {M : mm_M} : mq_N M.2.2 (mf_199_L5 v1 v2 s M) := by
  unfold mf_199_L5
  exact mq_N_L (fun s M h => mq_N_call mn_199_b5 h) rfl
theorem mn_199 {v1 : Int32} {v2 : Int32} {M : mm_M} : mq_N M.2.2 (mf_199 v1 v2 M) := by
  unfold mf_199
  exact mq_N_B (mq_N_call mn_199_L5 rfl) (fun _ M1 hM1 => mq_N_ret hM1)
