/-! MEANINGS ARE SOUND 27 -/
-- 134: PlainPacks$Pieces.writeFrameBlock()V (depth 5)
theorem mm_own_134 : mm_own 134 = 9 := rfl
def mp_134_51 (L : Nat) (xs : Nat → Int32) (d : Nat) (v1 : Int32) (v2 : Int32) (v3 : Int32) (s0 : Int32) (M : mm_M) (o : mm_E) : Prop := ∀ z4 : Option Value, mm_Runs L xs d 134 (51, [some (.ref 41), some (.int v1), some (.int v2), some (.int v3), z4], [.int s0], M) o
set_option maxRecDepth 8000 in
set_option maxHeartbeats 4000000 in
theorem ms_134_j51 {L : Nat} {xs : Nat → Int32} {d : Nat} (hd : 5 ≤ d) {v1 : Int32} {v2 : Int32} {v3 : Int32} {s0 : Int32} {M : mm_M} {q : (Unit ⊕ Nat) × mm_M} {o : mm_E} (h : mf_134_j51 v1 v2 v3 s0 M = some q) (hA : mm_A (mm_Kr mm_wv) q o) : mp_134_51 L xs d v1 v2 v3 s0 M o := by
  unfold mf_134_j51 at h
  obtain ⟨d, rfl⟩ := mm_d1 (n := 4) hd
  intro z4
  show mm_Runs L xs (d + 1) 134 (51, [some (.ref 41), some (.int v1), some (.int v2), some (.int v3), z4], [.int s0], M) o
  refine mm_Runs.seq (l := [(51, .istore 4, 2), (53, .aload_n 0, 1), (54, .getfield 19, 3), (57, .iload_n 1, 1)]) (S2 := (58, [some (.ref 41), some (.int v1), some (.int v2), some (.int v3), some (.int s0)], [.int v1, .ref 5], M)) (by decide +kernel) (hO := mm_own_134) rfl ?_
  refine mm_R_call (v := mm_wv) h hA (k2 := 56) (as := [.ref 5, .int v1]) (r := []) rfl (fun _ => rfl) (fun q hq o ho => ms_56 (by omega) hq ho) (fun _ M1 h => ?_)
  show mm_Runs L xs (d + 1) 134 (61, [some (.ref 41), some (.int v1), some (.int v2), some (.int v3), some (.int s0)], [], M1) o
  refine mm_Runs.seq (l := [(61, .iload 4, 2)]) (S2 := (63, [some (.ref 41), some (.int v1), some (.int v2), some (.int v3), some (.int s0)], [.int s0], M1)) (by decide +kernel) (hO := mm_own_134) rfl ?_
  refine mm_R_zeq (t := 87) rfl rfl rfl (fun hc => ?_) (fun hc => ?_)
  · replace h := mm_ip hc h
    refine mm_Runs.seq (l := [(87, .aload_n 0, 1), (88, .getfield 19, 3), (91, .ldc2_w 96, 3), (94, .aload_n 0, 1), (95, .getfield 9, 3), (98, .getfield 120, 3), (101, .i2l, 1), (102, .ladd, 1), (103, .iconst 4, 1)]) (S2 := (104, [some (.ref 41), some (.int v1), some (.int v2), some (.int v3), some (.int s0)], [.int (4 : Int32), .long ((2147483648 : Int64) + (M1.1 1 1).toInt64), .ref 5], M1)) (by decide +kernel) (hO := mm_own_134) rfl ?_
    refine mm_R_call (v := mm_wv) h hA (k2 := 59) (as := [.ref 5, .long ((2147483648 : Int64) + (M1.1 1 1).toInt64), .int (4 : Int32)]) (r := []) rfl (fun _ => rfl) (fun q hq o ho => ms_59 (by omega) hq ho) (fun _ M2 h => ?_)
    show mm_Runs L xs (d + 1) 134 (107, [some (.ref 41), some (.int v1), some (.int v2), some (.int v3), some (.int s0)], [], M2) o
    refine mm_Runs.seq (l := [(107, .aload_n 0, 1), (108, .getfield 19, 3), (111, .aload_n 0, 1), (112, .getfield 9, 3), (115, .getfield 95, 3), (118, .iconst 0, 1), (119, .aload_n 0, 1), (120, .getfield 9, 3), (123, .getfield 120, 3)]) (S2 := (126, [some (.ref 41), some (.int v1), some (.int v2), some (.int v3), some (.int s0)], [.int (M2.1 1 1), .int (0 : Int32), .ref 2, .ref 5], M2)) (by decide +kernel) (hO := mm_own_134) rfl ?_
    refine mm_R_call (v := mm_wv) h hA (k2 := 58) (as := [.ref 5, .ref 2, .int (0 : Int32), .int (M2.1 1 1)]) (r := []) rfl (fun _ => rfl) (fun q hq o ho => ms_58 (by omega) hq ho) (fun _ M3 h => ?_)
    show mm_Runs L xs (d + 1) 134 (129, [some (.ref 41), some (.int v1), some (.int v2), some (.int v3), some (.int s0)], [], M3) o
    cases h
    exact mm_R_retv rfl rfl hA
  · replace h := mm_iq hc h
    refine mm_Runs.seq (l := [(66, .aload_n 0, 1), (67, .getfield 19, 3), (70, .iload_n 3, 1), (71, .i2l, 1), (72, .iconst 4, 1)]) (S2 := (73, [some (.ref 41), some (.int v1), some (.int v2), some (.int v3), some (.int s0)], [.int (4 : Int32), .long v3.toInt64, .ref 5], M1)) (by decide +kernel) (hO := mm_own_134) rfl ?_
    refine mm_R_call (v := mm_wv) h hA (k2 := 59) (as := [.ref 5, .long v3.toInt64, .int (4 : Int32)]) (r := []) rfl (fun _ => rfl) (fun q hq o ho => ms_59 (by omega) hq ho) (fun _ M4 h => ?_)
    show mm_Runs L xs (d + 1) 134 (76, [some (.ref 41), some (.int v1), some (.int v2), some (.int v3), some (.int s0)], [], M4) o
    refine mm_Runs.seq (l := [(76, .aload_n 0, 1), (77, .getfield 19, 3), (80, .iload_n 2, 1)]) (S2 := (81, [some (.ref 41), some (.int v1), some (.int v2), some (.int v3), some (.int s0)], [.int v2, .ref 5], M4)) (by decide +kernel) (hO := mm_own_134) rfl ?_
    refine mm_R_call (v := mm_wv) h hA (k2 := 56) (as := [.ref 5, .int v2]) (r := []) rfl (fun _ => rfl) (fun q hq o ho => ms_56 (by omega) hq ho) (fun _ M5 h => ?_)
    show mm_Runs L xs (d + 1) 134 (84, [some (.ref 41), some (.int v1), some (.int v2), some (.int v3), some (.int s0)], [], M5) o
    refine mm_Runs.seq (l := [(84, .goto 45, 3)]) (S2 := (129, [some (.ref 41), some (.int v1), some (.int v2), some (.int v3), some (.int s0)], [], M5)) (by decide +kernel) (hO := mm_own_134) rfl ?_
    cases h
    exact mm_R_retv rfl rfl hA
set_option maxRecDepth 8000 in
set_option maxHeartbeats 4000000 in
theorem ms_134 {L : Nat} {xs : Nat → Int32} {d : Nat} (hd : 5 ≤ d) {M : mm_M} {q : (Unit ⊕ Nat) × mm_M} {o : mm_E} (h : mf_134 M = some q) (hA : mm_A (mm_Kr mm_wv) q o) : mm_Runs L xs d 134 (0, mm_ent (mm_ml 134) [.ref 41], [], M) o := by
  unfold mf_134 at h
  obtain ⟨d, rfl⟩ := mm_d1 (n := 4) hd
  show mm_Runs L xs (d + 1) 134 (0, [some (.ref 41), none, none, none, none], [], M) o
  refine mm_Runs.seq (l := [(0, .aload_n 0, 1), (1, .getfield 19, 3), (4, .getfield 170, 3), (7, .istore_n 1, 1), (8, .aload_n 0, 1), (9, .getfield 19, 3), (12, .lconst 0, 1), (13, .iconst 4, 1)]) (S2 := (14, [some (.ref 41), some (.int (M.1 5 1)), none, none, none], [.int (4 : Int32), .long (0 : Int64), .ref 5], M)) (by decide +kernel) (hO := mm_own_134) rfl ?_
  refine mm_R_call (v := mm_wv) h hA (k2 := 59) (as := [.ref 5, .long (0 : Int64), .int (4 : Int32)]) (r := []) rfl (fun _ => rfl) (fun q hq o ho => ms_59 (by omega) hq ho) (fun _ M1 h => ?_)
  show mm_Runs L xs (d + 1) 134 (17, [some (.ref 41), some (.int (M.1 5 1)), none, none, none], [], M1) o
  refine mm_Runs.seq (l := [(17, .aload_n 0, 1)]) (S2 := (18, [some (.ref 41), some (.int (M.1 5 1)), none, none, none], [.ref 41], M1)) (by decide +kernel) (hO := mm_own_134) rfl ?_
  refine mm_R_call (v := mm_wv) h hA (k2 := 129) (as := [.ref 41]) (r := []) rfl (fun _ => rfl) (fun q hq o ho => ms_129 (by omega) hq ho) (fun _ M2 h => ?_)
  show mm_Runs L xs (d + 1) 134 (21, [some (.ref 41), some (.int (M.1 5 1)), none, none, none], [], M2) o
  refine mm_Runs.seq (l := [(21, .aload_n 0, 1), (22, .getfield 19, 3), (25, .getfield 170, 3), (28, .istore_n 2, 1), (29, .iload_n 2, 1), (30, .iload_n 1, 1), (31, .isub, 1), (32, .iconst 4, 1), (33, .isub, 1), (34, .istore_n 3, 1), (35, .iload_n 3, 1), (36, .aload_n 0, 1), (37, .getfield 9, 3), (40, .getfield 120, 3)]) (S2 := (43, [some (.ref 41), some (.int (M.1 5 1)), some (.int (M2.1 5 1)), some (.int (((M2.1 5 1) - (M.1 5 1)) - (4 : Int32))), none], [.int (M2.1 1 1), .int (((M2.1 5 1) - (M.1 5 1)) - (4 : Int32))], M2)) (by decide +kernel) (hO := mm_own_134) rfl ?_
  refine mm_R_ige (t := 50) rfl rfl rfl (fun hc => ?_) (fun hc => ?_)
  · replace h := mm_ip hc h
    refine mm_Runs.seq (l := [(46, .iconst 1, 1), (47, .goto 4, 3)]) (S2 := (51, [some (.ref 41), some (.int (M.1 5 1)), some (.int (M2.1 5 1)), some (.int (((M2.1 5 1) - (M.1 5 1)) - (4 : Int32))), none], [.int (1 : Int32)], M2)) (by decide +kernel) (hO := mm_own_134) rfl ?_
    exact (ms_134_j51 hd h hA : mp_134_51 L xs (d + 1) (M.1 5 1) (M2.1 5 1) (((M2.1 5 1) - (M.1 5 1)) - (4 : Int32)) (1 : Int32) M2 o) none
  · replace h := mm_iq hc h
    refine mm_Runs.seq (l := [(50, .iconst 0, 1)]) (S2 := (51, [some (.ref 41), some (.int (M.1 5 1)), some (.int (M2.1 5 1)), some (.int (((M2.1 5 1) - (M.1 5 1)) - (4 : Int32))), none], [.int (0 : Int32)], M2)) (by decide +kernel) (hO := mm_own_134) rfl ?_
    exact (ms_134_j51 hd h hA : mp_134_51 L xs (d + 1) (M.1 5 1) (M2.1 5 1) (((M2.1 5 1) - (M.1 5 1)) - (4 : Int32)) (0 : Int32) M2 o) none
-- 133: PlainPacks$Pieces.writeFrame()V (depth 6)
theorem mm_own_133 : mm_own 133 = 9 := rfl
def mp_133_90 (L : Nat) (xs : Nat → Int32) (d : Nat) (M : mm_M) (o : mm_E) : Prop := mm_Runs L xs d 133 (90, [some (.ref 41)], [], M) o
set_option maxRecDepth 8000 in
set_option maxHeartbeats 4000000 in
theorem ms_133_j90 {L : Nat} {xs : Nat → Int32} {d : Nat} (hd : 6 ≤ d) {M : mm_M} {q : (Unit ⊕ Nat) × mm_M} {o : mm_E} (h : mf_133_j90 M = some q) (hA : mm_A (mm_Kr mm_wv) q o) : mp_133_90 L xs d M o := by
  unfold mf_133_j90 at h
  obtain ⟨d, rfl⟩ := mm_d1 (n := 5) hd
  show mm_Runs L xs (d + 1) 133 (90, [some (.ref 41)], [], M) o
  refine mm_Runs.seq (l := [(90, .aload_n 0, 1), (91, .getfield 19, 3), (94, .lconst 0, 1), (95, .iconst 4, 1)]) (S2 := (96, [some (.ref 41)], [.int (4 : Int32), .long (0 : Int64), .ref 5], M)) (by decide +kernel) (hO := mm_own_133) rfl ?_
  refine mm_R_call (v := mm_wv) h hA (k2 := 59) (as := [.ref 5, .long (0 : Int64), .int (4 : Int32)]) (r := []) rfl (fun _ => rfl) (fun q hq o ho => ms_59 (by omega) hq ho) (fun _ M1 h => ?_)
  show mm_Runs L xs (d + 1) 133 (99, [some (.ref 41)], [], M1) o
  refine mm_Runs.seq (l := [(99, .aload_n 0, 1), (100, .getfield 19, 3), (103, .aload_n 0, 1), (104, .getfield 9, 3), (107, .getfield 95, 3), (110, .iconst 0, 1), (111, .aload_n 0, 1), (112, .getfield 9, 3), (115, .getfield 120, 3)]) (S2 := (118, [some (.ref 41)], [.int (M1.1 1 1), .int (0 : Int32), .ref 2, .ref 5], M1)) (by decide +kernel) (hO := mm_own_133) rfl ?_
  refine mm_R_call (v := mm_wi) h hA (k2 := 31) (as := [.ref 2, .int (0 : Int32), .int (M1.1 1 1)]) (r := [.ref 5]) rfl (fun _ => rfl) (fun q hq o ho => ms_31 rfl (by omega) hq ho) (fun r2 M3 h => ?_)
  show mm_Runs L xs (d + 1) 133 (121, [some (.ref 41)], [.int r2, .ref 5], M3) o
  refine mm_Runs.seq (l := [(121, .i2l, 1), (122, .iconst 4, 1)]) (S2 := (123, [some (.ref 41)], [.int (4 : Int32), .long r2.toInt64, .ref 5], M3)) (by decide +kernel) (hO := mm_own_133) rfl ?_
  refine mm_R_call (v := mm_wv) h hA (k2 := 59) (as := [.ref 5, .long r2.toInt64, .int (4 : Int32)]) (r := []) rfl (fun _ => rfl) (fun q hq o ho => ms_59 (by omega) hq ho) (fun _ M4 h => ?_)
  show mm_Runs L xs (d + 1) 133 (126, [some (.ref 41)], [], M4) o
  cases h
  exact mm_R_retv rfl rfl hA
set_option maxRecDepth 8000 in
set_option maxHeartbeats 4000000 in
theorem ms_133 {L : Nat} {xs : Nat → Int32} {d : Nat} (hd : 6 ≤ d) {M : mm_M} {q : (Unit ⊕ Nat) × mm_M} {o : mm_E} (h : mf_133 M = some q) (hA : mm_A (mm_Kr mm_wv) q o) : mm_Runs L xs d 133 (0, mm_ent (mm_ml 133) [.ref 41], [], M) o := by
  unfold mf_133 at h
  obtain ⟨d, rfl⟩ := mm_d1 (n := 5) hd
  show mm_Runs L xs (d + 1) 133 (0, [some (.ref 41)], [], M) o
  refine mm_Runs.seq (l := [(0, .aload_n 0, 1), (1, .getfield 19, 3), (4, .iconst 4, 1)]) (S2 := (5, [some (.ref 41)], [.int (4 : Int32), .ref 5], M)) (by decide +kernel) (hO := mm_own_133) rfl ?_
  refine mm_R_call (v := mm_wv) h hA (k2 := 57) (as := [.ref 5, .int (4 : Int32)]) (r := []) rfl (fun _ => rfl) (fun q hq o ho => ms_57 (by omega) hq ho) (fun _ M1 h => ?_)
  show mm_Runs L xs (d + 1) 133 (8, [some (.ref 41)], [], M1) o
  refine mm_Runs.seq (l := [(8, .aload_n 0, 1), (9, .getfield 19, 3), (12, .bipush 34, 2)]) (S2 := (14, [some (.ref 41)], [.int (34 : Int32), .ref 5], M1)) (by decide +kernel) (hO := mm_own_133) rfl ?_
  refine mm_R_call (v := mm_wv) h hA (k2 := 57) (as := [.ref 5, .int (34 : Int32)]) (r := []) rfl (fun _ => rfl) (fun q hq o ho => ms_57 (by omega) hq ho) (fun _ M2 h => ?_)
  show mm_Runs L xs (d + 1) 133 (17, [some (.ref 41)], [], M2) o
  refine mm_Runs.seq (l := [(17, .aload_n 0, 1), (18, .getfield 19, 3), (21, .bipush 77, 2)]) (S2 := (23, [some (.ref 41)], [.int (77 : Int32), .ref 5], M2)) (by decide +kernel) (hO := mm_own_133) rfl ?_
  refine mm_R_call (v := mm_wv) h hA (k2 := 57) (as := [.ref 5, .int (77 : Int32)]) (r := []) rfl (fun _ => rfl) (fun q hq o ho => ms_57 (by omega) hq ho) (fun _ M3 h => ?_)
  show mm_Runs L xs (d + 1) 133 (26, [some (.ref 41)], [], M3) o
  refine mm_Runs.seq (l := [(26, .aload_n 0, 1), (27, .getfield 19, 3), (30, .bipush 24, 2)]) (S2 := (32, [some (.ref 41)], [.int (24 : Int32), .ref 5], M3)) (by decide +kernel) (hO := mm_own_133) rfl ?_
  refine mm_R_call (v := mm_wv) h hA (k2 := 57) (as := [.ref 5, .int (24 : Int32)]) (r := []) rfl (fun _ => rfl) (fun q hq o ho => ms_57 (by omega) hq ho) (fun _ M4 h => ?_)
  show mm_Runs L xs (d + 1) 133 (35, [some (.ref 41)], [], M4) o
  refine mm_Runs.seq (l := [(35, .aload_n 0, 1), (36, .getfield 19, 3), (39, .bipush 100, 2)]) (S2 := (41, [some (.ref 41)], [.int (100 : Int32), .ref 5], M4)) (by decide +kernel) (hO := mm_own_133) rfl ?_
  refine mm_R_call (v := mm_wv) h hA (k2 := 57) (as := [.ref 5, .int (100 : Int32)]) (r := []) rfl (fun _ => rfl) (fun q hq o ho => ms_57 (by omega) hq ho) (fun _ M5 h => ?_)
  show mm_Runs L xs (d + 1) 133 (44, [some (.ref 41)], [], M5) o
  refine mm_Runs.seq (l := [(44, .aload_n 0, 1), (45, .getfield 19, 3), (48, .bipush 64, 2)]) (S2 := (50, [some (.ref 41)], [.int (64 : Int32), .ref 5], M5)) (by decide +kernel) (hO := mm_own_133) rfl ?_
  refine mm_R_call (v := mm_wv) h hA (k2 := 57) (as := [.ref 5, .int (64 : Int32)]) (r := []) rfl (fun _ => rfl) (fun q hq o ho => ms_57 (by omega) hq ho) (fun _ M6 h => ?_)
  show mm_Runs L xs (d + 1) 133 (53, [some (.ref 41)], [], M6) o
  refine mm_Runs.seq (l := [(53, .aload_n 0, 1), (54, .getfield 19, 3), (57, .aload_n 0, 1), (58, .getfield 19, 3), (61, .getfield 166, 3), (64, .iconst 4, 1), (65, .bipush 6, 2)]) (S2 := (67, [some (.ref 41)], [.int (6 : Int32), .int (4 : Int32), .ref 6, .ref 5], M6)) (by decide +kernel) (hO := mm_own_133) rfl ?_
  refine mm_R_call (v := mm_wi) h hA (k2 := 31) (as := [.ref 6, .int (4 : Int32), .int (6 : Int32)]) (r := [.ref 5]) rfl (fun _ => rfl) (fun q hq o ho => ms_31 rfl (by omega) hq ho) (fun r7 M8 h => ?_)
  show mm_Runs L xs (d + 1) 133 (70, [some (.ref 41)], [.int r7, .ref 5], M8) o
  refine mm_Runs.seq (l := [(70, .bipush 8, 2), (72, .iushr, 1)]) (S2 := (73, [some (.ref 41)], [.int (mm_ush r7 (8 : Int32)), .ref 5], M8)) (by decide +kernel) (hO := mm_own_133) rfl ?_
  refine mm_R_call (v := mm_wv) h hA (k2 := 57) (as := [.ref 5, .int (mm_ush r7 (8 : Int32))]) (r := []) rfl (fun _ => rfl) (fun q hq o ho => ms_57 (by omega) hq ho) (fun _ M9 h => ?_)
  show mm_Runs L xs (d + 1) 133 (76, [some (.ref 41)], [], M9) o
  refine mm_Runs.seq (l := [(76, .aload_n 0, 1), (77, .getfield 9, 3), (80, .getfield 120, 3)]) (S2 := (83, [some (.ref 41)], [.int (M9.1 1 1)], M9)) (by decide +kernel) (hO := mm_own_133) rfl ?_
  refine mm_R_zle (t := 90) rfl rfl rfl (fun hc => ?_) (fun hc => ?_)
  · replace h := mm_ip hc h
    refine mm_Runs.seq (l := [(86, .aload_n 0, 1)]) (S2 := (87, [some (.ref 41)], [.ref 41], M9)) (by decide +kernel) (hO := mm_own_133) rfl ?_
    refine mm_R_call (v := mm_wv) h hA (k2 := 134) (as := [.ref 41]) (r := []) rfl (fun _ => rfl) (fun q hq o ho => ms_134 (by omega) hq ho) (fun _ M10 h => ?_)
    show mm_Runs L xs (d + 1) 133 (90, [some (.ref 41)], [], M10) o
    exact (ms_133_j90 hd h hA : mp_133_90 L xs (d + 1) M10 o)
  · replace h := mm_iq hc h
    exact (ms_133_j90 hd h hA : mp_133_90 L xs (d + 1) M9 o)
-- 136: PlainPacks$Pieces.writePlainTag(II)V (depth 2)
theorem mm_own_136 : mm_own 136 = 9 := rfl
def mp_136_78 (L : Nat) (xs : Nat → Int32) (d : Nat) (v1 : Int32) (v2 : Int32) (M : mm_M) (o : mm_E) : Prop := ∀ z3 : Option Value, mm_Runs L xs d 136 (78, [some (.ref 41), some (.int v1), some (.int v2), z3], [], M) o
set_option maxRecDepth 8000 in
set_option maxHeartbeats 4000000 in
theorem ms_136_j78 {L : Nat} {xs : Nat → Int32} {d : Nat} (hd : 2 ≤ d) {v1 : Int32} {v2 : Int32} {M : mm_M} {q : (Unit ⊕ Nat) × mm_M} {o : mm_E} (h : mf_136_j78 v1 v2 M = some q) (hA : mm_A (mm_Kr mm_wv) q o) : mp_136_78 L xs d v1 v2 M o := by
  unfold mf_136_j78 at h
  obtain ⟨d, rfl⟩ := mm_d1 (n := 1) hd
  intro z3
  show mm_Runs L xs (d + 1) 136 (78, [some (.ref 41), some (.int v1), some (.int v2), z3], [], M) o
  refine mm_Runs.seq (l := [(78, .aload_n 0, 1), (79, .getfield 19, 3), (82, .aload_n 0, 1), (83, .getfield 9, 3), (86, .getfield 95, 3), (89, .iload_n 1, 1), (90, .iload_n 2, 1)]) (S2 := (91, [some (.ref 41), some (.int v1), some (.int v2), z3], [.int v2, .int v1, .ref 2, .ref 5], M)) (by decide +kernel) (hO := mm_own_136) rfl ?_
  refine mm_R_call (v := mm_wv) h hA (k2 := 58) (as := [.ref 5, .ref 2, .int v1, .int v2]) (r := []) rfl (fun _ => rfl) (fun q hq o ho => ms_58 (by omega) hq ho) (fun _ M1 h => ?_)
  show mm_Runs L xs (d + 1) 136 (94, [some (.ref 41), some (.int v1), some (.int v2), z3], [], M1) o
  cases h
  exact mm_R_retv rfl rfl hA
set_option maxRecDepth 8000 in
set_option maxHeartbeats 4000000 in
theorem ms_136 {L : Nat} {xs : Nat → Int32} {d : Nat} (hd : 2 ≤ d) {v1 : Int32} {v2 : Int32} {M : mm_M} {q : (Unit ⊕ Nat) × mm_M} {o : mm_E} (h : mf_136 v1 v2 M = some q) (hA : mm_A (mm_Kr mm_wv) q o) : mm_Runs L xs d 136 (0, mm_ent (mm_ml 136) [.ref 41, .int v1, .int v2], [], M) o := by
  unfold mf_136 at h
  obtain ⟨d, rfl⟩ := mm_d1 (n := 1) hd
  show mm_Runs L xs (d + 1) 136 (0, [some (.ref 41), some (.int v1), some (.int v2), none], [], M) o
  refine mm_Runs.seq (l := [(0, .iload_n 2, 1), (1, .iload_n 1, 1), (2, .isub, 1), (3, .iconst 1, 1), (4, .isub, 1), (5, .istore_n 3, 1), (6, .iload_n 3, 1)]) (S2 := (7, [some (.ref 41), some (.int v1), some (.int v2), some (.int ((v2 - v1) - (1 : Int32)))], [.int ((v2 - v1) - (1 : Int32))], M)) (by decide +kernel) (hO := mm_own_136) rfl ?_
  refine mm_R_zge (t := 11) rfl rfl rfl (fun hc => ?_) (fun hc => ?_)
  · replace h := mm_ip hc h
    cases h
    exact mm_R_retv rfl rfl hA
  · replace h := mm_iq hc h
    refine mm_Runs.seq (l := [(11, .iload_n 3, 1), (12, .bipush 60, 2)]) (S2 := (14, [some (.ref 41), some (.int v1), some (.int v2), some (.int ((v2 - v1) - (1 : Int32)))], [.int (60 : Int32), .int ((v2 - v1) - (1 : Int32))], M)) (by decide +kernel) (hO := mm_own_136) rfl ?_
    refine mm_R_ige (t := 30) rfl rfl rfl (fun hc => ?_) (fun hc => ?_)
    · replace h := mm_ip hc h
      refine mm_Runs.seq (l := [(17, .aload_n 0, 1), (18, .getfield 19, 3), (21, .iload_n 3, 1), (22, .iconst 4, 1), (23, .imul, 1)]) (S2 := (24, [some (.ref 41), some (.int v1), some (.int v2), some (.int ((v2 - v1) - (1 : Int32)))], [.int (((v2 - v1) - (1 : Int32)) * (4 : Int32)), .ref 5], M)) (by decide +kernel) (hO := mm_own_136) rfl ?_
      refine mm_R_call (v := mm_wv) h hA (k2 := 57) (as := [.ref 5, .int (((v2 - v1) - (1 : Int32)) * (4 : Int32))]) (r := []) rfl (fun _ => rfl) (fun q hq o ho => ms_57 (by omega) hq ho) (fun _ M1 h => ?_)
      show mm_Runs L xs (d + 1) 136 (27, [some (.ref 41), some (.int v1), some (.int v2), some (.int ((v2 - v1) - (1 : Int32)))], [], M1) o
      refine mm_Runs.seq (l := [(27, .goto 51, 3)]) (S2 := (78, [some (.ref 41), some (.int v1), some (.int v2), some (.int ((v2 - v1) - (1 : Int32)))], [], M1)) (by decide +kernel) (hO := mm_own_136) rfl ?_
      exact (ms_136_j78 hd h hA : mp_136_78 L xs (d + 1) v1 v2 M1 o) (some (.int ((v2 - v1) - (1 : Int32))))
    · replace h := mm_iq hc h
      refine mm_Runs.seq (l := [(30, .iload_n 3, 1), (31, .sipush 256, 3)]) (S2 := (34, [some (.ref 41), some (.int v1), some (.int v2), some (.int ((v2 - v1) - (1 : Int32)))], [.int (256 : Int32), .int ((v2 - v1) - (1 : Int32))], M)) (by decide +kernel) (hO := mm_own_136) rfl ?_
      refine mm_R_ige (t := 58) rfl rfl rfl (fun hc => ?_) (fun hc => ?_)
      · replace h := mm_ip hc h
        refine mm_Runs.seq (l := [(37, .aload_n 0, 1), (38, .getfield 19, 3), (41, .sipush 240, 3)]) (S2 := (44, [some (.ref 41), some (.int v1), some (.int v2), some (.int ((v2 - v1) - (1 : Int32)))], [.int (240 : Int32), .ref 5], M)) (by decide +kernel) (hO := mm_own_136) rfl ?_
        refine mm_R_call (v := mm_wv) h hA (k2 := 57) (as := [.ref 5, .int (240 : Int32)]) (r := []) rfl (fun _ => rfl) (fun q hq o ho => ms_57 (by omega) hq ho) (fun _ M2 h => ?_)
        show mm_Runs L xs (d + 1) 136 (47, [some (.ref 41), some (.int v1), some (.int v2), some (.int ((v2 - v1) - (1 : Int32)))], [], M2) o
        refine mm_Runs.seq (l := [(47, .aload_n 0, 1), (48, .getfield 19, 3), (51, .iload_n 3, 1)]) (S2 := (52, [some (.ref 41), some (.int v1), some (.int v2), some (.int ((v2 - v1) - (1 : Int32)))], [.int ((v2 - v1) - (1 : Int32)), .ref 5], M2)) (by decide +kernel) (hO := mm_own_136) rfl ?_
        refine mm_R_call (v := mm_wv) h hA (k2 := 57) (as := [.ref 5, .int ((v2 - v1) - (1 : Int32))]) (r := []) rfl (fun _ => rfl) (fun q hq o ho => ms_57 (by omega) hq ho) (fun _ M3 h => ?_)
        show mm_Runs L xs (d + 1) 136 (55, [some (.ref 41), some (.int v1), some (.int v2), some (.int ((v2 - v1) - (1 : Int32)))], [], M3) o
        refine mm_Runs.seq (l := [(55, .goto 23, 3)]) (S2 := (78, [some (.ref 41), some (.int v1), some (.int v2), some (.int ((v2 - v1) - (1 : Int32)))], [], M3)) (by decide +kernel) (hO := mm_own_136) rfl ?_
        exact (ms_136_j78 hd h hA : mp_136_78 L xs (d + 1) v1 v2 M3 o) (some (.int ((v2 - v1) - (1 : Int32))))
      · replace h := mm_iq hc h
        refine mm_Runs.seq (l := [(58, .aload_n 0, 1), (59, .getfield 19, 3), (62, .sipush 244, 3)]) (S2 := (65, [some (.ref 41), some (.int v1), some (.int v2), some (.int ((v2 - v1) - (1 : Int32)))], [.int (244 : Int32), .ref 5], M)) (by decide +kernel) (hO := mm_own_136) rfl ?_
        refine mm_R_call (v := mm_wv) h hA (k2 := 57) (as := [.ref 5, .int (244 : Int32)]) (r := []) rfl (fun _ => rfl) (fun q hq o ho => ms_57 (by omega) hq ho) (fun _ M4 h => ?_)
        show mm_Runs L xs (d + 1) 136 (68, [some (.ref 41), some (.int v1), some (.int v2), some (.int ((v2 - v1) - (1 : Int32)))], [], M4) o
        refine mm_Runs.seq (l := [(68, .aload_n 0, 1), (69, .getfield 19, 3), (72, .iload_n 3, 1), (73, .i2l, 1), (74, .iconst 2, 1)]) (S2 := (75, [some (.ref 41), some (.int v1), some (.int v2), some (.int ((v2 - v1) - (1 : Int32)))], [.int (2 : Int32), .long ((v2 - v1) - (1 : Int32)).toInt64, .ref 5], M4)) (by decide +kernel) (hO := mm_own_136) rfl ?_
        refine mm_R_call (v := mm_wv) h hA (k2 := 59) (as := [.ref 5, .long ((v2 - v1) - (1 : Int32)).toInt64, .int (2 : Int32)]) (r := []) rfl (fun _ => rfl) (fun q hq o ho => ms_59 (by omega) hq ho) (fun _ M5 h => ?_)
        show mm_Runs L xs (d + 1) 136 (78, [some (.ref 41), some (.int v1), some (.int v2), some (.int ((v2 - v1) - (1 : Int32)))], [], M5) o
        exact (ms_136_j78 hd h hA : mp_136_78 L xs (d + 1) v1 v2 M5 o) (some (.int ((v2 - v1) - (1 : Int32))))
-- 135: PlainPacks$Pieces.writeTags()V (depth 3)
theorem mm_own_135 : mm_own 135 = 9 := rfl
def mp_135_12 (L : Nat) (xs : Nat → Int32) (d : Nat) (v1 : Int32) (v2 : Int32) (v3 : Int32) (M : mm_M) (o : mm_E) : Prop := ∀ z4 : Option Value, mm_Runs L xs d 135 (12, [some (.ref 41), some (.int v1), some (.int v2), some (.int v3), z4], [], M) o
def mp_135_50 (L : Nat) (xs : Nat → Int32) (d : Nat) (v1 : Int32) (v2 : Int32) (M : mm_M) (o : mm_E) : Prop := ∀ z3 z4 : Option Value, mm_Runs L xs d 135 (50, [some (.ref 41), some (.int v1), some (.int v2), z3, z4], [], M) o
set_option maxRecDepth 8000 in
set_option maxHeartbeats 4000000 in
theorem ms_135_b12 {L : Nat} {xs : Nat → Int32} {d : Nat} (hd : 3 ≤ d) {v1 : Int32} {v2 : Int32} {v3 : Int32} {M : mm_M} {q : (((Int32 × Int32) ⊕ (Int32)) ⊕ Nat) × mm_M} {o : mm_E} (h : mf_135_b12 v1 v2 v3 M = some q) (hA : mm_A (mm_K2 (fun s M o => mp_135_12 L xs (d) v1 s.1 s.2 M o) (fun r M o => mp_135_50 L xs (d) v1 r M o)) q o) : mp_135_12 L xs d v1 v2 v3 M o := by
  unfold mf_135_b12 at h
  obtain ⟨d, rfl⟩ := mm_d1 (n := 2) hd
  intro z4
  show mm_Runs L xs (d + 1) 135 (12, [some (.ref 41), some (.int v1), some (.int v2), some (.int v3), z4], [], M) o
  refine mm_Runs.seq (l := [(12, .iload_n 3, 1), (13, .iconst 4, 1)]) (S2 := (14, [some (.ref 41), some (.int v1), some (.int v2), some (.int v3), z4], [.int (4 : Int32), .int v3], M)) (by decide +kernel) (hO := mm_own_135) rfl ?_
  refine mm_R_ige (t := 50) rfl rfl rfl (fun hc => ?_) (fun hc => ?_)
  · replace h := mm_ip hc h
    refine mm_Runs.seq (l := [(17, .iload_n 2, 1), (18, .sipush 128, 3)]) (S2 := (21, [some (.ref 41), some (.int v1), some (.int v2), some (.int v3), z4], [.int (128 : Int32), .int v2], M)) (by decide +kernel) (hO := mm_own_135) rfl ?_
    refine mm_R_ilt (t := 50) rfl rfl rfl (fun hc => ?_) (fun hc => ?_)
    · replace h := mm_ip hc h
      cases h
      exact (show mp_135_50 L xs (d + 1) v1 v2 M o from hA) (some (.int v3)) z4
    · replace h := mm_iq hc h
      refine mm_Runs.seq (l := [(24, .aload_n 0, 1), (25, .getfield 19, 3), (28, .iload_n 2, 1), (29, .bipush 127, 2), (31, .iand, 1), (32, .sipush 128, 3), (35, .ior, 1)]) (S2 := (36, [some (.ref 41), some (.int v1), some (.int v2), some (.int v3), z4], [.int ((v2 &&& (127 : Int32)) ||| (128 : Int32)), .ref 5], M)) (by decide +kernel) (hO := mm_own_135) rfl ?_
      refine mm_R_call (v := mm_wv) h hA (k2 := 57) (as := [.ref 5, .int ((v2 &&& (127 : Int32)) ||| (128 : Int32))]) (r := []) rfl (fun _ => rfl) (fun q hq o ho => ms_57 (by omega) hq ho) (fun _ M1 h => ?_)
      show mm_Runs L xs (d + 1) 135 (39, [some (.ref 41), some (.int v1), some (.int v2), some (.int v3), z4], [], M1) o
      refine mm_Runs.seq (l := [(39, .iload_n 2, 1), (40, .bipush 7, 2), (42, .ishr, 1), (43, .istore_n 2, 1), (44, .iinc 3 1, 3), (47, .goto (-35), 3)]) (S2 := (12, [some (.ref 41), some (.int v1), some (.int (mm_shr v2 (7 : Int32))), some (.int (v3 + (1 : Int32))), z4], [], M1)) (by decide +kernel) (hO := mm_own_135) rfl ?_
      cases h
      exact (show mp_135_12 L xs (d + 1) v1 (mm_shr v2 (7 : Int32)) (v3 + (1 : Int32)) M1 o from hA) z4
  · replace h := mm_iq hc h
    cases h
    exact (show mp_135_50 L xs (d + 1) v1 v2 M o from hA) (some (.int v3)) z4
theorem ms_135_L12 {L : Nat} {xs : Nat → Int32} {d : Nat} (hd : 3 ≤ d) {v1 : Int32} {v2 : Int32} {v3 : Int32} {β : Type} {K : β → mm_M → mm_E → Prop} {F : (Int32) → mm_M → mm_O β} {M : mm_M} {q : (β ⊕ Nat) × mm_M} {o : mm_E} (h : mm_B (mf_135_L12 v1 (v2, v3) M) F = some q) (hA : mm_A K q o) (hx : ∀ (r : (Int32)) (M2 : mm_M), F r M2 = some q → (fun r M o => mp_135_50 L xs (d) v1 r M o) r M2 o) : mp_135_12 L xs d v1 v2 v3 M o := by
  unfold mf_135_L12 at h
  exact mm_R_loop (step := (fun s M => mf_135_b12 v1 s.1 s.2 M)) (s := (v2, v3)) (M := M) (P := (fun s M o => mp_135_12 L xs (d) v1 s.1 s.2 M o)) (X := (fun r M o => mp_135_50 L xs (d) v1 r M o)) h hA (fun s M q hq hA => ms_135_b12 (v1 := v1) (v2 := s.1) (v3 := s.2) (M := M) (q := q) hd hq hA) hx
def mp_135_70 (L : Nat) (xs : Nat → Int32) (d : Nat) (v1 : Int32) (v3 : Int32) (v4 : Int32) (M : mm_M) (o : mm_E) : Prop := ∀ z2 : Option Value, mm_Runs L xs d 135 (70, [some (.ref 41), some (.int v1), z2, some (.int v3), some (.int v4)], [], M) o
def mp_135_177 (L : Nat) (xs : Nat → Int32) (d : Nat) (v1 : Int32) (v3 : Int32) (M : mm_M) (o : mm_E) : Prop := ∀ z2 z4 : Option Value, mm_Runs L xs d 135 (177, [some (.ref 41), some (.int v1), z2, some (.int v3), z4], [], M) o
set_option maxRecDepth 8000 in
set_option maxHeartbeats 4000000 in
theorem ms_135_b70 {L : Nat} {xs : Nat → Int32} {d : Nat} (hd : 3 ≤ d) {v1 : Int32} {v3 : Int32} {v4 : Int32} {M : mm_M} {q : (((Int32 × Int32) ⊕ (Int32)) ⊕ Nat) × mm_M} {o : mm_E} (h : mf_135_b70 v1 v3 v4 M = some q) (hA : mm_A (mm_K2 (fun s M o => mp_135_70 L xs (d) v1 s.1 s.2 M o) (fun r M o => mp_135_177 L xs (d) v1 r M o)) q o) : mp_135_70 L xs d v1 v3 v4 M o := by
  unfold mf_135_b70 at h
  obtain ⟨d, rfl⟩ := mm_d1 (n := 2) hd
  intro z2
  show mm_Runs L xs (d + 1) 135 (70, [some (.ref 41), some (.int v1), z2, some (.int v3), some (.int v4)], [], M) o
  refine mm_Runs.seq (l := [(70, .iload 4, 2), (72, .iload_n 1, 1)]) (S2 := (73, [some (.ref 41), some (.int v1), z2, some (.int v3), some (.int v4)], [.int v1, .int v4], M)) (by decide +kernel) (hO := mm_own_135) rfl ?_
  refine mm_R_ige (t := 177) rfl rfl rfl (fun hc => ?_) (fun hc => ?_)
  · replace h := mm_ip hc h
    refine mm_Runs.seq (l := [(76, .aload_n 0, 1), (77, .getfield 23, 3), (80, .iload 4, 2), (82, .bipush 64, 2)]) (S2 := (84, [some (.ref 41), some (.int v1), z2, some (.int v3), some (.int v4)], [.int (64 : Int32), .int v4, .ref 13], M)) (by decide +kernel) (hO := mm_own_135) rfl ?_
    refine mm_R_call (v := mm_wv) h hA (k2 := 71) (as := [.ref 13, .int v4, .int (64 : Int32)]) (r := []) rfl (fun _ => rfl) (fun q hq o ho => ms_71 (by omega) hq ho) (fun _ M1 h => ?_)
    show mm_Runs L xs (d + 1) 135 (87, [some (.ref 41), some (.int v1), z2, some (.int v3), some (.int v4)], [], M1) o
    refine mm_Runs.seq (l := [(87, .aload_n 0, 1), (88, .getfield 23, 3), (91, .getfield 141, 3), (94, .iconst 4, 1)]) (S2 := (95, [some (.ref 41), some (.int v1), z2, some (.int v3), some (.int v4)], [.int (4 : Int32), .int (M1.1 13 0)], M1)) (by decide +kernel) (hO := mm_own_135) rfl ?_
    refine mm_R_ilt (t := 171) rfl rfl rfl (fun hc => ?_) (fun hc => ?_)
    · replace h := mm_ip hc h
      refine mm_Runs.seq (l := [(171, .iinc 4 1, 3), (174, .goto (-104), 3)]) (S2 := (70, [some (.ref 41), some (.int v1), z2, some (.int v3), some (.int (v4 + (1 : Int32)))], [], M1)) (by decide +kernel) (hO := mm_own_135) rfl ?_
      cases h
      exact (show mp_135_70 L xs (d + 1) v1 v3 (v4 + (1 : Int32)) M1 o from hA) z2
    · replace h := mm_iq hc h
      refine mm_Runs.seq (l := [(98, .aload_n 0, 1), (99, .getfield 23, 3), (102, .getfield 144, 3), (105, .ldc 147, 2)]) (S2 := (107, [some (.ref 41), some (.int v1), z2, some (.int v3), some (.int v4)], [.int (65535 : Int32), .int (M1.1 13 1)], M1)) (by decide +kernel) (hO := mm_own_135) rfl ?_
      refine mm_R_igt (t := 171) rfl rfl rfl (fun hc => ?_) (fun hc => ?_)
      · replace h := mm_ip hc h
        refine mm_Runs.seq (l := [(171, .iinc 4 1, 3), (174, .goto (-104), 3)]) (S2 := (70, [some (.ref 41), some (.int v1), z2, some (.int v3), some (.int (v4 + (1 : Int32)))], [], M1)) (by decide +kernel) (hO := mm_own_135) rfl ?_
        cases h
        exact (show mp_135_70 L xs (d + 1) v1 v3 (v4 + (1 : Int32)) M1 o from hA) z2
      · replace h := mm_iq hc h
        refine mm_Runs.seq (l := [(110, .aload_n 0, 1), (111, .iload_n 3, 1), (112, .iload 4, 2)]) (S2 := (114, [some (.ref 41), some (.int v1), z2, some (.int v3), some (.int v4)], [.int v4, .int v3, .ref 41], M1)) (by decide +kernel) (hO := mm_own_135) rfl ?_
        refine mm_R_call (v := mm_wv) h hA (k2 := 136) (as := [.ref 41, .int v3, .int v4]) (r := []) rfl (fun _ => rfl) (fun q hq o ho => ms_136 (by omega) hq ho) (fun _ M2 h => ?_)
        show mm_Runs L xs (d + 1) 135 (117, [some (.ref 41), some (.int v1), z2, some (.int v3), some (.int v4)], [], M2) o
        refine mm_Runs.seq (l := [(117, .aload_n 0, 1), (118, .getfield 19, 3), (121, .aload_n 0, 1), (122, .getfield 23, 3), (125, .getfield 141, 3), (128, .iconst 1, 1), (129, .isub, 1), (130, .iconst 4, 1), (131, .imul, 1), (132, .iconst 2, 1), (133, .iadd, 1)]) (S2 := (134, [some (.ref 41), some (.int v1), z2, some (.int v3), some (.int v4)], [.int ((((M2.1 13 0) - (1 : Int32)) * (4 : Int32)) + (2 : Int32)), .ref 5], M2)) (by decide +kernel) (hO := mm_own_135) rfl ?_
        refine mm_R_call (v := mm_wv) h hA (k2 := 57) (as := [.ref 5, .int ((((M2.1 13 0) - (1 : Int32)) * (4 : Int32)) + (2 : Int32))]) (r := []) rfl (fun _ => rfl) (fun q hq o ho => ms_57 (by omega) hq ho) (fun _ M3 h => ?_)
        show mm_Runs L xs (d + 1) 135 (137, [some (.ref 41), some (.int v1), z2, some (.int v3), some (.int v4)], [], M3) o
        refine mm_Runs.seq (l := [(137, .aload_n 0, 1), (138, .getfield 19, 3), (141, .aload_n 0, 1), (142, .getfield 23, 3), (145, .getfield 144, 3), (148, .i2l, 1), (149, .iconst 2, 1)]) (S2 := (150, [some (.ref 41), some (.int v1), z2, some (.int v3), some (.int v4)], [.int (2 : Int32), .long (M3.1 13 1).toInt64, .ref 5], M3)) (by decide +kernel) (hO := mm_own_135) rfl ?_
        refine mm_R_call (v := mm_wv) h hA (k2 := 59) (as := [.ref 5, .long (M3.1 13 1).toInt64, .int (2 : Int32)]) (r := []) rfl (fun _ => rfl) (fun q hq o ho => ms_59 (by omega) hq ho) (fun _ M4 h => ?_)
        show mm_Runs L xs (d + 1) 135 (153, [some (.ref 41), some (.int v1), z2, some (.int v3), some (.int v4)], [], M4) o
        refine mm_Runs.seq (l := [(153, .iload 4, 2), (155, .aload_n 0, 1), (156, .getfield 23, 3), (159, .getfield 141, 3), (162, .iadd, 1), (163, .istore 4, 2), (165, .iload 4, 2), (167, .istore_n 3, 1), (168, .goto (-98), 3)]) (S2 := (70, [some (.ref 41), some (.int v1), (mm_no2 z2), some (.int (v4 + (M4.1 13 0))), some (.int (v4 + (M4.1 13 0)))], [], M4)) (by decide +kernel) (hO := mm_own_135) rfl ?_
        cases h
        exact (show mp_135_70 L xs (d + 1) v1 (v4 + (M4.1 13 0)) (v4 + (M4.1 13 0)) M4 o from hA) ((mm_no2 z2))
  · replace h := mm_iq hc h
    cases h
    exact (show mp_135_177 L xs (d + 1) v1 v3 M o from hA) z2 (some (.int v4))
theorem ms_135_L70 {L : Nat} {xs : Nat → Int32} {d : Nat} (hd : 3 ≤ d) {v1 : Int32} {v3 : Int32} {v4 : Int32} {β : Type} {K : β → mm_M → mm_E → Prop} {F : (Int32) → mm_M → mm_O β} {M : mm_M} {q : (β ⊕ Nat) × mm_M} {o : mm_E} (h : mm_B (mf_135_L70 v1 (v3, v4) M) F = some q) (hA : mm_A K q o) (hx : ∀ (r : (Int32)) (M2 : mm_M), F r M2 = some q → (fun r M o => mp_135_177 L xs (d) v1 r M o) r M2 o) : mp_135_70 L xs d v1 v3 v4 M o := by
  unfold mf_135_L70 at h
  exact mm_R_loop (step := (fun s M => mf_135_b70 v1 s.1 s.2 M)) (s := (v3, v4)) (M := M) (P := (fun s M o => mp_135_70 L xs (d) v1 s.1 s.2 M o)) (X := (fun r M o => mp_135_177 L xs (d) v1 r M o)) h hA (fun s M q hq hA => ms_135_b70 (v1 := v1) (v3 := s.1) (v4 := s.2) (M := M) (q := q) hd hq hA) hx
set_option maxRecDepth 8000 in
set_option maxHeartbeats 4000000 in
theorem ms_135_j177 {L : Nat} {xs : Nat → Int32} {d : Nat} (hd : 3 ≤ d) {v1 : Int32} {v3 : Int32} {M : mm_M} {q : (Unit ⊕ Nat) × mm_M} {o : mm_E} (h : mf_135_j177 v1 v3 M = some q) (hA : mm_A (mm_Kr mm_wv) q o) : mp_135_177 L xs d v1 v3 M o := by
  unfold mf_135_j177 at h
  obtain ⟨d, rfl⟩ := mm_d1 (n := 2) hd
  intro z2 z4
  show mm_Runs L xs (d + 1) 135 (177, [some (.ref 41), some (.int v1), z2, some (.int v3), z4], [], M) o
  refine mm_Runs.seq (l := [(177, .aload_n 0, 1), (178, .iload_n 3, 1), (179, .iload_n 1, 1)]) (S2 := (180, [some (.ref 41), some (.int v1), z2, some (.int v3), z4], [.int v1, .int v3, .ref 41], M)) (by decide +kernel) (hO := mm_own_135) rfl ?_
  refine mm_R_call (v := mm_wv) h hA (k2 := 136) (as := [.ref 41, .int v3, .int v1]) (r := []) rfl (fun _ => rfl) (fun q hq o ho => ms_136 (by omega) hq ho) (fun _ M1 h => ?_)
  show mm_Runs L xs (d + 1) 135 (183, [some (.ref 41), some (.int v1), z2, some (.int v3), z4], [], M1) o
  cases h
  exact mm_R_retv rfl rfl hA
set_option maxRecDepth 8000 in
set_option maxHeartbeats 4000000 in
theorem ms_135_j50 {L : Nat} {xs : Nat → Int32} {d : Nat} (hd : 3 ≤ d) {v1 : Int32} {v2 : Int32} {M : mm_M} {q : (Unit ⊕ Nat) × mm_M} {o : mm_E} (h : mf_135_j50 v1 v2 M = some q) (hA : mm_A (mm_Kr mm_wv) q o) : mp_135_50 L xs d v1 v2 M o := by
  unfold mf_135_j50 at h
  obtain ⟨d, rfl⟩ := mm_d1 (n := 2) hd
  intro z3 z4
  show mm_Runs L xs (d + 1) 135 (50, [some (.ref 41), some (.int v1), some (.int v2), z3, z4], [], M) o
  refine mm_Runs.seq (l := [(50, .aload_n 0, 1), (51, .getfield 19, 3), (54, .iload_n 2, 1)]) (S2 := (55, [some (.ref 41), some (.int v1), some (.int v2), z3, z4], [.int v2, .ref 5], M)) (by decide +kernel) (hO := mm_own_135) rfl ?_
  refine mm_R_call (v := mm_wv) h hA (k2 := 57) (as := [.ref 5, .int v2]) (r := []) rfl (fun _ => rfl) (fun q hq o ho => ms_57 (by omega) hq ho) (fun _ M1 h => ?_)
  show mm_Runs L xs (d + 1) 135 (58, [some (.ref 41), some (.int v1), some (.int v2), z3, z4], [], M1) o
  refine mm_Runs.seq (l := [(58, .aload_n 0, 1), (59, .getfield 23, 3)]) (S2 := (62, [some (.ref 41), some (.int v1), some (.int v2), z3, z4], [.ref 13], M1)) (by decide +kernel) (hO := mm_own_135) rfl ?_
  refine mm_R_call (v := mm_wv) h hA (k2 := 70) (as := [.ref 13]) (r := []) rfl (fun _ => rfl) (fun q hq o ho => ms_70 (by omega) hq ho) (fun _ M2 h => ?_)
  show mm_Runs L xs (d + 1) 135 (65, [some (.ref 41), some (.int v1), some (.int v2), z3, z4], [], M2) o
  refine mm_Runs.seq (l := [(65, .iconst 0, 1), (66, .istore_n 3, 1), (67, .iconst 0, 1), (68, .istore 4, 2)]) (S2 := (70, [some (.ref 41), some (.int v1), some (.int v2), some (.int (0 : Int32)), some (.int (0 : Int32))], [], M2)) (by decide +kernel) (hO := mm_own_135) rfl ?_
  have hp : mp_135_70 L xs (d + 1) v1 (0 : Int32) (0 : Int32) M2 o := by
    refine ms_135_L70 hd h hA (fun r4 M3 h => ?_)
    intro y5 y6
    show mm_Runs L xs (d + 1) 135 (177, [some (.ref 41), some (.int v1), y5, some (.int r4), y6], [], M3) o
    exact (ms_135_j177 hd h hA : mp_135_177 L xs (d + 1) v1 r4 M3 o) y5 y6
  exact hp (some (.int v2))
set_option maxRecDepth 8000 in
set_option maxHeartbeats 4000000 in
theorem ms_135 {L : Nat} {xs : Nat → Int32} {d : Nat} (hd : 3 ≤ d) {M : mm_M} {q : (Unit ⊕ Nat) × mm_M} {o : mm_E} (h : mf_135 M = some q) (hA : mm_A (mm_Kr mm_wv) q o) : mm_Runs L xs d 135 (0, mm_ent (mm_ml 135) [.ref 41], [], M) o := by
  unfold mf_135 at h
  obtain ⟨d, rfl⟩ := mm_d1 (n := 2) hd
  show mm_Runs L xs (d + 1) 135 (0, [some (.ref 41), none, none, none, none], [], M) o
  refine mm_Runs.seq (l := [(0, .aload_n 0, 1), (1, .getfield 9, 3), (4, .getfield 120, 3), (7, .istore_n 1, 1), (8, .iload_n 1, 1), (9, .istore_n 2, 1), (10, .iconst 0, 1), (11, .istore_n 3, 1)]) (S2 := (12, [some (.ref 41), some (.int (M.1 1 1)), some (.int (M.1 1 1)), some (.int (0 : Int32)), none], [], M)) (by decide +kernel) (hO := mm_own_135) rfl ?_
  have hp : mp_135_12 L xs (d + 1) (M.1 1 1) (M.1 1 1) (0 : Int32) M o := by
    refine ms_135_L12 hd h hA (fun r2 M1 h => ?_)
    intro y3 y4
    show mm_Runs L xs (d + 1) 135 (50, [some (.ref 41), some (.int (M.1 1 1)), some (.int r2), y3, y4], [], M1) o
    exact (ms_135_j50 hd h hA : mp_135_50 L xs (d + 1) (M.1 1 1) r2 M1 o) y3 y4
  exact hp none
-- 149: PlainPacks$Sorted.addText(II)V (depth 0)
theorem mm_own_149 : mm_own 149 = 10 := rfl
def mp_149_2 (L : Nat) (xs : Nat → Int32) (d : Nat) (v1 : Int32) (v2 : Int32) (v3 : Int32) (M : mm_M) (o : mm_E) : Prop := mm_Runs L xs d 149 (2, [some (.ref 42), some (.int v1), some (.int v2), some (.int v3)], [], M) o
def mp_149_43 (L : Nat) (xs : Nat → Int32) (d : Nat) (M : mm_M) (o : mm_E) : Prop := ∀ z0 z1 z2 z3 : Option Value, mm_Runs L xs d 149 (43, [z0, z1, z2, z3], [], M) o
set_option maxRecDepth 8000 in
set_option maxHeartbeats 4000000 in
theorem ms_149_b2 {L : Nat} {xs : Nat → Int32} {d : Nat} (hd : 0 ≤ d) {v1 : Int32} {v2 : Int32} {v3 : Int32} {M : mm_M} {q : (((Int32) ⊕ (Unit)) ⊕ Nat) × mm_M} {o : mm_E} (h : mf_149_b2 v1 v2 v3 M = some q) (hA : mm_A (mm_K2 (fun s M o => mp_149_2 L xs (d) v1 v2 s M o) (fun r M o => mp_149_43 L xs (d) M o)) q o) : mp_149_2 L xs d v1 v2 v3 M o := by
  unfold mf_149_b2 at h
  show mm_Runs L xs (d) 149 (2, [some (.ref 42), some (.int v1), some (.int v2), some (.int v3)], [], M) o
  refine mm_Runs.seq (l := [(2, .iload_n 3, 1), (3, .iload_n 2, 1)]) (S2 := (4, [some (.ref 42), some (.int v1), some (.int v2), some (.int v3)], [.int v2, .int v3], M)) (by decide +kernel) (hO := mm_own_149) rfl ?_
  refine mm_R_ige (t := 43) rfl rfl rfl (fun hc => ?_) (fun hc => ?_)
  · replace h := mm_ip hc h
    refine mm_Runs.seq (l := [(7, .aload_n 0, 1), (8, .getfield 124, 3), (11, .sipush 12500, 3)]) (S2 := (14, [some (.ref 42), some (.int v1), some (.int v2), some (.int v3)], [.int (12500 : Int32), .int (M.1 42 12)], M)) (by decide +kernel) (hO := mm_own_149) rfl ?_
    refine mm_R_ige (t := 43) rfl rfl rfl (fun hc => ?_) (fun hc => ?_)
    · replace h := mm_ip hc h
      refine mm_Runs.seq (l := [(17, .aload_n 0, 1), (18, .getfield 27, 3), (21, .aload_n 0, 1), (22, .getfield 124, 3), (25, .iload_n 1, 1)]) (S2 := (26, [some (.ref 42), some (.int v1), some (.int v2), some (.int v3)], [.int v1, .int (M.1 42 12), .ref 47], M)) (by decide +kernel) (hO := mm_own_149) rfl ?_
      obtain ⟨hb, h⟩ := mm_gd h
      refine mm_R_iast rfl rfl hb ?_
      refine mm_Runs.seq (l := [(27, .aload_n 0, 1), (28, .dup, 1), (29, .getfield 124, 3), (32, .iconst 1, 1), (33, .iadd, 1), (34, .putfield 124, 3), (37, .iinc 3 1, 3), (40, .goto (-38), 3)]) (S2 := (2, [some (.ref 42), some (.int v1), some (.int v2), some (.int (v3 + (1 : Int32)))], [], (mm_pi (mm_pi M 47 (M.1 42 12).toNatClampNeg v1) 42 12 ((M.1 42 12) + (1 : Int32))))) (by decide +kernel) (hO := mm_own_149) rfl ?_
      cases h
      exact (show mp_149_2 L xs (d) v1 v2 (v3 + (1 : Int32)) (mm_pi (mm_pi M 47 (M.1 42 12).toNatClampNeg v1) 42 12 ((M.1 42 12) + (1 : Int32))) o from hA)
    · replace h := mm_iq hc h
      cases h
      exact (show mp_149_43 L xs (d) M o from hA) (some (.ref 42)) (some (.int v1)) (some (.int v2)) (some (.int v3))
  · replace h := mm_iq hc h
    cases h
    exact (show mp_149_43 L xs (d) M o from hA) (some (.ref 42)) (some (.int v1)) (some (.int v2)) (some (.int v3))
theorem ms_149_L2 {L : Nat} {xs : Nat → Int32} {d : Nat} (hd : 0 ≤ d) {v1 : Int32} {v2 : Int32} {v3 : Int32} {β : Type} {K : β → mm_M → mm_E → Prop} {F : (Unit) → mm_M → mm_O β} {M : mm_M} {q : (β ⊕ Nat) × mm_M} {o : mm_E} (h : mm_B (mf_149_L2 v1 v2 v3 M) F = some q) (hA : mm_A K q o) (hx : ∀ (r : (Unit)) (M2 : mm_M), F r M2 = some q → (fun r M o => mp_149_43 L xs (d) M o) r M2 o) : mp_149_2 L xs d v1 v2 v3 M o := by
  unfold mf_149_L2 at h
  exact mm_R_loop (step := (fun s M => mf_149_b2 v1 v2 s M)) (s := v3) (M := M) (P := (fun s M o => mp_149_2 L xs (d) v1 v2 s M o)) (X := (fun r M o => mp_149_43 L xs (d) M o)) h hA (fun s M q hq hA => ms_149_b2 (v1 := v1) (v2 := v2) (v3 := s) (M := M) (q := q) hd hq hA) hx
set_option maxRecDepth 8000 in
set_option maxHeartbeats 4000000 in
theorem ms_149 {L : Nat} {xs : Nat → Int32} {d : Nat} (hd : 0 ≤ d) {v1 : Int32} {v2 : Int32} {M : mm_M} {q : (Unit ⊕ Nat) × mm_M} {o : mm_E} (h : mf_149 v1 v2 M = some q) (hA : mm_A (mm_Kr mm_wv) q o) : mm_Runs L xs d 149 (0, mm_ent (mm_ml 149) [.ref 42, .int v1, .int v2], [], M) o := by
  unfold mf_149 at h
  show mm_Runs L xs (d) 149 (0, [some (.ref 42), some (.int v1), some (.int v2), none], [], M) o
  refine mm_Runs.seq (l := [(0, .iconst 0, 1), (1, .istore_n 3, 1)]) (S2 := (2, [some (.ref 42), some (.int v1), some (.int v2), some (.int (0 : Int32))], [], M)) (by decide +kernel) (hO := mm_own_149) rfl ?_
  have hp : mp_149_2 L xs (d) v1 v2 (0 : Int32) M o := by
    refine ms_149_L2 hd h hA (fun r2 M1 h => ?_)
    intro y3 y4 y5 y6
    show mm_Runs L xs (d) 149 (43, [y3, y4, y5, y6], [], M1) o
    cases h
    exact mm_R_retv rfl rfl hA
  exact hp
-- 148: PlainPacks$Sorted.makeText()V (depth 1)
theorem mm_own_148 : mm_own 148 = 10 := rfl
def mp_148_7 (L : Nat) (xs : Nat → Int32) (d : Nat) (v1 : Int32) (M : mm_M) (o : mm_E) : Prop := ∀ z2 z3 : Option Value, mm_Runs L xs d 148 (7, [some (.ref 42), some (.int v1), z2, z3], [], M) o
def mp_148_106 (L : Nat) (xs : Nat → Int32) (d : Nat) (M : mm_M) (o : mm_E) : Prop := ∀ z0 z1 z2 z3 : Option Value, mm_Runs L xs d 148 (106, [z0, z1, z2, z3], [], M) o
def mp_148_30 (L : Nat) (xs : Nat → Int32) (d : Nat) (v1 : Int32) (v2 : Int32) (v3 : Int32) (M : mm_M) (o : mm_E) : Prop := mm_Runs L xs d 148 (30, [some (.ref 42), some (.int v1), some (.int v2), some (.int v3)], [], M) o
def mp_148_71 (L : Nat) (xs : Nat → Int32) (d : Nat) (v1 : Int32) (v2 : Int32) (v3 : Int32) (M : mm_M) (o : mm_E) : Prop := mm_Runs L xs d 148 (71, [some (.ref 42), some (.int v1), some (.int v2), some (.int v3)], [], M) o
set_option maxRecDepth 8000 in
set_option maxHeartbeats 4000000 in
theorem ms_148_b30 {L : Nat} {xs : Nat → Int32} {d : Nat} (hd : 1 ≤ d) {v1 : Int32} {v2 : Int32} {v3 : Int32} {M : mm_M} {q : (((Int32) ⊕ (Int32)) ⊕ Nat) × mm_M} {o : mm_E} (h : mf_148_b30 v1 v2 v3 M = some q) (hA : mm_A (mm_K2 (fun s M o => mp_148_30 L xs (d) v1 v2 s M o) (fun r M o => mp_148_71 L xs (d) v1 v2 r M o)) q o) : mp_148_30 L xs d v1 v2 v3 M o := by
  unfold mf_148_b30 at h
  obtain ⟨d, rfl⟩ := mm_d1 (n := 0) hd
  show mm_Runs L xs (d + 1) 148 (30, [some (.ref 42), some (.int v1), some (.int v2), some (.int v3)], [], M) o
  refine mm_Runs.seq (l := [(30, .iload_n 3, 1), (31, .sipush 255, 3)]) (S2 := (34, [some (.ref 42), some (.int v1), some (.int v2), some (.int v3)], [.int (255 : Int32), .int v3], M)) (by decide +kernel) (hO := mm_own_148) rfl ?_
  refine mm_R_ige (t := 71) rfl rfl rfl (fun hc => ?_) (fun hc => ?_)
  · replace h := mm_ip hc h
    refine mm_Runs.seq (l := [(37, .iload_n 1, 1), (38, .iload_n 3, 1), (39, .iadd, 1), (40, .aload_n 0, 1), (41, .getfield 36, 3), (44, .getfield 167, 3)]) (S2 := (47, [some (.ref 42), some (.int v1), some (.int v2), some (.int v3)], [.int (M.1 1 1), .int (v1 + v3)], M)) (by decide +kernel) (hO := mm_own_148) rfl ?_
    refine mm_R_ige (t := 71) rfl rfl rfl (fun hc => ?_) (fun hc => ?_)
    · replace h := mm_ip hc h
      refine mm_Runs.seq (l := [(50, .aload_n 0, 1), (51, .getfield 36, 3), (54, .getfield 168, 3), (57, .iload_n 1, 1), (58, .iload_n 3, 1), (59, .iadd, 1)]) (S2 := (60, [some (.ref 42), some (.int v1), some (.int v2), some (.int v3)], [.int (v1 + v3), .ref 2], M)) (by decide +kernel) (hO := mm_own_148) rfl ?_
      obtain ⟨hb, h⟩ := mm_gd h
      refine mm_R_iald rfl rfl hb ?_
      refine mm_Runs.seq (l := [(61, .iload_n 2, 1)]) (S2 := (62, [some (.ref 42), some (.int v1), some (.int v2), some (.int v3)], [.int v2, .int (M.1 2 (v1 + v3).toNatClampNeg)], M)) (by decide +kernel) (hO := mm_own_148) rfl ?_
      refine mm_R_ine (t := 71) rfl rfl rfl (fun hc => ?_) (fun hc => ?_)
      · replace h := mm_ip hc h
        refine mm_Runs.seq (l := [(65, .iinc 3 1, 3), (68, .goto (-38), 3)]) (S2 := (30, [some (.ref 42), some (.int v1), some (.int v2), some (.int (v3 + (1 : Int32)))], [], M)) (by decide +kernel) (hO := mm_own_148) rfl ?_
        cases h
        exact (show mp_148_30 L xs (d + 1) v1 v2 (v3 + (1 : Int32)) M o from hA)
      · replace h := mm_iq hc h
        cases h
        exact (show mp_148_71 L xs (d + 1) v1 v2 v3 M o from hA)
    · replace h := mm_iq hc h
      cases h
      exact (show mp_148_71 L xs (d + 1) v1 v2 v3 M o from hA)
  · replace h := mm_iq hc h
    cases h
    exact (show mp_148_71 L xs (d + 1) v1 v2 v3 M o from hA)
theorem ms_148_L30 {L : Nat} {xs : Nat → Int32} {d : Nat} (hd : 1 ≤ d) {v1 : Int32} {v2 : Int32} {v3 : Int32} {β : Type} {K : β → mm_M → mm_E → Prop} {F : (Int32) → mm_M → mm_O β} {M : mm_M} {q : (β ⊕ Nat) × mm_M} {o : mm_E} (h : mm_B (mf_148_L30 v1 v2 v3 M) F = some q) (hA : mm_A K q o) (hx : ∀ (r : (Int32)) (M2 : mm_M), F r M2 = some q → (fun r M o => mp_148_71 L xs (d) v1 v2 r M o) r M2 o) : mp_148_30 L xs d v1 v2 v3 M o := by
  unfold mf_148_L30 at h
  exact mm_R_loop (step := (fun s M => mf_148_b30 v1 v2 s M)) (s := v3) (M := M) (P := (fun s M o => mp_148_30 L xs (d) v1 v2 s M o)) (X := (fun r M o => mp_148_71 L xs (d) v1 v2 r M o)) h hA (fun s M q hq hA => ms_148_b30 (v1 := v1) (v2 := v2) (v3 := s) (M := M) (q := q) hd hq hA) hx
def mp_148_83 (L : Nat) (xs : Nat → Int32) (d : Nat) (v1 : Int32) (v3 : Int32) (s1 : Int32) (s2 : Int32) (M : mm_M) (o : mm_E) : Prop := ∀ z2 : Option Value, mm_Runs L xs d 148 (83, [some (.ref 42), some (.int v1), z2, some (.int v3)], [.int s2, .int s1, .ref 42], M) o
set_option maxRecDepth 8000 in
set_option maxHeartbeats 4000000 in
theorem ms_148_j83 {L : Nat} {xs : Nat → Int32} {d : Nat} (hd : 1 ≤ d) {v1 : Int32} {v3 : Int32} {s1 : Int32} {s2 : Int32} {M : mm_M} {q : (((Int32) ⊕ (Unit)) ⊕ Nat) × mm_M} {o : mm_E} (h : mf_148_j83 v1 v3 s1 s2 M = some q) (hA : mm_A (mm_K2 (fun s M o => mp_148_7 L xs (d) s M o) (fun r M o => mp_148_106 L xs (d) M o)) q o) : mp_148_83 L xs d v1 v3 s1 s2 M o := by
  unfold mf_148_j83 at h
  obtain ⟨d, rfl⟩ := mm_d1 (n := 0) hd
  intro z2
  show mm_Runs L xs (d + 1) 148 (83, [some (.ref 42), some (.int v1), z2, some (.int v3)], [.int s2, .int s1, .ref 42], M) o
  refine mm_R_call (v := mm_wv) h hA (k2 := 149) (as := [.ref 42, .int s1, .int s2]) (r := []) rfl (fun _ => rfl) (fun q hq o ho => ms_149 (by omega) hq ho) (fun _ M1 h => ?_)
  show mm_Runs L xs (d + 1) 148 (86, [some (.ref 42), some (.int v1), z2, some (.int v3)], [], M1) o
  refine mm_Runs.seq (l := [(86, .iload_n 3, 1), (87, .iconst 4, 1)]) (S2 := (88, [some (.ref 42), some (.int v1), z2, some (.int v3)], [.int (4 : Int32), .int v3], M1)) (by decide +kernel) (hO := mm_own_148) rfl ?_
  refine mm_R_ilt (t := 99) rfl rfl rfl (fun hc => ?_) (fun hc => ?_)
  · replace h := mm_ip hc h
    refine mm_Runs.seq (l := [(99, .iload_n 1, 1), (100, .iload_n 3, 1), (101, .iadd, 1), (102, .istore_n 1, 1), (103, .goto (-96), 3)]) (S2 := (7, [some (.ref 42), some (.int (v1 + v3)), z2, some (.int v3)], [], M1)) (by decide +kernel) (hO := mm_own_148) rfl ?_
    cases h
    exact (show mp_148_7 L xs (d + 1) (v1 + v3) M1 o from hA) z2 (some (.int v3))
  · replace h := mm_iq hc h
    refine mm_Runs.seq (l := [(91, .aload_n 0, 1), (92, .iload_n 3, 1), (93, .iconst 4, 1), (94, .isub, 1), (95, .iconst 1, 1)]) (S2 := (96, [some (.ref 42), some (.int v1), z2, some (.int v3)], [.int (1 : Int32), .int (v3 - (4 : Int32)), .ref 42], M1)) (by decide +kernel) (hO := mm_own_148) rfl ?_
    refine mm_R_call (v := mm_wv) h hA (k2 := 149) (as := [.ref 42, .int (v3 - (4 : Int32)), .int (1 : Int32)]) (r := []) rfl (fun _ => rfl) (fun q hq o ho => ms_149 (by omega) hq ho) (fun _ M2 h => ?_)
    show mm_Runs L xs (d + 1) 148 (99, [some (.ref 42), some (.int v1), z2, some (.int v3)], [], M2) o
    refine mm_Runs.seq (l := [(99, .iload_n 1, 1), (100, .iload_n 3, 1), (101, .iadd, 1), (102, .istore_n 1, 1), (103, .goto (-96), 3)]) (S2 := (7, [some (.ref 42), some (.int (v1 + v3)), z2, some (.int v3)], [], M2)) (by decide +kernel) (hO := mm_own_148) rfl ?_
    cases h
    exact (show mp_148_7 L xs (d + 1) (v1 + v3) M2 o from hA) z2 (some (.int v3))
set_option maxRecDepth 8000 in
set_option maxHeartbeats 4000000 in
theorem ms_148_j71 {L : Nat} {xs : Nat → Int32} {d : Nat} (hd : 1 ≤ d) {v1 : Int32} {v2 : Int32} {v3 : Int32} {M : mm_M} {q : (((Int32) ⊕ (Unit)) ⊕ Nat) × mm_M} {o : mm_E} (h : mf_148_j71 v1 v2 v3 M = some q) (hA : mm_A (mm_K2 (fun s M o => mp_148_7 L xs (d) s M o) (fun r M o => mp_148_106 L xs (d) M o)) q o) : mp_148_71 L xs d v1 v2 v3 M o := by
  unfold mf_148_j71 at h
  obtain ⟨d, rfl⟩ := mm_d1 (n := 0) hd
  show mm_Runs L xs (d + 1) 148 (71, [some (.ref 42), some (.int v1), some (.int v2), some (.int v3)], [], M) o
  refine mm_Runs.seq (l := [(71, .aload_n 0, 1), (72, .iload_n 2, 1), (73, .iload_n 3, 1), (74, .iconst 4, 1)]) (S2 := (75, [some (.ref 42), some (.int v1), some (.int v2), some (.int v3)], [.int (4 : Int32), .int v3, .int v2, .ref 42], M)) (by decide +kernel) (hO := mm_own_148) rfl ?_
  refine mm_R_ige (t := 82) rfl rfl rfl (fun hc => ?_) (fun hc => ?_)
  · replace h := mm_ip hc h
    refine mm_Runs.seq (l := [(78, .iload_n 3, 1), (79, .goto 4, 3)]) (S2 := (83, [some (.ref 42), some (.int v1), some (.int v2), some (.int v3)], [.int v3, .int v2, .ref 42], M)) (by decide +kernel) (hO := mm_own_148) rfl ?_
    exact (ms_148_j83 hd h hA : mp_148_83 L xs (d + 1) v1 v3 v2 v3 M o) (some (.int v2))
  · replace h := mm_iq hc h
    refine mm_Runs.seq (l := [(82, .iconst 4, 1)]) (S2 := (83, [some (.ref 42), some (.int v1), some (.int v2), some (.int v3)], [.int (4 : Int32), .int v2, .ref 42], M)) (by decide +kernel) (hO := mm_own_148) rfl ?_
    exact (ms_148_j83 hd h hA : mp_148_83 L xs (d + 1) v1 v3 v2 (4 : Int32) M o) (some (.int v2))
set_option maxRecDepth 8000 in
set_option maxHeartbeats 4000000 in
theorem ms_148_b7 {L : Nat} {xs : Nat → Int32} {d : Nat} (hd : 1 ≤ d) {v1 : Int32} {M : mm_M} {q : (((Int32) ⊕ (Unit)) ⊕ Nat) × mm_M} {o : mm_E} (h : mf_148_b7 v1 M = some q) (hA : mm_A (mm_K2 (fun s M o => mp_148_7 L xs (d) s M o) (fun r M o => mp_148_106 L xs (d) M o)) q o) : mp_148_7 L xs d v1 M o := by
  unfold mf_148_b7 at h
  obtain ⟨d, rfl⟩ := mm_d1 (n := 0) hd
  intro z2 z3
  show mm_Runs L xs (d + 1) 148 (7, [some (.ref 42), some (.int v1), z2, z3], [], M) o
  refine mm_Runs.seq (l := [(7, .iload_n 1, 1), (8, .aload_n 0, 1), (9, .getfield 36, 3), (12, .getfield 167, 3)]) (S2 := (15, [some (.ref 42), some (.int v1), z2, z3], [.int (M.1 1 1), .int v1], M)) (by decide +kernel) (hO := mm_own_148) rfl ?_
  refine mm_R_ige (t := 106) rfl rfl rfl (fun hc => ?_) (fun hc => ?_)
  · replace h := mm_ip hc h
    refine mm_Runs.seq (l := [(18, .aload_n 0, 1), (19, .getfield 36, 3), (22, .getfield 168, 3), (25, .iload_n 1, 1)]) (S2 := (26, [some (.ref 42), some (.int v1), z2, z3], [.int v1, .ref 2], M)) (by decide +kernel) (hO := mm_own_148) rfl ?_
    obtain ⟨hb, h⟩ := mm_gd h
    refine mm_R_iald rfl rfl hb ?_
    refine mm_Runs.seq (l := [(27, .istore_n 2, 1), (28, .iconst 1, 1), (29, .istore_n 3, 1)]) (S2 := (30, [some (.ref 42), some (.int v1), some (.int (M.1 2 v1.toNatClampNeg)), some (.int (1 : Int32))], [], M)) (by decide +kernel) (hO := mm_own_148) rfl ?_
    have hp : mp_148_30 L xs (d + 1) v1 (M.1 2 v1.toNatClampNeg) (1 : Int32) M o := by
      refine ms_148_L30 hd h hA (fun r2 M1 h => ?_)
      show mm_Runs L xs (d + 1) 148 (71, [some (.ref 42), some (.int v1), some (.int (M.1 2 v1.toNatClampNeg)), some (.int r2)], [], M1) o
      exact (ms_148_j71 hd h hA : mp_148_71 L xs (d + 1) v1 (M.1 2 v1.toNatClampNeg) r2 M1 o)
    exact hp
  · replace h := mm_iq hc h
    cases h
    exact (show mp_148_106 L xs (d + 1) M o from hA) (some (.ref 42)) (some (.int v1)) z2 z3
theorem ms_148_L7 {L : Nat} {xs : Nat → Int32} {d : Nat} (hd : 1 ≤ d) {v1 : Int32} {β : Type} {K : β → mm_M → mm_E → Prop} {F : (Unit) → mm_M → mm_O β} {M : mm_M} {q : (β ⊕ Nat) × mm_M} {o : mm_E} (h : mm_B (mf_148_L7 v1 M) F = some q) (hA : mm_A K q o) (hx : ∀ (r : (Unit)) (M2 : mm_M), F r M2 = some q → (fun r M o => mp_148_106 L xs (d) M o) r M2 o) : mp_148_7 L xs d v1 M o := by
  unfold mf_148_L7 at h
  exact mm_R_loop (step := (fun s M => mf_148_b7 s M)) (s := v1) (M := M) (P := (fun s M o => mp_148_7 L xs (d) s M o)) (X := (fun r M o => mp_148_106 L xs (d) M o)) h hA (fun s M q hq hA => ms_148_b7 (v1 := s) (M := M) (q := q) hd hq hA) hx
set_option maxRecDepth 8000 in
set_option maxHeartbeats 4000000 in
theorem ms_148 {L : Nat} {xs : Nat → Int32} {d : Nat} (hd : 1 ≤ d) {M : mm_M} {q : (Unit ⊕ Nat) × mm_M} {o : mm_E} (h : mf_148 M = some q) (hA : mm_A (mm_Kr mm_wv) q o) : mm_Runs L xs d 148 (0, mm_ent (mm_ml 148) [.ref 42], [], M) o := by
  unfold mf_148 at h
  obtain ⟨d, rfl⟩ := mm_d1 (n := 0) hd
  show mm_Runs L xs (d + 1) 148 (0, [some (.ref 42), none, none, none], [], M) o
  refine mm_Runs.seq (l := [(0, .aload_n 0, 1), (1, .iconst 0, 1), (2, .putfield 124, 3), (5, .iconst 0, 1), (6, .istore_n 1, 1)]) (S2 := (7, [some (.ref 42), some (.int (0 : Int32)), none, none], [], (mm_pi M 42 12 (0 : Int32)))) (by decide +kernel) (hO := mm_own_148) rfl ?_
  have hp : mp_148_7 L xs (d + 1) (0 : Int32) (mm_pi M 42 12 (0 : Int32)) o := by
    refine ms_148_L7 hd h hA (fun r2 M1 h => ?_)
    intro y3 y4 y5 y6
    show mm_Runs L xs (d + 1) 148 (106, [y3, y4, y5, y6], [], M1) o
    cases h
    exact mm_R_retv rfl rfl hA
  exact hp none none
-- 67: PlainPacks$Turnings.orderByRank(I)V (depth 0)
theorem mm_own_67 : mm_own 67 = 4 := rfl
def mp_67_2 (L : Nat) (xs : Nat → Int32) (d : Nat) (v1 : Int32) (v2 : Int32) (M : mm_M) (o : mm_E) : Prop := ∀ z3 : Option Value, mm_Runs L xs d 67 (2, [some (.ref 7), some (.int v1), some (.int v2), z3], [], M) o
def mp_67_29 (L : Nat) (xs : Nat → Int32) (d : Nat) (v1 : Int32) (M : mm_M) (o : mm_E) : Prop := ∀ z2 z3 : Option Value, mm_Runs L xs d 67 (29, [some (.ref 7), some (.int v1), z2, z3], [], M) o
set_option maxRecDepth 8000 in
set_option maxHeartbeats 4000000 in
theorem ms_67_b2 {L : Nat} {xs : Nat → Int32} {d : Nat} (hd : 0 ≤ d) {v1 : Int32} {v2 : Int32} {M : mm_M} {q : (((Int32) ⊕ (Unit)) ⊕ Nat) × mm_M} {o : mm_E} (h : mf_67_b2 v1 v2 M = some q) (hA : mm_A (mm_K2 (fun s M o => mp_67_2 L xs (d) v1 s M o) (fun r M o => mp_67_29 L xs (d) v1 M o)) q o) : mp_67_2 L xs d v1 v2 M o := by
  unfold mf_67_b2 at h
  intro z3
  show mm_Runs L xs (d) 67 (2, [some (.ref 7), some (.int v1), some (.int v2), z3], [], M) o
  refine mm_Runs.seq (l := [(2, .iload_n 2, 1), (3, .iload_n 1, 1)]) (S2 := (4, [some (.ref 7), some (.int v1), some (.int v2), z3], [.int v1, .int v2], M)) (by decide +kernel) (hO := mm_own_67) rfl ?_
  refine mm_R_igt (t := 29) rfl rfl rfl (fun hc => ?_) (fun hc => ?_)
  · replace h := mm_ip hc h
    cases h
    exact (show mp_67_29 L xs (d) v1 M o from hA) (some (.int v2)) z3
  · replace h := mm_iq hc h
    refine mm_Runs.seq (l := [(7, .iload_n 2, 1), (8, .aload_n 0, 1), (9, .getfield 24, 3), (12, .arraylength, 1)]) (S2 := (13, [some (.ref 7), some (.int v1), some (.int v2), z3], [.int (12501 : Int32), .int v2], M)) (by decide +kernel) (hO := mm_own_67) rfl ?_
    refine mm_R_ige (t := 29) rfl rfl rfl (fun hc => ?_) (fun hc => ?_)
    · replace h := mm_ip hc h
      refine mm_Runs.seq (l := [(16, .aload_n 0, 1), (17, .getfield 24, 3), (20, .iload_n 2, 1), (21, .iconst 0, 1)]) (S2 := (22, [some (.ref 7), some (.int v1), some (.int v2), z3], [.int (0 : Int32), .int v2, .ref 12], M)) (by decide +kernel) (hO := mm_own_67) rfl ?_
      obtain ⟨hb, h⟩ := mm_gd h
      refine mm_R_iast rfl rfl hb ?_
      refine mm_Runs.seq (l := [(23, .iinc 2 1, 3), (26, .goto (-24), 3)]) (S2 := (2, [some (.ref 7), some (.int v1), some (.int (v2 + (1 : Int32))), z3], [], (mm_pi M 12 v2.toNatClampNeg (0 : Int32)))) (by decide +kernel) (hO := mm_own_67) rfl ?_
      cases h
      exact (show mp_67_2 L xs (d) v1 (v2 + (1 : Int32)) (mm_pi M 12 v2.toNatClampNeg (0 : Int32)) o from hA) z3
    · replace h := mm_iq hc h
      cases h
      exact (show mp_67_29 L xs (d) v1 M o from hA) (some (.int v2)) z3
theorem ms_67_L2 {L : Nat} {xs : Nat → Int32} {d : Nat} (hd : 0 ≤ d) {v1 : Int32} {v2 : Int32} {β : Type} {K : β → mm_M → mm_E → Prop} {F : (Unit) → mm_M → mm_O β} {M : mm_M} {q : (β ⊕ Nat) × mm_M} {o : mm_E} (h : mm_B (mf_67_L2 v1 v2 M) F = some q) (hA : mm_A K q o) (hx : ∀ (r : (Unit)) (M2 : mm_M), F r M2 = some q → (fun r M o => mp_67_29 L xs (d) v1 M o) r M2 o) : mp_67_2 L xs d v1 v2 M o := by
  unfold mf_67_L2 at h
  exact mm_R_loop (step := (fun s M => mf_67_b2 v1 s M)) (s := v2) (M := M) (P := (fun s M o => mp_67_2 L xs (d) v1 s M o)) (X := (fun r M o => mp_67_29 L xs (d) v1 M o)) h hA (fun s M q hq hA => ms_67_b2 (v1 := v1) (v2 := s) (M := M) (q := q) hd hq hA) hx
def mp_67_31 (L : Nat) (xs : Nat → Int32) (d : Nat) (v1 : Int32) (v2 : Int32) (M : mm_M) (o : mm_E) : Prop := ∀ z3 : Option Value, mm_Runs L xs d 67 (31, [some (.ref 7), some (.int v1), some (.int v2), z3], [], M) o
def mp_67_62 (L : Nat) (xs : Nat → Int32) (d : Nat) (v1 : Int32) (M : mm_M) (o : mm_E) : Prop := ∀ z2 z3 : Option Value, mm_Runs L xs d 67 (62, [some (.ref 7), some (.int v1), z2, z3], [], M) o
set_option maxRecDepth 8000 in
set_option maxHeartbeats 4000000 in
theorem ms_67_b31 {L : Nat} {xs : Nat → Int32} {d : Nat} (hd : 0 ≤ d) {v1 : Int32} {v2 : Int32} {M : mm_M} {q : (((Int32) ⊕ (Unit)) ⊕ Nat) × mm_M} {o : mm_E} (h : mf_67_b31 v1 v2 M = some q) (hA : mm_A (mm_K2 (fun s M o => mp_67_31 L xs (d) v1 s M o) (fun r M o => mp_67_62 L xs (d) v1 M o)) q o) : mp_67_31 L xs d v1 v2 M o := by
  unfold mf_67_b31 at h
  intro z3
  show mm_Runs L xs (d) 67 (31, [some (.ref 7), some (.int v1), some (.int v2), z3], [], M) o
  refine mm_Runs.seq (l := [(31, .iload_n 2, 1), (32, .aload_n 0, 1), (33, .getfield 33, 3)]) (S2 := (36, [some (.ref 7), some (.int v1), some (.int v2), z3], [.int (M.1 7 5), .int v2], M)) (by decide +kernel) (hO := mm_own_67) rfl ?_
  refine mm_R_ige (t := 62) rfl rfl rfl (fun hc => ?_) (fun hc => ?_)
  · replace h := mm_ip hc h
    refine mm_Runs.seq (l := [(39, .aload_n 0, 1), (40, .getfield 24, 3), (43, .aload_n 0, 1), (44, .getfield 15, 3), (47, .iload_n 2, 1)]) (S2 := (48, [some (.ref 7), some (.int v1), some (.int v2), z3], [.int v2, .ref 9, .ref 12], M)) (by decide +kernel) (hO := mm_own_67) rfl ?_
    obtain ⟨hb, h⟩ := mm_gd h
    refine mm_R_iald rfl rfl hb ?_
    refine mm_Runs.seq (l := [(49, .iconst 1, 1), (50, .iadd, 1), (51, .dup2, 1)]) (S2 := (52, [some (.ref 7), some (.int v1), some (.int v2), z3], [.int ((M.1 9 v2.toNatClampNeg) + (1 : Int32)), .ref 12, .int ((M.1 9 v2.toNatClampNeg) + (1 : Int32)), .ref 12], M)) (by decide +kernel) (hO := mm_own_67) rfl ?_
    obtain ⟨hb, h⟩ := mm_gd h
    refine mm_R_iald rfl rfl hb ?_
    refine mm_Runs.seq (l := [(53, .iconst 1, 1), (54, .iadd, 1)]) (S2 := (55, [some (.ref 7), some (.int v1), some (.int v2), z3], [.int ((M.1 12 ((M.1 9 v2.toNatClampNeg) + (1 : Int32)).toNatClampNeg) + (1 : Int32)), .int ((M.1 9 v2.toNatClampNeg) + (1 : Int32)), .ref 12], M)) (by decide +kernel) (hO := mm_own_67) rfl ?_
    obtain ⟨hb, h⟩ := mm_gd h
    refine mm_R_iast rfl rfl hb ?_
    refine mm_Runs.seq (l := [(56, .iinc 2 1, 3), (59, .goto (-28), 3)]) (S2 := (31, [some (.ref 7), some (.int v1), some (.int (v2 + (1 : Int32))), z3], [], (mm_pi M 12 ((M.1 9 v2.toNatClampNeg) + (1 : Int32)).toNatClampNeg ((M.1 12 ((M.1 9 v2.toNatClampNeg) + (1 : Int32)).toNatClampNeg) + (1 : Int32))))) (by decide +kernel) (hO := mm_own_67) rfl ?_
    cases h
    exact (show mp_67_31 L xs (d) v1 (v2 + (1 : Int32)) (mm_pi M 12 ((M.1 9 v2.toNatClampNeg) + (1 : Int32)).toNatClampNeg ((M.1 12 ((M.1 9 v2.toNatClampNeg) + (1 : Int32)).toNatClampNeg) + (1 : Int32))) o from hA) z3
  · replace h := mm_iq hc h
    cases h
    exact (show mp_67_62 L xs (d) v1 M o from hA) (some (.int v2)) z3
theorem ms_67_L31 {L : Nat} {xs : Nat → Int32} {d : Nat} (hd : 0 ≤ d) {v1 : Int32} {v2 : Int32} {β : Type} {K : β → mm_M → mm_E → Prop} {F : (Unit) → mm_M → mm_O β} {M : mm_M} {q : (β ⊕ Nat) × mm_M} {o : mm_E} (h : mm_B (mf_67_L31 v1 v2 M) F = some q) (hA : mm_A K q o) (hx : ∀ (r : (Unit)) (M2 : mm_M), F r M2 = some q → (fun r M o => mp_67_62 L xs (d) v1 M o) r M2 o) : mp_67_31 L xs d v1 v2 M o := by
  unfold mf_67_L31 at h
  exact mm_R_loop (step := (fun s M => mf_67_b31 v1 s M)) (s := v2) (M := M) (P := (fun s M o => mp_67_31 L xs (d) v1 s M o)) (X := (fun r M o => mp_67_62 L xs (d) v1 M o)) h hA (fun s M q hq hA => ms_67_b31 (v1 := v1) (v2 := s) (M := M) (q := q) hd hq hA) hx
def mp_67_64 (L : Nat) (xs : Nat → Int32) (d : Nat) (v1 : Int32) (v2 : Int32) (M : mm_M) (o : mm_E) : Prop := ∀ z3 : Option Value, mm_Runs L xs d 67 (64, [some (.ref 7), some (.int v1), some (.int v2), z3], [], M) o
def mp_67_101 (L : Nat) (xs : Nat → Int32) (d : Nat) (M : mm_M) (o : mm_E) : Prop := ∀ z1 z2 z3 : Option Value, mm_Runs L xs d 67 (101, [some (.ref 7), z1, z2, z3], [], M) o
set_option maxRecDepth 8000 in
set_option maxHeartbeats 4000000 in
theorem ms_67_b64 {L : Nat} {xs : Nat → Int32} {d : Nat} (hd : 0 ≤ d) {v1 : Int32} {v2 : Int32} {M : mm_M} {q : (((Int32) ⊕ (Unit)) ⊕ Nat) × mm_M} {o : mm_E} (h : mf_67_b64 v1 v2 M = some q) (hA : mm_A (mm_K2 (fun s M o => mp_67_64 L xs (d) v1 s M o) (fun r M o => mp_67_101 L xs (d) M o)) q o) : mp_67_64 L xs d v1 v2 M o := by
  unfold mf_67_b64 at h
  intro z3
  show mm_Runs L xs (d) 67 (64, [some (.ref 7), some (.int v1), some (.int v2), z3], [], M) o
  refine mm_Runs.seq (l := [(64, .iload_n 2, 1), (65, .iload_n 1, 1)]) (S2 := (66, [some (.ref 7), some (.int v1), some (.int v2), z3], [.int v1, .int v2], M)) (by decide +kernel) (hO := mm_own_67) rfl ?_
  refine mm_R_igt (t := 101) rfl rfl rfl (fun hc => ?_) (fun hc => ?_)
  · replace h := mm_ip hc h
    cases h
    exact (show mp_67_101 L xs (d) M o from hA) (some (.int v1)) (some (.int v2)) z3
  · replace h := mm_iq hc h
    refine mm_Runs.seq (l := [(69, .iload_n 2, 1), (70, .aload_n 0, 1), (71, .getfield 24, 3), (74, .arraylength, 1)]) (S2 := (75, [some (.ref 7), some (.int v1), some (.int v2), z3], [.int (12501 : Int32), .int v2], M)) (by decide +kernel) (hO := mm_own_67) rfl ?_
    refine mm_R_ige (t := 101) rfl rfl rfl (fun hc => ?_) (fun hc => ?_)
    · replace h := mm_ip hc h
      refine mm_Runs.seq (l := [(78, .aload_n 0, 1), (79, .getfield 24, 3), (82, .iload_n 2, 1), (83, .dup2, 1)]) (S2 := (84, [some (.ref 7), some (.int v1), some (.int v2), z3], [.int v2, .ref 12, .int v2, .ref 12], M)) (by decide +kernel) (hO := mm_own_67) rfl ?_
      obtain ⟨hb, h⟩ := mm_gd h
      refine mm_R_iald rfl rfl hb ?_
      refine mm_Runs.seq (l := [(85, .aload_n 0, 1), (86, .getfield 24, 3), (89, .iload_n 2, 1), (90, .iconst 1, 1), (91, .isub, 1)]) (S2 := (92, [some (.ref 7), some (.int v1), some (.int v2), z3], [.int (v2 - (1 : Int32)), .ref 12, .int (M.1 12 v2.toNatClampNeg), .int v2, .ref 12], M)) (by decide +kernel) (hO := mm_own_67) rfl ?_
      obtain ⟨hb, h⟩ := mm_gd h
      refine mm_R_iald rfl rfl hb ?_
      refine mm_Runs.seq (l := [(93, .iadd, 1)]) (S2 := (94, [some (.ref 7), some (.int v1), some (.int v2), z3], [.int ((M.1 12 v2.toNatClampNeg) + (M.1 12 (v2 - (1 : Int32)).toNatClampNeg)), .int v2, .ref 12], M)) (by decide +kernel) (hO := mm_own_67) rfl ?_
      obtain ⟨hb, h⟩ := mm_gd h
      refine mm_R_iast rfl rfl hb ?_
      refine mm_Runs.seq (l := [(95, .iinc 2 1, 3), (98, .goto (-34), 3)]) (S2 := (64, [some (.ref 7), some (.int v1), some (.int (v2 + (1 : Int32))), z3], [], (mm_pi M 12 v2.toNatClampNeg ((M.1 12 v2.toNatClampNeg) + (M.1 12 (v2 - (1 : Int32)).toNatClampNeg))))) (by decide +kernel) (hO := mm_own_67) rfl ?_
      cases h
      exact (show mp_67_64 L xs (d) v1 (v2 + (1 : Int32)) (mm_pi M 12 v2.toNatClampNeg ((M.1 12 v2.toNatClampNeg) + (M.1 12 (v2 - (1 : Int32)).toNatClampNeg))) o from hA) z3
    · replace h := mm_iq hc h
      cases h
      exact (show mp_67_101 L xs (d) M o from hA) (some (.int v1)) (some (.int v2)) z3
theorem ms_67_L64 {L : Nat} {xs : Nat → Int32} {d : Nat} (hd : 0 ≤ d) {v1 : Int32} {v2 : Int32} {β : Type} {K : β → mm_M → mm_E → Prop} {F : (Unit) → mm_M → mm_O β} {M : mm_M} {q : (β ⊕ Nat) × mm_M} {o : mm_E} (h : mm_B (mf_67_L64 v1 v2 M) F = some q) (hA : mm_A K q o) (hx : ∀ (r : (Unit)) (M2 : mm_M), F r M2 = some q → (fun r M o => mp_67_101 L xs (d) M o) r M2 o) : mp_67_64 L xs d v1 v2 M o := by
  unfold mf_67_L64 at h
  exact mm_R_loop (step := (fun s M => mf_67_b64 v1 s M)) (s := v2) (M := M) (P := (fun s M o => mp_67_64 L xs (d) v1 s M o)) (X := (fun r M o => mp_67_101 L xs (d) M o)) h hA (fun s M q hq hA => ms_67_b64 (v1 := v1) (v2 := s) (M := M) (q := q) hd hq hA) hx
def mp_67_103 (L : Nat) (xs : Nat → Int32) (d : Nat) (v2 : Int32) (M : mm_M) (o : mm_E) : Prop := ∀ z1 z3 : Option Value, mm_Runs L xs d 67 (103, [some (.ref 7), z1, some (.int v2), z3], [], M) o
def mp_67_156 (L : Nat) (xs : Nat → Int32) (d : Nat) (M : mm_M) (o : mm_E) : Prop := ∀ z0 z1 z2 z3 : Option Value, mm_Runs L xs d 67 (156, [z0, z1, z2, z3], [], M) o
set_option maxRecDepth 8000 in
set_option maxHeartbeats 4000000 in
theorem ms_67_b103 {L : Nat} {xs : Nat → Int32} {d : Nat} (hd : 0 ≤ d) {v2 : Int32} {M : mm_M} {q : (((Int32) ⊕ (Unit)) ⊕ Nat) × mm_M} {o : mm_E} (h : mf_67_b103 v2 M = some q) (hA : mm_A (mm_K2 (fun s M o => mp_67_103 L xs (d) s M o) (fun r M o => mp_67_156 L xs (d) M o)) q o) : mp_67_103 L xs d v2 M o := by
  unfold mf_67_b103 at h
  intro z1 z3
  show mm_Runs L xs (d) 67 (103, [some (.ref 7), z1, some (.int v2), z3], [], M) o
  refine mm_Runs.seq (l := [(103, .iload_n 2, 1), (104, .aload_n 0, 1), (105, .getfield 33, 3)]) (S2 := (108, [some (.ref 7), z1, some (.int v2), z3], [.int (M.1 7 5), .int v2], M)) (by decide +kernel) (hO := mm_own_67) rfl ?_
  refine mm_R_ige (t := 156) rfl rfl rfl (fun hc => ?_) (fun hc => ?_)
  · replace h := mm_ip hc h
    refine mm_Runs.seq (l := [(111, .aload_n 0, 1), (112, .getfield 15, 3), (115, .aload_n 0, 1), (116, .getfield 18, 3), (119, .iload_n 2, 1)]) (S2 := (120, [some (.ref 7), z1, some (.int v2), z3], [.int v2, .ref 10, .ref 9], M)) (by decide +kernel) (hO := mm_own_67) rfl ?_
    obtain ⟨hb, h⟩ := mm_gd h
    refine mm_R_iald rfl rfl hb ?_
    obtain ⟨hb, h⟩ := mm_gd h
    refine mm_R_iald rfl rfl hb ?_
    refine mm_Runs.seq (l := [(122, .istore_n 3, 1), (123, .aload_n 0, 1), (124, .getfield 9, 3), (127, .aload_n 0, 1), (128, .getfield 24, 3), (131, .iload_n 3, 1)]) (S2 := (132, [some (.ref 7), z1, some (.int v2), some (.int (M.1 9 (M.1 10 v2.toNatClampNeg).toNatClampNeg))], [.int (M.1 9 (M.1 10 v2.toNatClampNeg).toNatClampNeg), .ref 12, .ref 8], M)) (by decide +kernel) (hO := mm_own_67) rfl ?_
    obtain ⟨hb, h⟩ := mm_gd h
    refine mm_R_iald rfl rfl hb ?_
    refine mm_Runs.seq (l := [(133, .aload_n 0, 1), (134, .getfield 18, 3), (137, .iload_n 2, 1)]) (S2 := (138, [some (.ref 7), z1, some (.int v2), some (.int (M.1 9 (M.1 10 v2.toNatClampNeg).toNatClampNeg))], [.int v2, .ref 10, .int (M.1 12 (M.1 9 (M.1 10 v2.toNatClampNeg).toNatClampNeg).toNatClampNeg), .ref 8], M)) (by decide +kernel) (hO := mm_own_67) rfl ?_
    obtain ⟨hb, h⟩ := mm_gd h
    refine mm_R_iald rfl rfl hb ?_
    obtain ⟨hb, h⟩ := mm_gd h
    refine mm_R_iast rfl rfl hb ?_
    refine mm_Runs.seq (l := [(140, .aload_n 0, 1), (141, .getfield 24, 3), (144, .iload_n 3, 1), (145, .dup2, 1)]) (S2 := (146, [some (.ref 7), z1, some (.int v2), some (.int (M.1 9 (M.1 10 v2.toNatClampNeg).toNatClampNeg))], [.int (M.1 9 (M.1 10 v2.toNatClampNeg).toNatClampNeg), .ref 12, .int (M.1 9 (M.1 10 v2.toNatClampNeg).toNatClampNeg), .ref 12], (mm_pi M 8 (M.1 12 (M.1 9 (M.1 10 v2.toNatClampNeg).toNatClampNeg).toNatClampNeg).toNatClampNeg (M.1 10 v2.toNatClampNeg)))) (by decide +kernel) (hO := mm_own_67) rfl ?_
    obtain ⟨hb, h⟩ := mm_gd h
    refine mm_R_iald rfl rfl hb ?_
    refine mm_Runs.seq (l := [(147, .iconst 1, 1), (148, .iadd, 1)]) (S2 := (149, [some (.ref 7), z1, some (.int v2), some (.int (M.1 9 (M.1 10 v2.toNatClampNeg).toNatClampNeg))], [.int ((M.1 12 (M.1 9 (M.1 10 v2.toNatClampNeg).toNatClampNeg).toNatClampNeg) + (1 : Int32)), .int (M.1 9 (M.1 10 v2.toNatClampNeg).toNatClampNeg), .ref 12], (mm_pi M 8 (M.1 12 (M.1 9 (M.1 10 v2.toNatClampNeg).toNatClampNeg).toNatClampNeg).toNatClampNeg (M.1 10 v2.toNatClampNeg)))) (by decide +kernel) (hO := mm_own_67) rfl ?_
    obtain ⟨hb, h⟩ := mm_gd h
    refine mm_R_iast rfl rfl hb ?_
    refine mm_Runs.seq (l := [(150, .iinc 2 1, 3), (153, .goto (-50), 3)]) (S2 := (103, [some (.ref 7), (mm_no2 z1), some (.int (v2 + (1 : Int32))), some (.int (M.1 9 (M.1 10 v2.toNatClampNeg).toNatClampNeg))], [], (mm_pi (mm_pi M 8 (M.1 12 (M.1 9 (M.1 10 v2.toNatClampNeg).toNatClampNeg).toNatClampNeg).toNatClampNeg (M.1 10 v2.toNatClampNeg)) 12 (M.1 9 (M.1 10 v2.toNatClampNeg).toNatClampNeg).toNatClampNeg ((M.1 12 (M.1 9 (M.1 10 v2.toNatClampNeg).toNatClampNeg).toNatClampNeg) + (1 : Int32))))) (by decide +kernel) (hO := mm_own_67) rfl ?_
    cases h
    exact (show mp_67_103 L xs (d) (v2 + (1 : Int32)) (mm_pi (mm_pi M 8 (M.1 12 (M.1 9 (M.1 10 v2.toNatClampNeg).toNatClampNeg).toNatClampNeg).toNatClampNeg (M.1 10 v2.toNatClampNeg)) 12 (M.1 9 (M.1 10 v2.toNatClampNeg).toNatClampNeg).toNatClampNeg ((M.1 12 (M.1 9 (M.1 10 v2.toNatClampNeg).toNatClampNeg).toNatClampNeg) + (1 : Int32))) o from hA) ((mm_no2 z1)) (some (.int (M.1 9 (M.1 10 v2.toNatClampNeg).toNatClampNeg)))
  · replace h := mm_iq hc h
    cases h
    exact (show mp_67_156 L xs (d) M o from hA) (some (.ref 7)) z1 (some (.int v2)) z3
theorem ms_67_L103 {L : Nat} {xs : Nat → Int32} {d : Nat} (hd : 0 ≤ d) {v2 : Int32} {β : Type} {K : β → mm_M → mm_E → Prop} {F : (Unit) → mm_M → mm_O β} {M : mm_M} {q : (β ⊕ Nat) × mm_M} {o : mm_E} (h : mm_B (mf_67_L103 v2 M) F = some q) (hA : mm_A K q o) (hx : ∀ (r : (Unit)) (M2 : mm_M), F r M2 = some q → (fun r M o => mp_67_156 L xs (d) M o) r M2 o) : mp_67_103 L xs d v2 M o := by
  unfold mf_67_L103 at h
  exact mm_R_loop (step := (fun s M => mf_67_b103 s M)) (s := v2) (M := M) (P := (fun s M o => mp_67_103 L xs (d) s M o)) (X := (fun r M o => mp_67_156 L xs (d) M o)) h hA (fun s M q hq hA => ms_67_b103 (v2 := s) (M := M) (q := q) hd hq hA) hx
set_option maxRecDepth 8000 in
set_option maxHeartbeats 4000000 in
theorem ms_67 {L : Nat} {xs : Nat → Int32} {d : Nat} (hd : 0 ≤ d) {v1 : Int32} {M : mm_M} {q : (Unit ⊕ Nat) × mm_M} {o : mm_E} (h : mf_67 v1 M = some q) (hA : mm_A (mm_Kr mm_wv) q o) : mm_Runs L xs d 67 (0, mm_ent (mm_ml 67) [.ref 7, .int v1], [], M) o := by
  unfold mf_67 at h
  show mm_Runs L xs (d) 67 (0, [some (.ref 7), some (.int v1), none, none], [], M) o
  refine mm_Runs.seq (l := [(0, .iconst 0, 1), (1, .istore_n 2, 1)]) (S2 := (2, [some (.ref 7), some (.int v1), some (.int (0 : Int32)), none], [], M)) (by decide +kernel) (hO := mm_own_67) rfl ?_
  have hp : mp_67_2 L xs (d) v1 (0 : Int32) M o := by
    refine ms_67_L2 hd h hA (fun r2 M1 h => ?_)
    intro y3 y4
    show mm_Runs L xs (d) 67 (29, [some (.ref 7), some (.int v1), y3, y4], [], M1) o
    refine mm_Runs.seq (l := [(29, .iconst 0, 1), (30, .istore_n 2, 1)]) (S2 := (31, [some (.ref 7), some (.int v1), some (.int (0 : Int32)), y4], [], M1)) (by decide +kernel) (hO := mm_own_67) rfl ?_
    have hp : mp_67_31 L xs (d) v1 (0 : Int32) M1 o := by
      refine ms_67_L31 hd h hA (fun r6 M5 h => ?_)
      intro y7 y8
      show mm_Runs L xs (d) 67 (62, [some (.ref 7), some (.int v1), y7, y8], [], M5) o
      refine mm_Runs.seq (l := [(62, .iconst 1, 1), (63, .istore_n 2, 1)]) (S2 := (64, [some (.ref 7), some (.int v1), some (.int (1 : Int32)), y8], [], M5)) (by decide +kernel) (hO := mm_own_67) rfl ?_
      have hp : mp_67_64 L xs (d) v1 (1 : Int32) M5 o := by
        refine ms_67_L64 hd h hA (fun r10 M9 h => ?_)
        intro y11 y12 y13
        show mm_Runs L xs (d) 67 (101, [some (.ref 7), y11, y12, y13], [], M9) o
        refine mm_Runs.seq (l := [(101, .iconst 0, 1), (102, .istore_n 2, 1)]) (S2 := (103, [some (.ref 7), (mm_no2 y11), some (.int (0 : Int32)), y13], [], M9)) (by decide +kernel) (hO := mm_own_67) rfl ?_
        have hp : mp_67_103 L xs (d) (0 : Int32) M9 o := by
          refine ms_67_L103 hd h hA (fun r15 M14 h => ?_)
          intro y16 y17 y18 y19
          show mm_Runs L xs (d) 67 (156, [y16, y17, y18, y19], [], M14) o
          cases h
          exact mm_R_retv rfl rfl hA
        exact hp ((mm_no2 y11)) y13
      exact hp y8
    exact hp y4
  exact hp none
