/-! MEANINGS ARE SOUND 12 -/
-- 166: PlainPacks$Chances.readMatch(I)Z (depth 11)
theorem mm_own_166 : mm_own 166 = 11 := rfl
def mp_166_34 (L : Nat) (xs : Nat → Int32) (d : Nat) (v2 : Int32) (v3 : Int64) (M : mm_M) (o : mm_E) : Prop := ∀ z1 z4 : Option Value, mm_Runs L xs d 166 (34, [some (.ref 80), z1, some (.int v2), some (.long v3), z4], [], M) o
def mp_166_52 (L : Nat) (xs : Nat → Int32) (d : Nat) (v2 : Int32) (v3 : Int64) (s0 : Int32) (M : mm_M) (o : mm_E) : Prop := ∀ z1 z4 : Option Value, mm_Runs L xs d 166 (52, [some (.ref 80), z1, some (.int v2), some (.long v3), z4], [.int s0], M) o
def mp_166_102 (L : Nat) (xs : Nat → Int32) (d : Nat) (v2 : Int32) (s1 : Int32) (M : mm_M) (o : mm_E) : Prop := ∀ z1 z3 z4 : Option Value, mm_Runs L xs d 166 (102, [some (.ref 80), z1, some (.int v2), z3, z4], [.int s1, .ref 80], M) o
set_option maxRecDepth 8000 in
set_option maxHeartbeats 4000000 in
theorem ms_166_j102 {L : Nat} {xs : Nat → Int32} {d : Nat} (hd : 11 ≤ d) {v2 : Int32} {s1 : Int32} {M : mm_M} {q : (Int32 ⊕ Nat) × mm_M} {o : mm_E} (h : mf_166_j102 v2 s1 M = some q) (hA : mm_A (mm_Kr mm_wi) q o) : mp_166_102 L xs d v2 s1 M o := by
  unfold mf_166_j102 at h
  obtain ⟨d, rfl⟩ := mm_d1 (n := 10) hd
  intro z1 z3 z4
  show mm_Runs L xs (d + 1) 166 (102, [some (.ref 80), z1, some (.int v2), z3, z4], [.int s1, .ref 80], M) o
  refine mm_Runs.seq (l := [(102, .putfield 39, 3), (105, .aload_n 0, 1), (106, .getfield 19, 3), (109, .iload_n 2, 1), (110, .aload_n 0, 1), (111, .getfield 43, 3), (114, .i2l, 1)]) (S2 := (115, [some (.ref 80), z1, some (.int v2), z3, z4], [.long (M.1 80 10).toInt64, .int v2, .ref 3], (mm_pi M 80 9 s1))) (by decide +kernel) (hO := mm_own_166) rfl ?_
  refine mm_R_call (v := mm_wv) h hA (k2 := 53) (as := [.ref 3, .int v2, .long (M.1 80 10).toInt64]) (r := []) rfl (fun _ => rfl) (fun q hq o ho => ms_53 (by omega) hq ho) (fun _ M1 h => ?_)
  show mm_Runs L xs (d + 1) 166 (118, [some (.ref 80), z1, some (.int v2), z3, z4], [], M1) o
  refine mm_Runs.seq (l := [(118, .iconst 1, 1)]) (S2 := (119, [some (.ref 80), z1, some (.int v2), z3, z4], [.int (1 : Int32)], M1)) (by decide +kernel) (hO := mm_own_166) rfl ?_
  cases h
  exact mm_R_retb rfl rfl rfl hA
set_option maxRecDepth 8000 in
set_option maxHeartbeats 4000000 in
theorem ms_166_j52 {L : Nat} {xs : Nat → Int32} {d : Nat} (hd : 11 ≤ d) {v2 : Int32} {v3 : Int64} {s0 : Int32} {M : mm_M} {q : (Int32 ⊕ Nat) × mm_M} {o : mm_E} (h : mf_166_j52 v2 v3 s0 M = some q) (hA : mm_A (mm_Kr mm_wi) q o) : mp_166_52 L xs d v2 v3 s0 M o := by
  unfold mf_166_j52 at h
  obtain ⟨d, rfl⟩ := mm_d1 (n := 10) hd
  intro z1 z4
  show mm_Runs L xs (d + 1) 166 (52, [some (.ref 80), z1, some (.int v2), some (.long v3), z4], [.int s0], M) o
  refine mm_R_call (v := mm_wv) h hA (k2 := 27) (as := [.int s0]) (r := []) rfl (fun _ => rfl) (fun q hq o ho => ms_27 (by omega) hq ho) (fun _ M1 h => ?_)
  show mm_Runs L xs (d + 1) 166 (55, [some (.ref 80), z1, some (.int v2), some (.long v3), z4], [], M1) o
  refine mm_Runs.seq (l := [(55, .aload_n 0, 1), (56, .aload_n 0, 1), (57, .getfield 49, 3), (60, .putfield 52, 3), (63, .aload_n 0, 1), (64, .aload_n 0, 1), (65, .getfield 46, 3), (68, .putfield 49, 3), (71, .aload_n 0, 1), (72, .aload_n 0, 1), (73, .getfield 43, 3), (76, .putfield 46, 3), (79, .aload_n 0, 1), (80, .lload_n 3, 1), (81, .l2i, 1), (82, .putfield 43, 3), (85, .aload_n 0, 1), (86, .aload_n 0, 1), (87, .getfield 39, 3), (90, .bipush 7, 2)]) (S2 := (92, [some (.ref 80), z1, some (.int v2), some (.long v3), z4], [.int (7 : Int32), .int (M1.1 80 9), .ref 80], (mm_pi (mm_pi (mm_pi (mm_pi M1 80 13 (M1.1 80 12)) 80 12 (M1.1 80 11)) 80 11 (M1.1 80 10)) 80 10 v3.toInt32))) (by decide +kernel) (hO := mm_own_166) rfl ?_
  refine mm_R_ige (t := 100) rfl rfl rfl (fun hc => ?_) (fun hc => ?_)
  · replace h := mm_ip hc h
    refine mm_Runs.seq (l := [(95, .bipush 7, 2), (97, .goto 5, 3)]) (S2 := (102, [some (.ref 80), z1, some (.int v2), some (.long v3), z4], [.int (7 : Int32), .ref 80], (mm_pi (mm_pi (mm_pi (mm_pi M1 80 13 (M1.1 80 12)) 80 12 (M1.1 80 11)) 80 11 (M1.1 80 10)) 80 10 v3.toInt32))) (by decide +kernel) (hO := mm_own_166) rfl ?_
    exact (ms_166_j102 hd h hA : mp_166_102 L xs (d + 1) v2 (7 : Int32) (mm_pi (mm_pi (mm_pi (mm_pi M1 80 13 (M1.1 80 12)) 80 12 (M1.1 80 11)) 80 11 (M1.1 80 10)) 80 10 v3.toInt32) o) z1 (some (.long v3)) z4
  · replace h := mm_iq hc h
    refine mm_Runs.seq (l := [(100, .bipush 10, 2)]) (S2 := (102, [some (.ref 80), z1, some (.int v2), some (.long v3), z4], [.int (10 : Int32), .ref 80], (mm_pi (mm_pi (mm_pi (mm_pi M1 80 13 (M1.1 80 12)) 80 12 (M1.1 80 11)) 80 11 (M1.1 80 10)) 80 10 v3.toInt32))) (by decide +kernel) (hO := mm_own_166) rfl ?_
    exact (ms_166_j102 hd h hA : mp_166_102 L xs (d + 1) v2 (10 : Int32) (mm_pi (mm_pi (mm_pi (mm_pi M1 80 13 (M1.1 80 12)) 80 12 (M1.1 80 11)) 80 11 (M1.1 80 10)) 80 10 v3.toInt32) o) z1 (some (.long v3)) z4
set_option maxRecDepth 8000 in
set_option maxHeartbeats 4000000 in
theorem ms_166_j34 {L : Nat} {xs : Nat → Int32} {d : Nat} (hd : 11 ≤ d) {v2 : Int32} {v3 : Int64} {M : mm_M} {q : (Int32 ⊕ Nat) × mm_M} {o : mm_E} (h : mf_166_j34 v2 v3 M = some q) (hA : mm_A (mm_Kr mm_wi) q o) : mp_166_34 L xs d v2 v3 M o := by
  unfold mf_166_j34 at h
  obtain ⟨d, rfl⟩ := mm_d1 (n := 10) hd
  intro z1 z4
  show mm_Runs L xs (d + 1) 166 (34, [some (.ref 80), z1, some (.int v2), some (.long v3), z4], [], M) o
  refine mm_Runs.seq (l := [(34, .lload_n 3, 1), (35, .aload_n 0, 1), (36, .getfield 19, 3), (39, .getfield 78, 3), (42, .i2l, 1)]) (S2 := (43, [some (.ref 80), z1, some (.int v2), some (.long v3), z4], [.long (M.1 3 1).toInt64, .long v3], M)) (by decide +kernel) (hO := mm_own_166) rfl ?_
  refine mm_R_lle (t := 51) rfl rfl rfl rfl (fun hc => ?_) (fun hc => ?_)
  · replace h := mm_ip hc h
    refine mm_Runs.seq (l := [(47, .iconst 1, 1), (48, .goto 4, 3)]) (S2 := (52, [some (.ref 80), z1, some (.int v2), some (.long v3), z4], [.int (1 : Int32)], M)) (by decide +kernel) (hO := mm_own_166) rfl ?_
    exact (ms_166_j52 hd h hA : mp_166_52 L xs (d + 1) v2 v3 (1 : Int32) M o) z1 z4
  · replace h := mm_iq hc h
    refine mm_Runs.seq (l := [(51, .iconst 0, 1)]) (S2 := (52, [some (.ref 80), z1, some (.int v2), some (.long v3), z4], [.int (0 : Int32)], M)) (by decide +kernel) (hO := mm_own_166) rfl ?_
    exact (ms_166_j52 hd h hA : mp_166_52 L xs (d + 1) v2 v3 (0 : Int32) M o) z1 z4
set_option maxRecDepth 8000 in
set_option maxHeartbeats 4000000 in
theorem ms_166 {L : Nat} {xs : Nat → Int32} {d : Nat} (hd : 11 ≤ d) {v1 : Int32} {M : mm_M} {q : (Int32 ⊕ Nat) × mm_M} {o : mm_E} (h : mf_166 v1 M = some q) (hA : mm_A (mm_Kr mm_wi) q o) : mm_Runs L xs d 166 (0, mm_ent (mm_ml 166) [.ref 80, .int v1], [], M) o := by
  unfold mf_166 at h
  obtain ⟨d, rfl⟩ := mm_d1 (n := 10) hd
  show mm_Runs L xs (d + 1) 166 (0, [some (.ref 80), some (.int v1), none, none, none], [], M) o
  refine mm_Runs.seq (l := [(0, .aload_n 0, 1), (1, .sipush 432, 3), (4, .iload_n 1, 1)]) (S2 := (5, [some (.ref 80), some (.int v1), none, none, none], [.int v1, .int (432 : Int32), .ref 80], M)) (by decide +kernel) (hO := mm_own_166) rfl ?_
  refine mm_R_call (v := mm_wi) h hA (k2 := 169) (as := [.ref 80, .int (432 : Int32), .int v1]) (r := []) rfl (fun _ => rfl) (fun q hq o ho => ms_169 (by omega) hq ho) (fun r1 M2 h => ?_)
  show mm_Runs L xs (d + 1) 166 (8, [some (.ref 80), some (.int v1), none, none, none], [.int r1], M2) o
  refine mm_Runs.seq (l := [(8, .istore_n 2, 1), (9, .aload_n 0, 1), (10, .iload_n 2, 1)]) (S2 := (11, [some (.ref 80), some (.int v1), some (.int r1), none, none], [.int r1, .ref 80], M2)) (by decide +kernel) (hO := mm_own_166) rfl ?_
  refine mm_R_call (v := mm_wl) h hA (k2 := 170) (as := [.ref 80, .int r1]) (r := []) rfl (fun _ => rfl) (fun q hq o ho => ms_170 (by omega) hq ho) (fun r3 M4 h => ?_)
  show mm_Runs L xs (d + 1) 166 (14, [some (.ref 80), some (.int v1), some (.int r1), none, none], [.long r3], M4) o
  refine mm_Runs.seq (l := [(14, .lstore_n 3, 1), (15, .aload_n 0, 1), (16, .getfield 83, 3), (19, .lconst 0, 1)]) (S2 := (20, [some (.ref 80), some (.int v1), some (.int r1), some (.long r3), none], [.long (0 : Int64), .long (M4.2.1 80 14)], M4)) (by decide +kernel) (hO := mm_own_166) rfl ?_
  refine mm_R_lge (t := 34) rfl rfl rfl rfl (fun hc => ?_) (fun hc => ?_)
  · replace h := mm_ip hc h
    refine mm_Runs.seq (l := [(24, .lload_n 3, 1), (25, .ldc2_w 138, 3)]) (S2 := (28, [some (.ref 80), some (.int v1), some (.int r1), some (.long r3), none], [.long (4294967296 : Int64), .long r3], M4)) (by decide +kernel) (hO := mm_own_166) rfl ?_
    refine mm_R_lne (t := 34) rfl rfl rfl rfl (fun hc => ?_) (fun hc => ?_)
    · replace h := mm_ip hc h
      refine mm_Runs.seq (l := [(32, .iconst 0, 1)]) (S2 := (33, [some (.ref 80), some (.int v1), some (.int r1), some (.long r3), none], [.int (0 : Int32)], M4)) (by decide +kernel) (hO := mm_own_166) rfl ?_
      cases h
      exact mm_R_retb rfl rfl rfl hA
    · replace h := mm_iq hc h
      exact (ms_166_j34 hd h hA : mp_166_34 L xs (d + 1) r1 r3 M4 o) (some (.int v1)) none
  · replace h := mm_iq hc h
    exact (ms_166_j34 hd h hA : mp_166_34 L xs (d + 1) r1 r3 M4 o) (some (.int v1)) none
-- 168: PlainPacks$Chances.bringToFront()V (depth 9)
theorem mm_own_168 : mm_own 168 = 11 := rfl
def mp_168_55 (L : Nat) (xs : Nat → Int32) (d : Nat) (v1 : Int32) (M : mm_M) (o : mm_E) : Prop := mm_Runs L xs d 168 (55, [some (.ref 80), some (.int v1)], [], M) o
set_option maxRecDepth 8000 in
set_option maxHeartbeats 4000000 in
theorem ms_168_j55 {L : Nat} {xs : Nat → Int32} {d : Nat} (hd : 9 ≤ d) {v1 : Int32} {M : mm_M} {q : (Unit ⊕ Nat) × mm_M} {o : mm_E} (h : mf_168_j55 v1 M = some q) (hA : mm_A (mm_Kr mm_wv) q o) : mp_168_55 L xs d v1 M o := by
  unfold mf_168_j55 at h
  obtain ⟨d, rfl⟩ := mm_d1 (n := 8) hd
  show mm_Runs L xs (d + 1) 168 (55, [some (.ref 80), some (.int v1)], [], M) o
  refine mm_Runs.seq (l := [(55, .aload_n 0, 1), (56, .aload_n 0, 1), (57, .getfield 46, 3), (60, .putfield 49, 3), (63, .aload_n 0, 1), (64, .aload_n 0, 1), (65, .getfield 43, 3), (68, .putfield 46, 3), (71, .aload_n 0, 1), (72, .iload_n 1, 1), (73, .putfield 43, 3)]) (S2 := (76, [some (.ref 80), some (.int v1)], [], (mm_pi (mm_pi (mm_pi M 80 12 (M.1 80 11)) 80 11 (M.1 80 10)) 80 10 v1))) (by decide +kernel) (hO := mm_own_168) rfl ?_
  cases h
  exact mm_R_retv rfl rfl hA
set_option maxRecDepth 8000 in
set_option maxHeartbeats 4000000 in
theorem ms_168 {L : Nat} {xs : Nat → Int32} {d : Nat} (hd : 9 ≤ d) {M : mm_M} {q : (Unit ⊕ Nat) × mm_M} {o : mm_E} (h : mf_168 M = some q) (hA : mm_A (mm_Kr mm_wv) q o) : mm_Runs L xs d 168 (0, mm_ent (mm_ml 168) [.ref 80], [], M) o := by
  unfold mf_168 at h
  obtain ⟨d, rfl⟩ := mm_d1 (n := 8) hd
  show mm_Runs L xs (d + 1) 168 (0, [some (.ref 80), none], [], M) o
  refine mm_Runs.seq (l := [(0, .aload_n 0, 1), (1, .getfield 46, 3), (4, .istore_n 1, 1), (5, .aload_n 0, 1), (6, .sipush 216, 3), (9, .aload_n 0, 1), (10, .getfield 39, 3), (13, .iadd, 1)]) (S2 := (14, [some (.ref 80), some (.int (M.1 80 11))], [.int ((216 : Int32) + (M.1 80 9)), .ref 80], M)) (by decide +kernel) (hO := mm_own_168) rfl ?_
  refine mm_R_call (v := mm_wi) h hA (k2 := 161) (as := [.ref 80, .int ((216 : Int32) + (M.1 80 9))]) (r := []) rfl (fun _ => rfl) (fun q hq o ho => ms_161 (by omega) hq ho) (fun r1 M2 h => ?_)
  show mm_Runs L xs (d + 1) 168 (17, [some (.ref 80), some (.int (M.1 80 11))], [.int r1], M2) o
  refine mm_Runs.seq (l := [(17, .iconst 1, 1)]) (S2 := (18, [some (.ref 80), some (.int (M.1 80 11))], [.int (1 : Int32), .int r1], M2)) (by decide +kernel) (hO := mm_own_168) rfl ?_
  refine mm_R_ine (t := 63) rfl rfl rfl (fun hc => ?_) (fun hc => ?_)
  · replace h := mm_ip hc h
    refine mm_Runs.seq (l := [(21, .aload_n 0, 1), (22, .getfield 49, 3), (25, .istore_n 1, 1), (26, .aload_n 0, 1), (27, .sipush 228, 3), (30, .aload_n 0, 1), (31, .getfield 39, 3), (34, .iadd, 1)]) (S2 := (35, [some (.ref 80), some (.int (M2.1 80 12))], [.int ((228 : Int32) + (M2.1 80 9)), .ref 80], M2)) (by decide +kernel) (hO := mm_own_168) rfl ?_
    refine mm_R_call (v := mm_wi) h hA (k2 := 161) (as := [.ref 80, .int ((228 : Int32) + (M2.1 80 9))]) (r := []) rfl (fun _ => rfl) (fun q hq o ho => ms_161 (by omega) hq ho) (fun r3 M4 h => ?_)
    show mm_Runs L xs (d + 1) 168 (38, [some (.ref 80), some (.int (M2.1 80 12))], [.int r3], M4) o
    refine mm_Runs.seq (l := [(38, .iconst 1, 1)]) (S2 := (39, [some (.ref 80), some (.int (M2.1 80 12))], [.int (1 : Int32), .int r3], M4)) (by decide +kernel) (hO := mm_own_168) rfl ?_
    refine mm_R_ine (t := 55) rfl rfl rfl (fun hc => ?_) (fun hc => ?_)
    · replace h := mm_ip hc h
      refine mm_Runs.seq (l := [(42, .aload_n 0, 1), (43, .getfield 52, 3), (46, .istore_n 1, 1), (47, .aload_n 0, 1), (48, .aload_n 0, 1), (49, .getfield 49, 3), (52, .putfield 52, 3)]) (S2 := (55, [some (.ref 80), some (.int (M4.1 80 13))], [], (mm_pi M4 80 13 (M4.1 80 12)))) (by decide +kernel) (hO := mm_own_168) rfl ?_
      exact (ms_168_j55 hd h hA : mp_168_55 L xs (d + 1) (M4.1 80 13) (mm_pi M4 80 13 (M4.1 80 12)) o)
    · replace h := mm_iq hc h
      exact (ms_168_j55 hd h hA : mp_168_55 L xs (d + 1) (M2.1 80 12) M4 o)
  · replace h := mm_iq hc h
    refine mm_Runs.seq (l := [(63, .aload_n 0, 1), (64, .aload_n 0, 1), (65, .getfield 43, 3), (68, .putfield 46, 3), (71, .aload_n 0, 1), (72, .iload_n 1, 1), (73, .putfield 43, 3)]) (S2 := (76, [some (.ref 80), some (.int (M.1 80 11))], [], (mm_pi (mm_pi M2 80 11 (M2.1 80 10)) 80 10 (M.1 80 11)))) (by decide +kernel) (hO := mm_own_168) rfl ?_
    cases h
    exact mm_R_retv rfl rfl hA
-- 167: PlainPacks$Chances.readRepeat(I)V (depth 11)
theorem mm_own_167 : mm_own 167 = 11 := rfl
def mp_167_36 (L : Nat) (xs : Nat → Int32) (d : Nat) (v1 : Int32) (s0 : Int32) (M : mm_M) (o : mm_E) : Prop := ∀ z2 z3 : Option Value, mm_Runs L xs d 167 (36, [some (.ref 80), some (.int v1), z2, z3], [.int s0], M) o
def mp_167_94 (L : Nat) (xs : Nat → Int32) (d : Nat) (v1 : Int32) (v2 : Int32) (M : mm_M) (o : mm_E) : Prop := ∀ z3 : Option Value, mm_Runs L xs d 167 (94, [some (.ref 80), some (.int v1), some (.int v2), z3], [], M) o
def mp_167_160 (L : Nat) (xs : Nat → Int32) (d : Nat) (v3 : Int32) (s1 : Int32) (M : mm_M) (o : mm_E) : Prop := ∀ z1 z2 : Option Value, mm_Runs L xs d 167 (160, [some (.ref 80), z1, z2, some (.int v3)], [.int s1, .ref 80], M) o
set_option maxRecDepth 8000 in
set_option maxHeartbeats 4000000 in
theorem ms_167_j160 {L : Nat} {xs : Nat → Int32} {d : Nat} (hd : 11 ≤ d) {v3 : Int32} {s1 : Int32} {M : mm_M} {q : (Unit ⊕ Nat) × mm_M} {o : mm_E} (h : mf_167_j160 v3 s1 M = some q) (hA : mm_A (mm_Kr mm_wv) q o) : mp_167_160 L xs d v3 s1 M o := by
  unfold mf_167_j160 at h
  obtain ⟨d, rfl⟩ := mm_d1 (n := 10) hd
  intro z1 z2
  show mm_Runs L xs (d + 1) 167 (160, [some (.ref 80), z1, z2, some (.int v3)], [.int s1, .ref 80], M) o
  refine mm_Runs.seq (l := [(160, .putfield 39, 3), (163, .aload_n 0, 1), (164, .getfield 19, 3), (167, .iload_n 3, 1), (168, .aload_n 0, 1), (169, .getfield 43, 3), (172, .i2l, 1)]) (S2 := (173, [some (.ref 80), z1, z2, some (.int v3)], [.long (M.1 80 10).toInt64, .int v3, .ref 3], (mm_pi M 80 9 s1))) (by decide +kernel) (hO := mm_own_167) rfl ?_
  refine mm_R_call (v := mm_wv) h hA (k2 := 53) (as := [.ref 3, .int v3, .long (M.1 80 10).toInt64]) (r := []) rfl (fun _ => rfl) (fun q hq o ho => ms_53 (by omega) hq ho) (fun _ M1 h => ?_)
  show mm_Runs L xs (d + 1) 167 (176, [some (.ref 80), z1, z2, some (.int v3)], [], M1) o
  cases h
  exact mm_R_retv rfl rfl hA
def mp_167_115 (L : Nat) (xs : Nat → Int32) (d : Nat) (s1 : Int32) (M : mm_M) (o : mm_E) : Prop := ∀ z1 z2 z3 : Option Value, mm_Runs L xs d 167 (115, [some (.ref 80), z1, z2, z3], [.int s1, .ref 80], M) o
set_option maxRecDepth 8000 in
set_option maxHeartbeats 4000000 in
theorem ms_167_j115 {L : Nat} {xs : Nat → Int32} {d : Nat} (hd : 11 ≤ d) {s1 : Int32} {M : mm_M} {q : (Unit ⊕ Nat) × mm_M} {o : mm_E} (h : mf_167_j115 s1 M = some q) (hA : mm_A (mm_Kr mm_wv) q o) : mp_167_115 L xs d s1 M o := by
  unfold mf_167_j115 at h
  obtain ⟨d, rfl⟩ := mm_d1 (n := 10) hd
  intro z1 z2 z3
  show mm_Runs L xs (d + 1) 167 (115, [some (.ref 80), z1, z2, z3], [.int s1, .ref 80], M) o
  refine mm_Runs.seq (l := [(115, .putfield 39, 3), (118, .aload_n 0, 1), (119, .getfield 19, 3), (122, .iconst 1, 1), (123, .aload_n 0, 1), (124, .getfield 43, 3), (127, .i2l, 1)]) (S2 := (128, [some (.ref 80), z1, z2, z3], [.long (M.1 80 10).toInt64, .int (1 : Int32), .ref 3], (mm_pi M 80 9 s1))) (by decide +kernel) (hO := mm_own_167) rfl ?_
  refine mm_R_call (v := mm_wv) h hA (k2 := 53) (as := [.ref 3, .int (1 : Int32), .long (M.1 80 10).toInt64]) (r := []) rfl (fun _ => rfl) (fun q hq o ho => ms_53 (by omega) hq ho) (fun _ M1 h => ?_)
  show mm_Runs L xs (d + 1) 167 (131, [some (.ref 80), z1, z2, z3], [], M1) o
  refine mm_Runs.seq (l := [(131, .goto 45, 3)]) (S2 := (176, [some (.ref 80), z1, z2, z3], [], M1)) (by decide +kernel) (hO := mm_own_167) rfl ?_
  cases h
  exact mm_R_retv rfl rfl hA
set_option maxRecDepth 8000 in
set_option maxHeartbeats 4000000 in
theorem ms_167_j94 {L : Nat} {xs : Nat → Int32} {d : Nat} (hd : 11 ≤ d) {v1 : Int32} {v2 : Int32} {M : mm_M} {q : (Unit ⊕ Nat) × mm_M} {o : mm_E} (h : mf_167_j94 v1 v2 M = some q) (hA : mm_A (mm_Kr mm_wv) q o) : mp_167_94 L xs d v1 v2 M o := by
  unfold mf_167_j94 at h
  obtain ⟨d, rfl⟩ := mm_d1 (n := 10) hd
  intro z3
  show mm_Runs L xs (d + 1) 167 (94, [some (.ref 80), some (.int v1), some (.int v2), z3], [], M) o
  refine mm_Runs.seq (l := [(94, .iload_n 2, 1)]) (S2 := (95, [some (.ref 80), some (.int v1), some (.int v2), z3], [.int v2], M)) (by decide +kernel) (hO := mm_own_167) rfl ?_
  refine mm_R_zeq (t := 134) rfl rfl rfl (fun hc => ?_) (fun hc => ?_)
  · replace h := mm_ip hc h
    refine mm_Runs.seq (l := [(134, .aload_n 0, 1), (135, .sipush 946, 3), (138, .iload_n 1, 1)]) (S2 := (139, [some (.ref 80), some (.int v1), some (.int v2), z3], [.int v1, .int (946 : Int32), .ref 80], M)) (by decide +kernel) (hO := mm_own_167) rfl ?_
    refine mm_R_call (v := mm_wi) h hA (k2 := 169) (as := [.ref 80, .int (946 : Int32), .int v1]) (r := []) rfl (fun _ => rfl) (fun q hq o ho => ms_169 (by omega) hq ho) (fun r1 M2 h => ?_)
    show mm_Runs L xs (d + 1) 167 (142, [some (.ref 80), some (.int v1), some (.int v2), z3], [.int r1], M2) o
    refine mm_Runs.seq (l := [(142, .istore_n 3, 1), (143, .aload_n 0, 1), (144, .aload_n 0, 1), (145, .getfield 39, 3), (148, .bipush 7, 2)]) (S2 := (150, [some (.ref 80), some (.int v1), some (.int v2), some (.int r1)], [.int (7 : Int32), .int (M2.1 80 9), .ref 80], M2)) (by decide +kernel) (hO := mm_own_167) rfl ?_
    refine mm_R_ige (t := 158) rfl rfl rfl (fun hc => ?_) (fun hc => ?_)
    · replace h := mm_ip hc h
      refine mm_Runs.seq (l := [(153, .bipush 8, 2), (155, .goto 5, 3)]) (S2 := (160, [some (.ref 80), some (.int v1), some (.int v2), some (.int r1)], [.int (8 : Int32), .ref 80], M2)) (by decide +kernel) (hO := mm_own_167) rfl ?_
      exact (ms_167_j160 hd h hA : mp_167_160 L xs (d + 1) r1 (8 : Int32) M2 o) (some (.int v1)) (some (.int v2))
    · replace h := mm_iq hc h
      refine mm_Runs.seq (l := [(158, .bipush 11, 2)]) (S2 := (160, [some (.ref 80), some (.int v1), some (.int v2), some (.int r1)], [.int (11 : Int32), .ref 80], M2)) (by decide +kernel) (hO := mm_own_167) rfl ?_
      exact (ms_167_j160 hd h hA : mp_167_160 L xs (d + 1) r1 (11 : Int32) M2 o) (some (.int v1)) (some (.int v2))
  · replace h := mm_iq hc h
    refine mm_Runs.seq (l := [(98, .aload_n 0, 1), (99, .aload_n 0, 1), (100, .getfield 39, 3), (103, .bipush 7, 2)]) (S2 := (105, [some (.ref 80), some (.int v1), some (.int v2), z3], [.int (7 : Int32), .int (M.1 80 9), .ref 80], M)) (by decide +kernel) (hO := mm_own_167) rfl ?_
    refine mm_R_ige (t := 113) rfl rfl rfl (fun hc => ?_) (fun hc => ?_)
    · replace h := mm_ip hc h
      refine mm_Runs.seq (l := [(108, .bipush 9, 2), (110, .goto 5, 3)]) (S2 := (115, [some (.ref 80), some (.int v1), some (.int v2), z3], [.int (9 : Int32), .ref 80], M)) (by decide +kernel) (hO := mm_own_167) rfl ?_
      exact (ms_167_j115 hd h hA : mp_167_115 L xs (d + 1) (9 : Int32) M o) (some (.int v1)) (some (.int v2)) z3
    · replace h := mm_iq hc h
      refine mm_Runs.seq (l := [(113, .bipush 11, 2)]) (S2 := (115, [some (.ref 80), some (.int v1), some (.int v2), z3], [.int (11 : Int32), .ref 80], M)) (by decide +kernel) (hO := mm_own_167) rfl ?_
      exact (ms_167_j115 hd h hA : mp_167_115 L xs (d + 1) (11 : Int32) M o) (some (.int v1)) (some (.int v2)) z3
set_option maxRecDepth 8000 in
set_option maxHeartbeats 4000000 in
theorem ms_167_j36 {L : Nat} {xs : Nat → Int32} {d : Nat} (hd : 11 ≤ d) {v1 : Int32} {s0 : Int32} {M : mm_M} {q : (Unit ⊕ Nat) × mm_M} {o : mm_E} (h : mf_167_j36 v1 s0 M = some q) (hA : mm_A (mm_Kr mm_wv) q o) : mp_167_36 L xs d v1 s0 M o := by
  unfold mf_167_j36 at h
  obtain ⟨d, rfl⟩ := mm_d1 (n := 10) hd
  intro z2 z3
  show mm_Runs L xs (d + 1) 167 (36, [some (.ref 80), some (.int v1), z2, z3], [.int s0], M) o
  refine mm_R_call (v := mm_wv) h hA (k2 := 27) (as := [.int s0]) (r := []) rfl (fun _ => rfl) (fun q hq o ho => ms_27 (by omega) hq ho) (fun _ M1 h => ?_)
  show mm_Runs L xs (d + 1) 167 (39, [some (.ref 80), some (.int v1), z2, z3], [], M1) o
  refine mm_Runs.seq (l := [(39, .aload_n 0, 1), (40, .sipush 240, 3), (43, .bipush 16, 2), (45, .aload_n 0, 1), (46, .getfield 39, 3), (49, .imul, 1), (50, .iadd, 1), (51, .iload_n 1, 1), (52, .iadd, 1)]) (S2 := (53, [some (.ref 80), some (.int v1), z2, z3], [.int (((240 : Int32) + ((16 : Int32) * (M1.1 80 9))) + v1), .ref 80], M1)) (by decide +kernel) (hO := mm_own_167) rfl ?_
  refine mm_R_call (v := mm_wi) h hA (k2 := 161) (as := [.ref 80, .int (((240 : Int32) + ((16 : Int32) * (M1.1 80 9))) + v1)]) (r := []) rfl (fun _ => rfl) (fun q hq o ho => ms_161 (by omega) hq ho) (fun r2 M3 h => ?_)
  show mm_Runs L xs (d + 1) 167 (56, [some (.ref 80), some (.int v1), z2, z3], [.int r2], M3) o
  refine mm_R_zne (t := 63) rfl rfl rfl (fun hc => ?_) (fun hc => ?_)
  · replace h := mm_ip hc h
    refine mm_Runs.seq (l := [(59, .iconst 1, 1), (60, .goto 4, 3), (64, .istore_n 2, 1), (65, .goto 29, 3)]) (S2 := (94, [some (.ref 80), some (.int v1), some (.int (1 : Int32)), z3], [], M3)) (by decide +kernel) (hO := mm_own_167) rfl ?_
    exact (ms_167_j94 hd h hA : mp_167_94 L xs (d + 1) v1 (1 : Int32) M3 o) z3
  · replace h := mm_iq hc h
    refine mm_Runs.seq (l := [(63, .iconst 0, 1), (64, .istore_n 2, 1), (65, .goto 29, 3)]) (S2 := (94, [some (.ref 80), some (.int v1), some (.int (0 : Int32)), z3], [], M3)) (by decide +kernel) (hO := mm_own_167) rfl ?_
    exact (ms_167_j94 hd h hA : mp_167_94 L xs (d + 1) v1 (0 : Int32) M3 o) z3
def mp_167_91 (L : Nat) (xs : Nat → Int32) (d : Nat) (v1 : Int32) (v2 : Int32) (s0 : Int32) (M : mm_M) (o : mm_E) : Prop := ∀ z3 : Option Value, mm_Runs L xs d 167 (91, [some (.ref 80), some (.int v1), some (.int v2), z3], [.int s0], M) o
set_option maxRecDepth 8000 in
set_option maxHeartbeats 4000000 in
theorem ms_167_j91 {L : Nat} {xs : Nat → Int32} {d : Nat} (hd : 11 ≤ d) {v1 : Int32} {v2 : Int32} {s0 : Int32} {M : mm_M} {q : (Unit ⊕ Nat) × mm_M} {o : mm_E} (h : mf_167_j91 v1 v2 s0 M = some q) (hA : mm_A (mm_Kr mm_wv) q o) : mp_167_91 L xs d v1 v2 s0 M o := by
  unfold mf_167_j91 at h
  obtain ⟨d, rfl⟩ := mm_d1 (n := 10) hd
  intro z3
  show mm_Runs L xs (d + 1) 167 (91, [some (.ref 80), some (.int v1), some (.int v2), z3], [.int s0], M) o
  refine mm_R_call (v := mm_wv) h hA (k2 := 27) (as := [.int s0]) (r := []) rfl (fun _ => rfl) (fun q hq o ho => ms_27 (by omega) hq ho) (fun _ M1 h => ?_)
  show mm_Runs L xs (d + 1) 167 (94, [some (.ref 80), some (.int v1), some (.int v2), z3], [], M1) o
  exact (ms_167_j94 hd h hA : mp_167_94 L xs (d + 1) v1 v2 M1 o) z3
set_option maxRecDepth 8000 in
set_option maxHeartbeats 4000000 in
theorem ms_167 {L : Nat} {xs : Nat → Int32} {d : Nat} (hd : 11 ≤ d) {v1 : Int32} {M : mm_M} {q : (Unit ⊕ Nat) × mm_M} {o : mm_E} (h : mf_167 v1 M = some q) (hA : mm_A (mm_Kr mm_wv) q o) : mm_Runs L xs d 167 (0, mm_ent (mm_ml 167) [.ref 80, .int v1], [], M) o := by
  unfold mf_167 at h
  obtain ⟨d, rfl⟩ := mm_d1 (n := 10) hd
  show mm_Runs L xs (d + 1) 167 (0, [some (.ref 80), some (.int v1), none, none], [], M) o
  refine mm_Runs.seq (l := [(0, .iconst 0, 1), (1, .istore_n 2, 1), (2, .aload_n 0, 1), (3, .sipush 204, 3), (6, .aload_n 0, 1), (7, .getfield 39, 3), (10, .iadd, 1)]) (S2 := (11, [some (.ref 80), some (.int v1), some (.int (0 : Int32)), none], [.int ((204 : Int32) + (M.1 80 9)), .ref 80], M)) (by decide +kernel) (hO := mm_own_167) rfl ?_
  refine mm_R_call (v := mm_wi) h hA (k2 := 161) (as := [.ref 80, .int ((204 : Int32) + (M.1 80 9))]) (r := []) rfl (fun _ => rfl) (fun q hq o ho => ms_161 (by omega) hq ho) (fun r1 M2 h => ?_)
  show mm_Runs L xs (d + 1) 167 (14, [some (.ref 80), some (.int v1), some (.int (0 : Int32)), none], [.int r1], M2) o
  refine mm_R_zne (t := 68) rfl rfl rfl (fun hc => ?_) (fun hc => ?_)
  · replace h := mm_ip hc h
    refine mm_Runs.seq (l := [(17, .aload_n 0, 1), (18, .getfield 43, 3), (21, .aload_n 0, 1), (22, .getfield 19, 3), (25, .getfield 78, 3)]) (S2 := (28, [some (.ref 80), some (.int v1), some (.int (0 : Int32)), none], [.int (M2.1 3 1), .int (M2.1 80 10)], M2)) (by decide +kernel) (hO := mm_own_167) rfl ?_
    refine mm_R_ile (t := 35) rfl rfl rfl (fun hc => ?_) (fun hc => ?_)
    · replace h := mm_ip hc h
      refine mm_Runs.seq (l := [(31, .iconst 1, 1), (32, .goto 4, 3)]) (S2 := (36, [some (.ref 80), some (.int v1), some (.int (0 : Int32)), none], [.int (1 : Int32)], M2)) (by decide +kernel) (hO := mm_own_167) rfl ?_
      exact (ms_167_j36 hd h hA : mp_167_36 L xs (d + 1) v1 (1 : Int32) M2 o) (some (.int (0 : Int32))) none
    · replace h := mm_iq hc h
      refine mm_Runs.seq (l := [(35, .iconst 0, 1)]) (S2 := (36, [some (.ref 80), some (.int v1), some (.int (0 : Int32)), none], [.int (0 : Int32)], M2)) (by decide +kernel) (hO := mm_own_167) rfl ?_
      exact (ms_167_j36 hd h hA : mp_167_36 L xs (d + 1) v1 (0 : Int32) M2 o) (some (.int (0 : Int32))) none
  · replace h := mm_iq hc h
    refine mm_Runs.seq (l := [(68, .aload_n 0, 1)]) (S2 := (69, [some (.ref 80), some (.int v1), some (.int (0 : Int32)), none], [.ref 80], M2)) (by decide +kernel) (hO := mm_own_167) rfl ?_
    refine mm_R_call (v := mm_wv) h hA (k2 := 168) (as := [.ref 80]) (r := []) rfl (fun _ => rfl) (fun q hq o ho => ms_168 (by omega) hq ho) (fun _ M3 h => ?_)
    show mm_Runs L xs (d + 1) 167 (72, [some (.ref 80), some (.int v1), some (.int (0 : Int32)), none], [], M3) o
    refine mm_Runs.seq (l := [(72, .aload_n 0, 1), (73, .getfield 43, 3), (76, .aload_n 0, 1), (77, .getfield 19, 3), (80, .getfield 78, 3)]) (S2 := (83, [some (.ref 80), some (.int v1), some (.int (0 : Int32)), none], [.int (M3.1 3 1), .int (M3.1 80 10)], M3)) (by decide +kernel) (hO := mm_own_167) rfl ?_
    refine mm_R_ile (t := 90) rfl rfl rfl (fun hc => ?_) (fun hc => ?_)
    · replace h := mm_ip hc h
      refine mm_Runs.seq (l := [(86, .iconst 1, 1), (87, .goto 4, 3)]) (S2 := (91, [some (.ref 80), some (.int v1), some (.int (0 : Int32)), none], [.int (1 : Int32)], M3)) (by decide +kernel) (hO := mm_own_167) rfl ?_
      exact (ms_167_j91 hd h hA : mp_167_91 L xs (d + 1) v1 (0 : Int32) (1 : Int32) M3 o) none
    · replace h := mm_iq hc h
      refine mm_Runs.seq (l := [(90, .iconst 0, 1)]) (S2 := (91, [some (.ref 80), some (.int v1), some (.int (0 : Int32)), none], [.int (0 : Int32)], M3)) (by decide +kernel) (hO := mm_own_167) rfl ?_
      exact (ms_167_j91 hd h hA : mp_167_91 L xs (d + 1) v1 (0 : Int32) (0 : Int32) M3 o) none
-- 159: PlainPacks$Chances.readChances()V (depth 12)
theorem mm_own_159 : mm_own 159 = 11 := rfl
def mp_159_23 (L : Nat) (xs : Nat → Int32) (d : Nat) (s0 : Int32) (M : mm_M) (o : mm_E) : Prop := ∀ z1 z2 z3 : Option Value, mm_Runs L xs d 159 (23, [some (.ref 80), z1, z2, z3], [.int s0], M) o
def mp_159_42 (L : Nat) (xs : Nat → Int32) (d : Nat) (v1 : Int32) (v2 : Int32) (M : mm_M) (o : mm_E) : Prop := ∀ z3 : Option Value, mm_Runs L xs d 159 (42, [some (.ref 80), some (.int v1), some (.int v2), z3], [], M) o
def mp_159_146 (L : Nat) (xs : Nat → Int32) (d : Nat) (M : mm_M) (o : mm_E) : Prop := ∀ z1 z2 z3 : Option Value, mm_Runs L xs d 159 (146, [some (.ref 80), z1, z2, z3], [], M) o
set_option maxRecDepth 8000 in
set_option maxHeartbeats 4000000 in
theorem ms_159_b42 {L : Nat} {xs : Nat → Int32} {d : Nat} (hd : 12 ≤ d) {v1 : Int32} {v2 : Int32} {M : mm_M} {q : (((Int32 × Int32) ⊕ (Unit)) ⊕ Nat) × mm_M} {o : mm_E} (h : mf_159_b42 v1 v2 M = some q) (hA : mm_A (mm_K2 (fun s M o => mp_159_42 L xs (d) s.1 s.2 M o) (fun r M o => mp_159_146 L xs (d) M o)) q o) : mp_159_42 L xs d v1 v2 M o := by
  unfold mf_159_b42 at h
  obtain ⟨d, rfl⟩ := mm_d1 (n := 11) hd
  intro z3
  show mm_Runs L xs (d + 1) 159 (42, [some (.ref 80), some (.int v1), some (.int v2), z3], [], M) o
  refine mm_Runs.seq (l := [(42, .iload_n 2, 1), (43, .sipush 16384, 3)]) (S2 := (46, [some (.ref 80), some (.int v1), some (.int v2), z3], [.int (16384 : Int32), .int v2], M)) (by decide +kernel) (hO := mm_own_159) rfl ?_
  refine mm_R_igt (t := 146) rfl rfl rfl (fun hc => ?_) (fun hc => ?_)
  · replace h := mm_ip hc h
    cases h
    exact (show mp_159_146 L xs (d + 1) M o from hA) (some (.int v1)) (some (.int v2)) z3
  · replace h := mm_iq hc h
    refine mm_Runs.seq (l := [(49, .iload_n 1, 1)]) (S2 := (50, [some (.ref 80), some (.int v1), some (.int v2), z3], [.int v1], M)) (by decide +kernel) (hO := mm_own_159) rfl ?_
    refine mm_R_zeq (t := 146) rfl rfl rfl (fun hc => ?_) (fun hc => ?_)
    · replace h := mm_ip hc h
      cases h
      exact (show mp_159_146 L xs (d + 1) M o from hA) (some (.int v1)) (some (.int v2)) z3
    · replace h := mm_iq hc h
      refine mm_Runs.seq (l := [(53, .aload_n 0, 1), (54, .getfield 19, 3), (57, .getfield 78, 3), (60, .i2l, 1), (61, .aload_n 0, 1), (62, .getfield 83, 3)]) (S2 := (65, [some (.ref 80), some (.int v1), some (.int v2), z3], [.long (M.2.1 80 14), .long (M.1 3 1).toInt64], M)) (by decide +kernel) (hO := mm_own_159) rfl ?_
      refine mm_R_leq (t := 146) rfl rfl rfl rfl (fun hc => ?_) (fun hc => ?_)
      · replace h := mm_ip hc h
        cases h
        exact (show mp_159_146 L xs (d + 1) M o from hA) (some (.int v1)) (some (.int v2)) z3
      · replace h := mm_iq hc h
        refine mm_Runs.seq (l := [(69, .aload_n 0, 1), (70, .getfield 19, 3), (73, .getfield 78, 3), (76, .iconst 1, 1), (77, .aload_n 0, 1), (78, .getfield 86, 3), (81, .ishl, 1), (82, .iconst 1, 1), (83, .isub, 1), (84, .iand, 1), (85, .istore_n 3, 1), (86, .aload_n 0, 1), (87, .iconst 0, 1), (88, .bipush 16, 2), (90, .aload_n 0, 1), (91, .getfield 39, 3), (94, .imul, 1), (95, .iadd, 1), (96, .iload_n 3, 1), (97, .iadd, 1)]) (S2 := (98, [some (.ref 80), some (.int v1), some (.int v2), some (.int ((M.1 3 1) &&& ((mm_shl (1 : Int32) (M.1 80 8)) - (1 : Int32))))], [.int (((0 : Int32) + ((16 : Int32) * (M.1 80 9))) + ((M.1 3 1) &&& ((mm_shl (1 : Int32) (M.1 80 8)) - (1 : Int32)))), .ref 80], M)) (by decide +kernel) (hO := mm_own_159) rfl ?_
        refine mm_R_call (v := mm_wi) h hA (k2 := 161) (as := [.ref 80, .int (((0 : Int32) + ((16 : Int32) * (M.1 80 9))) + ((M.1 3 1) &&& ((mm_shl (1 : Int32) (M.1 80 8)) - (1 : Int32))))]) (r := []) rfl (fun _ => rfl) (fun q hq o ho => ms_161 (by omega) hq ho) (fun r1 M2 h => ?_)
        show mm_Runs L xs (d + 1) 159 (101, [some (.ref 80), some (.int v1), some (.int v2), some (.int ((M.1 3 1) &&& ((mm_shl (1 : Int32) (M.1 80 8)) - (1 : Int32))))], [.int r1], M2) o
        refine mm_R_zne (t := 111) rfl rfl rfl (fun hc => ?_) (fun hc => ?_)
        · replace h := mm_ip hc h
          refine mm_Runs.seq (l := [(104, .aload_n 0, 1)]) (S2 := (105, [some (.ref 80), some (.int v1), some (.int v2), some (.int ((M.1 3 1) &&& ((mm_shl (1 : Int32) (M.1 80 8)) - (1 : Int32))))], [.ref 80], M2)) (by decide +kernel) (hO := mm_own_159) rfl ?_
          refine mm_R_call (v := mm_wv) h hA (k2 := 165) (as := [.ref 80]) (r := []) rfl (fun _ => rfl) (fun q hq o ho => ms_165 (by omega) hq ho) (fun _ M3 h => ?_)
          show mm_Runs L xs (d + 1) 159 (108, [some (.ref 80), some (.int v1), some (.int v2), some (.int ((M.1 3 1) &&& ((mm_shl (1 : Int32) (M.1 80 8)) - (1 : Int32))))], [], M3) o
          refine mm_Runs.seq (l := [(108, .goto 32, 3), (140, .iinc 2 1, 3), (143, .goto (-101), 3)]) (S2 := (42, [some (.ref 80), some (.int v1), some (.int (v2 + (1 : Int32))), some (.int ((M.1 3 1) &&& ((mm_shl (1 : Int32) (M.1 80 8)) - (1 : Int32))))], [], M3)) (by decide +kernel) (hO := mm_own_159) rfl ?_
          cases h
          exact (show mp_159_42 L xs (d + 1) v1 (v2 + (1 : Int32)) M3 o from hA) (some (.int ((M.1 3 1) &&& ((mm_shl (1 : Int32) (M.1 80 8)) - (1 : Int32)))))
        · replace h := mm_iq hc h
          refine mm_Runs.seq (l := [(111, .aload_n 0, 1), (112, .sipush 192, 3), (115, .aload_n 0, 1), (116, .getfield 39, 3), (119, .iadd, 1)]) (S2 := (120, [some (.ref 80), some (.int v1), some (.int v2), some (.int ((M.1 3 1) &&& ((mm_shl (1 : Int32) (M.1 80 8)) - (1 : Int32))))], [.int ((192 : Int32) + (M2.1 80 9)), .ref 80], M2)) (by decide +kernel) (hO := mm_own_159) rfl ?_
          refine mm_R_call (v := mm_wi) h hA (k2 := 161) (as := [.ref 80, .int ((192 : Int32) + (M2.1 80 9))]) (r := []) rfl (fun _ => rfl) (fun q hq o ho => ms_161 (by omega) hq ho) (fun r4 M5 h => ?_)
          show mm_Runs L xs (d + 1) 159 (123, [some (.ref 80), some (.int v1), some (.int v2), some (.int ((M.1 3 1) &&& ((mm_shl (1 : Int32) (M.1 80 8)) - (1 : Int32))))], [.int r4], M5) o
          refine mm_R_zne (t := 135) rfl rfl rfl (fun hc => ?_) (fun hc => ?_)
          · replace h := mm_ip hc h
            refine mm_Runs.seq (l := [(126, .aload_n 0, 1), (127, .iload_n 3, 1)]) (S2 := (128, [some (.ref 80), some (.int v1), some (.int v2), some (.int ((M.1 3 1) &&& ((mm_shl (1 : Int32) (M.1 80 8)) - (1 : Int32))))], [.int ((M.1 3 1) &&& ((mm_shl (1 : Int32) (M.1 80 8)) - (1 : Int32))), .ref 80], M5)) (by decide +kernel) (hO := mm_own_159) rfl ?_
            refine mm_R_call (v := mm_wi) h hA (k2 := 166) (as := [.ref 80, .int ((M.1 3 1) &&& ((mm_shl (1 : Int32) (M.1 80 8)) - (1 : Int32)))]) (r := []) rfl (fun _ => rfl) (fun q hq o ho => ms_166 (by omega) hq ho) (fun r6 M7 h => ?_)
            show mm_Runs L xs (d + 1) 159 (131, [some (.ref 80), some (.int v1), some (.int v2), some (.int ((M.1 3 1) &&& ((mm_shl (1 : Int32) (M.1 80 8)) - (1 : Int32))))], [.int r6], M7) o
            refine mm_Runs.seq (l := [(131, .istore_n 1, 1), (132, .goto 8, 3), (140, .iinc 2 1, 3), (143, .goto (-101), 3)]) (S2 := (42, [some (.ref 80), some (.int r6), some (.int (v2 + (1 : Int32))), some (.int ((M.1 3 1) &&& ((mm_shl (1 : Int32) (M.1 80 8)) - (1 : Int32))))], [], M7)) (by decide +kernel) (hO := mm_own_159) rfl ?_
            cases h
            exact (show mp_159_42 L xs (d + 1) r6 (v2 + (1 : Int32)) M7 o from hA) (some (.int ((M.1 3 1) &&& ((mm_shl (1 : Int32) (M.1 80 8)) - (1 : Int32)))))
          · replace h := mm_iq hc h
            refine mm_Runs.seq (l := [(135, .aload_n 0, 1), (136, .iload_n 3, 1)]) (S2 := (137, [some (.ref 80), some (.int v1), some (.int v2), some (.int ((M.1 3 1) &&& ((mm_shl (1 : Int32) (M.1 80 8)) - (1 : Int32))))], [.int ((M.1 3 1) &&& ((mm_shl (1 : Int32) (M.1 80 8)) - (1 : Int32))), .ref 80], M5)) (by decide +kernel) (hO := mm_own_159) rfl ?_
            refine mm_R_call (v := mm_wv) h hA (k2 := 167) (as := [.ref 80, .int ((M.1 3 1) &&& ((mm_shl (1 : Int32) (M.1 80 8)) - (1 : Int32)))]) (r := []) rfl (fun _ => rfl) (fun q hq o ho => ms_167 (by omega) hq ho) (fun _ M8 h => ?_)
            show mm_Runs L xs (d + 1) 159 (140, [some (.ref 80), some (.int v1), some (.int v2), some (.int ((M.1 3 1) &&& ((mm_shl (1 : Int32) (M.1 80 8)) - (1 : Int32))))], [], M8) o
            refine mm_Runs.seq (l := [(140, .iinc 2 1, 3), (143, .goto (-101), 3)]) (S2 := (42, [some (.ref 80), some (.int v1), some (.int (v2 + (1 : Int32))), some (.int ((M.1 3 1) &&& ((mm_shl (1 : Int32) (M.1 80 8)) - (1 : Int32))))], [], M8)) (by decide +kernel) (hO := mm_own_159) rfl ?_
            cases h
            exact (show mp_159_42 L xs (d + 1) v1 (v2 + (1 : Int32)) M8 o from hA) (some (.int ((M.1 3 1) &&& ((mm_shl (1 : Int32) (M.1 80 8)) - (1 : Int32)))))
theorem ms_159_L42 {L : Nat} {xs : Nat → Int32} {d : Nat} (hd : 12 ≤ d) {v1 : Int32} {v2 : Int32} {β : Type} {K : β → mm_M → mm_E → Prop} {F : (Unit) → mm_M → mm_O β} {M : mm_M} {q : (β ⊕ Nat) × mm_M} {o : mm_E} (h : mm_B (mf_159_L42 (v1, v2) M) F = some q) (hA : mm_A K q o) (hx : ∀ (r : (Unit)) (M2 : mm_M), F r M2 = some q → (fun r M o => mp_159_146 L xs (d) M o) r M2 o) : mp_159_42 L xs d v1 v2 M o := by
  unfold mf_159_L42 at h
  exact mm_R_loop (step := (fun s M => mf_159_b42 s.1 s.2 M)) (s := (v1, v2)) (M := M) (P := (fun s M o => mp_159_42 L xs (d) s.1 s.2 M o)) (X := (fun r M o => mp_159_146 L xs (d) M o)) h hA (fun s M q hq hA => ms_159_b42 (v1 := s.1) (v2 := s.2) (M := M) (q := q) hd hq hA) hx
def mp_159_160 (L : Nat) (xs : Nat → Int32) (d : Nat) (s0 : Int32) (M : mm_M) (o : mm_E) : Prop := ∀ z0 z1 z2 z3 : Option Value, mm_Runs L xs d 159 (160, [z0, z1, z2, z3], [.int s0], M) o
set_option maxRecDepth 8000 in
set_option maxHeartbeats 4000000 in
theorem ms_159_j160 {L : Nat} {xs : Nat → Int32} {d : Nat} (hd : 12 ≤ d) {s0 : Int32} {M : mm_M} {q : (Unit ⊕ Nat) × mm_M} {o : mm_E} (h : mf_159_j160 s0 M = some q) (hA : mm_A (mm_Kr mm_wv) q o) : mp_159_160 L xs d s0 M o := by
  unfold mf_159_j160 at h
  obtain ⟨d, rfl⟩ := mm_d1 (n := 11) hd
  intro z0 z1 z2 z3
  show mm_Runs L xs (d + 1) 159 (160, [z0, z1, z2, z3], [.int s0], M) o
  refine mm_R_call (v := mm_wv) h hA (k2 := 27) (as := [.int s0]) (r := []) rfl (fun _ => rfl) (fun q hq o ho => ms_27 (by omega) hq ho) (fun _ M1 h => ?_)
  show mm_Runs L xs (d + 1) 159 (163, [z0, z1, z2, z3], [], M1) o
  cases h
  exact mm_R_retv rfl rfl hA
set_option maxRecDepth 8000 in
set_option maxHeartbeats 4000000 in
theorem ms_159_j146 {L : Nat} {xs : Nat → Int32} {d : Nat} (hd : 12 ≤ d) {M : mm_M} {q : (Unit ⊕ Nat) × mm_M} {o : mm_E} (h : mf_159_j146 M = some q) (hA : mm_A (mm_Kr mm_wv) q o) : mp_159_146 L xs d M o := by
  unfold mf_159_j146 at h
  obtain ⟨d, rfl⟩ := mm_d1 (n := 11) hd
  intro z1 z2 z3
  show mm_Runs L xs (d + 1) 159 (146, [some (.ref 80), z1, z2, z3], [], M) o
  refine mm_Runs.seq (l := [(146, .aload_n 0, 1), (147, .getfield 75, 3), (150, .lconst 0, 1)]) (S2 := (151, [some (.ref 80), z1, z2, z3], [.long (0 : Int64), .long (M.2.1 80 5)], M)) (by decide +kernel) (hO := mm_own_159) rfl ?_
  refine mm_R_leq (t := 159) rfl rfl rfl rfl (fun hc => ?_) (fun hc => ?_)
  · replace h := mm_ip hc h
    refine mm_Runs.seq (l := [(159, .iconst 0, 1)]) (S2 := (160, [some (.ref 80), z1, z2, z3], [.int (0 : Int32)], M)) (by decide +kernel) (hO := mm_own_159) rfl ?_
    exact (ms_159_j160 hd h hA : mp_159_160 L xs (d + 1) (0 : Int32) M o) (some (.ref 80)) z1 z2 z3
  · replace h := mm_iq hc h
    refine mm_Runs.seq (l := [(155, .iconst 1, 1), (156, .goto 4, 3)]) (S2 := (160, [some (.ref 80), z1, z2, z3], [.int (1 : Int32)], M)) (by decide +kernel) (hO := mm_own_159) rfl ?_
    exact (ms_159_j160 hd h hA : mp_159_160 L xs (d + 1) (1 : Int32) M o) (some (.ref 80)) z1 z2 z3
set_option maxRecDepth 8000 in
set_option maxHeartbeats 4000000 in
theorem ms_159_j23 {L : Nat} {xs : Nat → Int32} {d : Nat} (hd : 12 ≤ d) {s0 : Int32} {M : mm_M} {q : (Unit ⊕ Nat) × mm_M} {o : mm_E} (h : mf_159_j23 s0 M = some q) (hA : mm_A (mm_Kr mm_wv) q o) : mp_159_23 L xs d s0 M o := by
  unfold mf_159_j23 at h
  obtain ⟨d, rfl⟩ := mm_d1 (n := 11) hd
  intro z1 z2 z3
  show mm_Runs L xs (d + 1) 159 (23, [some (.ref 80), z1, z2, z3], [.int s0], M) o
  refine mm_R_call (v := mm_wv) h hA (k2 := 27) (as := [.int s0]) (r := []) rfl (fun _ => rfl) (fun q hq o ho => ms_27 (by omega) hq ho) (fun _ M1 h => ?_)
  show mm_Runs L xs (d + 1) 159 (26, [some (.ref 80), z1, z2, z3], [], M1) o
  refine mm_Runs.seq (l := [(26, .aload_n 0, 1), (27, .aload_n 0, 1), (28, .getfield 15, 3), (31, .iconst 4, 1)]) (S2 := (32, [some (.ref 80), z1, z2, z3], [.int (4 : Int32), .ref 1, .ref 80], M1)) (by decide +kernel) (hO := mm_own_159) rfl ?_
  refine mm_R_call (v := mm_wl) h hA (k2 := 48) (as := [.ref 1, .int (4 : Int32)]) (r := [.ref 80]) rfl (fun _ => rfl) (fun q hq o ho => ms_48 (by omega) hq ho) (fun r2 M3 h => ?_)
  show mm_Runs L xs (d + 1) 159 (35, [some (.ref 80), z1, z2, z3], [.long r2, .ref 80], M3) o
  refine mm_Runs.seq (l := [(35, .putfield 75, 3), (38, .iconst 1, 1), (39, .istore_n 1, 1), (40, .iconst 0, 1), (41, .istore_n 2, 1)]) (S2 := (42, [some (.ref 80), some (.int (1 : Int32)), some (.int (0 : Int32)), z3], [], (mm_pl M3 80 5 r2))) (by decide +kernel) (hO := mm_own_159) rfl ?_
  have hp : mp_159_42 L xs (d + 1) (1 : Int32) (0 : Int32) (mm_pl M3 80 5 r2) o := by
    refine ms_159_L42 hd h hA (fun r5 M4 h => ?_)
    intro y6 y7 y8
    show mm_Runs L xs (d + 1) 159 (146, [some (.ref 80), y6, y7, y8], [], M4) o
    exact (ms_159_j146 hd h hA : mp_159_146 L xs (d + 1) M4 o) y6 y7 y8
  exact hp z3
set_option maxRecDepth 8000 in
set_option maxHeartbeats 4000000 in
theorem ms_159 {L : Nat} {xs : Nat → Int32} {d : Nat} (hd : 12 ≤ d) {M : mm_M} {q : (Unit ⊕ Nat) × mm_M} {o : mm_E} (h : mf_159 M = some q) (hA : mm_A (mm_Kr mm_wv) q o) : mm_Runs L xs d 159 (0, mm_ent (mm_ml 159) [.ref 80], [], M) o := by
  unfold mf_159 at h
  obtain ⟨d, rfl⟩ := mm_d1 (n := 11) hd
  show mm_Runs L xs (d + 1) 159 (0, [some (.ref 80), none, none, none], [], M) o
  refine mm_Runs.seq (l := [(0, .aload_n 0, 1)]) (S2 := (1, [some (.ref 80), none, none, none], [.ref 80], M)) (by decide +kernel) (hO := mm_own_159) rfl ?_
  refine mm_R_call (v := mm_wv) h hA (k2 := 160) (as := [.ref 80]) (r := []) rfl (fun _ => rfl) (fun q hq o ho => ms_160 (by omega) hq ho) (fun _ M1 h => ?_)
  show mm_Runs L xs (d + 1) 159 (4, [some (.ref 80), none, none, none], [], M1) o
  refine mm_Runs.seq (l := [(4, .aload_n 0, 1)]) (S2 := (5, [some (.ref 80), none, none, none], [.ref 80], M1)) (by decide +kernel) (hO := mm_own_159) rfl ?_
  refine mm_R_call (v := mm_wv) h hA (k2 := 158) (as := [.ref 80]) (r := []) rfl (fun _ => rfl) (fun q hq o ho => ms_158 (by omega) hq ho) (fun _ M2 h => ?_)
  show mm_Runs L xs (d + 1) 159 (8, [some (.ref 80), none, none, none], [], M2) o
  refine mm_Runs.seq (l := [(8, .aload_n 0, 1), (9, .getfield 15, 3)]) (S2 := (12, [some (.ref 80), none, none, none], [.ref 1], M2)) (by decide +kernel) (hO := mm_own_159) rfl ?_
  refine mm_R_call (v := mm_wi) h hA (k2 := 44) (as := [.ref 1]) (r := []) rfl (fun _ => rfl) (fun q hq o ho => ms_44 (by omega) hq ho) (fun r3 M4 h => ?_)
  show mm_Runs L xs (d + 1) 159 (15, [some (.ref 80), none, none, none], [.int r3], M4) o
  refine mm_R_zeq (t := 22) rfl rfl rfl (fun hc => ?_) (fun hc => ?_)
  · replace h := mm_ip hc h
    refine mm_Runs.seq (l := [(22, .iconst 0, 1)]) (S2 := (23, [some (.ref 80), none, none, none], [.int (0 : Int32)], M4)) (by decide +kernel) (hO := mm_own_159) rfl ?_
    exact (ms_159_j23 hd h hA : mp_159_23 L xs (d + 1) (0 : Int32) M4 o) none none none
  · replace h := mm_iq hc h
    refine mm_Runs.seq (l := [(18, .iconst 1, 1), (19, .goto 4, 3)]) (S2 := (23, [some (.ref 80), none, none, none], [.int (1 : Int32)], M4)) (by decide +kernel) (hO := mm_own_159) rfl ?_
    exact (ms_159_j23 hd h hA : mp_159_23 L xs (d + 1) (1 : Int32) M4 o) none none none
-- 17: PlainPacks.open(I)I (depth 13)
theorem mm_own_17 : mm_own 17 = 0 := rfl
set_option maxRecDepth 8000 in
set_option maxHeartbeats 4000000 in
theorem ms_17 {L : Nat} {xs : Nat → Int32} {d : Nat} (hd : 13 ≤ d) {v1 : Int32} {M : mm_M} {q : (Int32 ⊕ Nat) × mm_M} {o : mm_E} (h : mf_17 v1 M = some q) (hA : mm_A (mm_Kr mm_wi) q o) : mm_Runs L xs d 17 (0, mm_ent (mm_ml 17) [.ref 0, .int v1], [], M) o := by
  unfold mf_17 at h
  obtain ⟨d, rfl⟩ := mm_d1 (n := 12) hd
  show mm_Runs L xs (d + 1) 17 (0, [some (.ref 0), some (.int v1), none], [], M) o
  refine mm_Runs.seq (l := [(0, .iload_n 1, 1)]) (S2 := (1, [some (.ref 0), some (.int v1), none], [.int v1], M)) (by decide +kernel) (hO := mm_own_17) rfl ?_
  refine mm_R_call (v := mm_wv) h hA (k2 := 26) (as := [.int v1]) (r := []) rfl (fun _ => rfl) (fun q hq o ho => ms_26 (by omega) hq ho) (fun _ M1 h => ?_)
  show mm_Runs L xs (d + 1) 17 (4, [some (.ref 0), some (.int v1), none], [], M1) o
  refine mm_Runs.seq (l := [(4, .aload_n 0, 1), (5, .getfield 12, 3)]) (S2 := (8, [some (.ref 0), some (.int v1), none], [.ref 1], M1)) (by decide +kernel) (hO := mm_own_17) rfl ?_
  refine mm_R_call (v := mm_wv) h hA (k2 := 40) (as := [.ref 1]) (r := []) rfl (fun _ => rfl) (fun q hq o ho => ms_40 (by omega) hq ho) (fun _ M2 h => ?_)
  show mm_Runs L xs (d + 1) 17 (11, [some (.ref 0), some (.int v1), none], [], M2) o
  refine mm_Runs.seq (l := [(11, .aload_n 0, 1), (12, .getfield 19, 3)]) (S2 := (15, [some (.ref 0), some (.int v1), none], [.ref 3], M2)) (by decide +kernel) (hO := mm_own_17) rfl ?_
  refine mm_R_call (v := mm_wv) h hA (k2 := 49) (as := [.ref 3]) (r := []) rfl (fun _ => rfl) (fun q hq o ho => ms_49 (by omega) hq ho) (fun _ M3 h => ?_)
  show mm_Runs L xs (d + 1) 17 (18, [some (.ref 0), some (.int v1), none], [], M3) o
  refine mm_Runs.seq (l := [(18, .iload_n 1, 1)]) (S2 := (19, [some (.ref 0), some (.int v1), none], [.int v1], M3)) (by decide +kernel) (hO := mm_own_17) rfl ?_
  by_cases hc0 : v1 = (0 : Int32)
  · replace h := mm_ip hc0 h
    refine mm_R_sw (t := 72) rfl rfl rfl (by rw [hc0]; rfl) ?_
    refine mm_Runs.seq (l := [(72, .aload_n 0, 1), (73, .getfield 63, 3)]) (S2 := (76, [some (.ref 0), some (.int v1), none], [.ref 41], M3)) (by decide +kernel) (hO := mm_own_17) rfl ?_
    refine mm_R_callc (v := mm_wv) (X := 0) (hh := 186) (i := 2) h hA (k2 := 117) (as := [.ref 41]) (r := []) rfl rfl rfl (fun q hq o ho => ms_117 (by omega) hq ho) (fun _ M4 h => ?_) (fun M5 h => ?_)
    · show mm_Runs L xs (d + 1) 17 (79, [some (.ref 0), some (.int v1), none], [], M4) o
      refine mm_Runs.seq (l := [(79, .goto 103, 3), (182, .goto 14, 3), (196, .aload_n 0, 1), (197, .getfield 19, 3), (200, .getfield 118, 3)]) (S2 := (203, [some (.ref 0), some (.int v1), none], [.int (M4.1 3 1)], M4)) (by decide +kernel) (hO := mm_own_17) rfl ?_
      cases h
      exact mm_R_reti rfl rfl hA
    · show mm_Runs L xs (d + 1) 17 (186, [some (.ref 0), some (.int v1), none], [], M5) o
      refine mm_Runs.seq (l := [(186, .iconst (-1), 1), (187, .aload_n 0, 1), (188, .getfield 12, 3), (191, .getfield 171, 3), (194, .isub, 1)]) (S2 := (195, [some (.ref 0), some (.int v1), none], [.int ((-1 : Int32) - (M5.1 1 2))], M5)) (by decide +kernel) (hO := mm_own_17) rfl ?_
      cases h
      exact mm_R_reti rfl rfl hA
  replace h := mm_iq hc0 h
  by_cases hc1 : v1 = (1 : Int32)
  · replace h := mm_ip hc1 h
    refine mm_R_sw (t := 82) rfl rfl rfl (by rw [hc1]; rfl) ?_
    refine mm_Runs.seq (l := [(82, .aload_n 0, 1), (83, .getfield 47, 3), (86, .ldc 138, 2)]) (S2 := (88, [some (.ref 0), some (.int v1), none], [.int (32768 : Int32), .ref 16], M3)) (by decide +kernel) (hO := mm_own_17) rfl ?_
    refine mm_R_callc (v := mm_wv) (X := 0) (hh := 186) (i := 2) h hA (k2 := 79) (as := [.ref 16, .int (32768 : Int32)]) (r := []) rfl rfl rfl (fun q hq o ho => ms_79 (by omega) hq ho) (fun _ M6 h => ?_) (fun M7 h => ?_)
    · show mm_Runs L xs (d + 1) 17 (91, [some (.ref 0), some (.int v1), none], [], M6) o
      refine mm_Runs.seq (l := [(91, .goto 91, 3), (182, .goto 14, 3), (196, .aload_n 0, 1), (197, .getfield 19, 3), (200, .getfield 118, 3)]) (S2 := (203, [some (.ref 0), some (.int v1), none], [.int (M6.1 3 1)], M6)) (by decide +kernel) (hO := mm_own_17) rfl ?_
      cases h
      exact mm_R_reti rfl rfl hA
    · show mm_Runs L xs (d + 1) 17 (186, [some (.ref 0), some (.int v1), none], [], M7) o
      refine mm_Runs.seq (l := [(186, .iconst (-1), 1), (187, .aload_n 0, 1), (188, .getfield 12, 3), (191, .getfield 171, 3), (194, .isub, 1)]) (S2 := (195, [some (.ref 0), some (.int v1), none], [.int ((-1 : Int32) - (M7.1 1 2))], M7)) (by decide +kernel) (hO := mm_own_17) rfl ?_
      cases h
      exact mm_R_reti rfl rfl hA
  replace h := mm_iq hc1 h
  by_cases hc2 : v1 = (2 : Int32)
  · replace h := mm_ip hc2 h
    refine mm_R_sw (t := 94) rfl rfl rfl (by rw [hc2]; rfl) ?_
    refine mm_Runs.seq (l := [(94, .aload_n 0, 1), (95, .getfield 47, 3)]) (S2 := (98, [some (.ref 0), some (.int v1), none], [.ref 16], M3)) (by decide +kernel) (hO := mm_own_17) rfl ?_
    refine mm_R_callc (v := mm_wv) (X := 0) (hh := 186) (i := 2) h hA (k2 := 75) (as := [.ref 16]) (r := []) rfl rfl rfl (fun q hq o ho => ms_75 (by omega) hq ho) (fun _ M8 h => ?_) (fun M9 h => ?_)
    · show mm_Runs L xs (d + 1) 17 (101, [some (.ref 0), some (.int v1), none], [], M8) o
      refine mm_Runs.seq (l := [(101, .goto 81, 3), (182, .goto 14, 3), (196, .aload_n 0, 1), (197, .getfield 19, 3), (200, .getfield 118, 3)]) (S2 := (203, [some (.ref 0), some (.int v1), none], [.int (M8.1 3 1)], M8)) (by decide +kernel) (hO := mm_own_17) rfl ?_
      cases h
      exact mm_R_reti rfl rfl hA
    · show mm_Runs L xs (d + 1) 17 (186, [some (.ref 0), some (.int v1), none], [], M9) o
      refine mm_Runs.seq (l := [(186, .iconst (-1), 1), (187, .aload_n 0, 1), (188, .getfield 12, 3), (191, .getfield 171, 3), (194, .isub, 1)]) (S2 := (195, [some (.ref 0), some (.int v1), none], [.int ((-1 : Int32) - (M9.1 1 2))], M9)) (by decide +kernel) (hO := mm_own_17) rfl ?_
      cases h
      exact mm_R_reti rfl rfl hA
  replace h := mm_iq hc2 h
  by_cases hc3 : v1 = (3 : Int32)
  · replace h := mm_ip hc3 h
    refine mm_R_sw (t := 104) rfl rfl rfl (by rw [hc3]; rfl) ?_
    refine mm_Runs.seq (l := [(104, .aload_n 0, 1), (105, .getfield 47, 3)]) (S2 := (108, [some (.ref 0), some (.int v1), none], [.ref 16], M3)) (by decide +kernel) (hO := mm_own_17) rfl ?_
    refine mm_R_callc (v := mm_wv) (X := 0) (hh := 186) (i := 2) h hA (k2 := 76) (as := [.ref 16]) (r := []) rfl rfl rfl (fun q hq o ho => ms_76 (by omega) hq ho) (fun _ M10 h => ?_) (fun M11 h => ?_)
    · show mm_Runs L xs (d + 1) 17 (111, [some (.ref 0), some (.int v1), none], [], M10) o
      refine mm_Runs.seq (l := [(111, .goto 71, 3), (182, .goto 14, 3), (196, .aload_n 0, 1), (197, .getfield 19, 3), (200, .getfield 118, 3)]) (S2 := (203, [some (.ref 0), some (.int v1), none], [.int (M10.1 3 1)], M10)) (by decide +kernel) (hO := mm_own_17) rfl ?_
      cases h
      exact mm_R_reti rfl rfl hA
    · show mm_Runs L xs (d + 1) 17 (186, [some (.ref 0), some (.int v1), none], [], M11) o
      refine mm_Runs.seq (l := [(186, .iconst (-1), 1), (187, .aload_n 0, 1), (188, .getfield 12, 3), (191, .getfield 171, 3), (194, .isub, 1)]) (S2 := (195, [some (.ref 0), some (.int v1), none], [.int ((-1 : Int32) - (M11.1 1 2))], M11)) (by decide +kernel) (hO := mm_own_17) rfl ?_
      cases h
      exact mm_R_reti rfl rfl hA
  replace h := mm_iq hc3 h
  by_cases hc4 : v1 = (4 : Int32)
  · replace h := mm_ip hc4 h
    refine mm_R_sw (t := 114) rfl rfl rfl (by rw [hc4]; rfl) ?_
    refine mm_Runs.seq (l := [(114, .aload_n 0, 1), (115, .getfield 56, 3)]) (S2 := (118, [some (.ref 0), some (.int v1), none], [.ref 35], M3)) (by decide +kernel) (hO := mm_own_17) rfl ?_
    refine mm_R_callc (v := mm_wv) (X := 0) (hh := 186) (i := 2) h hA (k2 := 107) (as := [.ref 35]) (r := []) rfl rfl rfl (fun q hq o ho => ms_107 (by omega) hq ho) (fun _ M12 h => ?_) (fun M13 h => ?_)
    · show mm_Runs L xs (d + 1) 17 (121, [some (.ref 0), some (.int v1), none], [], M12) o
      refine mm_Runs.seq (l := [(121, .goto 61, 3), (182, .goto 14, 3), (196, .aload_n 0, 1), (197, .getfield 19, 3), (200, .getfield 118, 3)]) (S2 := (203, [some (.ref 0), some (.int v1), none], [.int (M12.1 3 1)], M12)) (by decide +kernel) (hO := mm_own_17) rfl ?_
      cases h
      exact mm_R_reti rfl rfl hA
    · show mm_Runs L xs (d + 1) 17 (186, [some (.ref 0), some (.int v1), none], [], M13) o
      refine mm_Runs.seq (l := [(186, .iconst (-1), 1), (187, .aload_n 0, 1), (188, .getfield 12, 3), (191, .getfield 171, 3), (194, .isub, 1)]) (S2 := (195, [some (.ref 0), some (.int v1), none], [.int ((-1 : Int32) - (M13.1 1 2))], M13)) (by decide +kernel) (hO := mm_own_17) rfl ?_
      cases h
      exact mm_R_reti rfl rfl hA
  replace h := mm_iq hc4 h
  by_cases hc5 : v1 = (5 : Int32)
  · replace h := mm_ip hc5 h
    refine mm_R_sw (t := 124) rfl rfl rfl (by rw [hc5]; rfl) ?_
    refine mm_Runs.seq (l := [(124, .aload_n 0, 1), (125, .getfield 56, 3)]) (S2 := (128, [some (.ref 0), some (.int v1), none], [.ref 35], M3)) (by decide +kernel) (hO := mm_own_17) rfl ?_
    refine mm_R_callc (v := mm_wv) (X := 0) (hh := 186) (i := 2) h hA (k2 := 108) (as := [.ref 35]) (r := []) rfl rfl rfl (fun q hq o ho => ms_108 (by omega) hq ho) (fun _ M14 h => ?_) (fun M15 h => ?_)
    · show mm_Runs L xs (d + 1) 17 (131, [some (.ref 0), some (.int v1), none], [], M14) o
      refine mm_Runs.seq (l := [(131, .goto 51, 3), (182, .goto 14, 3), (196, .aload_n 0, 1), (197, .getfield 19, 3), (200, .getfield 118, 3)]) (S2 := (203, [some (.ref 0), some (.int v1), none], [.int (M14.1 3 1)], M14)) (by decide +kernel) (hO := mm_own_17) rfl ?_
      cases h
      exact mm_R_reti rfl rfl hA
    · show mm_Runs L xs (d + 1) 17 (186, [some (.ref 0), some (.int v1), none], [], M15) o
      refine mm_Runs.seq (l := [(186, .iconst (-1), 1), (187, .aload_n 0, 1), (188, .getfield 12, 3), (191, .getfield 171, 3), (194, .isub, 1)]) (S2 := (195, [some (.ref 0), some (.int v1), none], [.int ((-1 : Int32) - (M15.1 1 2))], M15)) (by decide +kernel) (hO := mm_own_17) rfl ?_
      cases h
      exact mm_R_reti rfl rfl hA
  replace h := mm_iq hc5 h
  by_cases hc6 : v1 = (6 : Int32)
  · replace h := mm_ip hc6 h
    refine mm_R_sw (t := 134) rfl rfl rfl (by rw [hc6]; rfl) ?_
    refine mm_Runs.seq (l := [(134, .aload_n 0, 1), (135, .getfield 63, 3), (138, .iconst 0, 1)]) (S2 := (139, [some (.ref 0), some (.int v1), none], [.int (0 : Int32), .ref 41], M3)) (by decide +kernel) (hO := mm_own_17) rfl ?_
    refine mm_R_callc (v := mm_wv) (X := 0) (hh := 186) (i := 2) h hA (k2 := 118) (as := [.ref 41, .int (0 : Int32)]) (r := []) rfl rfl rfl (fun q hq o ho => ms_118 (by omega) hq ho) (fun _ M16 h => ?_) (fun M17 h => ?_)
    · show mm_Runs L xs (d + 1) 17 (142, [some (.ref 0), some (.int v1), none], [], M16) o
      refine mm_Runs.seq (l := [(142, .goto 40, 3), (182, .goto 14, 3), (196, .aload_n 0, 1), (197, .getfield 19, 3), (200, .getfield 118, 3)]) (S2 := (203, [some (.ref 0), some (.int v1), none], [.int (M16.1 3 1)], M16)) (by decide +kernel) (hO := mm_own_17) rfl ?_
      cases h
      exact mm_R_reti rfl rfl hA
    · show mm_Runs L xs (d + 1) 17 (186, [some (.ref 0), some (.int v1), none], [], M17) o
      refine mm_Runs.seq (l := [(186, .iconst (-1), 1), (187, .aload_n 0, 1), (188, .getfield 12, 3), (191, .getfield 171, 3), (194, .isub, 1)]) (S2 := (195, [some (.ref 0), some (.int v1), none], [.int ((-1 : Int32) - (M17.1 1 2))], M17)) (by decide +kernel) (hO := mm_own_17) rfl ?_
      cases h
      exact mm_R_reti rfl rfl hA
  replace h := mm_iq hc6 h
  by_cases hc7 : v1 = (7 : Int32)
  · replace h := mm_ip hc7 h
    refine mm_R_sw (t := 145) rfl rfl rfl (by rw [hc7]; rfl) ?_
    refine mm_Runs.seq (l := [(145, .aload_n 0, 1), (146, .getfield 63, 3)]) (S2 := (149, [some (.ref 0), some (.int v1), none], [.ref 41], M3)) (by decide +kernel) (hO := mm_own_17) rfl ?_
    refine mm_R_callc (v := mm_wv) (X := 0) (hh := 186) (i := 2) h hA (k2 := 121) (as := [.ref 41]) (r := []) rfl rfl rfl (fun q hq o ho => ms_121 (by omega) hq ho) (fun _ M18 h => ?_) (fun M19 h => ?_)
    · show mm_Runs L xs (d + 1) 17 (152, [some (.ref 0), some (.int v1), none], [], M18) o
      refine mm_Runs.seq (l := [(152, .goto 30, 3), (182, .goto 14, 3), (196, .aload_n 0, 1), (197, .getfield 19, 3), (200, .getfield 118, 3)]) (S2 := (203, [some (.ref 0), some (.int v1), none], [.int (M18.1 3 1)], M18)) (by decide +kernel) (hO := mm_own_17) rfl ?_
      cases h
      exact mm_R_reti rfl rfl hA
    · show mm_Runs L xs (d + 1) 17 (186, [some (.ref 0), some (.int v1), none], [], M19) o
      refine mm_Runs.seq (l := [(186, .iconst (-1), 1), (187, .aload_n 0, 1), (188, .getfield 12, 3), (191, .getfield 171, 3), (194, .isub, 1)]) (S2 := (195, [some (.ref 0), some (.int v1), none], [.int ((-1 : Int32) - (M19.1 1 2))], M19)) (by decide +kernel) (hO := mm_own_17) rfl ?_
      cases h
      exact mm_R_reti rfl rfl hA
  replace h := mm_iq hc7 h
  by_cases hc8 : v1 = (8 : Int32)
  · replace h := mm_ip hc8 h
    refine mm_R_sw (t := 155) rfl rfl rfl (by rw [hc8]; rfl) ?_
    refine mm_Runs.seq (l := [(155, .aload_n 0, 1), (156, .getfield 63, 3)]) (S2 := (159, [some (.ref 0), some (.int v1), none], [.ref 41], M3)) (by decide +kernel) (hO := mm_own_17) rfl ?_
    refine mm_R_callc (v := mm_wv) (X := 0) (hh := 186) (i := 2) h hA (k2 := 124) (as := [.ref 41]) (r := []) rfl rfl rfl (fun q hq o ho => ms_124 (by omega) hq ho) (fun _ M20 h => ?_) (fun M21 h => ?_)
    · show mm_Runs L xs (d + 1) 17 (162, [some (.ref 0), some (.int v1), none], [], M20) o
      refine mm_Runs.seq (l := [(162, .goto 20, 3), (182, .goto 14, 3), (196, .aload_n 0, 1), (197, .getfield 19, 3), (200, .getfield 118, 3)]) (S2 := (203, [some (.ref 0), some (.int v1), none], [.int (M20.1 3 1)], M20)) (by decide +kernel) (hO := mm_own_17) rfl ?_
      cases h
      exact mm_R_reti rfl rfl hA
    · show mm_Runs L xs (d + 1) 17 (186, [some (.ref 0), some (.int v1), none], [], M21) o
      refine mm_Runs.seq (l := [(186, .iconst (-1), 1), (187, .aload_n 0, 1), (188, .getfield 12, 3), (191, .getfield 171, 3), (194, .isub, 1)]) (S2 := (195, [some (.ref 0), some (.int v1), none], [.int ((-1 : Int32) - (M21.1 1 2))], M21)) (by decide +kernel) (hO := mm_own_17) rfl ?_
      cases h
      exact mm_R_reti rfl rfl hA
  replace h := mm_iq hc8 h
  by_cases hc9 : v1 = (9 : Int32)
  · replace h := mm_ip hc9 h
    refine mm_R_sw (t := 165) rfl rfl rfl (by rw [hc9]; rfl) ?_
    refine mm_Runs.seq (l := [(165, .aload_n 0, 1), (166, .getfield 72, 3)]) (S2 := (169, [some (.ref 0), some (.int v1), none], [.ref 42], M3)) (by decide +kernel) (hO := mm_own_17) rfl ?_
    refine mm_R_callc (v := mm_wv) (X := 0) (hh := 186) (i := 2) h hA (k2 := 137) (as := [.ref 42]) (r := []) rfl rfl rfl (fun q hq o ho => ms_137 (by omega) hq ho) (fun _ M22 h => ?_) (fun M23 h => ?_)
    · show mm_Runs L xs (d + 1) 17 (172, [some (.ref 0), some (.int v1), none], [], M22) o
      refine mm_Runs.seq (l := [(172, .goto 10, 3), (182, .goto 14, 3), (196, .aload_n 0, 1), (197, .getfield 19, 3), (200, .getfield 118, 3)]) (S2 := (203, [some (.ref 0), some (.int v1), none], [.int (M22.1 3 1)], M22)) (by decide +kernel) (hO := mm_own_17) rfl ?_
      cases h
      exact mm_R_reti rfl rfl hA
    · show mm_Runs L xs (d + 1) 17 (186, [some (.ref 0), some (.int v1), none], [], M23) o
      refine mm_Runs.seq (l := [(186, .iconst (-1), 1), (187, .aload_n 0, 1), (188, .getfield 12, 3), (191, .getfield 171, 3), (194, .isub, 1)]) (S2 := (195, [some (.ref 0), some (.int v1), none], [.int ((-1 : Int32) - (M23.1 1 2))], M23)) (by decide +kernel) (hO := mm_own_17) rfl ?_
      cases h
      exact mm_R_reti rfl rfl hA
  replace h := mm_iq hc9 h
  have e0 := mm_i32 (n := 0) hc0 (by decide) (by decide)
  have e1 := mm_i32 (n := 1) hc1 (by decide) (by decide)
  have e2 := mm_i32 (n := 2) hc2 (by decide) (by decide)
  have e3 := mm_i32 (n := 3) hc3 (by decide) (by decide)
  have e4 := mm_i32 (n := 4) hc4 (by decide) (by decide)
  have e5 := mm_i32 (n := 5) hc5 (by decide) (by decide)
  have e6 := mm_i32 (n := 6) hc6 (by decide) (by decide)
  have e7 := mm_i32 (n := 7) hc7 (by decide) (by decide)
  have e8 := mm_i32 (n := 8) hc8 (by decide) (by decide)
  have e9 := mm_i32 (n := 9) hc9 (by decide) (by decide)
  refine mm_R_sw (t := 175) rfl rfl rfl (mm_tsd (by omega) rfl rfl) ?_
  refine mm_Runs.seq (l := [(175, .aload_n 0, 1), (176, .getfield 79, 3)]) (S2 := (179, [some (.ref 0), some (.int v1), none], [.ref 80], M3)) (by decide +kernel) (hO := mm_own_17) rfl ?_
  refine mm_R_callc (v := mm_wv) (X := 0) (hh := 186) (i := 2) h hA (k2 := 159) (as := [.ref 80]) (r := []) rfl rfl rfl (fun q hq o ho => ms_159 (by omega) hq ho) (fun _ M24 h => ?_) (fun M25 h => ?_)
  · show mm_Runs L xs (d + 1) 17 (182, [some (.ref 0), some (.int v1), none], [], M24) o
    refine mm_Runs.seq (l := [(182, .goto 14, 3), (196, .aload_n 0, 1), (197, .getfield 19, 3), (200, .getfield 118, 3)]) (S2 := (203, [some (.ref 0), some (.int v1), none], [.int (M24.1 3 1)], M24)) (by decide +kernel) (hO := mm_own_17) rfl ?_
    cases h
    exact mm_R_reti rfl rfl hA
  · show mm_Runs L xs (d + 1) 17 (186, [some (.ref 0), some (.int v1), none], [], M25) o
    refine mm_Runs.seq (l := [(186, .iconst (-1), 1), (187, .aload_n 0, 1), (188, .getfield 12, 3), (191, .getfield 171, 3), (194, .isub, 1)]) (S2 := (195, [some (.ref 0), some (.int v1), none], [.int ((-1 : Int32) - (M25.1 1 2))], M25)) (by decide +kernel) (hO := mm_own_17) rfl ?_
    cases h
    exact mm_R_reti rfl rfl hA
