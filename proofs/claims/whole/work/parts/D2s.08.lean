/-! MEANINGS ARE SOUND 8 -/
-- 126: PlainPacks$Pieces.readTagDistance(I)J (depth 9)
theorem mm_own_126 : mm_own 126 = 9 := rfl
def mp_126_41 (L : Nat) (xs : Nat → Int32) (d : Nat) (s1 : Int32) (M : mm_M) (o : mm_E) : Prop := ∀ z0 z1 : Option Value, mm_Runs L xs d 126 (41, [z0, z1], [.int s1, .ref 1], M) o
set_option maxRecDepth 8000 in
set_option maxHeartbeats 4000000 in
theorem ms_126_j41 {L : Nat} {xs : Nat → Int32} {d : Nat} (hd : 9 ≤ d) {s1 : Int32} {M : mm_M} {q : (Int64 ⊕ Nat) × mm_M} {o : mm_E} (h : mf_126_j41 s1 M = some q) (hA : mm_A (mm_Kr mm_wl) q o) : mp_126_41 L xs d s1 M o := by
  unfold mf_126_j41 at h
  obtain ⟨d, rfl⟩ := mm_d1 (n := 8) hd
  intro z0 z1
  show mm_Runs L xs (d + 1) 126 (41, [z0, z1], [.int s1, .ref 1], M) o
  refine mm_R_call (v := mm_wl) h hA (k2 := 47) (as := [.ref 1, .int s1]) (r := []) rfl (fun _ => rfl) (fun q hq o ho => ms_47 (by omega) hq ho) (fun r1 M2 h => ?_)
  show mm_Runs L xs (d + 1) 126 (44, [z0, z1], [.long r1], M2) o
  cases h
  exact mm_R_retl rfl rfl hA
set_option maxRecDepth 8000 in
set_option maxHeartbeats 4000000 in
theorem ms_126 {L : Nat} {xs : Nat → Int32} {d : Nat} (hd : 9 ≤ d) {v1 : Int32} {M : mm_M} {q : (Int64 ⊕ Nat) × mm_M} {o : mm_E} (h : mf_126 v1 M = some q) (hA : mm_A (mm_Kr mm_wl) q o) : mm_Runs L xs d 126 (0, mm_ent (mm_ml 126) [.ref 41, .int v1], [], M) o := by
  unfold mf_126 at h
  obtain ⟨d, rfl⟩ := mm_d1 (n := 8) hd
  show mm_Runs L xs (d + 1) 126 (0, [some (.ref 41), some (.int v1)], [], M) o
  refine mm_Runs.seq (l := [(0, .iload_n 1, 1), (1, .iconst 4, 1), (2, .irem, 1), (3, .iconst 1, 1)]) (S2 := (4, [some (.ref 41), some (.int v1)], [.int (1 : Int32), .int (mm_rem v1 (4 : Int32))], M)) (by decide +kernel) (hO := mm_own_126) rfl ?_
  refine mm_R_ine (t := 25) rfl rfl rfl (fun hc => ?_) (fun hc => ?_)
  · replace h := mm_ip hc h
    refine mm_Runs.seq (l := [(7, .iload_n 1, 1), (8, .bipush 32, 2), (10, .idiv, 1), (11, .sipush 256, 3), (14, .imul, 1), (15, .aload_n 0, 1), (16, .getfield 9, 3)]) (S2 := (19, [some (.ref 41), some (.int v1)], [.ref 1, .int ((v1 / (32 : Int32)) * (256 : Int32))], M)) (by decide +kernel) (hO := mm_own_126) rfl ?_
    refine mm_R_call (v := mm_wi) h hA (k2 := 44) (as := [.ref 1]) (r := [.int ((v1 / (32 : Int32)) * (256 : Int32))]) rfl (fun _ => rfl) (fun q hq o ho => ms_44 (by omega) hq ho) (fun r1 M2 h => ?_)
    show mm_Runs L xs (d + 1) 126 (22, [some (.ref 41), some (.int v1)], [.int r1, .int ((v1 / (32 : Int32)) * (256 : Int32))], M2) o
    refine mm_Runs.seq (l := [(22, .iadd, 1), (23, .i2l, 1)]) (S2 := (24, [some (.ref 41), some (.int v1)], [.long (((v1 / (32 : Int32)) * (256 : Int32)) + r1).toInt64], M2)) (by decide +kernel) (hO := mm_own_126) rfl ?_
    cases h
    exact mm_R_retl rfl rfl hA
  · replace h := mm_iq hc h
    refine mm_Runs.seq (l := [(25, .aload_n 0, 1), (26, .getfield 9, 3), (29, .iload_n 1, 1), (30, .iconst 4, 1), (31, .irem, 1), (32, .iconst 2, 1)]) (S2 := (33, [some (.ref 41), some (.int v1)], [.int (2 : Int32), .int (mm_rem v1 (4 : Int32)), .ref 1], M)) (by decide +kernel) (hO := mm_own_126) rfl ?_
    refine mm_R_ine (t := 40) rfl rfl rfl (fun hc => ?_) (fun hc => ?_)
    · replace h := mm_ip hc h
      refine mm_Runs.seq (l := [(36, .iconst 2, 1), (37, .goto 4, 3)]) (S2 := (41, [some (.ref 41), some (.int v1)], [.int (2 : Int32), .ref 1], M)) (by decide +kernel) (hO := mm_own_126) rfl ?_
      exact (ms_126_j41 hd h hA : mp_126_41 L xs (d + 1) (2 : Int32) M o) (some (.ref 41)) (some (.int v1))
    · replace h := mm_iq hc h
      refine mm_Runs.seq (l := [(40, .iconst 4, 1)]) (S2 := (41, [some (.ref 41), some (.int v1)], [.int (4 : Int32), .ref 1], M)) (by decide +kernel) (hO := mm_own_126) rfl ?_
      exact (ms_126_j41 hd h hA : mp_126_41 L xs (d + 1) (4 : Int32) M o) (some (.ref 41)) (some (.int v1))
-- 124: PlainPacks$Pieces.readTags()V (depth 10)
theorem mm_own_124 : mm_own 124 = 9 := rfl
def mp_124_18 (L : Nat) (xs : Nat → Int32) (d : Nat) (v1 : Int64) (s0 : Int32) (M : mm_M) (o : mm_E) : Prop := ∀ z2 z3 z4 z5 z6 z7 : Option Value, mm_Runs L xs d 124 (18, [some (.ref 41), some (.long v1), z2, z3, z4, z5, z6, z7], [.int s0], M) o
def mp_124_23 (L : Nat) (xs : Nat → Int32) (d : Nat) (v1 : Int64) (v3 : Int32) (M : mm_M) (o : mm_E) : Prop := ∀ z2 z4 z5 z6 z7 : Option Value, mm_Runs L xs d 124 (23, [some (.ref 41), some (.long v1), z2, some (.int v3), z4, z5, z6, z7], [], M) o
def mp_124_195 (L : Nat) (xs : Nat → Int32) (d : Nat) (M : mm_M) (o : mm_E) : Prop := ∀ z0 z1 z2 z3 z4 z5 z6 z7 : Option Value, mm_Runs L xs d 124 (195, [z0, z1, z2, z3, z4, z5, z6, z7], [], M) o
def mp_124_90 (L : Nat) (xs : Nat → Int32) (d : Nat) (v1 : Int64) (v3 : Int32) (s0 : Int64) (s1 : Int64) (M : mm_M) (o : mm_E) : Prop := ∀ z2 z4 z5 z6 z7 : Option Value, mm_Runs L xs d 124 (90, [some (.ref 41), some (.long v1), z2, some (.int v3), z4, z5, z6, z7], [.long s1, .long s0], M) o
def mp_124_114 (L : Nat) (xs : Nat → Int32) (d : Nat) (v1 : Int64) (v3 : Int32) (v6 : Int64) (s0 : Int32) (M : mm_M) (o : mm_E) : Prop := ∀ z2 z4 z5 z7 : Option Value, mm_Runs L xs d 124 (114, [some (.ref 41), some (.long v1), z2, some (.int v3), z4, z5, some (.long v6), z7], [.int s0], M) o
set_option maxRecDepth 8000 in
set_option maxHeartbeats 4000000 in
theorem ms_124_j114 {L : Nat} {xs : Nat → Int32} {d : Nat} (hd : 10 ≤ d) {v1 : Int64} {v3 : Int32} {v6 : Int64} {s0 : Int32} {M : mm_M} {q : (((Int32) ⊕ (Unit)) ⊕ Nat) × mm_M} {o : mm_E} (h : mf_124_j114 v1 v3 v6 s0 M = some q) (hA : mm_A (mm_K2 (fun s M o => mp_124_23 L xs (d) v1 s M o) (fun r M o => mp_124_195 L xs (d) M o)) q o) : mp_124_114 L xs d v1 v3 v6 s0 M o := by
  unfold mf_124_j114 at h
  obtain ⟨d, rfl⟩ := mm_d1 (n := 9) hd
  intro z2 z4 z5 z7
  show mm_Runs L xs (d + 1) 124 (114, [some (.ref 41), some (.long v1), z2, some (.int v3), z4, z5, some (.long v6), z7], [.int s0], M) o
  refine mm_R_call (v := mm_wv) h hA (k2 := 27) (as := [.int s0]) (r := []) rfl (fun _ => rfl) (fun q hq o ho => ms_27 (by omega) hq ho) (fun _ M1 h => ?_)
  show mm_Runs L xs (d + 1) 124 (117, [some (.ref 41), some (.long v1), z2, some (.int v3), z4, z5, some (.long v6), z7], [], M1) o
  refine mm_Runs.seq (l := [(117, .aload_n 0, 1), (118, .lload 6, 2)]) (S2 := (120, [some (.ref 41), some (.long v1), z2, some (.int v3), z4, z5, some (.long v6), z7], [.long v6, .ref 41], M1)) (by decide +kernel) (hO := mm_own_124) rfl ?_
  refine mm_R_call (v := mm_wv) h hA (k2 := 120) (as := [.ref 41, .long v6]) (r := []) rfl (fun _ => rfl) (fun q hq o ho => ms_120 (by omega) hq ho) (fun _ M2 h => ?_)
  show mm_Runs L xs (d + 1) 124 (123, [some (.ref 41), some (.long v1), z2, some (.int v3), z4, z5, some (.long v6), z7], [], M2) o
  refine mm_Runs.seq (l := [(123, .goto 66, 3), (189, .iinc 3 1, 3), (192, .goto (-169), 3)]) (S2 := (23, [some (.ref 41), some (.long v1), (mm_no2 z2), some (.int (v3 + (1 : Int32))), z4, z5, some (.long v6), z7], [], M2)) (by decide +kernel) (hO := mm_own_124) rfl ?_
  cases h
  exact (show mp_124_23 L xs (d + 1) v1 (v3 + (1 : Int32)) M2 o from hA) ((mm_no2 z2)) z4 z5 (some (.long v6)) z7
set_option maxRecDepth 8000 in
set_option maxHeartbeats 4000000 in
theorem ms_124_j90 {L : Nat} {xs : Nat → Int32} {d : Nat} (hd : 10 ≤ d) {v1 : Int64} {v3 : Int32} {s0 : Int64} {s1 : Int64} {M : mm_M} {q : (((Int32) ⊕ (Unit)) ⊕ Nat) × mm_M} {o : mm_E} (h : mf_124_j90 v1 v3 s0 s1 M = some q) (hA : mm_A (mm_K2 (fun s M o => mp_124_23 L xs (d) v1 s M o) (fun r M o => mp_124_195 L xs (d) M o)) q o) : mp_124_90 L xs d v1 v3 s0 s1 M o := by
  unfold mf_124_j90 at h
  obtain ⟨d, rfl⟩ := mm_d1 (n := 9) hd
  intro z2 z4 z5 z6 z7
  show mm_Runs L xs (d + 1) 124 (90, [some (.ref 41), some (.long v1), z2, some (.int v3), z4, z5, z6, z7], [.long s1, .long s0], M) o
  refine mm_Runs.seq (l := [(90, .ladd, 1), (91, .lstore 6, 2), (93, .aload_n 0, 1), (94, .getfield 15, 3), (97, .getfield 56, 3), (100, .i2l, 1), (101, .lload 6, 2), (103, .ladd, 1), (104, .lload_n 1, 1)]) (S2 := (105, [some (.ref 41), some (.long v1), z2, some (.int v3), z4, (mm_no2 z5), some (.long (s0 + s1)), none], [.long v1, .long ((M.1 3 1).toInt64 + (s0 + s1))], M)) (by decide +kernel) (hO := mm_own_124) rfl ?_
  refine mm_R_lle (t := 113) rfl rfl rfl rfl (fun hc => ?_) (fun hc => ?_)
  · replace h := mm_ip hc h
    refine mm_Runs.seq (l := [(109, .iconst 1, 1), (110, .goto 4, 3)]) (S2 := (114, [some (.ref 41), some (.long v1), z2, some (.int v3), z4, (mm_no2 z5), some (.long (s0 + s1)), none], [.int (1 : Int32)], M)) (by decide +kernel) (hO := mm_own_124) rfl ?_
    exact (ms_124_j114 hd h hA : mp_124_114 L xs (d + 1) v1 v3 (s0 + s1) (1 : Int32) M o) z2 z4 ((mm_no2 z5)) none
  · replace h := mm_iq hc h
    refine mm_Runs.seq (l := [(113, .iconst 0, 1)]) (S2 := (114, [some (.ref 41), some (.long v1), z2, some (.int v3), z4, (mm_no2 z5), some (.long (s0 + s1)), none], [.int (0 : Int32)], M)) (by decide +kernel) (hO := mm_own_124) rfl ?_
    exact (ms_124_j114 hd h hA : mp_124_114 L xs (d + 1) v1 v3 (s0 + s1) (0 : Int32) M o) z2 z4 ((mm_no2 z5)) none
def mp_124_148 (L : Nat) (xs : Nat → Int32) (d : Nat) (v1 : Int64) (v3 : Int32) (v4 : Int32) (s0 : Int32) (M : mm_M) (o : mm_E) : Prop := ∀ z2 z5 z6 z7 : Option Value, mm_Runs L xs d 124 (148, [some (.ref 41), some (.long v1), z2, some (.int v3), some (.int v4), z5, z6, z7], [.int s0], M) o
def mp_124_171 (L : Nat) (xs : Nat → Int32) (d : Nat) (v1 : Int64) (v3 : Int32) (v4 : Int32) (v6 : Int32) (s0 : Int32) (M : mm_M) (o : mm_E) : Prop := ∀ z2 z5 z7 : Option Value, mm_Runs L xs d 124 (171, [some (.ref 41), some (.long v1), z2, some (.int v3), some (.int v4), z5, some (.int v6), z7], [.int s0], M) o
set_option maxRecDepth 8000 in
set_option maxHeartbeats 4000000 in
theorem ms_124_j171 {L : Nat} {xs : Nat → Int32} {d : Nat} (hd : 10 ≤ d) {v1 : Int64} {v3 : Int32} {v4 : Int32} {v6 : Int32} {s0 : Int32} {M : mm_M} {q : (((Int32) ⊕ (Unit)) ⊕ Nat) × mm_M} {o : mm_E} (h : mf_124_j171 v1 v3 v4 v6 s0 M = some q) (hA : mm_A (mm_K2 (fun s M o => mp_124_23 L xs (d) v1 s M o) (fun r M o => mp_124_195 L xs (d) M o)) q o) : mp_124_171 L xs d v1 v3 v4 v6 s0 M o := by
  unfold mf_124_j171 at h
  obtain ⟨d, rfl⟩ := mm_d1 (n := 9) hd
  intro z2 z5 z7
  show mm_Runs L xs (d + 1) 124 (171, [some (.ref 41), some (.long v1), z2, some (.int v3), some (.int v4), z5, some (.int v6), z7], [.int s0], M) o
  refine mm_R_call (v := mm_wv) h hA (k2 := 27) (as := [.int s0]) (r := []) rfl (fun _ => rfl) (fun q hq o ho => ms_27 (by omega) hq ho) (fun _ M1 h => ?_)
  show mm_Runs L xs (d + 1) 124 (174, [some (.ref 41), some (.long v1), z2, some (.int v3), some (.int v4), z5, some (.int v6), z7], [], M1) o
  refine mm_Runs.seq (l := [(174, .aload_n 0, 1), (175, .getfield 15, 3), (178, .iload 6, 2), (180, .aload_n 0, 1), (181, .iload 4, 2)]) (S2 := (183, [some (.ref 41), some (.long v1), z2, some (.int v3), some (.int v4), z5, some (.int v6), z7], [.int v4, .ref 41, .int v6, .ref 3], M1)) (by decide +kernel) (hO := mm_own_124) rfl ?_
  refine mm_R_call (v := mm_wl) h hA (k2 := 126) (as := [.ref 41, .int v4]) (r := [.int v6, .ref 3]) rfl (fun _ => rfl) (fun q hq o ho => ms_126 (by omega) hq ho) (fun r2 M3 h => ?_)
  show mm_Runs L xs (d + 1) 124 (186, [some (.ref 41), some (.long v1), z2, some (.int v3), some (.int v4), z5, some (.int v6), z7], [.long r2, .int v6, .ref 3], M3) o
  refine mm_R_call (v := mm_wv) h hA (k2 := 53) (as := [.ref 3, .int v6, .long r2]) (r := []) rfl (fun _ => rfl) (fun q hq o ho => ms_53 (by omega) hq ho) (fun _ M4 h => ?_)
  show mm_Runs L xs (d + 1) 124 (189, [some (.ref 41), some (.long v1), z2, some (.int v3), some (.int v4), z5, some (.int v6), z7], [], M4) o
  refine mm_Runs.seq (l := [(189, .iinc 3 1, 3), (192, .goto (-169), 3)]) (S2 := (23, [some (.ref 41), some (.long v1), (mm_no2 z2), some (.int (v3 + (1 : Int32))), some (.int v4), z5, some (.int v6), z7], [], M4)) (by decide +kernel) (hO := mm_own_124) rfl ?_
  cases h
  exact (show mp_124_23 L xs (d + 1) v1 (v3 + (1 : Int32)) M4 o from hA) ((mm_no2 z2)) (some (.int v4)) z5 (some (.int v6)) z7
set_option maxRecDepth 8000 in
set_option maxHeartbeats 4000000 in
theorem ms_124_j148 {L : Nat} {xs : Nat → Int32} {d : Nat} (hd : 10 ≤ d) {v1 : Int64} {v3 : Int32} {v4 : Int32} {s0 : Int32} {M : mm_M} {q : (((Int32) ⊕ (Unit)) ⊕ Nat) × mm_M} {o : mm_E} (h : mf_124_j148 v1 v3 v4 s0 M = some q) (hA : mm_A (mm_K2 (fun s M o => mp_124_23 L xs (d) v1 s M o) (fun r M o => mp_124_195 L xs (d) M o)) q o) : mp_124_148 L xs d v1 v3 v4 s0 M o := by
  unfold mf_124_j148 at h
  obtain ⟨d, rfl⟩ := mm_d1 (n := 9) hd
  intro z2 z5 z6 z7
  show mm_Runs L xs (d + 1) 124 (148, [some (.ref 41), some (.long v1), z2, some (.int v3), some (.int v4), z5, z6, z7], [.int s0], M) o
  refine mm_Runs.seq (l := [(148, .istore 6, 2), (150, .aload_n 0, 1), (151, .getfield 15, 3), (154, .getfield 56, 3), (157, .iload 6, 2), (159, .iadd, 1), (160, .i2l, 1), (161, .lload_n 1, 1)]) (S2 := (162, [some (.ref 41), some (.long v1), z2, some (.int v3), some (.int v4), (mm_no2 z5), some (.int s0), z7], [.long v1, .long ((M.1 3 1) + s0).toInt64], M)) (by decide +kernel) (hO := mm_own_124) rfl ?_
  refine mm_R_lle (t := 170) rfl rfl rfl rfl (fun hc => ?_) (fun hc => ?_)
  · replace h := mm_ip hc h
    refine mm_Runs.seq (l := [(166, .iconst 1, 1), (167, .goto 4, 3)]) (S2 := (171, [some (.ref 41), some (.long v1), z2, some (.int v3), some (.int v4), (mm_no2 z5), some (.int s0), z7], [.int (1 : Int32)], M)) (by decide +kernel) (hO := mm_own_124) rfl ?_
    exact (ms_124_j171 hd h hA : mp_124_171 L xs (d + 1) v1 v3 v4 s0 (1 : Int32) M o) z2 ((mm_no2 z5)) z7
  · replace h := mm_iq hc h
    refine mm_Runs.seq (l := [(170, .iconst 0, 1)]) (S2 := (171, [some (.ref 41), some (.long v1), z2, some (.int v3), some (.int v4), (mm_no2 z5), some (.int s0), z7], [.int (0 : Int32)], M)) (by decide +kernel) (hO := mm_own_124) rfl ?_
    exact (ms_124_j171 hd h hA : mp_124_171 L xs (d + 1) v1 v3 v4 s0 (0 : Int32) M o) z2 ((mm_no2 z5)) z7
set_option maxRecDepth 8000 in
set_option maxHeartbeats 4000000 in
theorem ms_124_b23 {L : Nat} {xs : Nat → Int32} {d : Nat} (hd : 10 ≤ d) {v1 : Int64} {v3 : Int32} {M : mm_M} {q : (((Int32) ⊕ (Unit)) ⊕ Nat) × mm_M} {o : mm_E} (h : mf_124_b23 v1 v3 M = some q) (hA : mm_A (mm_K2 (fun s M o => mp_124_23 L xs (d) v1 s M o) (fun r M o => mp_124_195 L xs (d) M o)) q o) : mp_124_23 L xs d v1 v3 M o := by
  unfold mf_124_b23 at h
  obtain ⟨d, rfl⟩ := mm_d1 (n := 9) hd
  intro z2 z4 z5 z6 z7
  show mm_Runs L xs (d + 1) 124 (23, [some (.ref 41), some (.long v1), z2, some (.int v3), z4, z5, z6, z7], [], M) o
  refine mm_Runs.seq (l := [(23, .iload_n 3, 1), (24, .ldc 27, 2)]) (S2 := (26, [some (.ref 41), some (.long v1), z2, some (.int v3), z4, z5, z6, z7], [.int (1000000 : Int32), .int v3], M)) (by decide +kernel) (hO := mm_own_124) rfl ?_
  refine mm_R_ige (t := 195) rfl rfl rfl (fun hc => ?_) (fun hc => ?_)
  · replace h := mm_ip hc h
    refine mm_Runs.seq (l := [(29, .aload_n 0, 1), (30, .getfield 15, 3), (33, .getfield 56, 3), (36, .i2l, 1), (37, .lload_n 1, 1)]) (S2 := (38, [some (.ref 41), some (.long v1), z2, some (.int v3), z4, z5, z6, z7], [.long v1, .long (M.1 3 1).toInt64], M)) (by decide +kernel) (hO := mm_own_124) rfl ?_
    refine mm_R_lge (t := 195) rfl rfl rfl rfl (fun hc => ?_) (fun hc => ?_)
    · replace h := mm_ip hc h
      refine mm_Runs.seq (l := [(42, .aload_n 0, 1), (43, .getfield 9, 3)]) (S2 := (46, [some (.ref 41), some (.long v1), z2, some (.int v3), z4, z5, z6, z7], [.ref 1], M)) (by decide +kernel) (hO := mm_own_124) rfl ?_
      refine mm_R_call (v := mm_wi) h hA (k2 := 44) (as := [.ref 1]) (r := []) rfl (fun _ => rfl) (fun q hq o ho => ms_44 (by omega) hq ho) (fun r1 M2 h => ?_)
      show mm_Runs L xs (d + 1) 124 (49, [some (.ref 41), some (.long v1), z2, some (.int v3), z4, z5, z6, z7], [.int r1], M2) o
      refine mm_Runs.seq (l := [(49, .istore 4, 2), (51, .iload 4, 2), (53, .iconst 2, 1), (54, .ishr, 1), (55, .istore 5, 2), (57, .iload 4, 2), (59, .iconst 4, 1), (60, .irem, 1)]) (S2 := (61, [some (.ref 41), some (.long v1), z2, some (.int v3), some (.int r1), some (.int (mm_shr r1 (2 : Int32))), z6, z7], [.int (mm_rem r1 (4 : Int32))], M2)) (by decide +kernel) (hO := mm_own_124) rfl ?_
      refine mm_R_zne (t := 126) rfl rfl rfl (fun hc => ?_) (fun hc => ?_)
      · replace h := mm_ip hc h
        refine mm_Runs.seq (l := [(64, .lconst 1, 1), (65, .iload 5, 2), (67, .bipush 60, 2)]) (S2 := (69, [some (.ref 41), some (.long v1), z2, some (.int v3), some (.int r1), some (.int (mm_shr r1 (2 : Int32))), z6, z7], [.int (60 : Int32), .int (mm_shr r1 (2 : Int32)), .long (1 : Int64)], M2)) (by decide +kernel) (hO := mm_own_124) rfl ?_
        refine mm_R_ige (t := 78) rfl rfl rfl (fun hc => ?_) (fun hc => ?_)
        · replace h := mm_ip hc h
          refine mm_Runs.seq (l := [(72, .iload 5, 2), (74, .i2l, 1), (75, .goto 15, 3)]) (S2 := (90, [some (.ref 41), some (.long v1), z2, some (.int v3), some (.int r1), some (.int (mm_shr r1 (2 : Int32))), z6, z7], [.long (mm_shr r1 (2 : Int32)).toInt64, .long (1 : Int64)], M2)) (by decide +kernel) (hO := mm_own_124) rfl ?_
          exact (ms_124_j90 hd h hA : mp_124_90 L xs (d + 1) v1 v3 (1 : Int64) (mm_shr r1 (2 : Int32)).toInt64 M2 o) z2 (some (.int r1)) (some (.int (mm_shr r1 (2 : Int32)))) z6 z7
        · replace h := mm_iq hc h
          refine mm_Runs.seq (l := [(78, .aload_n 0, 1), (79, .getfield 9, 3), (82, .iload 5, 2), (84, .bipush 59, 2), (86, .isub, 1)]) (S2 := (87, [some (.ref 41), some (.long v1), z2, some (.int v3), some (.int r1), some (.int (mm_shr r1 (2 : Int32))), z6, z7], [.int ((mm_shr r1 (2 : Int32)) - (59 : Int32)), .ref 1, .long (1 : Int64)], M2)) (by decide +kernel) (hO := mm_own_124) rfl ?_
          refine mm_R_call (v := mm_wl) h hA (k2 := 47) (as := [.ref 1, .int ((mm_shr r1 (2 : Int32)) - (59 : Int32))]) (r := [.long (1 : Int64)]) rfl (fun _ => rfl) (fun q hq o ho => ms_47 (by omega) hq ho) (fun r3 M4 h => ?_)
          show mm_Runs L xs (d + 1) 124 (90, [some (.ref 41), some (.long v1), z2, some (.int v3), some (.int r1), some (.int (mm_shr r1 (2 : Int32))), z6, z7], [.long r3, .long (1 : Int64)], M4) o
          exact (ms_124_j90 hd h hA : mp_124_90 L xs (d + 1) v1 v3 (1 : Int64) r3 M4 o) z2 (some (.int r1)) (some (.int (mm_shr r1 (2 : Int32)))) z6 z7
      · replace h := mm_iq hc h
        refine mm_Runs.seq (l := [(126, .iload 4, 2), (128, .iconst 4, 1), (129, .irem, 1), (130, .iconst 1, 1)]) (S2 := (131, [some (.ref 41), some (.long v1), z2, some (.int v3), some (.int r1), some (.int (mm_shr r1 (2 : Int32))), z6, z7], [.int (1 : Int32), .int (mm_rem r1 (4 : Int32))], M2)) (by decide +kernel) (hO := mm_own_124) rfl ?_
        refine mm_R_ine (t := 144) rfl rfl rfl (fun hc => ?_) (fun hc => ?_)
        · replace h := mm_ip hc h
          refine mm_Runs.seq (l := [(134, .iconst 4, 1), (135, .iload 5, 2), (137, .bipush 8, 2), (139, .irem, 1), (140, .iadd, 1), (141, .goto 7, 3)]) (S2 := (148, [some (.ref 41), some (.long v1), z2, some (.int v3), some (.int r1), some (.int (mm_shr r1 (2 : Int32))), z6, z7], [.int ((4 : Int32) + (mm_rem (mm_shr r1 (2 : Int32)) (8 : Int32)))], M2)) (by decide +kernel) (hO := mm_own_124) rfl ?_
          exact (ms_124_j148 hd h hA : mp_124_148 L xs (d + 1) v1 v3 r1 ((4 : Int32) + (mm_rem (mm_shr r1 (2 : Int32)) (8 : Int32))) M2 o) z2 (some (.int (mm_shr r1 (2 : Int32)))) z6 z7
        · replace h := mm_iq hc h
          refine mm_Runs.seq (l := [(144, .iload 5, 2), (146, .iconst 1, 1), (147, .iadd, 1)]) (S2 := (148, [some (.ref 41), some (.long v1), z2, some (.int v3), some (.int r1), some (.int (mm_shr r1 (2 : Int32))), z6, z7], [.int ((mm_shr r1 (2 : Int32)) + (1 : Int32))], M2)) (by decide +kernel) (hO := mm_own_124) rfl ?_
          exact (ms_124_j148 hd h hA : mp_124_148 L xs (d + 1) v1 v3 r1 ((mm_shr r1 (2 : Int32)) + (1 : Int32)) M2 o) z2 (some (.int (mm_shr r1 (2 : Int32)))) z6 z7
    · replace h := mm_iq hc h
      cases h
      exact (show mp_124_195 L xs (d + 1) M o from hA) (some (.ref 41)) (some (.long v1)) z2 (some (.int v3)) z4 z5 z6 z7
  · replace h := mm_iq hc h
    cases h
    exact (show mp_124_195 L xs (d + 1) M o from hA) (some (.ref 41)) (some (.long v1)) z2 (some (.int v3)) z4 z5 z6 z7
theorem ms_124_L23 {L : Nat} {xs : Nat → Int32} {d : Nat} (hd : 10 ≤ d) {v1 : Int64} {v3 : Int32} {β : Type} {K : β → mm_M → mm_E → Prop} {F : (Unit) → mm_M → mm_O β} {M : mm_M} {q : (β ⊕ Nat) × mm_M} {o : mm_E} (h : mm_B (mf_124_L23 v1 v3 M) F = some q) (hA : mm_A K q o) (hx : ∀ (r : (Unit)) (M2 : mm_M), F r M2 = some q → (fun r M o => mp_124_195 L xs (d) M o) r M2 o) : mp_124_23 L xs d v1 v3 M o := by
  unfold mf_124_L23 at h
  exact mm_R_loop (step := (fun s M => mf_124_b23 v1 s M)) (s := v3) (M := M) (P := (fun s M o => mp_124_23 L xs (d) v1 s M o)) (X := (fun r M o => mp_124_195 L xs (d) M o)) h hA (fun s M q hq hA => ms_124_b23 (v1 := v1) (v3 := s) (M := M) (q := q) hd hq hA) hx
set_option maxRecDepth 8000 in
set_option maxHeartbeats 4000000 in
theorem ms_124_j18 {L : Nat} {xs : Nat → Int32} {d : Nat} (hd : 10 ≤ d) {v1 : Int64} {s0 : Int32} {M : mm_M} {q : (Unit ⊕ Nat) × mm_M} {o : mm_E} (h : mf_124_j18 v1 s0 M = some q) (hA : mm_A (mm_Kr mm_wv) q o) : mp_124_18 L xs d v1 s0 M o := by
  unfold mf_124_j18 at h
  obtain ⟨d, rfl⟩ := mm_d1 (n := 9) hd
  intro z2 z3 z4 z5 z6 z7
  show mm_Runs L xs (d + 1) 124 (18, [some (.ref 41), some (.long v1), z2, z3, z4, z5, z6, z7], [.int s0], M) o
  refine mm_R_call (v := mm_wv) h hA (k2 := 27) (as := [.int s0]) (r := []) rfl (fun _ => rfl) (fun q hq o ho => ms_27 (by omega) hq ho) (fun _ M1 h => ?_)
  show mm_Runs L xs (d + 1) 124 (21, [some (.ref 41), some (.long v1), z2, z3, z4, z5, z6, z7], [], M1) o
  refine mm_Runs.seq (l := [(21, .iconst 0, 1), (22, .istore_n 3, 1)]) (S2 := (23, [some (.ref 41), some (.long v1), (mm_no2 z2), some (.int (0 : Int32)), z4, z5, z6, z7], [], M1)) (by decide +kernel) (hO := mm_own_124) rfl ?_
  have hp : mp_124_23 L xs (d + 1) v1 (0 : Int32) M1 o := by
    refine ms_124_L23 hd h hA (fun r3 M2 h => ?_)
    intro y4 y5 y6 y7 y8 y9 y10 y11
    show mm_Runs L xs (d + 1) 124 (195, [y4, y5, y6, y7, y8, y9, y10, y11], [], M2) o
    cases h
    exact mm_R_retv rfl rfl hA
  exact hp ((mm_no2 z2)) z4 z5 z6 z7
set_option maxRecDepth 8000 in
set_option maxHeartbeats 4000000 in
theorem ms_124 {L : Nat} {xs : Nat → Int32} {d : Nat} (hd : 10 ≤ d) {M : mm_M} {q : (Unit ⊕ Nat) × mm_M} {o : mm_E} (h : mf_124 M = some q) (hA : mm_A (mm_Kr mm_wv) q o) : mm_Runs L xs d 124 (0, mm_ent (mm_ml 124) [.ref 41], [], M) o := by
  unfold mf_124 at h
  obtain ⟨d, rfl⟩ := mm_d1 (n := 9) hd
  show mm_Runs L xs (d + 1) 124 (0, [some (.ref 41), none, none, none, none, none, none, none], [], M) o
  refine mm_Runs.seq (l := [(0, .aload_n 0, 1)]) (S2 := (1, [some (.ref 41), none, none, none, none, none, none, none], [.ref 41], M)) (by decide +kernel) (hO := mm_own_124) rfl ?_
  refine mm_R_call (v := mm_wl) h hA (k2 := 125) (as := [.ref 41]) (r := []) rfl (fun _ => rfl) (fun q hq o ho => ms_125 (by omega) hq ho) (fun r1 M2 h => ?_)
  show mm_Runs L xs (d + 1) 124 (4, [some (.ref 41), none, none, none, none, none, none, none], [.long r1], M2) o
  refine mm_Runs.seq (l := [(4, .lstore_n 1, 1), (5, .lload_n 1, 1), (6, .ldc2_w 113, 3)]) (S2 := (9, [some (.ref 41), some (.long r1), none, none, none, none, none, none], [.long (16384 : Int64), .long r1], M2)) (by decide +kernel) (hO := mm_own_124) rfl ?_
  refine mm_R_lle (t := 17) rfl rfl rfl rfl (fun hc => ?_) (fun hc => ?_)
  · replace h := mm_ip hc h
    refine mm_Runs.seq (l := [(13, .iconst 1, 1), (14, .goto 4, 3)]) (S2 := (18, [some (.ref 41), some (.long r1), none, none, none, none, none, none], [.int (1 : Int32)], M2)) (by decide +kernel) (hO := mm_own_124) rfl ?_
    exact (ms_124_j18 hd h hA : mp_124_18 L xs (d + 1) r1 (1 : Int32) M2 o) none none none none none none
  · replace h := mm_iq hc h
    refine mm_Runs.seq (l := [(17, .iconst 0, 1)]) (S2 := (18, [some (.ref 41), some (.long r1), none, none, none, none, none, none], [.int (0 : Int32)], M2)) (by decide +kernel) (hO := mm_own_124) rfl ?_
    exact (ms_124_j18 hd h hA : mp_124_18 L xs (d + 1) r1 (0 : Int32) M2 o) none none none none none none
-- 139: PlainPacks$Sorted.readOccurring()V (depth 9)
theorem mm_own_139 : mm_own 139 = 10 := rfl
def mp_139_18 (L : Nat) (xs : Nat → Int32) (d : Nat) (v1 : Int32) (v2 : Int32) (M : mm_M) (o : mm_E) : Prop := ∀ z3 z4 : Option Value, mm_Runs L xs d 139 (18, [some (.ref 42), some (.int v1), some (.int v2), z3, z4], [], M) o
def mp_139_110 (L : Nat) (xs : Nat → Int32) (d : Nat) (M : mm_M) (o : mm_E) : Prop := ∀ z1 z2 z3 z4 : Option Value, mm_Runs L xs d 139 (110, [some (.ref 42), z1, z2, z3, z4], [], M) o
def mp_139_53 (L : Nat) (xs : Nat → Int32) (d : Nat) (v1 : Int32) (v2 : Int32) (v3 : Int32) (v4 : Int32) (M : mm_M) (o : mm_E) : Prop := mm_Runs L xs d 139 (53, [some (.ref 42), some (.int v1), some (.int v2), some (.int v3), some (.int v4)], [], M) o
def mp_139_104 (L : Nat) (xs : Nat → Int32) (d : Nat) (v1 : Int32) (v2 : Int32) (M : mm_M) (o : mm_E) : Prop := ∀ z3 z4 : Option Value, mm_Runs L xs d 139 (104, [some (.ref 42), some (.int v1), some (.int v2), z3, z4], [], M) o
set_option maxRecDepth 8000 in
set_option maxHeartbeats 4000000 in
theorem ms_139_b53 {L : Nat} {xs : Nat → Int32} {d : Nat} (hd : 9 ≤ d) {v1 : Int32} {v2 : Int32} {v3 : Int32} {v4 : Int32} {M : mm_M} {q : (((Int32) ⊕ (Unit)) ⊕ Nat) × mm_M} {o : mm_E} (h : mf_139_b53 v1 v2 v3 v4 M = some q) (hA : mm_A (mm_K2 (fun s M o => mp_139_53 L xs (d) v1 v2 v3 s M o) (fun r M o => mp_139_104 L xs (d) v1 v2 M o)) q o) : mp_139_53 L xs d v1 v2 v3 v4 M o := by
  unfold mf_139_b53 at h
  obtain ⟨d, rfl⟩ := mm_d1 (n := 8) hd
  show mm_Runs L xs (d + 1) 139 (53, [some (.ref 42), some (.int v1), some (.int v2), some (.int v3), some (.int v4)], [], M) o
  refine mm_Runs.seq (l := [(53, .iload 4, 2), (55, .bipush 16, 2)]) (S2 := (57, [some (.ref 42), some (.int v1), some (.int v2), some (.int v3), some (.int v4)], [.int (16 : Int32), .int v4], M)) (by decide +kernel) (hO := mm_own_139) rfl ?_
  refine mm_R_ige (t := 104) rfl rfl rfl (fun hc => ?_) (fun hc => ?_)
  · replace h := mm_ip hc h
    refine mm_Runs.seq (l := [(60, .iload_n 3, 1), (61, .bipush 15, 2), (63, .iload 4, 2), (65, .isub, 1), (66, .ishr, 1), (67, .iconst 1, 1), (68, .iand, 1)]) (S2 := (69, [some (.ref 42), some (.int v1), some (.int v2), some (.int v3), some (.int v4)], [.int ((mm_shr v3 ((15 : Int32) - v4)) &&& (1 : Int32))], M)) (by decide +kernel) (hO := mm_own_139) rfl ?_
    refine mm_R_zeq (t := 98) rfl rfl rfl (fun hc => ?_) (fun hc => ?_)
    · replace h := mm_ip hc h
      refine mm_Runs.seq (l := [(98, .iinc 4 1, 3), (101, .goto (-48), 3)]) (S2 := (53, [some (.ref 42), some (.int v1), some (.int v2), some (.int v3), some (.int (v4 + (1 : Int32)))], [], M)) (by decide +kernel) (hO := mm_own_139) rfl ?_
      cases h
      exact (show mp_139_53 L xs (d + 1) v1 v2 v3 (v4 + (1 : Int32)) M o from hA)
    · replace h := mm_iq hc h
      refine mm_Runs.seq (l := [(72, .aload_n 0, 1), (73, .getfield 24, 3), (76, .aload_n 0, 1), (77, .getfield 125, 3), (80, .bipush 16, 2), (82, .iload_n 2, 1), (83, .imul, 1), (84, .iload 4, 2), (86, .iadd, 1)]) (S2 := (87, [some (.ref 42), some (.int v1), some (.int v2), some (.int v3), some (.int v4)], [.int (((16 : Int32) * v2) + v4), .int (M.1 42 9), .ref 46], M)) (by decide +kernel) (hO := mm_own_139) rfl ?_
      obtain ⟨hb, h⟩ := mm_gd h
      refine mm_R_iast rfl rfl hb ?_
      refine mm_Runs.seq (l := [(88, .aload_n 0, 1), (89, .dup, 1), (90, .getfield 125, 3), (93, .iconst 1, 1), (94, .iadd, 1), (95, .putfield 125, 3), (98, .iinc 4 1, 3), (101, .goto (-48), 3)]) (S2 := (53, [some (.ref 42), some (.int v1), some (.int v2), some (.int v3), some (.int (v4 + (1 : Int32)))], [], (mm_pi (mm_pi M 46 (M.1 42 9).toNatClampNeg (((16 : Int32) * v2) + v4)) 42 9 ((M.1 42 9) + (1 : Int32))))) (by decide +kernel) (hO := mm_own_139) rfl ?_
      cases h
      exact (show mp_139_53 L xs (d + 1) v1 v2 v3 (v4 + (1 : Int32)) (mm_pi (mm_pi M 46 (M.1 42 9).toNatClampNeg (((16 : Int32) * v2) + v4)) 42 9 ((M.1 42 9) + (1 : Int32))) o from hA)
  · replace h := mm_iq hc h
    cases h
    exact (show mp_139_104 L xs (d + 1) v1 v2 M o from hA) (some (.int v3)) (some (.int v4))
theorem ms_139_L53 {L : Nat} {xs : Nat → Int32} {d : Nat} (hd : 9 ≤ d) {v1 : Int32} {v2 : Int32} {v3 : Int32} {v4 : Int32} {β : Type} {K : β → mm_M → mm_E → Prop} {F : (Unit) → mm_M → mm_O β} {M : mm_M} {q : (β ⊕ Nat) × mm_M} {o : mm_E} (h : mm_B (mf_139_L53 v1 v2 v3 v4 M) F = some q) (hA : mm_A K q o) (hx : ∀ (r : (Unit)) (M2 : mm_M), F r M2 = some q → (fun r M o => mp_139_104 L xs (d) v1 v2 M o) r M2 o) : mp_139_53 L xs d v1 v2 v3 v4 M o := by
  unfold mf_139_L53 at h
  exact mm_R_loop (step := (fun s M => mf_139_b53 v1 v2 v3 s M)) (s := v4) (M := M) (P := (fun s M o => mp_139_53 L xs (d) v1 v2 v3 s M o)) (X := (fun r M o => mp_139_104 L xs (d) v1 v2 M o)) h hA (fun s M q hq hA => ms_139_b53 (v1 := v1) (v2 := v2) (v3 := v3) (v4 := s) (M := M) (q := q) hd hq hA) hx
set_option maxRecDepth 8000 in
set_option maxHeartbeats 4000000 in
theorem ms_139_b18 {L : Nat} {xs : Nat → Int32} {d : Nat} (hd : 9 ≤ d) {v1 : Int32} {v2 : Int32} {M : mm_M} {q : (((Int32) ⊕ (Unit)) ⊕ Nat) × mm_M} {o : mm_E} (h : mf_139_b18 v1 v2 M = some q) (hA : mm_A (mm_K2 (fun s M o => mp_139_18 L xs (d) v1 s M o) (fun r M o => mp_139_110 L xs (d) M o)) q o) : mp_139_18 L xs d v1 v2 M o := by
  unfold mf_139_b18 at h
  obtain ⟨d, rfl⟩ := mm_d1 (n := 8) hd
  intro z3 z4
  show mm_Runs L xs (d + 1) 139 (18, [some (.ref 42), some (.int v1), some (.int v2), z3, z4], [], M) o
  refine mm_Runs.seq (l := [(18, .iload_n 2, 1), (19, .bipush 16, 2)]) (S2 := (21, [some (.ref 42), some (.int v1), some (.int v2), z3, z4], [.int (16 : Int32), .int v2], M)) (by decide +kernel) (hO := mm_own_139) rfl ?_
  refine mm_R_ige (t := 110) rfl rfl rfl (fun hc => ?_) (fun hc => ?_)
  · replace h := mm_ip hc h
    refine mm_Runs.seq (l := [(24, .iload_n 1, 1), (25, .bipush 15, 2), (27, .iload_n 2, 1), (28, .isub, 1), (29, .ishr, 1), (30, .iconst 1, 1), (31, .iand, 1)]) (S2 := (32, [some (.ref 42), some (.int v1), some (.int v2), z3, z4], [.int ((mm_shr v1 ((15 : Int32) - v2)) &&& (1 : Int32))], M)) (by decide +kernel) (hO := mm_own_139) rfl ?_
    refine mm_R_zeq (t := 48) rfl rfl rfl (fun hc => ?_) (fun hc => ?_)
    · replace h := mm_ip hc h
      refine mm_Runs.seq (l := [(48, .iconst 0, 1), (49, .istore_n 3, 1), (50, .iconst 0, 1), (51, .istore 4, 2)]) (S2 := (53, [some (.ref 42), some (.int v1), some (.int v2), some (.int (0 : Int32)), some (.int (0 : Int32))], [], M)) (by decide +kernel) (hO := mm_own_139) rfl ?_
      have hp : mp_139_53 L xs (d + 1) v1 v2 (0 : Int32) (0 : Int32) M o := by
        refine ms_139_L53 hd h hA (fun r2 M1 h => ?_)
        intro y3 y4
        show mm_Runs L xs (d + 1) 139 (104, [some (.ref 42), some (.int v1), some (.int v2), y3, y4], [], M1) o
        refine mm_Runs.seq (l := [(104, .iinc 2 1, 3), (107, .goto (-89), 3)]) (S2 := (18, [some (.ref 42), some (.int v1), some (.int (v2 + (1 : Int32))), y3, y4], [], M1)) (by decide +kernel) (hO := mm_own_139) rfl ?_
        cases h
        exact (show mp_139_18 L xs (d + 1) v1 (v2 + (1 : Int32)) M1 o from hA) y3 y4
      exact hp
    · replace h := mm_iq hc h
      refine mm_Runs.seq (l := [(35, .aload_n 0, 1), (36, .getfield 36, 3), (39, .bipush 16, 2)]) (S2 := (41, [some (.ref 42), some (.int v1), some (.int v2), z3, z4], [.int (16 : Int32), .ref 1], M)) (by decide +kernel) (hO := mm_own_139) rfl ?_
      refine mm_R_call (v := mm_wl) h hA (k2 := 46) (as := [.ref 1, .int (16 : Int32)]) (r := []) rfl (fun _ => rfl) (fun q hq o ho => ms_46 (by omega) hq ho) (fun r5 M6 h => ?_)
      show mm_Runs L xs (d + 1) 139 (44, [some (.ref 42), some (.int v1), some (.int v2), z3, z4], [.long r5], M6) o
      refine mm_Runs.seq (l := [(44, .l2i, 1), (45, .goto 4, 3), (49, .istore_n 3, 1), (50, .iconst 0, 1), (51, .istore 4, 2)]) (S2 := (53, [some (.ref 42), some (.int v1), some (.int v2), some (.int r5.toInt32), some (.int (0 : Int32))], [], M6)) (by decide +kernel) (hO := mm_own_139) rfl ?_
      have hp : mp_139_53 L xs (d + 1) v1 v2 r5.toInt32 (0 : Int32) M6 o := by
        refine ms_139_L53 hd h hA (fun r8 M7 h => ?_)
        intro y9 y10
        show mm_Runs L xs (d + 1) 139 (104, [some (.ref 42), some (.int v1), some (.int v2), y9, y10], [], M7) o
        refine mm_Runs.seq (l := [(104, .iinc 2 1, 3), (107, .goto (-89), 3)]) (S2 := (18, [some (.ref 42), some (.int v1), some (.int (v2 + (1 : Int32))), y9, y10], [], M7)) (by decide +kernel) (hO := mm_own_139) rfl ?_
        cases h
        exact (show mp_139_18 L xs (d + 1) v1 (v2 + (1 : Int32)) M7 o from hA) y9 y10
      exact hp
  · replace h := mm_iq hc h
    cases h
    exact (show mp_139_110 L xs (d + 1) M o from hA) (some (.int v1)) (some (.int v2)) z3 z4
theorem ms_139_L18 {L : Nat} {xs : Nat → Int32} {d : Nat} (hd : 9 ≤ d) {v1 : Int32} {v2 : Int32} {β : Type} {K : β → mm_M → mm_E → Prop} {F : (Unit) → mm_M → mm_O β} {M : mm_M} {q : (β ⊕ Nat) × mm_M} {o : mm_E} (h : mm_B (mf_139_L18 v1 v2 M) F = some q) (hA : mm_A K q o) (hx : ∀ (r : (Unit)) (M2 : mm_M), F r M2 = some q → (fun r M o => mp_139_110 L xs (d) M o) r M2 o) : mp_139_18 L xs d v1 v2 M o := by
  unfold mf_139_L18 at h
  exact mm_R_loop (step := (fun s M => mf_139_b18 v1 s M)) (s := v2) (M := M) (P := (fun s M o => mp_139_18 L xs (d) v1 s M o)) (X := (fun r M o => mp_139_110 L xs (d) M o)) h hA (fun s M q hq hA => ms_139_b18 (v1 := v1) (v2 := s) (M := M) (q := q) hd hq hA) hx
def mp_139_122 (L : Nat) (xs : Nat → Int32) (d : Nat) (s0 : Int32) (M : mm_M) (o : mm_E) : Prop := ∀ z0 z1 z2 z3 z4 : Option Value, mm_Runs L xs d 139 (122, [z0, z1, z2, z3, z4], [.int s0], M) o
set_option maxRecDepth 8000 in
set_option maxHeartbeats 4000000 in
theorem ms_139_j122 {L : Nat} {xs : Nat → Int32} {d : Nat} (hd : 9 ≤ d) {s0 : Int32} {M : mm_M} {q : (Unit ⊕ Nat) × mm_M} {o : mm_E} (h : mf_139_j122 s0 M = some q) (hA : mm_A (mm_Kr mm_wv) q o) : mp_139_122 L xs d s0 M o := by
  unfold mf_139_j122 at h
  obtain ⟨d, rfl⟩ := mm_d1 (n := 8) hd
  intro z0 z1 z2 z3 z4
  show mm_Runs L xs (d + 1) 139 (122, [z0, z1, z2, z3, z4], [.int s0], M) o
  refine mm_R_call (v := mm_wv) h hA (k2 := 27) (as := [.int s0]) (r := []) rfl (fun _ => rfl) (fun q hq o ho => ms_27 (by omega) hq ho) (fun _ M1 h => ?_)
  show mm_Runs L xs (d + 1) 139 (125, [z0, z1, z2, z3, z4], [], M1) o
  cases h
  exact mm_R_retv rfl rfl hA
set_option maxRecDepth 8000 in
set_option maxHeartbeats 4000000 in
theorem ms_139_j110 {L : Nat} {xs : Nat → Int32} {d : Nat} (hd : 9 ≤ d) {M : mm_M} {q : (Unit ⊕ Nat) × mm_M} {o : mm_E} (h : mf_139_j110 M = some q) (hA : mm_A (mm_Kr mm_wv) q o) : mp_139_110 L xs d M o := by
  unfold mf_139_j110 at h
  obtain ⟨d, rfl⟩ := mm_d1 (n := 8) hd
  intro z1 z2 z3 z4
  show mm_Runs L xs (d + 1) 139 (110, [some (.ref 42), z1, z2, z3, z4], [], M) o
  refine mm_Runs.seq (l := [(110, .aload_n 0, 1), (111, .getfield 125, 3)]) (S2 := (114, [some (.ref 42), z1, z2, z3, z4], [.int (M.1 42 9)], M)) (by decide +kernel) (hO := mm_own_139) rfl ?_
  refine mm_R_zne (t := 121) rfl rfl rfl (fun hc => ?_) (fun hc => ?_)
  · replace h := mm_ip hc h
    refine mm_Runs.seq (l := [(117, .iconst 1, 1), (118, .goto 4, 3)]) (S2 := (122, [some (.ref 42), z1, z2, z3, z4], [.int (1 : Int32)], M)) (by decide +kernel) (hO := mm_own_139) rfl ?_
    exact (ms_139_j122 hd h hA : mp_139_122 L xs (d + 1) (1 : Int32) M o) (some (.ref 42)) z1 z2 z3 z4
  · replace h := mm_iq hc h
    refine mm_Runs.seq (l := [(121, .iconst 0, 1)]) (S2 := (122, [some (.ref 42), z1, z2, z3, z4], [.int (0 : Int32)], M)) (by decide +kernel) (hO := mm_own_139) rfl ?_
    exact (ms_139_j122 hd h hA : mp_139_122 L xs (d + 1) (0 : Int32) M o) (some (.ref 42)) z1 z2 z3 z4
set_option maxRecDepth 8000 in
set_option maxHeartbeats 4000000 in
theorem ms_139 {L : Nat} {xs : Nat → Int32} {d : Nat} (hd : 9 ≤ d) {M : mm_M} {q : (Unit ⊕ Nat) × mm_M} {o : mm_E} (h : mf_139 M = some q) (hA : mm_A (mm_Kr mm_wv) q o) : mm_Runs L xs d 139 (0, mm_ent (mm_ml 139) [.ref 42], [], M) o := by
  unfold mf_139 at h
  obtain ⟨d, rfl⟩ := mm_d1 (n := 8) hd
  show mm_Runs L xs (d + 1) 139 (0, [some (.ref 42), none, none, none, none], [], M) o
  refine mm_Runs.seq (l := [(0, .aload_n 0, 1), (1, .getfield 36, 3), (4, .bipush 16, 2)]) (S2 := (6, [some (.ref 42), none, none, none, none], [.int (16 : Int32), .ref 1], M)) (by decide +kernel) (hO := mm_own_139) rfl ?_
  refine mm_R_call (v := mm_wl) h hA (k2 := 46) (as := [.ref 1, .int (16 : Int32)]) (r := []) rfl (fun _ => rfl) (fun q hq o ho => ms_46 (by omega) hq ho) (fun r1 M2 h => ?_)
  show mm_Runs L xs (d + 1) 139 (9, [some (.ref 42), none, none, none, none], [.long r1], M2) o
  refine mm_Runs.seq (l := [(9, .l2i, 1), (10, .istore_n 1, 1), (11, .aload_n 0, 1), (12, .iconst 0, 1), (13, .putfield 125, 3), (16, .iconst 0, 1), (17, .istore_n 2, 1)]) (S2 := (18, [some (.ref 42), some (.int r1.toInt32), some (.int (0 : Int32)), none, none], [], (mm_pi M2 42 9 (0 : Int32)))) (by decide +kernel) (hO := mm_own_139) rfl ?_
  have hp : mp_139_18 L xs (d + 1) r1.toInt32 (0 : Int32) (mm_pi M2 42 9 (0 : Int32)) o := by
    refine ms_139_L18 hd h hA (fun r4 M3 h => ?_)
    intro y5 y6 y7 y8
    show mm_Runs L xs (d + 1) 139 (110, [some (.ref 42), y5, y6, y7, y8], [], M3) o
    exact (ms_139_j110 hd h hA : mp_139_110 L xs (d + 1) M3 o) y5 y6 y7 y8
  exact hp none none
-- 141: PlainPacks$Sorted.moveToFront([II)V (depth 0)
theorem mm_own_141 : mm_own 141 = 10 := rfl
def mp_141_17 (L : Nat) (xs : Nat → Int32) (p : Nat) (n : Nat) (d : Nat) (v2 : Int32) (v3 : Int32) (M : mm_M) (o : mm_E) : Prop := ∀ z1 : Option Value, mm_Runs L xs d 141 (17, [some (.ref p), z1, some (.int v2), some (.int v3)], [], M) o
def mp_141_35 (L : Nat) (xs : Nat → Int32) (p : Nat) (n : Nat) (d : Nat) (v2 : Int32) (M : mm_M) (o : mm_E) : Prop := ∀ z1 z3 : Option Value, mm_Runs L xs d 141 (35, [some (.ref p), z1, some (.int v2), z3], [], M) o
set_option maxRecDepth 8000 in
set_option maxHeartbeats 4000000 in
theorem ms_141_b17 {L : Nat} {xs : Nat → Int32} {p : Nat} {n : Nat} {d : Nat} (ha : mm_aat 0 p = some n) (hd : 0 ≤ d) {v2 : Int32} {v3 : Int32} {M : mm_M} {q : (((Int32) ⊕ (Unit)) ⊕ Nat) × mm_M} {o : mm_E} (h : mf_141_b17 p n v2 v3 M = some q) (hA : mm_A (mm_K2 (fun s M o => mp_141_17 L xs p n (d) v2 s M o) (fun r M o => mp_141_35 L xs p n (d) v2 M o)) q o) : mp_141_17 L xs p n d v2 v3 M o := by
  unfold mf_141_b17 at h
  intro z1
  show mm_Runs L xs (d) 141 (17, [some (.ref p), z1, some (.int v2), some (.int v3)], [], M) o
  refine mm_Runs.seq (l := [(17, .iload_n 3, 1)]) (S2 := (18, [some (.ref p), z1, some (.int v2), some (.int v3)], [.int v3], M)) (by decide +kernel) (hO := mm_own_141) rfl ?_
  refine mm_R_zle (t := 35) rfl rfl rfl (fun hc => ?_) (fun hc => ?_)
  · replace h := mm_ip hc h
    refine mm_Runs.seq (l := [(21, .aload_n 0, 1), (22, .iload_n 3, 1), (23, .aload_n 0, 1), (24, .iload_n 3, 1), (25, .iconst 1, 1), (26, .isub, 1)]) (S2 := (27, [some (.ref p), z1, some (.int v2), some (.int v3)], [.int (v3 - (1 : Int32)), .ref p, .int v3, .ref p], M)) (by decide +kernel) (hO := mm_own_141) rfl ?_
    obtain ⟨hb, h⟩ := mm_gd h
    refine mm_R_iald rfl ha hb ?_
    obtain ⟨hb, h⟩ := mm_gd h
    refine mm_R_iast rfl ha hb ?_
    refine mm_Runs.seq (l := [(29, .iinc 3 (-1), 3), (32, .goto (-15), 3)]) (S2 := (17, [some (.ref p), z1, some (.int v2), some (.int (v3 + (-1 : Int32)))], [], (mm_pi M p v3.toNatClampNeg (M.1 p (v3 - (1 : Int32)).toNatClampNeg)))) (by decide +kernel) (hO := mm_own_141) rfl ?_
    cases h
    exact (show mp_141_17 L xs p n (d) v2 (v3 + (-1 : Int32)) (mm_pi M p v3.toNatClampNeg (M.1 p (v3 - (1 : Int32)).toNatClampNeg)) o from hA) z1
  · replace h := mm_iq hc h
    cases h
    exact (show mp_141_35 L xs p n (d) v2 M o from hA) z1 (some (.int v3))
theorem ms_141_L17 {L : Nat} {xs : Nat → Int32} {p : Nat} {n : Nat} {d : Nat} (ha : mm_aat 0 p = some n) (hd : 0 ≤ d) {v2 : Int32} {v3 : Int32} {β : Type} {K : β → mm_M → mm_E → Prop} {F : (Unit) → mm_M → mm_O β} {M : mm_M} {q : (β ⊕ Nat) × mm_M} {o : mm_E} (h : mm_B (mf_141_L17 p n v2 v3 M) F = some q) (hA : mm_A K q o) (hx : ∀ (r : (Unit)) (M2 : mm_M), F r M2 = some q → (fun r M o => mp_141_35 L xs p n (d) v2 M o) r M2 o) : mp_141_17 L xs p n d v2 v3 M o := by
  unfold mf_141_L17 at h
  exact mm_R_loop (step := (fun s M => mf_141_b17 p n v2 s M)) (s := v3) (M := M) (P := (fun s M o => mp_141_17 L xs p n (d) v2 s M o)) (X := (fun r M o => mp_141_35 L xs p n (d) v2 M o)) h hA (fun s M q hq hA => ms_141_b17 ha (v2 := v2) (v3 := s) (M := M) (q := q) hd hq hA) hx
set_option maxRecDepth 8000 in
set_option maxHeartbeats 4000000 in
theorem ms_141_j35 {L : Nat} {xs : Nat → Int32} {p : Nat} {n : Nat} {d : Nat} (ha : mm_aat 0 p = some n) (hd : 0 ≤ d) {v2 : Int32} {M : mm_M} {q : (Unit ⊕ Nat) × mm_M} {o : mm_E} (h : mf_141_j35 p n v2 M = some q) (hA : mm_A (mm_Kr mm_wv) q o) : mp_141_35 L xs p n d v2 M o := by
  unfold mf_141_j35 at h
  intro z1 z3
  show mm_Runs L xs (d) 141 (35, [some (.ref p), z1, some (.int v2), z3], [], M) o
  refine mm_Runs.seq (l := [(35, .aload_n 0, 1), (36, .iconst 0, 1), (37, .iload_n 2, 1)]) (S2 := (38, [some (.ref p), z1, some (.int v2), z3], [.int v2, .int (0 : Int32), .ref p], M)) (by decide +kernel) (hO := mm_own_141) rfl ?_
  obtain ⟨hb, h⟩ := mm_gd h
  refine mm_R_iast rfl ha hb ?_
  cases h
  exact mm_R_retv rfl rfl hA
set_option maxRecDepth 8000 in
set_option maxHeartbeats 4000000 in
theorem ms_141 {L : Nat} {xs : Nat → Int32} {p : Nat} {n : Nat} {d : Nat} (ha : mm_aat 0 p = some n) (hd : 0 ≤ d) {v1 : Int32} {M : mm_M} {q : (Unit ⊕ Nat) × mm_M} {o : mm_E} (h : mf_141 p n v1 M = some q) (hA : mm_A (mm_Kr mm_wv) q o) : mm_Runs L xs d 141 (0, mm_ent (mm_ml 141) [.ref p, .int v1], [], M) o := by
  unfold mf_141 at h
  show mm_Runs L xs (d) 141 (0, [some (.ref p), some (.int v1), none, none], [], M) o
  refine mm_Runs.seq (l := [(0, .iload_n 1, 1)]) (S2 := (1, [some (.ref p), some (.int v1), none, none], [.int v1], M)) (by decide +kernel) (hO := mm_own_141) rfl ?_
  refine mm_R_zlt (t := 10) rfl rfl rfl (fun hc => ?_) (fun hc => ?_)
  · replace h := mm_ip hc h
    cases h
    exact mm_R_retv rfl rfl hA
  · replace h := mm_iq hc h
    refine mm_Runs.seq (l := [(4, .iload_n 1, 1), (5, .aload_n 0, 1)]) (S2 := (6, [some (.ref p), some (.int v1), none, none], [.ref p, .int v1], M)) (by decide +kernel) (hO := mm_own_141) rfl ?_
    refine mm_R_alen rfl ha ?_
    refine mm_R_ilt (t := 11) rfl rfl rfl (fun hc => ?_) (fun hc => ?_)
    · replace h := mm_ip hc h
      refine mm_Runs.seq (l := [(11, .aload_n 0, 1), (12, .iload_n 1, 1)]) (S2 := (13, [some (.ref p), some (.int v1), none, none], [.int v1, .ref p], M)) (by decide +kernel) (hO := mm_own_141) rfl ?_
      obtain ⟨hb, h⟩ := mm_gd h
      refine mm_R_iald rfl ha hb ?_
      refine mm_Runs.seq (l := [(14, .istore_n 2, 1), (15, .iload_n 1, 1), (16, .istore_n 3, 1)]) (S2 := (17, [some (.ref p), some (.int v1), some (.int (M.1 p v1.toNatClampNeg)), some (.int v1)], [], M)) (by decide +kernel) (hO := mm_own_141) rfl ?_
      have hp : mp_141_17 L xs p n (d) (M.1 p v1.toNatClampNeg) v1 M o := by
        refine ms_141_L17 ha hd h hA (fun r2 M1 h => ?_)
        intro y3 y4
        show mm_Runs L xs (d) 141 (35, [some (.ref p), y3, some (.int (M.1 p v1.toNatClampNeg)), y4], [], M1) o
        exact (ms_141_j35 ha hd h hA : mp_141_35 L xs p n (d) (M.1 p v1.toNatClampNeg) M1 o) y3 y4
      exact hp (some (.int v1))
    · replace h := mm_iq hc h
      cases h
      exact mm_R_retv rfl rfl hA
-- 140: PlainPacks$Sorted.readSelectors(I)V (depth 9)
theorem mm_own_140 : mm_own 140 = 10 := rfl
def mp_140_27 (L : Nat) (xs : Nat → Int32) (d : Nat) (v1 : Int32) (s0 : Int32) (M : mm_M) (o : mm_E) : Prop := ∀ z2 z3 : Option Value, mm_Runs L xs d 140 (27, [some (.ref 42), some (.int v1), z2, z3], [.int s0], M) o
def mp_140_32 (L : Nat) (xs : Nat → Int32) (d : Nat) (v1 : Int32) (v2 : Int32) (M : mm_M) (o : mm_E) : Prop := ∀ z3 : Option Value, mm_Runs L xs d 140 (32, [some (.ref 42), some (.int v1), some (.int v2), z3], [], M) o
def mp_140_51 (L : Nat) (xs : Nat → Int32) (d : Nat) (v1 : Int32) (M : mm_M) (o : mm_E) : Prop := ∀ z2 z3 : Option Value, mm_Runs L xs d 140 (51, [some (.ref 42), some (.int v1), z2, z3], [], M) o
set_option maxRecDepth 8000 in
set_option maxHeartbeats 4000000 in
theorem ms_140_b32 {L : Nat} {xs : Nat → Int32} {d : Nat} (hd : 9 ≤ d) {v1 : Int32} {v2 : Int32} {M : mm_M} {q : (((Int32) ⊕ (Unit)) ⊕ Nat) × mm_M} {o : mm_E} (h : mf_140_b32 v1 v2 M = some q) (hA : mm_A (mm_K2 (fun s M o => mp_140_32 L xs (d) v1 s M o) (fun r M o => mp_140_51 L xs (d) v1 M o)) q o) : mp_140_32 L xs d v1 v2 M o := by
  unfold mf_140_b32 at h
  obtain ⟨d, rfl⟩ := mm_d1 (n := 8) hd
  intro z3
  show mm_Runs L xs (d + 1) 140 (32, [some (.ref 42), some (.int v1), some (.int v2), z3], [], M) o
  refine mm_Runs.seq (l := [(32, .iload_n 2, 1), (33, .bipush 6, 2)]) (S2 := (35, [some (.ref 42), some (.int v1), some (.int v2), z3], [.int (6 : Int32), .int v2], M)) (by decide +kernel) (hO := mm_own_140) rfl ?_
  refine mm_R_ige (t := 51) rfl rfl rfl (fun hc => ?_) (fun hc => ?_)
  · replace h := mm_ip hc h
    refine mm_Runs.seq (l := [(38, .aload_n 0, 1), (39, .getfield 17, 3), (42, .iload_n 2, 1), (43, .iload_n 2, 1)]) (S2 := (44, [some (.ref 42), some (.int v1), some (.int v2), z3], [.int v2, .int v2, .ref 44], M)) (by decide +kernel) (hO := mm_own_140) rfl ?_
    obtain ⟨hb, h⟩ := mm_gd h
    refine mm_R_iast rfl rfl hb ?_
    refine mm_Runs.seq (l := [(45, .iinc 2 1, 3), (48, .goto (-16), 3)]) (S2 := (32, [some (.ref 42), some (.int v1), some (.int (v2 + (1 : Int32))), z3], [], (mm_pi M 44 v2.toNatClampNeg v2))) (by decide +kernel) (hO := mm_own_140) rfl ?_
    cases h
    exact (show mp_140_32 L xs (d + 1) v1 (v2 + (1 : Int32)) (mm_pi M 44 v2.toNatClampNeg v2) o from hA) z3
  · replace h := mm_iq hc h
    cases h
    exact (show mp_140_51 L xs (d + 1) v1 M o from hA) (some (.int v2)) z3
theorem ms_140_L32 {L : Nat} {xs : Nat → Int32} {d : Nat} (hd : 9 ≤ d) {v1 : Int32} {v2 : Int32} {β : Type} {K : β → mm_M → mm_E → Prop} {F : (Unit) → mm_M → mm_O β} {M : mm_M} {q : (β ⊕ Nat) × mm_M} {o : mm_E} (h : mm_B (mf_140_L32 v1 v2 M) F = some q) (hA : mm_A K q o) (hx : ∀ (r : (Unit)) (M2 : mm_M), F r M2 = some q → (fun r M o => mp_140_51 L xs (d) v1 M o) r M2 o) : mp_140_32 L xs d v1 v2 M o := by
  unfold mf_140_L32 at h
  exact mm_R_loop (step := (fun s M => mf_140_b32 v1 s M)) (s := v2) (M := M) (P := (fun s M o => mp_140_32 L xs (d) v1 s M o)) (X := (fun r M o => mp_140_51 L xs (d) v1 M o)) h hA (fun s M q hq hA => ms_140_b32 (v1 := v1) (v2 := s) (M := M) (q := q) hd hq hA) hx
def mp_140_53 (L : Nat) (xs : Nat → Int32) (d : Nat) (v1 : Int32) (v2 : Int32) (M : mm_M) (o : mm_E) : Prop := ∀ z3 : Option Value, mm_Runs L xs d 140 (53, [some (.ref 42), some (.int v1), some (.int v2), z3], [], M) o
def mp_140_131 (L : Nat) (xs : Nat → Int32) (d : Nat) (M : mm_M) (o : mm_E) : Prop := ∀ z0 z1 z2 z3 : Option Value, mm_Runs L xs d 140 (131, [z0, z1, z2, z3], [], M) o
def mp_140_63 (L : Nat) (xs : Nat → Int32) (d : Nat) (v1 : Int32) (v2 : Int32) (v3 : Int32) (M : mm_M) (o : mm_E) : Prop := mm_Runs L xs d 140 (63, [some (.ref 42), some (.int v1), some (.int v2), some (.int v3)], [], M) o
def mp_140_85 (L : Nat) (xs : Nat → Int32) (d : Nat) (v1 : Int32) (v2 : Int32) (v3 : Int32) (M : mm_M) (o : mm_E) : Prop := mm_Runs L xs d 140 (85, [some (.ref 42), some (.int v1), some (.int v2), some (.int v3)], [], M) o
set_option maxRecDepth 8000 in
set_option maxHeartbeats 4000000 in
theorem ms_140_b63 {L : Nat} {xs : Nat → Int32} {d : Nat} (hd : 9 ≤ d) {v1 : Int32} {v2 : Int32} {v3 : Int32} {M : mm_M} {q : (((Int32) ⊕ (Int32)) ⊕ Nat) × mm_M} {o : mm_E} (h : mf_140_b63 v1 v2 v3 M = some q) (hA : mm_A (mm_K2 (fun s M o => mp_140_63 L xs (d) v1 v2 s M o) (fun r M o => mp_140_85 L xs (d) v1 v2 r M o)) q o) : mp_140_63 L xs d v1 v2 v3 M o := by
  unfold mf_140_b63 at h
  obtain ⟨d, rfl⟩ := mm_d1 (n := 8) hd
  show mm_Runs L xs (d + 1) 140 (63, [some (.ref 42), some (.int v1), some (.int v2), some (.int v3)], [], M) o
  refine mm_Runs.seq (l := [(63, .iload_n 3, 1), (64, .iload_n 1, 1)]) (S2 := (65, [some (.ref 42), some (.int v1), some (.int v2), some (.int v3)], [.int v1, .int v3], M)) (by decide +kernel) (hO := mm_own_140) rfl ?_
  refine mm_R_ige (t := 85) rfl rfl rfl (fun hc => ?_) (fun hc => ?_)
  · replace h := mm_ip hc h
    refine mm_Runs.seq (l := [(68, .aload_n 0, 1), (69, .getfield 36, 3)]) (S2 := (72, [some (.ref 42), some (.int v1), some (.int v2), some (.int v3)], [.ref 1], M)) (by decide +kernel) (hO := mm_own_140) rfl ?_
    refine mm_R_call (v := mm_wi) h hA (k2 := 45) (as := [.ref 1]) (r := []) rfl (fun _ => rfl) (fun q hq o ho => ms_45 (by omega) hq ho) (fun r1 M2 h => ?_)
    show mm_Runs L xs (d + 1) 140 (75, [some (.ref 42), some (.int v1), some (.int v2), some (.int v3)], [.int r1], M2) o
    refine mm_Runs.seq (l := [(75, .iconst 1, 1)]) (S2 := (76, [some (.ref 42), some (.int v1), some (.int v2), some (.int v3)], [.int (1 : Int32), .int r1], M2)) (by decide +kernel) (hO := mm_own_140) rfl ?_
    refine mm_R_ine (t := 85) rfl rfl rfl (fun hc => ?_) (fun hc => ?_)
    · replace h := mm_ip hc h
      refine mm_Runs.seq (l := [(79, .iinc 3 1, 3), (82, .goto (-19), 3)]) (S2 := (63, [some (.ref 42), some (.int v1), some (.int v2), some (.int (v3 + (1 : Int32)))], [], M2)) (by decide +kernel) (hO := mm_own_140) rfl ?_
      cases h
      exact (show mp_140_63 L xs (d + 1) v1 v2 (v3 + (1 : Int32)) M2 o from hA)
    · replace h := mm_iq hc h
      cases h
      exact (show mp_140_85 L xs (d + 1) v1 v2 v3 M2 o from hA)
  · replace h := mm_iq hc h
    cases h
    exact (show mp_140_85 L xs (d + 1) v1 v2 v3 M o from hA)
theorem ms_140_L63 {L : Nat} {xs : Nat → Int32} {d : Nat} (hd : 9 ≤ d) {v1 : Int32} {v2 : Int32} {v3 : Int32} {β : Type} {K : β → mm_M → mm_E → Prop} {F : (Int32) → mm_M → mm_O β} {M : mm_M} {q : (β ⊕ Nat) × mm_M} {o : mm_E} (h : mm_B (mf_140_L63 v1 v2 v3 M) F = some q) (hA : mm_A K q o) (hx : ∀ (r : (Int32)) (M2 : mm_M), F r M2 = some q → (fun r M o => mp_140_85 L xs (d) v1 v2 r M o) r M2 o) : mp_140_63 L xs d v1 v2 v3 M o := by
  unfold mf_140_L63 at h
  exact mm_R_loop (step := (fun s M => mf_140_b63 v1 v2 s M)) (s := v3) (M := M) (P := (fun s M o => mp_140_63 L xs (d) v1 v2 s M o)) (X := (fun r M o => mp_140_85 L xs (d) v1 v2 r M o)) h hA (fun s M q hq hA => ms_140_b63 (v1 := v1) (v2 := v2) (v3 := s) (M := M) (q := q) hd hq hA) hx
def mp_140_95 (L : Nat) (xs : Nat → Int32) (d : Nat) (v1 : Int32) (v2 : Int32) (v3 : Int32) (s0 : Int32) (M : mm_M) (o : mm_E) : Prop := mm_Runs L xs d 140 (95, [some (.ref 42), some (.int v1), some (.int v2), some (.int v3)], [.int s0], M) o
set_option maxRecDepth 8000 in
set_option maxHeartbeats 4000000 in
theorem ms_140_j95 {L : Nat} {xs : Nat → Int32} {d : Nat} (hd : 9 ≤ d) {v1 : Int32} {v2 : Int32} {v3 : Int32} {s0 : Int32} {M : mm_M} {q : (((Int32) ⊕ (Unit)) ⊕ Nat) × mm_M} {o : mm_E} (h : mf_140_j95 v1 v2 v3 s0 M = some q) (hA : mm_A (mm_K2 (fun s M o => mp_140_53 L xs (d) v1 s M o) (fun r M o => mp_140_131 L xs (d) M o)) q o) : mp_140_95 L xs d v1 v2 v3 s0 M o := by
  unfold mf_140_j95 at h
  obtain ⟨d, rfl⟩ := mm_d1 (n := 8) hd
  show mm_Runs L xs (d + 1) 140 (95, [some (.ref 42), some (.int v1), some (.int v2), some (.int v3)], [.int s0], M) o
  refine mm_R_call (v := mm_wv) h hA (k2 := 27) (as := [.int s0]) (r := []) rfl (fun _ => rfl) (fun q hq o ho => ms_27 (by omega) hq ho) (fun _ M1 h => ?_)
  show mm_Runs L xs (d + 1) 140 (98, [some (.ref 42), some (.int v1), some (.int v2), some (.int v3)], [], M1) o
  refine mm_Runs.seq (l := [(98, .aload_n 0, 1), (99, .getfield 17, 3), (102, .iload_n 3, 1)]) (S2 := (103, [some (.ref 42), some (.int v1), some (.int v2), some (.int v3)], [.int v3, .ref 44], M1)) (by decide +kernel) (hO := mm_own_140) rfl ?_
  refine mm_R_call (v := mm_wv) h hA (k2 := 141) (as := [.ref 44, .int v3]) (r := []) rfl (fun _ => rfl) (fun q hq o ho => ms_141 rfl (by omega) hq ho) (fun _ M2 h => ?_)
  show mm_Runs L xs (d + 1) 140 (106, [some (.ref 42), some (.int v1), some (.int v2), some (.int v3)], [], M2) o
  refine mm_Runs.seq (l := [(106, .iload_n 2, 1), (107, .sipush 1601, 3)]) (S2 := (110, [some (.ref 42), some (.int v1), some (.int v2), some (.int v3)], [.int (1601 : Int32), .int v2], M2)) (by decide +kernel) (hO := mm_own_140) rfl ?_
  refine mm_R_ige (t := 125) rfl rfl rfl (fun hc => ?_) (fun hc => ?_)
  · replace h := mm_ip hc h
    refine mm_Runs.seq (l := [(113, .aload_n 0, 1), (114, .getfield 21, 3), (117, .iload_n 2, 1), (118, .aload_n 0, 1), (119, .getfield 17, 3), (122, .iconst 0, 1)]) (S2 := (123, [some (.ref 42), some (.int v1), some (.int v2), some (.int v3)], [.int (0 : Int32), .ref 44, .int v2, .ref 45], M2)) (by decide +kernel) (hO := mm_own_140) rfl ?_
    obtain ⟨hb, h⟩ := mm_gd h
    refine mm_R_iald rfl rfl hb ?_
    obtain ⟨hb, h⟩ := mm_gd h
    refine mm_R_iast rfl rfl hb ?_
    refine mm_Runs.seq (l := [(125, .iinc 2 1, 3), (128, .goto (-75), 3)]) (S2 := (53, [some (.ref 42), some (.int v1), some (.int (v2 + (1 : Int32))), some (.int v3)], [], (mm_pi M2 45 v2.toNatClampNeg (M2.1 44 (0 : Int32).toNatClampNeg)))) (by decide +kernel) (hO := mm_own_140) rfl ?_
    cases h
    exact (show mp_140_53 L xs (d + 1) v1 (v2 + (1 : Int32)) (mm_pi M2 45 v2.toNatClampNeg (M2.1 44 (0 : Int32).toNatClampNeg)) o from hA) (some (.int v3))
  · replace h := mm_iq hc h
    refine mm_Runs.seq (l := [(125, .iinc 2 1, 3), (128, .goto (-75), 3)]) (S2 := (53, [some (.ref 42), some (.int v1), some (.int (v2 + (1 : Int32))), some (.int v3)], [], M2)) (by decide +kernel) (hO := mm_own_140) rfl ?_
    cases h
    exact (show mp_140_53 L xs (d + 1) v1 (v2 + (1 : Int32)) M2 o from hA) (some (.int v3))
set_option maxRecDepth 8000 in
set_option maxHeartbeats 4000000 in
theorem ms_140_j85 {L : Nat} {xs : Nat → Int32} {d : Nat} (hd : 9 ≤ d) {v1 : Int32} {v2 : Int32} {v3 : Int32} {M : mm_M} {q : (((Int32) ⊕ (Unit)) ⊕ Nat) × mm_M} {o : mm_E} (h : mf_140_j85 v1 v2 v3 M = some q) (hA : mm_A (mm_K2 (fun s M o => mp_140_53 L xs (d) v1 s M o) (fun r M o => mp_140_131 L xs (d) M o)) q o) : mp_140_85 L xs d v1 v2 v3 M o := by
  unfold mf_140_j85 at h
  obtain ⟨d, rfl⟩ := mm_d1 (n := 8) hd
  show mm_Runs L xs (d + 1) 140 (85, [some (.ref 42), some (.int v1), some (.int v2), some (.int v3)], [], M) o
  refine mm_Runs.seq (l := [(85, .iload_n 3, 1), (86, .iload_n 1, 1)]) (S2 := (87, [some (.ref 42), some (.int v1), some (.int v2), some (.int v3)], [.int v1, .int v3], M)) (by decide +kernel) (hO := mm_own_140) rfl ?_
  refine mm_R_ilt (t := 94) rfl rfl rfl (fun hc => ?_) (fun hc => ?_)
  · replace h := mm_ip hc h
    refine mm_Runs.seq (l := [(94, .iconst 0, 1)]) (S2 := (95, [some (.ref 42), some (.int v1), some (.int v2), some (.int v3)], [.int (0 : Int32)], M)) (by decide +kernel) (hO := mm_own_140) rfl ?_
    exact (ms_140_j95 hd h hA : mp_140_95 L xs (d + 1) v1 v2 v3 (0 : Int32) M o)
  · replace h := mm_iq hc h
    refine mm_Runs.seq (l := [(90, .iconst 1, 1), (91, .goto 4, 3)]) (S2 := (95, [some (.ref 42), some (.int v1), some (.int v2), some (.int v3)], [.int (1 : Int32)], M)) (by decide +kernel) (hO := mm_own_140) rfl ?_
    exact (ms_140_j95 hd h hA : mp_140_95 L xs (d + 1) v1 v2 v3 (1 : Int32) M o)
set_option maxRecDepth 8000 in
set_option maxHeartbeats 4000000 in
theorem ms_140_b53 {L : Nat} {xs : Nat → Int32} {d : Nat} (hd : 9 ≤ d) {v1 : Int32} {v2 : Int32} {M : mm_M} {q : (((Int32) ⊕ (Unit)) ⊕ Nat) × mm_M} {o : mm_E} (h : mf_140_b53 v1 v2 M = some q) (hA : mm_A (mm_K2 (fun s M o => mp_140_53 L xs (d) v1 s M o) (fun r M o => mp_140_131 L xs (d) M o)) q o) : mp_140_53 L xs d v1 v2 M o := by
  unfold mf_140_b53 at h
  obtain ⟨d, rfl⟩ := mm_d1 (n := 8) hd
  intro z3
  show mm_Runs L xs (d + 1) 140 (53, [some (.ref 42), some (.int v1), some (.int v2), z3], [], M) o
  refine mm_Runs.seq (l := [(53, .iload_n 2, 1), (54, .aload_n 0, 1), (55, .getfield 128, 3)]) (S2 := (58, [some (.ref 42), some (.int v1), some (.int v2), z3], [.int (M.1 42 7), .int v2], M)) (by decide +kernel) (hO := mm_own_140) rfl ?_
  refine mm_R_ige (t := 131) rfl rfl rfl (fun hc => ?_) (fun hc => ?_)
  · replace h := mm_ip hc h
    refine mm_Runs.seq (l := [(61, .iconst 0, 1), (62, .istore_n 3, 1)]) (S2 := (63, [some (.ref 42), some (.int v1), some (.int v2), some (.int (0 : Int32))], [], M)) (by decide +kernel) (hO := mm_own_140) rfl ?_
    have hp : mp_140_63 L xs (d + 1) v1 v2 (0 : Int32) M o := by
      refine ms_140_L63 hd h hA (fun r2 M1 h => ?_)
      show mm_Runs L xs (d + 1) 140 (85, [some (.ref 42), some (.int v1), some (.int v2), some (.int r2)], [], M1) o
      exact (ms_140_j85 hd h hA : mp_140_85 L xs (d + 1) v1 v2 r2 M1 o)
    exact hp
  · replace h := mm_iq hc h
    cases h
    exact (show mp_140_131 L xs (d + 1) M o from hA) (some (.ref 42)) (some (.int v1)) (some (.int v2)) z3
theorem ms_140_L53 {L : Nat} {xs : Nat → Int32} {d : Nat} (hd : 9 ≤ d) {v1 : Int32} {v2 : Int32} {β : Type} {K : β → mm_M → mm_E → Prop} {F : (Unit) → mm_M → mm_O β} {M : mm_M} {q : (β ⊕ Nat) × mm_M} {o : mm_E} (h : mm_B (mf_140_L53 v1 v2 M) F = some q) (hA : mm_A K q o) (hx : ∀ (r : (Unit)) (M2 : mm_M), F r M2 = some q → (fun r M o => mp_140_131 L xs (d) M o) r M2 o) : mp_140_53 L xs d v1 v2 M o := by
  unfold mf_140_L53 at h
  exact mm_R_loop (step := (fun s M => mf_140_b53 v1 s M)) (s := v2) (M := M) (P := (fun s M o => mp_140_53 L xs (d) v1 s M o)) (X := (fun r M o => mp_140_131 L xs (d) M o)) h hA (fun s M q hq hA => ms_140_b53 (v1 := v1) (v2 := s) (M := M) (q := q) hd hq hA) hx
set_option maxRecDepth 8000 in
set_option maxHeartbeats 4000000 in
theorem ms_140_j27 {L : Nat} {xs : Nat → Int32} {d : Nat} (hd : 9 ≤ d) {v1 : Int32} {s0 : Int32} {M : mm_M} {q : (Unit ⊕ Nat) × mm_M} {o : mm_E} (h : mf_140_j27 v1 s0 M = some q) (hA : mm_A (mm_Kr mm_wv) q o) : mp_140_27 L xs d v1 s0 M o := by
  unfold mf_140_j27 at h
  obtain ⟨d, rfl⟩ := mm_d1 (n := 8) hd
  intro z2 z3
  show mm_Runs L xs (d + 1) 140 (27, [some (.ref 42), some (.int v1), z2, z3], [.int s0], M) o
  refine mm_R_call (v := mm_wv) h hA (k2 := 27) (as := [.int s0]) (r := []) rfl (fun _ => rfl) (fun q hq o ho => ms_27 (by omega) hq ho) (fun _ M1 h => ?_)
  show mm_Runs L xs (d + 1) 140 (30, [some (.ref 42), some (.int v1), z2, z3], [], M1) o
  refine mm_Runs.seq (l := [(30, .iconst 0, 1), (31, .istore_n 2, 1)]) (S2 := (32, [some (.ref 42), some (.int v1), some (.int (0 : Int32)), z3], [], M1)) (by decide +kernel) (hO := mm_own_140) rfl ?_
  have hp : mp_140_32 L xs (d + 1) v1 (0 : Int32) M1 o := by
    refine ms_140_L32 hd h hA (fun r3 M2 h => ?_)
    intro y4 y5
    show mm_Runs L xs (d + 1) 140 (51, [some (.ref 42), some (.int v1), y4, y5], [], M2) o
    refine mm_Runs.seq (l := [(51, .iconst 0, 1), (52, .istore_n 2, 1)]) (S2 := (53, [some (.ref 42), some (.int v1), some (.int (0 : Int32)), y5], [], M2)) (by decide +kernel) (hO := mm_own_140) rfl ?_
    have hp : mp_140_53 L xs (d + 1) v1 (0 : Int32) M2 o := by
      refine ms_140_L53 hd h hA (fun r7 M6 h => ?_)
      intro y8 y9 y10 y11
      show mm_Runs L xs (d + 1) 140 (131, [y8, y9, y10, y11], [], M6) o
      cases h
      exact mm_R_retv rfl rfl hA
    exact hp y5
  exact hp z3
set_option maxRecDepth 8000 in
set_option maxHeartbeats 4000000 in
theorem ms_140 {L : Nat} {xs : Nat → Int32} {d : Nat} (hd : 9 ≤ d) {v1 : Int32} {M : mm_M} {q : (Unit ⊕ Nat) × mm_M} {o : mm_E} (h : mf_140 v1 M = some q) (hA : mm_A (mm_Kr mm_wv) q o) : mm_Runs L xs d 140 (0, mm_ent (mm_ml 140) [.ref 42, .int v1], [], M) o := by
  unfold mf_140 at h
  obtain ⟨d, rfl⟩ := mm_d1 (n := 8) hd
  show mm_Runs L xs (d + 1) 140 (0, [some (.ref 42), some (.int v1), none, none], [], M) o
  refine mm_Runs.seq (l := [(0, .aload_n 0, 1), (1, .aload_n 0, 1), (2, .getfield 36, 3), (5, .bipush 15, 2)]) (S2 := (7, [some (.ref 42), some (.int v1), none, none], [.int (15 : Int32), .ref 1, .ref 42], M)) (by decide +kernel) (hO := mm_own_140) rfl ?_
  refine mm_R_call (v := mm_wl) h hA (k2 := 46) (as := [.ref 1, .int (15 : Int32)]) (r := [.ref 42]) rfl (fun _ => rfl) (fun q hq o ho => ms_46 (by omega) hq ho) (fun r1 M2 h => ?_)
  show mm_Runs L xs (d + 1) 140 (10, [some (.ref 42), some (.int v1), none, none], [.long r1, .ref 42], M2) o
  refine mm_Runs.seq (l := [(10, .l2i, 1), (11, .putfield 128, 3), (14, .aload_n 0, 1), (15, .getfield 128, 3), (18, .iconst 1, 1)]) (S2 := (19, [some (.ref 42), some (.int v1), none, none], [.int (1 : Int32), .int r1.toInt32], (mm_pi M2 42 7 r1.toInt32))) (by decide +kernel) (hO := mm_own_140) rfl ?_
  refine mm_R_ige (t := 26) rfl rfl rfl (fun hc => ?_) (fun hc => ?_)
  · replace h := mm_ip hc h
    refine mm_Runs.seq (l := [(22, .iconst 1, 1), (23, .goto 4, 3)]) (S2 := (27, [some (.ref 42), some (.int v1), none, none], [.int (1 : Int32)], (mm_pi M2 42 7 r1.toInt32))) (by decide +kernel) (hO := mm_own_140) rfl ?_
    exact (ms_140_j27 hd h hA : mp_140_27 L xs (d + 1) v1 (1 : Int32) (mm_pi M2 42 7 r1.toInt32) o) none none
  · replace h := mm_iq hc h
    refine mm_Runs.seq (l := [(26, .iconst 0, 1)]) (S2 := (27, [some (.ref 42), some (.int v1), none, none], [.int (0 : Int32)], (mm_pi M2 42 7 r1.toInt32))) (by decide +kernel) (hO := mm_own_140) rfl ?_
    exact (ms_140_j27 hd h hA : mp_140_27 L xs (d + 1) v1 (0 : Int32) (mm_pi M2 42 7 r1.toInt32) o) none none
