/-! MEANINGS ARE SOUND 7 -/
-- 122: PlainPacks$Pieces.readFrameHead()J (depth 9)
theorem mm_own_122 : mm_own 122 = 9 := rfl
def mp_122_44 (L : Nat) (xs : Nat → Int32) (d : Nat) (v1 : Int32) (s0 : Int32) (M : mm_M) (o : mm_E) : Prop := ∀ z2 z3 z4 z5 z6 : Option Value, mm_Runs L xs d 122 (44, [some (.ref 41), some (.int v1), z2, z3, z4, z5, z6], [.int s0], M) o
def mp_122_82 (L : Nat) (xs : Nat → Int32) (d : Nat) (v1 : Int32) (v3 : Int32) (s0 : Int32) (M : mm_M) (o : mm_E) : Prop := ∀ z2 z4 z5 z6 : Option Value, mm_Runs L xs d 122 (82, [some (.ref 41), some (.int v1), z2, some (.int v3), z4, z5, z6], [.int s0], M) o
def mp_122_120 (L : Nat) (xs : Nat → Int32) (d : Nat) (v1 : Int32) (s0 : Int64) (M : mm_M) (o : mm_E) : Prop := ∀ z2 z3 z4 z5 z6 : Option Value, mm_Runs L xs d 122 (120, [some (.ref 41), some (.int v1), z2, z3, z4, z5, z6], [.long s0], M) o
def mp_122_166 (L : Nat) (xs : Nat → Int32) (d : Nat) (v4 : Int64) (s0 : Int32) (M : mm_M) (o : mm_E) : Prop := ∀ z0 z1 z2 z3 z5 z6 : Option Value, mm_Runs L xs d 122 (166, [z0, z1, z2, z3, some (.long v4), z5, z6], [.int s0], M) o
set_option maxRecDepth 8000 in
set_option maxHeartbeats 4000000 in
theorem ms_122_j166 {L : Nat} {xs : Nat → Int32} {d : Nat} (hd : 9 ≤ d) {v4 : Int64} {s0 : Int32} {M : mm_M} {q : (Int64 ⊕ Nat) × mm_M} {o : mm_E} (h : mf_122_j166 v4 s0 M = some q) (hA : mm_A (mm_Kr mm_wl) q o) : mp_122_166 L xs d v4 s0 M o := by
  unfold mf_122_j166 at h
  obtain ⟨d, rfl⟩ := mm_d1 (n := 8) hd
  intro z0 z1 z2 z3 z5 z6
  show mm_Runs L xs (d + 1) 122 (166, [z0, z1, z2, z3, some (.long v4), z5, z6], [.int s0], M) o
  refine mm_R_call (v := mm_wv) h hA (k2 := 27) (as := [.int s0]) (r := []) rfl (fun _ => rfl) (fun q hq o ho => ms_27 (by omega) hq ho) (fun _ M1 h => ?_)
  show mm_Runs L xs (d + 1) 122 (169, [z0, z1, z2, z3, some (.long v4), z5, z6], [], M1) o
  refine mm_Runs.seq (l := [(169, .lload 4, 2)]) (S2 := (171, [z0, z1, z2, z3, some (.long v4), z5, z6], [.long v4], M1)) (by decide +kernel) (hO := mm_own_122) rfl ?_
  cases h
  exact mm_R_retl rfl rfl hA
set_option maxRecDepth 8000 in
set_option maxHeartbeats 4000000 in
theorem ms_122_j120 {L : Nat} {xs : Nat → Int32} {d : Nat} (hd : 9 ≤ d) {v1 : Int32} {s0 : Int64} {M : mm_M} {q : (Int64 ⊕ Nat) × mm_M} {o : mm_E} (h : mf_122_j120 v1 s0 M = some q) (hA : mm_A (mm_Kr mm_wl) q o) : mp_122_120 L xs d v1 s0 M o := by
  unfold mf_122_j120 at h
  obtain ⟨d, rfl⟩ := mm_d1 (n := 8) hd
  intro z2 z3 z4 z5 z6
  show mm_Runs L xs (d + 1) 122 (120, [some (.ref 41), some (.int v1), z2, z3, z4, z5, z6], [.long s0], M) o
  refine mm_Runs.seq (l := [(120, .lstore 4, 2), (122, .aload_n 0, 1), (123, .getfield 9, 3), (126, .getfield 95, 3), (129, .iload_n 1, 1), (130, .aload_n 0, 1), (131, .getfield 9, 3), (134, .getfield 88, 3)]) (S2 := (137, [some (.ref 41), some (.int v1), z2, (mm_no2 z3), some (.long s0), none, z6], [.int (M.1 1 2), .int v1, .ref 2], M)) (by decide +kernel) (hO := mm_own_122) rfl ?_
  refine mm_R_call (v := mm_wi) h hA (k2 := 31) (as := [.ref 2, .int v1, .int (M.1 1 2)]) (r := []) rfl (fun _ => rfl) (fun q hq o ho => ms_31 rfl (by omega) hq ho) (fun r1 M2 h => ?_)
  show mm_Runs L xs (d + 1) 122 (140, [some (.ref 41), some (.int v1), z2, (mm_no2 z3), some (.long s0), none, z6], [.int r1], M2) o
  refine mm_Runs.seq (l := [(140, .bipush 8, 2), (142, .iushr, 1), (143, .sipush 255, 3), (146, .iand, 1), (147, .istore 6, 2), (149, .aload_n 0, 1), (150, .getfield 9, 3)]) (S2 := (153, [some (.ref 41), some (.int v1), z2, (mm_no2 z3), some (.long s0), none, some (.int ((mm_ush r1 (8 : Int32)) &&& (255 : Int32)))], [.ref 1], M2)) (by decide +kernel) (hO := mm_own_122) rfl ?_
  refine mm_R_call (v := mm_wi) h hA (k2 := 44) (as := [.ref 1]) (r := []) rfl (fun _ => rfl) (fun q hq o ho => ms_44 (by omega) hq ho) (fun r3 M4 h => ?_)
  show mm_Runs L xs (d + 1) 122 (156, [some (.ref 41), some (.int v1), z2, (mm_no2 z3), some (.long s0), none, some (.int ((mm_ush r1 (8 : Int32)) &&& (255 : Int32)))], [.int r3], M4) o
  refine mm_Runs.seq (l := [(156, .iload 6, 2)]) (S2 := (158, [some (.ref 41), some (.int v1), z2, (mm_no2 z3), some (.long s0), none, some (.int ((mm_ush r1 (8 : Int32)) &&& (255 : Int32)))], [.int ((mm_ush r1 (8 : Int32)) &&& (255 : Int32)), .int r3], M4)) (by decide +kernel) (hO := mm_own_122) rfl ?_
  refine mm_R_ieq (t := 165) rfl rfl rfl (fun hc => ?_) (fun hc => ?_)
  · replace h := mm_ip hc h
    refine mm_Runs.seq (l := [(165, .iconst 0, 1)]) (S2 := (166, [some (.ref 41), some (.int v1), z2, (mm_no2 z3), some (.long s0), none, some (.int ((mm_ush r1 (8 : Int32)) &&& (255 : Int32)))], [.int (0 : Int32)], M4)) (by decide +kernel) (hO := mm_own_122) rfl ?_
    exact (ms_122_j166 hd h hA : mp_122_166 L xs (d + 1) s0 (0 : Int32) M4 o) (some (.ref 41)) (some (.int v1)) z2 ((mm_no2 z3)) none (some (.int ((mm_ush r1 (8 : Int32)) &&& (255 : Int32))))
  · replace h := mm_iq hc h
    refine mm_Runs.seq (l := [(161, .iconst 1, 1), (162, .goto 4, 3)]) (S2 := (166, [some (.ref 41), some (.int v1), z2, (mm_no2 z3), some (.long s0), none, some (.int ((mm_ush r1 (8 : Int32)) &&& (255 : Int32)))], [.int (1 : Int32)], M4)) (by decide +kernel) (hO := mm_own_122) rfl ?_
    exact (ms_122_j166 hd h hA : mp_122_166 L xs (d + 1) s0 (1 : Int32) M4 o) (some (.ref 41)) (some (.int v1)) z2 ((mm_no2 z3)) none (some (.int ((mm_ush r1 (8 : Int32)) &&& (255 : Int32))))
set_option maxRecDepth 8000 in
set_option maxHeartbeats 4000000 in
theorem ms_122_j82 {L : Nat} {xs : Nat → Int32} {d : Nat} (hd : 9 ≤ d) {v1 : Int32} {v3 : Int32} {s0 : Int32} {M : mm_M} {q : (Int64 ⊕ Nat) × mm_M} {o : mm_E} (h : mf_122_j82 v1 v3 s0 M = some q) (hA : mm_A (mm_Kr mm_wl) q o) : mp_122_82 L xs d v1 v3 s0 M o := by
  unfold mf_122_j82 at h
  obtain ⟨d, rfl⟩ := mm_d1 (n := 8) hd
  intro z2 z4 z5 z6
  show mm_Runs L xs (d + 1) 122 (82, [some (.ref 41), some (.int v1), z2, some (.int v3), z4, z5, z6], [.int s0], M) o
  refine mm_R_call (v := mm_wv) h hA (k2 := 27) (as := [.int s0]) (r := []) rfl (fun _ => rfl) (fun q hq o ho => ms_27 (by omega) hq ho) (fun _ M1 h => ?_)
  show mm_Runs L xs (d + 1) 122 (85, [some (.ref 41), some (.int v1), z2, some (.int v3), z4, z5, z6], [], M1) o
  refine mm_Runs.seq (l := [(85, .aload_n 0, 1), (86, .lconst 1, 1), (87, .bipush 8, 2), (89, .iconst 2, 1), (90, .iload_n 3, 1), (91, .imul, 1), (92, .iadd, 1), (93, .lshl, 1), (94, .putfield 91, 3), (97, .aload_n 0, 1), (98, .getfield 77, 3), (101, .bipush 8, 2), (103, .iand, 1)]) (S2 := (104, [some (.ref 41), some (.int v1), z2, some (.int v3), z4, z5, z6], [.int ((M1.1 41 4) &&& (8 : Int32))], (mm_pl M1 41 5 (mm_lshl (1 : Int64) ((8 : Int32) + ((2 : Int32) * v3)))))) (by decide +kernel) (hO := mm_own_122) rfl ?_
  refine mm_R_zeq (t := 119) rfl rfl rfl (fun hc => ?_) (fun hc => ?_)
  · replace h := mm_ip hc h
    refine mm_Runs.seq (l := [(119, .lconst 0, 1)]) (S2 := (120, [some (.ref 41), some (.int v1), z2, some (.int v3), z4, z5, z6], [.long (0 : Int64)], (mm_pl M1 41 5 (mm_lshl (1 : Int64) ((8 : Int32) + ((2 : Int32) * v3)))))) (by decide +kernel) (hO := mm_own_122) rfl ?_
    exact (ms_122_j120 hd h hA : mp_122_120 L xs (d + 1) v1 (0 : Int64) (mm_pl M1 41 5 (mm_lshl (1 : Int64) ((8 : Int32) + ((2 : Int32) * v3)))) o) z2 (some (.int v3)) z4 z5 z6
  · replace h := mm_iq hc h
    refine mm_Runs.seq (l := [(107, .aload_n 0, 1), (108, .getfield 9, 3), (111, .bipush 8, 2)]) (S2 := (113, [some (.ref 41), some (.int v1), z2, some (.int v3), z4, z5, z6], [.int (8 : Int32), .ref 1], (mm_pl M1 41 5 (mm_lshl (1 : Int64) ((8 : Int32) + ((2 : Int32) * v3)))))) (by decide +kernel) (hO := mm_own_122) rfl ?_
    refine mm_R_call (v := mm_wl) h hA (k2 := 47) (as := [.ref 1, .int (8 : Int32)]) (r := []) rfl (fun _ => rfl) (fun q hq o ho => ms_47 (by omega) hq ho) (fun r2 M3 h => ?_)
    show mm_Runs L xs (d + 1) 122 (116, [some (.ref 41), some (.int v1), z2, some (.int v3), z4, z5, z6], [.long r2], M3) o
    refine mm_Runs.seq (l := [(116, .goto 4, 3)]) (S2 := (120, [some (.ref 41), some (.int v1), z2, some (.int v3), z4, z5, z6], [.long r2], M3)) (by decide +kernel) (hO := mm_own_122) rfl ?_
    exact (ms_122_j120 hd h hA : mp_122_120 L xs (d + 1) v1 r2 M3 o) z2 (some (.int v3)) z4 z5 z6
set_option maxRecDepth 8000 in
set_option maxHeartbeats 4000000 in
theorem ms_122_j44 {L : Nat} {xs : Nat → Int32} {d : Nat} (hd : 9 ≤ d) {v1 : Int32} {s0 : Int32} {M : mm_M} {q : (Int64 ⊕ Nat) × mm_M} {o : mm_E} (h : mf_122_j44 v1 s0 M = some q) (hA : mm_A (mm_Kr mm_wl) q o) : mp_122_44 L xs d v1 s0 M o := by
  unfold mf_122_j44 at h
  obtain ⟨d, rfl⟩ := mm_d1 (n := 8) hd
  intro z2 z3 z4 z5 z6
  show mm_Runs L xs (d + 1) 122 (44, [some (.ref 41), some (.int v1), z2, z3, z4, z5, z6], [.int s0], M) o
  refine mm_R_call (v := mm_wv) h hA (k2 := 27) (as := [.int s0]) (r := []) rfl (fun _ => rfl) (fun q hq o ho => ms_27 (by omega) hq ho) (fun _ M1 h => ?_)
  show mm_Runs L xs (d + 1) 122 (47, [some (.ref 41), some (.int v1), z2, z3, z4, z5, z6], [], M1) o
  refine mm_Runs.seq (l := [(47, .aload_n 0, 1), (48, .getfield 9, 3)]) (S2 := (51, [some (.ref 41), some (.int v1), z2, z3, z4, z5, z6], [.ref 1], M1)) (by decide +kernel) (hO := mm_own_122) rfl ?_
  refine mm_R_call (v := mm_wi) h hA (k2 := 44) (as := [.ref 1]) (r := []) rfl (fun _ => rfl) (fun q hq o ho => ms_44 (by omega) hq ho) (fun r2 M3 h => ?_)
  show mm_Runs L xs (d + 1) 122 (54, [some (.ref 41), some (.int v1), z2, z3, z4, z5, z6], [.int r2], M3) o
  refine mm_Runs.seq (l := [(54, .istore_n 2, 1), (55, .iload_n 2, 1), (56, .iconst 4, 1), (57, .ishr, 1), (58, .istore_n 3, 1), (59, .iload_n 2, 1), (60, .bipush 15, 2), (62, .iand, 1)]) (S2 := (63, [some (.ref 41), some (.int v1), some (.int r2), some (.int (mm_shr r2 (4 : Int32))), z4, z5, z6], [.int (r2 &&& (15 : Int32))], M3)) (by decide +kernel) (hO := mm_own_122) rfl ?_
  refine mm_R_zne (t := 77) rfl rfl rfl (fun hc => ?_) (fun hc => ?_)
  · replace h := mm_ip hc h
    refine mm_Runs.seq (l := [(66, .iload_n 3, 1), (67, .iconst 4, 1)]) (S2 := (68, [some (.ref 41), some (.int v1), some (.int r2), some (.int (mm_shr r2 (4 : Int32))), z4, z5, z6], [.int (4 : Int32), .int (mm_shr r2 (4 : Int32))], M3)) (by decide +kernel) (hO := mm_own_122) rfl ?_
    refine mm_R_ilt (t := 77) rfl rfl rfl (fun hc => ?_) (fun hc => ?_)
    · replace h := mm_ip hc h
      refine mm_Runs.seq (l := [(77, .iconst 1, 1), (78, .goto 4, 3)]) (S2 := (82, [some (.ref 41), some (.int v1), some (.int r2), some (.int (mm_shr r2 (4 : Int32))), z4, z5, z6], [.int (1 : Int32)], M3)) (by decide +kernel) (hO := mm_own_122) rfl ?_
      exact (ms_122_j82 hd h hA : mp_122_82 L xs (d + 1) v1 (mm_shr r2 (4 : Int32)) (1 : Int32) M3 o) (some (.int r2)) z4 z5 z6
    · replace h := mm_iq hc h
      refine mm_Runs.seq (l := [(71, .iload_n 3, 1), (72, .bipush 7, 2)]) (S2 := (74, [some (.ref 41), some (.int v1), some (.int r2), some (.int (mm_shr r2 (4 : Int32))), z4, z5, z6], [.int (7 : Int32), .int (mm_shr r2 (4 : Int32))], M3)) (by decide +kernel) (hO := mm_own_122) rfl ?_
      refine mm_R_ile (t := 81) rfl rfl rfl (fun hc => ?_) (fun hc => ?_)
      · replace h := mm_ip hc h
        refine mm_Runs.seq (l := [(77, .iconst 1, 1), (78, .goto 4, 3)]) (S2 := (82, [some (.ref 41), some (.int v1), some (.int r2), some (.int (mm_shr r2 (4 : Int32))), z4, z5, z6], [.int (1 : Int32)], M3)) (by decide +kernel) (hO := mm_own_122) rfl ?_
        exact (ms_122_j82 hd h hA : mp_122_82 L xs (d + 1) v1 (mm_shr r2 (4 : Int32)) (1 : Int32) M3 o) (some (.int r2)) z4 z5 z6
      · replace h := mm_iq hc h
        refine mm_Runs.seq (l := [(81, .iconst 0, 1)]) (S2 := (82, [some (.ref 41), some (.int v1), some (.int r2), some (.int (mm_shr r2 (4 : Int32))), z4, z5, z6], [.int (0 : Int32)], M3)) (by decide +kernel) (hO := mm_own_122) rfl ?_
        exact (ms_122_j82 hd h hA : mp_122_82 L xs (d + 1) v1 (mm_shr r2 (4 : Int32)) (0 : Int32) M3 o) (some (.int r2)) z4 z5 z6
  · replace h := mm_iq hc h
    refine mm_Runs.seq (l := [(77, .iconst 1, 1), (78, .goto 4, 3)]) (S2 := (82, [some (.ref 41), some (.int v1), some (.int r2), some (.int (mm_shr r2 (4 : Int32))), z4, z5, z6], [.int (1 : Int32)], M3)) (by decide +kernel) (hO := mm_own_122) rfl ?_
    exact (ms_122_j82 hd h hA : mp_122_82 L xs (d + 1) v1 (mm_shr r2 (4 : Int32)) (1 : Int32) M3 o) (some (.int r2)) z4 z5 z6
set_option maxRecDepth 8000 in
set_option maxHeartbeats 4000000 in
theorem ms_122 {L : Nat} {xs : Nat → Int32} {d : Nat} (hd : 9 ≤ d) {M : mm_M} {q : (Int64 ⊕ Nat) × mm_M} {o : mm_E} (h : mf_122 M = some q) (hA : mm_A (mm_Kr mm_wl) q o) : mm_Runs L xs d 122 (0, mm_ent (mm_ml 122) [.ref 41], [], M) o := by
  unfold mf_122 at h
  obtain ⟨d, rfl⟩ := mm_d1 (n := 8) hd
  show mm_Runs L xs (d + 1) 122 (0, [some (.ref 41), none, none, none, none, none, none], [], M) o
  refine mm_Runs.seq (l := [(0, .aload_n 0, 1), (1, .getfield 9, 3), (4, .getfield 88, 3), (7, .istore_n 1, 1), (8, .aload_n 0, 1), (9, .aload_n 0, 1), (10, .getfield 9, 3)]) (S2 := (13, [some (.ref 41), some (.int (M.1 1 2)), none, none, none, none, none], [.ref 1, .ref 41], M)) (by decide +kernel) (hO := mm_own_122) rfl ?_
  refine mm_R_call (v := mm_wi) h hA (k2 := 44) (as := [.ref 1]) (r := [.ref 41]) rfl (fun _ => rfl) (fun q hq o ho => ms_44 (by omega) hq ho) (fun r1 M2 h => ?_)
  show mm_Runs L xs (d + 1) 122 (16, [some (.ref 41), some (.int (M.1 1 2)), none, none, none, none, none], [.int r1, .ref 41], M2) o
  refine mm_Runs.seq (l := [(16, .putfield 77, 3), (19, .aload_n 0, 1), (20, .getfield 77, 3), (23, .bipush 6, 2), (25, .ishr, 1), (26, .iconst 1, 1)]) (S2 := (27, [some (.ref 41), some (.int (M.1 1 2)), none, none, none, none, none], [.int (1 : Int32), .int (mm_shr r1 (6 : Int32))], (mm_pi M2 41 4 r1))) (by decide +kernel) (hO := mm_own_122) rfl ?_
  refine mm_R_ine (t := 39) rfl rfl rfl (fun hc => ?_) (fun hc => ?_)
  · replace h := mm_ip hc h
    refine mm_Runs.seq (l := [(30, .aload_n 0, 1), (31, .getfield 77, 3), (34, .iconst 3, 1), (35, .iand, 1)]) (S2 := (36, [some (.ref 41), some (.int (M.1 1 2)), none, none, none, none, none], [.int (r1 &&& (3 : Int32))], (mm_pi M2 41 4 r1))) (by decide +kernel) (hO := mm_own_122) rfl ?_
    refine mm_R_zeq (t := 43) rfl rfl rfl (fun hc => ?_) (fun hc => ?_)
    · replace h := mm_ip hc h
      refine mm_Runs.seq (l := [(43, .iconst 0, 1)]) (S2 := (44, [some (.ref 41), some (.int (M.1 1 2)), none, none, none, none, none], [.int (0 : Int32)], (mm_pi M2 41 4 r1))) (by decide +kernel) (hO := mm_own_122) rfl ?_
      exact (ms_122_j44 hd h hA : mp_122_44 L xs (d + 1) (M.1 1 2) (0 : Int32) (mm_pi M2 41 4 r1) o) none none none none none
    · replace h := mm_iq hc h
      refine mm_Runs.seq (l := [(39, .iconst 1, 1), (40, .goto 4, 3)]) (S2 := (44, [some (.ref 41), some (.int (M.1 1 2)), none, none, none, none, none], [.int (1 : Int32)], (mm_pi M2 41 4 r1))) (by decide +kernel) (hO := mm_own_122) rfl ?_
      exact (ms_122_j44 hd h hA : mp_122_44 L xs (d + 1) (M.1 1 2) (1 : Int32) (mm_pi M2 41 4 r1) o) none none none none none
  · replace h := mm_iq hc h
    refine mm_Runs.seq (l := [(39, .iconst 1, 1), (40, .goto 4, 3)]) (S2 := (44, [some (.ref 41), some (.int (M.1 1 2)), none, none, none, none, none], [.int (1 : Int32)], (mm_pi M2 41 4 r1))) (by decide +kernel) (hO := mm_own_122) rfl ?_
    exact (ms_122_j44 hd h hA : mp_122_44 L xs (d + 1) (M.1 1 2) (1 : Int32) (mm_pi M2 41 4 r1) o) none none none none none
-- 41: PlainPacks$Source.closeBehind(I)V (depth 0)
theorem mm_own_41 : mm_own 41 = 1 := rfl
set_option maxRecDepth 8000 in
set_option maxHeartbeats 4000000 in
theorem ms_41 {L : Nat} {xs : Nat → Int32} {d : Nat} (hd : 0 ≤ d) {v1 : Int32} {M : mm_M} {q : (Unit ⊕ Nat) × mm_M} {o : mm_E} (h : mf_41 v1 M = some q) (hA : mm_A (mm_Kr mm_wv) q o) : mm_Runs L xs d 41 (0, mm_ent (mm_ml 41) [.ref 1, .int v1], [], M) o := by
  unfold mf_41 at h
  show mm_Runs L xs (d) 41 (0, [some (.ref 1), some (.int v1)], [], M) o
  refine mm_Runs.seq (l := [(0, .aload_n 0, 1), (1, .iload_n 1, 1), (2, .aload_n 0, 1), (3, .getfield 15, 3), (6, .aload_n 0, 1), (7, .getfield 19, 3), (10, .isub, 1)]) (S2 := (11, [some (.ref 1), some (.int v1)], [.int ((M.1 1 1) - (M.1 1 2)), .int v1, .ref 1], M)) (by decide +kernel) (hO := mm_own_41) rfl ?_
  refine mm_R_ige (t := 23) rfl rfl rfl (fun hc => ?_) (fun hc => ?_)
  · replace h := mm_ip hc h
    refine mm_Runs.seq (l := [(14, .aload_n 0, 1), (15, .getfield 19, 3), (18, .iload_n 1, 1), (19, .iadd, 1), (20, .goto 7, 3), (27, .putfield 22, 3)]) (S2 := (30, [some (.ref 1), some (.int v1)], [], (mm_pi M 1 3 ((M.1 1 2) + v1)))) (by decide +kernel) (hO := mm_own_41) rfl ?_
    cases h
    exact mm_R_retv rfl rfl hA
  · replace h := mm_iq hc h
    refine mm_Runs.seq (l := [(23, .aload_n 0, 1), (24, .getfield 15, 3), (27, .putfield 22, 3)]) (S2 := (30, [some (.ref 1), some (.int v1)], [], (mm_pi M 1 3 (M.1 1 1)))) (by decide +kernel) (hO := mm_own_41) rfl ?_
    cases h
    exact mm_R_retv rfl rfl hA
-- 42: PlainPacks$Source.reopen()V (depth 0)
theorem mm_own_42 : mm_own 42 = 1 := rfl
set_option maxRecDepth 8000 in
set_option maxHeartbeats 4000000 in
theorem ms_42 {L : Nat} {xs : Nat → Int32} {d : Nat} (hd : 0 ≤ d) {M : mm_M} {q : (Unit ⊕ Nat) × mm_M} {o : mm_E} (h : mf_42 M = some q) (hA : mm_A (mm_Kr mm_wv) q o) : mm_Runs L xs d 42 (0, mm_ent (mm_ml 42) [.ref 1], [], M) o := by
  unfold mf_42 at h
  show mm_Runs L xs (d) 42 (0, [some (.ref 1)], [], M) o
  refine mm_Runs.seq (l := [(0, .aload_n 0, 1), (1, .aload_n 0, 1), (2, .getfield 15, 3), (5, .putfield 22, 3)]) (S2 := (8, [some (.ref 1)], [], (mm_pi M 1 3 (M.1 1 1)))) (by decide +kernel) (hO := mm_own_42) rfl ?_
  cases h
  exact mm_R_retv rfl rfl hA
-- 123: PlainPacks$Pieces.readFrameBlock(J)V (depth 11)
theorem mm_own_123 : mm_own 123 = 9 := rfl
def mp_123_13 (L : Nat) (xs : Nat → Int32) (d : Nat) (v1 : Int64) (s0 : Int32) (M : mm_M) (o : mm_E) : Prop := ∀ z2 z3 z4 z5 z6 z7 : Option Value, mm_Runs L xs d 123 (13, [some (.ref 41), some (.long v1), z2, z3, z4, z5, z6, z7], [.int s0], M) o
def mp_123_27 (L : Nat) (xs : Nat → Int32) (d : Nat) (v3 : Int32) (s0 : Int64) (M : mm_M) (o : mm_E) : Prop := ∀ z1 z2 z4 z5 z6 z7 : Option Value, mm_Runs L xs d 123 (27, [some (.ref 41), z1, z2, some (.int v3), z4, z5, z6, z7], [.long s0], M) o
def mp_123_44 (L : Nat) (xs : Nat → Int32) (d : Nat) (v3 : Int32) (v4 : Int64) (s0 : Int32) (M : mm_M) (o : mm_E) : Prop := ∀ z1 z2 z5 z6 z7 : Option Value, mm_Runs L xs d 123 (44, [some (.ref 41), z1, z2, some (.int v3), some (.long v4), z5, z6, z7], [.int s0], M) o
def mp_123_114 (L : Nat) (xs : Nat → Int32) (d : Nat) (v6 : Int32) (s1 : Int32) (M : mm_M) (o : mm_E) : Prop := ∀ z1 z2 z3 z4 z5 z7 : Option Value, mm_Runs L xs d 123 (114, [some (.ref 41), z1, z2, z3, z4, z5, some (.int v6), z7], [.int s1, .ref 41], M) o
def mp_123_124 (L : Nat) (xs : Nat → Int32) (d : Nat) (v6 : Int32) (M : mm_M) (o : mm_E) : Prop := ∀ z1 z2 z3 z4 z5 z7 : Option Value, mm_Runs L xs d 123 (124, [some (.ref 41), z1, z2, z3, z4, z5, some (.int v6), z7], [], M) o
def mp_123_174 (L : Nat) (xs : Nat → Int32) (d : Nat) (s0 : Int32) (M : mm_M) (o : mm_E) : Prop := ∀ z0 z1 z2 z3 z4 z5 z6 z7 : Option Value, mm_Runs L xs d 123 (174, [z0, z1, z2, z3, z4, z5, z6, z7], [.int s0], M) o
set_option maxRecDepth 8000 in
set_option maxHeartbeats 4000000 in
theorem ms_123_j174 {L : Nat} {xs : Nat → Int32} {d : Nat} (hd : 11 ≤ d) {s0 : Int32} {M : mm_M} {q : (Unit ⊕ Nat) × mm_M} {o : mm_E} (h : mf_123_j174 s0 M = some q) (hA : mm_A (mm_Kr mm_wv) q o) : mp_123_174 L xs d s0 M o := by
  unfold mf_123_j174 at h
  obtain ⟨d, rfl⟩ := mm_d1 (n := 10) hd
  intro z0 z1 z2 z3 z4 z5 z6 z7
  show mm_Runs L xs (d + 1) 123 (174, [z0, z1, z2, z3, z4, z5, z6, z7], [.int s0], M) o
  refine mm_R_call (v := mm_wv) h hA (k2 := 27) (as := [.int s0]) (r := []) rfl (fun _ => rfl) (fun q hq o ho => ms_27 (by omega) hq ho) (fun _ M1 h => ?_)
  show mm_Runs L xs (d + 1) 123 (177, [z0, z1, z2, z3, z4, z5, z6, z7], [], M1) o
  cases h
  exact mm_R_retv rfl rfl hA
set_option maxRecDepth 8000 in
set_option maxHeartbeats 4000000 in
theorem ms_123_j124 {L : Nat} {xs : Nat → Int32} {d : Nat} (hd : 11 ≤ d) {v6 : Int32} {M : mm_M} {q : (Unit ⊕ Nat) × mm_M} {o : mm_E} (h : mf_123_j124 v6 M = some q) (hA : mm_A (mm_Kr mm_wv) q o) : mp_123_124 L xs d v6 M o := by
  unfold mf_123_j124 at h
  obtain ⟨d, rfl⟩ := mm_d1 (n := 10) hd
  intro z1 z2 z3 z4 z5 z7
  show mm_Runs L xs (d + 1) 123 (124, [some (.ref 41), z1, z2, z3, z4, z5, some (.int v6), z7], [], M) o
  refine mm_Runs.seq (l := [(124, .aload_n 0, 1), (125, .getfield 77, 3), (128, .bipush 16, 2), (130, .iand, 1)]) (S2 := (131, [some (.ref 41), z1, z2, z3, z4, z5, some (.int v6), z7], [.int ((M.1 41 4) &&& (16 : Int32))], M)) (by decide +kernel) (hO := mm_own_123) rfl ?_
  refine mm_R_zeq (t := 177) rfl rfl rfl (fun hc => ?_) (fun hc => ?_)
  · replace h := mm_ip hc h
    cases h
    exact mm_R_retv rfl rfl hA
  · replace h := mm_iq hc h
    refine mm_Runs.seq (l := [(134, .aload_n 0, 1), (135, .getfield 9, 3), (138, .getfield 88, 3), (141, .istore 7, 2), (143, .aload_n 0, 1), (144, .getfield 9, 3), (147, .iconst 4, 1)]) (S2 := (148, [some (.ref 41), z1, z2, z3, z4, z5, some (.int v6), some (.int (M.1 1 2))], [.int (4 : Int32), .ref 1], M)) (by decide +kernel) (hO := mm_own_123) rfl ?_
    refine mm_R_call (v := mm_wl) h hA (k2 := 47) (as := [.ref 1, .int (4 : Int32)]) (r := []) rfl (fun _ => rfl) (fun q hq o ho => ms_47 (by omega) hq ho) (fun r1 M2 h => ?_)
    show mm_Runs L xs (d + 1) 123 (151, [some (.ref 41), z1, z2, z3, z4, z5, some (.int v6), some (.int (M.1 1 2))], [.long r1], M2) o
    refine mm_Runs.seq (l := [(151, .l2i, 1), (152, .aload_n 0, 1), (153, .getfield 9, 3), (156, .getfield 95, 3), (159, .iload 6, 2), (161, .iload 7, 2)]) (S2 := (163, [some (.ref 41), z1, z2, z3, z4, z5, some (.int v6), some (.int (M.1 1 2))], [.int (M.1 1 2), .int v6, .ref 2, .int r1.toInt32], M2)) (by decide +kernel) (hO := mm_own_123) rfl ?_
    refine mm_R_call (v := mm_wi) h hA (k2 := 31) (as := [.ref 2, .int v6, .int (M.1 1 2)]) (r := [.int r1.toInt32]) rfl (fun _ => rfl) (fun q hq o ho => ms_31 rfl (by omega) hq ho) (fun r3 M4 h => ?_)
    show mm_Runs L xs (d + 1) 123 (166, [some (.ref 41), z1, z2, z3, z4, z5, some (.int v6), some (.int (M.1 1 2))], [.int r3, .int r1.toInt32], M4) o
    refine mm_R_ieq (t := 173) rfl rfl rfl (fun hc => ?_) (fun hc => ?_)
    · replace h := mm_ip hc h
      refine mm_Runs.seq (l := [(173, .iconst 0, 1)]) (S2 := (174, [some (.ref 41), z1, z2, z3, z4, z5, some (.int v6), some (.int (M.1 1 2))], [.int (0 : Int32)], M4)) (by decide +kernel) (hO := mm_own_123) rfl ?_
      exact (ms_123_j174 hd h hA : mp_123_174 L xs (d + 1) (0 : Int32) M4 o) (some (.ref 41)) z1 z2 z3 z4 z5 (some (.int v6)) (some (.int (M.1 1 2)))
    · replace h := mm_iq hc h
      refine mm_Runs.seq (l := [(169, .iconst 1, 1), (170, .goto 4, 3)]) (S2 := (174, [some (.ref 41), z1, z2, z3, z4, z5, some (.int v6), some (.int (M.1 1 2))], [.int (1 : Int32)], M4)) (by decide +kernel) (hO := mm_own_123) rfl ?_
      exact (ms_123_j174 hd h hA : mp_123_174 L xs (d + 1) (1 : Int32) M4 o) (some (.ref 41)) z1 z2 z3 z4 z5 (some (.int v6)) (some (.int (M.1 1 2)))
set_option maxRecDepth 8000 in
set_option maxHeartbeats 4000000 in
theorem ms_123_j114 {L : Nat} {xs : Nat → Int32} {d : Nat} (hd : 11 ≤ d) {v6 : Int32} {s1 : Int32} {M : mm_M} {q : (Unit ⊕ Nat) × mm_M} {o : mm_E} (h : mf_123_j114 v6 s1 M = some q) (hA : mm_A (mm_Kr mm_wv) q o) : mp_123_114 L xs d v6 s1 M o := by
  unfold mf_123_j114 at h
  obtain ⟨d, rfl⟩ := mm_d1 (n := 10) hd
  intro z1 z2 z3 z4 z5 z7
  show mm_Runs L xs (d + 1) 123 (114, [some (.ref 41), z1, z2, z3, z4, z5, some (.int v6), z7], [.int s1, .ref 41], M) o
  refine mm_R_call (v := mm_wv) h hA (k2 := 118) (as := [.ref 41, .int s1]) (r := []) rfl (fun _ => rfl) (fun q hq o ho => ms_118 (by omega) hq ho) (fun _ M1 h => ?_)
  show mm_Runs L xs (d + 1) 123 (117, [some (.ref 41), z1, z2, z3, z4, z5, some (.int v6), z7], [], M1) o
  refine mm_Runs.seq (l := [(117, .aload_n 0, 1), (118, .getfield 9, 3)]) (S2 := (121, [some (.ref 41), z1, z2, z3, z4, z5, some (.int v6), z7], [.ref 1], M1)) (by decide +kernel) (hO := mm_own_123) rfl ?_
  refine mm_R_call (v := mm_wv) h hA (k2 := 42) (as := [.ref 1]) (r := []) rfl (fun _ => rfl) (fun q hq o ho => ms_42 (by omega) hq ho) (fun _ M2 h => ?_)
  show mm_Runs L xs (d + 1) 123 (124, [some (.ref 41), z1, z2, z3, z4, z5, some (.int v6), z7], [], M2) o
  exact (ms_123_j124 hd h hA : mp_123_124 L xs (d + 1) v6 M2 o) z1 z2 z3 z4 z5 z7
set_option maxRecDepth 8000 in
set_option maxHeartbeats 4000000 in
theorem ms_123_j44 {L : Nat} {xs : Nat → Int32} {d : Nat} (hd : 11 ≤ d) {v3 : Int32} {v4 : Int64} {s0 : Int32} {M : mm_M} {q : (Unit ⊕ Nat) × mm_M} {o : mm_E} (h : mf_123_j44 v3 v4 s0 M = some q) (hA : mm_A (mm_Kr mm_wv) q o) : mp_123_44 L xs d v3 v4 s0 M o := by
  unfold mf_123_j44 at h
  obtain ⟨d, rfl⟩ := mm_d1 (n := 10) hd
  intro z1 z2 z5 z6 z7
  show mm_Runs L xs (d + 1) 123 (44, [some (.ref 41), z1, z2, some (.int v3), some (.long v4), z5, z6, z7], [.int s0], M) o
  refine mm_R_call (v := mm_wv) h hA (k2 := 27) (as := [.int s0]) (r := []) rfl (fun _ => rfl) (fun q hq o ho => ms_27 (by omega) hq ho) (fun _ M1 h => ?_)
  show mm_Runs L xs (d + 1) 123 (47, [some (.ref 41), z1, z2, some (.int v3), some (.long v4), z5, z6, z7], [], M1) o
  refine mm_Runs.seq (l := [(47, .aload_n 0, 1), (48, .getfield 15, 3), (51, .dup, 1), (52, .getfield 98, 3), (55, .iconst 1, 1), (56, .iadd, 1), (57, .putfield 98, 3), (60, .aload_n 0, 1), (61, .getfield 9, 3), (64, .getfield 88, 3), (67, .istore 6, 2), (69, .iload_n 3, 1)]) (S2 := (70, [some (.ref 41), z1, z2, some (.int v3), some (.long v4), (mm_no2 z5), some (.int (M1.1 1 2)), z7], [.int v3], (mm_pi M1 3 6 ((M1.1 3 6) + (1 : Int32))))) (by decide +kernel) (hO := mm_own_123) rfl ?_
  refine mm_R_zeq (t := 82) rfl rfl rfl (fun hc => ?_) (fun hc => ?_)
  · replace h := mm_ip hc h
    refine mm_Runs.seq (l := [(82, .aload_n 0, 1), (83, .getfield 9, 3), (86, .lload 4, 2), (88, .l2i, 1)]) (S2 := (89, [some (.ref 41), z1, z2, some (.int v3), some (.long v4), (mm_no2 z5), some (.int (M1.1 1 2)), z7], [.int v4.toInt32, .ref 1], (mm_pi M1 3 6 ((M1.1 3 6) + (1 : Int32))))) (by decide +kernel) (hO := mm_own_123) rfl ?_
    refine mm_R_call (v := mm_wv) h hA (k2 := 41) (as := [.ref 1, .int v4.toInt32]) (r := []) rfl (fun _ => rfl) (fun q hq o ho => ms_41 (by omega) hq ho) (fun _ M2 h => ?_)
    show mm_Runs L xs (d + 1) 123 (92, [some (.ref 41), z1, z2, some (.int v3), some (.long v4), (mm_no2 z5), some (.int (M1.1 1 2)), z7], [], M2) o
    refine mm_Runs.seq (l := [(92, .aload_n 0, 1), (93, .aload_n 0, 1), (94, .getfield 77, 3), (97, .bipush 32, 2), (99, .iand, 1)]) (S2 := (100, [some (.ref 41), z1, z2, some (.int v3), some (.long v4), (mm_no2 z5), some (.int (M1.1 1 2)), z7], [.int ((M2.1 41 4) &&& (32 : Int32)), .ref 41], M2)) (by decide +kernel) (hO := mm_own_123) rfl ?_
    refine mm_R_zeq (t := 113) rfl rfl rfl (fun hc => ?_) (fun hc => ?_)
    · replace h := mm_ip hc h
      refine mm_Runs.seq (l := [(113, .iconst 0, 1)]) (S2 := (114, [some (.ref 41), z1, z2, some (.int v3), some (.long v4), (mm_no2 z5), some (.int (M1.1 1 2)), z7], [.int (0 : Int32), .ref 41], M2)) (by decide +kernel) (hO := mm_own_123) rfl ?_
      exact (ms_123_j114 hd h hA : mp_123_114 L xs (d + 1) (M1.1 1 2) (0 : Int32) M2 o) z1 z2 (some (.int v3)) (some (.long v4)) ((mm_no2 z5)) z7
    · replace h := mm_iq hc h
      refine mm_Runs.seq (l := [(103, .aload_n 0, 1), (104, .getfield 15, 3), (107, .getfield 56, 3), (110, .goto 4, 3)]) (S2 := (114, [some (.ref 41), z1, z2, some (.int v3), some (.long v4), (mm_no2 z5), some (.int (M1.1 1 2)), z7], [.int (M2.1 3 1), .ref 41], M2)) (by decide +kernel) (hO := mm_own_123) rfl ?_
      exact (ms_123_j114 hd h hA : mp_123_114 L xs (d + 1) (M1.1 1 2) (M2.1 3 1) M2 o) z1 z2 (some (.int v3)) (some (.long v4)) ((mm_no2 z5)) z7
  · replace h := mm_iq hc h
    refine mm_Runs.seq (l := [(73, .aload_n 0, 1), (74, .lload 4, 2)]) (S2 := (76, [some (.ref 41), z1, z2, some (.int v3), some (.long v4), (mm_no2 z5), some (.int (M1.1 1 2)), z7], [.long v4, .ref 41], (mm_pi M1 3 6 ((M1.1 3 6) + (1 : Int32))))) (by decide +kernel) (hO := mm_own_123) rfl ?_
    refine mm_R_call (v := mm_wv) h hA (k2 := 120) (as := [.ref 41, .long v4]) (r := []) rfl (fun _ => rfl) (fun q hq o ho => ms_120 (by omega) hq ho) (fun _ M3 h => ?_)
    show mm_Runs L xs (d + 1) 123 (79, [some (.ref 41), z1, z2, some (.int v3), some (.long v4), (mm_no2 z5), some (.int (M1.1 1 2)), z7], [], M3) o
    refine mm_Runs.seq (l := [(79, .goto 45, 3)]) (S2 := (124, [some (.ref 41), z1, z2, some (.int v3), some (.long v4), (mm_no2 z5), some (.int (M1.1 1 2)), z7], [], M3)) (by decide +kernel) (hO := mm_own_123) rfl ?_
    exact (ms_123_j124 hd h hA : mp_123_124 L xs (d + 1) (M1.1 1 2) M3 o) z1 z2 (some (.int v3)) (some (.long v4)) ((mm_no2 z5)) z7
set_option maxRecDepth 8000 in
set_option maxHeartbeats 4000000 in
theorem ms_123_j27 {L : Nat} {xs : Nat → Int32} {d : Nat} (hd : 11 ≤ d) {v3 : Int32} {s0 : Int64} {M : mm_M} {q : (Unit ⊕ Nat) × mm_M} {o : mm_E} (h : mf_123_j27 v3 s0 M = some q) (hA : mm_A (mm_Kr mm_wv) q o) : mp_123_27 L xs d v3 s0 M o := by
  unfold mf_123_j27 at h
  obtain ⟨d, rfl⟩ := mm_d1 (n := 10) hd
  intro z1 z2 z4 z5 z6 z7
  show mm_Runs L xs (d + 1) 123 (27, [some (.ref 41), z1, z2, some (.int v3), z4, z5, z6, z7], [.long s0], M) o
  refine mm_Runs.seq (l := [(27, .lstore 4, 2), (29, .lload 4, 2), (31, .aload_n 0, 1), (32, .getfield 91, 3)]) (S2 := (35, [some (.ref 41), z1, z2, some (.int v3), some (.long s0), none, z6, z7], [.long (M.2.1 41 5), .long s0], M)) (by decide +kernel) (hO := mm_own_123) rfl ?_
  refine mm_R_lle (t := 43) rfl rfl rfl rfl (fun hc => ?_) (fun hc => ?_)
  · replace h := mm_ip hc h
    refine mm_Runs.seq (l := [(39, .iconst 1, 1), (40, .goto 4, 3)]) (S2 := (44, [some (.ref 41), z1, z2, some (.int v3), some (.long s0), none, z6, z7], [.int (1 : Int32)], M)) (by decide +kernel) (hO := mm_own_123) rfl ?_
    exact (ms_123_j44 hd h hA : mp_123_44 L xs (d + 1) v3 s0 (1 : Int32) M o) z1 z2 none z6 z7
  · replace h := mm_iq hc h
    refine mm_Runs.seq (l := [(43, .iconst 0, 1)]) (S2 := (44, [some (.ref 41), z1, z2, some (.int v3), some (.long s0), none, z6, z7], [.int (0 : Int32)], M)) (by decide +kernel) (hO := mm_own_123) rfl ?_
    exact (ms_123_j44 hd h hA : mp_123_44 L xs (d + 1) v3 s0 (0 : Int32) M o) z1 z2 none z6 z7
set_option maxRecDepth 8000 in
set_option maxHeartbeats 4000000 in
theorem ms_123_j13 {L : Nat} {xs : Nat → Int32} {d : Nat} (hd : 11 ≤ d) {v1 : Int64} {s0 : Int32} {M : mm_M} {q : (Unit ⊕ Nat) × mm_M} {o : mm_E} (h : mf_123_j13 v1 s0 M = some q) (hA : mm_A (mm_Kr mm_wv) q o) : mp_123_13 L xs d v1 s0 M o := by
  unfold mf_123_j13 at h
  obtain ⟨d, rfl⟩ := mm_d1 (n := 10) hd
  intro z2 z3 z4 z5 z6 z7
  show mm_Runs L xs (d + 1) 123 (13, [some (.ref 41), some (.long v1), z2, z3, z4, z5, z6, z7], [.int s0], M) o
  refine mm_Runs.seq (l := [(13, .istore_n 3, 1), (14, .iload_n 3, 1)]) (S2 := (15, [some (.ref 41), some (.long v1), (mm_no2 z2), some (.int s0), z4, z5, z6, z7], [.int s0], M)) (by decide +kernel) (hO := mm_own_123) rfl ?_
  refine mm_R_zeq (t := 26) rfl rfl rfl (fun hc => ?_) (fun hc => ?_)
  · replace h := mm_ip hc h
    refine mm_Runs.seq (l := [(26, .lload_n 1, 1)]) (S2 := (27, [some (.ref 41), some (.long v1), (mm_no2 z2), some (.int s0), z4, z5, z6, z7], [.long v1], M)) (by decide +kernel) (hO := mm_own_123) rfl ?_
    exact (ms_123_j27 hd h hA : mp_123_27 L xs (d + 1) s0 v1 M o) (some (.long v1)) ((mm_no2 z2)) z4 z5 z6 z7
  · replace h := mm_iq hc h
    refine mm_Runs.seq (l := [(18, .lload_n 1, 1), (19, .ldc2_w 96, 3), (22, .lsub, 1), (23, .goto 4, 3)]) (S2 := (27, [some (.ref 41), some (.long v1), (mm_no2 z2), some (.int s0), z4, z5, z6, z7], [.long (v1 - (2147483648 : Int64))], M)) (by decide +kernel) (hO := mm_own_123) rfl ?_
    exact (ms_123_j27 hd h hA : mp_123_27 L xs (d + 1) s0 (v1 - (2147483648 : Int64)) M o) (some (.long v1)) ((mm_no2 z2)) z4 z5 z6 z7
set_option maxRecDepth 8000 in
set_option maxHeartbeats 4000000 in
theorem ms_123 {L : Nat} {xs : Nat → Int32} {d : Nat} (hd : 11 ≤ d) {v1 : Int64} {M : mm_M} {q : (Unit ⊕ Nat) × mm_M} {o : mm_E} (h : mf_123 v1 M = some q) (hA : mm_A (mm_Kr mm_wv) q o) : mm_Runs L xs d 123 (0, mm_ent (mm_ml 123) [.ref 41, .long v1], [], M) o := by
  unfold mf_123 at h
  obtain ⟨d, rfl⟩ := mm_d1 (n := 10) hd
  show mm_Runs L xs (d + 1) 123 (0, [some (.ref 41), some (.long v1), none, none, none, none, none, none], [], M) o
  refine mm_Runs.seq (l := [(0, .lload_n 1, 1), (1, .ldc2_w 96, 3)]) (S2 := (4, [some (.ref 41), some (.long v1), none, none, none, none, none, none], [.long (2147483648 : Int64), .long v1], M)) (by decide +kernel) (hO := mm_own_123) rfl ?_
  refine mm_R_llt (t := 12) rfl rfl rfl rfl (fun hc => ?_) (fun hc => ?_)
  · replace h := mm_ip hc h
    refine mm_Runs.seq (l := [(12, .iconst 0, 1)]) (S2 := (13, [some (.ref 41), some (.long v1), none, none, none, none, none, none], [.int (0 : Int32)], M)) (by decide +kernel) (hO := mm_own_123) rfl ?_
    exact (ms_123_j13 hd h hA : mp_123_13 L xs (d + 1) v1 (0 : Int32) M o) none none none none none none
  · replace h := mm_iq hc h
    refine mm_Runs.seq (l := [(8, .iconst 1, 1), (9, .goto 4, 3)]) (S2 := (13, [some (.ref 41), some (.long v1), none, none, none, none, none, none], [.int (1 : Int32)], M)) (by decide +kernel) (hO := mm_own_123) rfl ?_
    exact (ms_123_j13 hd h hA : mp_123_13 L xs (d + 1) v1 (1 : Int32) M o) none none none none none none
-- 121: PlainPacks$Pieces.readFrame()V (depth 12)
theorem mm_own_121 : mm_own 121 = 9 := rfl
def mp_121_16 (L : Nat) (xs : Nat → Int32) (d : Nat) (s0 : Int32) (M : mm_M) (o : mm_E) : Prop := ∀ z1 z2 z3 z4 z5 z6 : Option Value, mm_Runs L xs d 121 (16, [some (.ref 41), z1, z2, z3, z4, z5, z6], [.int s0], M) o
def mp_121_36 (L : Nat) (xs : Nat → Int32) (d : Nat) (s0 : Int32) (M : mm_M) (o : mm_E) : Prop := ∀ z1 z2 z3 z4 z5 z6 : Option Value, mm_Runs L xs d 121 (36, [some (.ref 41), z1, z2, z3, z4, z5, z6], [.int s0], M) o
def mp_121_56 (L : Nat) (xs : Nat → Int32) (d : Nat) (s0 : Int32) (M : mm_M) (o : mm_E) : Prop := ∀ z1 z2 z3 z4 z5 z6 : Option Value, mm_Runs L xs d 121 (56, [some (.ref 41), z1, z2, z3, z4, z5, z6], [.int s0], M) o
def mp_121_76 (L : Nat) (xs : Nat → Int32) (d : Nat) (s0 : Int32) (M : mm_M) (o : mm_E) : Prop := ∀ z1 z2 z3 z4 z5 z6 : Option Value, mm_Runs L xs d 121 (76, [some (.ref 41), z1, z2, z3, z4, z5, z6], [.int s0], M) o
def mp_121_89 (L : Nat) (xs : Nat → Int32) (d : Nat) (v1 : Int64) (v3 : Int32) (v4 : Int32) (M : mm_M) (o : mm_E) : Prop := ∀ z2 z5 z6 : Option Value, mm_Runs L xs d 121 (89, [some (.ref 41), some (.long v1), z2, some (.int v3), some (.int v4), z5, z6], [], M) o
def mp_121_139 (L : Nat) (xs : Nat → Int32) (d : Nat) (v1 : Int64) (M : mm_M) (o : mm_E) : Prop := ∀ z2 z3 z4 z5 z6 : Option Value, mm_Runs L xs d 121 (139, [some (.ref 41), some (.long v1), z2, z3, z4, z5, z6], [], M) o
def mp_121_122 (L : Nat) (xs : Nat → Int32) (d : Nat) (v1 : Int64) (v4 : Int32) (v5 : Int64) (s0 : Int32) (M : mm_M) (o : mm_E) : Prop := ∀ z2 z3 z6 : Option Value, mm_Runs L xs d 121 (122, [some (.ref 41), some (.long v1), z2, z3, some (.int v4), some (.long v5), z6], [.int s0], M) o
set_option maxRecDepth 8000 in
set_option maxHeartbeats 4000000 in
theorem ms_121_j122 {L : Nat} {xs : Nat → Int32} {d : Nat} (hd : 12 ≤ d) {v1 : Int64} {v4 : Int32} {v5 : Int64} {s0 : Int32} {M : mm_M} {q : (((Int32 × Int32) ⊕ (Unit)) ⊕ Nat) × mm_M} {o : mm_E} (h : mf_121_j122 v1 v4 v5 s0 M = some q) (hA : mm_A (mm_K2 (fun s M o => mp_121_89 L xs (d) v1 s.1 s.2 M o) (fun r M o => mp_121_139 L xs (d) v1 M o)) q o) : mp_121_122 L xs d v1 v4 v5 s0 M o := by
  unfold mf_121_j122 at h
  obtain ⟨d, rfl⟩ := mm_d1 (n := 11) hd
  intro z2 z3 z6
  show mm_Runs L xs (d + 1) 121 (122, [some (.ref 41), some (.long v1), z2, z3, some (.int v4), some (.long v5), z6], [.int s0], M) o
  refine mm_Runs.seq (l := [(122, .istore_n 3, 1), (123, .iload_n 3, 1)]) (S2 := (124, [some (.ref 41), some (.long v1), (mm_no2 z2), some (.int s0), some (.int v4), some (.long v5), z6], [.int s0], M)) (by decide +kernel) (hO := mm_own_121) rfl ?_
  refine mm_R_zeq (t := 133) rfl rfl rfl (fun hc => ?_) (fun hc => ?_)
  · replace h := mm_ip hc h
    refine mm_Runs.seq (l := [(133, .iinc 4 1, 3), (136, .goto (-47), 3)]) (S2 := (89, [some (.ref 41), some (.long v1), (mm_no2 z2), some (.int s0), some (.int (v4 + (1 : Int32))), some (.long v5), z6], [], M)) (by decide +kernel) (hO := mm_own_121) rfl ?_
    cases h
    exact (show mp_121_89 L xs (d + 1) v1 s0 (v4 + (1 : Int32)) M o from hA) ((mm_no2 z2)) (some (.long v5)) z6
  · replace h := mm_iq hc h
    refine mm_Runs.seq (l := [(127, .aload_n 0, 1), (128, .lload 5, 2)]) (S2 := (130, [some (.ref 41), some (.long v1), (mm_no2 z2), some (.int s0), some (.int v4), some (.long v5), z6], [.long v5, .ref 41], M)) (by decide +kernel) (hO := mm_own_121) rfl ?_
    refine mm_R_call (v := mm_wv) h hA (k2 := 123) (as := [.ref 41, .long v5]) (r := []) rfl (fun _ => rfl) (fun q hq o ho => ms_123 (by omega) hq ho) (fun _ M1 h => ?_)
    show mm_Runs L xs (d + 1) 121 (133, [some (.ref 41), some (.long v1), (mm_no2 z2), some (.int s0), some (.int v4), some (.long v5), z6], [], M1) o
    refine mm_Runs.seq (l := [(133, .iinc 4 1, 3), (136, .goto (-47), 3)]) (S2 := (89, [some (.ref 41), some (.long v1), (mm_no2 z2), some (.int s0), some (.int (v4 + (1 : Int32))), some (.long v5), z6], [], M1)) (by decide +kernel) (hO := mm_own_121) rfl ?_
    cases h
    exact (show mp_121_89 L xs (d + 1) v1 s0 (v4 + (1 : Int32)) M1 o from hA) ((mm_no2 z2)) (some (.long v5)) z6
set_option maxRecDepth 8000 in
set_option maxHeartbeats 4000000 in
theorem ms_121_b89 {L : Nat} {xs : Nat → Int32} {d : Nat} (hd : 12 ≤ d) {v1 : Int64} {v3 : Int32} {v4 : Int32} {M : mm_M} {q : (((Int32 × Int32) ⊕ (Unit)) ⊕ Nat) × mm_M} {o : mm_E} (h : mf_121_b89 v1 v3 v4 M = some q) (hA : mm_A (mm_K2 (fun s M o => mp_121_89 L xs (d) v1 s.1 s.2 M o) (fun r M o => mp_121_139 L xs (d) v1 M o)) q o) : mp_121_89 L xs d v1 v3 v4 M o := by
  unfold mf_121_b89 at h
  obtain ⟨d, rfl⟩ := mm_d1 (n := 11) hd
  intro z2 z5 z6
  show mm_Runs L xs (d + 1) 121 (89, [some (.ref 41), some (.long v1), z2, some (.int v3), some (.int v4), z5, z6], [], M) o
  refine mm_Runs.seq (l := [(89, .iload 4, 2), (91, .ldc 27, 2)]) (S2 := (93, [some (.ref 41), some (.long v1), z2, some (.int v3), some (.int v4), z5, z6], [.int (1000000 : Int32), .int v4], M)) (by decide +kernel) (hO := mm_own_121) rfl ?_
  refine mm_R_ige (t := 139) rfl rfl rfl (fun hc => ?_) (fun hc => ?_)
  · replace h := mm_ip hc h
    refine mm_Runs.seq (l := [(96, .iload_n 3, 1)]) (S2 := (97, [some (.ref 41), some (.long v1), z2, some (.int v3), some (.int v4), z5, z6], [.int v3], M)) (by decide +kernel) (hO := mm_own_121) rfl ?_
    refine mm_R_zeq (t := 139) rfl rfl rfl (fun hc => ?_) (fun hc => ?_)
    · replace h := mm_ip hc h
      cases h
      exact (show mp_121_139 L xs (d + 1) v1 M o from hA) z2 (some (.int v3)) (some (.int v4)) z5 z6
    · replace h := mm_iq hc h
      refine mm_Runs.seq (l := [(100, .aload_n 0, 1), (101, .getfield 9, 3), (104, .iconst 4, 1)]) (S2 := (105, [some (.ref 41), some (.long v1), z2, some (.int v3), some (.int v4), z5, z6], [.int (4 : Int32), .ref 1], M)) (by decide +kernel) (hO := mm_own_121) rfl ?_
      refine mm_R_call (v := mm_wl) h hA (k2 := 47) (as := [.ref 1, .int (4 : Int32)]) (r := []) rfl (fun _ => rfl) (fun q hq o ho => ms_47 (by omega) hq ho) (fun r1 M2 h => ?_)
      show mm_Runs L xs (d + 1) 121 (108, [some (.ref 41), some (.long v1), z2, some (.int v3), some (.int v4), z5, z6], [.long r1], M2) o
      refine mm_Runs.seq (l := [(108, .lstore 5, 2), (110, .lload 5, 2), (112, .lconst 0, 1)]) (S2 := (113, [some (.ref 41), some (.long v1), z2, some (.int v3), some (.int v4), some (.long r1), none], [.long (0 : Int64), .long r1], M2)) (by decide +kernel) (hO := mm_own_121) rfl ?_
      refine mm_R_leq (t := 121) rfl rfl rfl rfl (fun hc => ?_) (fun hc => ?_)
      · replace h := mm_ip hc h
        refine mm_Runs.seq (l := [(121, .iconst 0, 1)]) (S2 := (122, [some (.ref 41), some (.long v1), z2, some (.int v3), some (.int v4), some (.long r1), none], [.int (0 : Int32)], M2)) (by decide +kernel) (hO := mm_own_121) rfl ?_
        exact (ms_121_j122 hd h hA : mp_121_122 L xs (d + 1) v1 v4 r1 (0 : Int32) M2 o) z2 (some (.int v3)) none
      · replace h := mm_iq hc h
        refine mm_Runs.seq (l := [(117, .iconst 1, 1), (118, .goto 4, 3)]) (S2 := (122, [some (.ref 41), some (.long v1), z2, some (.int v3), some (.int v4), some (.long r1), none], [.int (1 : Int32)], M2)) (by decide +kernel) (hO := mm_own_121) rfl ?_
        exact (ms_121_j122 hd h hA : mp_121_122 L xs (d + 1) v1 v4 r1 (1 : Int32) M2 o) z2 (some (.int v3)) none
  · replace h := mm_iq hc h
    cases h
    exact (show mp_121_139 L xs (d + 1) v1 M o from hA) z2 (some (.int v3)) (some (.int v4)) z5 z6
theorem ms_121_L89 {L : Nat} {xs : Nat → Int32} {d : Nat} (hd : 12 ≤ d) {v1 : Int64} {v3 : Int32} {v4 : Int32} {β : Type} {K : β → mm_M → mm_E → Prop} {F : (Unit) → mm_M → mm_O β} {M : mm_M} {q : (β ⊕ Nat) × mm_M} {o : mm_E} (h : mm_B (mf_121_L89 v1 (v3, v4) M) F = some q) (hA : mm_A K q o) (hx : ∀ (r : (Unit)) (M2 : mm_M), F r M2 = some q → (fun r M o => mp_121_139 L xs (d) v1 M o) r M2 o) : mp_121_89 L xs d v1 v3 v4 M o := by
  unfold mf_121_L89 at h
  exact mm_R_loop (step := (fun s M => mf_121_b89 v1 s.1 s.2 M)) (s := (v3, v4)) (M := M) (P := (fun s M o => mp_121_89 L xs (d) v1 s.1 s.2 M o)) (X := (fun r M o => mp_121_139 L xs (d) v1 M o)) h hA (fun s M q hq hA => ms_121_b89 (v1 := v1) (v3 := s.1) (v4 := s.2) (M := M) (q := q) hd hq hA) hx
def mp_121_166 (L : Nat) (xs : Nat → Int32) (d : Nat) (M : mm_M) (o : mm_E) : Prop := ∀ z1 z2 z3 z4 z5 z6 : Option Value, mm_Runs L xs d 121 (166, [some (.ref 41), z1, z2, z3, z4, z5, z6], [], M) o
def mp_121_167 (L : Nat) (xs : Nat → Int32) (d : Nat) (s0 : Int32) (M : mm_M) (o : mm_E) : Prop := ∀ z1 z2 z3 z4 z5 z6 : Option Value, mm_Runs L xs d 121 (167, [some (.ref 41), z1, z2, z3, z4, z5, z6], [.int s0], M) o
def mp_121_214 (L : Nat) (xs : Nat → Int32) (d : Nat) (s0 : Int32) (M : mm_M) (o : mm_E) : Prop := ∀ z0 z1 z2 z3 z4 z5 z6 : Option Value, mm_Runs L xs d 121 (214, [z0, z1, z2, z3, z4, z5, z6], [.int s0], M) o
set_option maxRecDepth 8000 in
set_option maxHeartbeats 4000000 in
theorem ms_121_j214 {L : Nat} {xs : Nat → Int32} {d : Nat} (hd : 12 ≤ d) {s0 : Int32} {M : mm_M} {q : (Unit ⊕ Nat) × mm_M} {o : mm_E} (h : mf_121_j214 s0 M = some q) (hA : mm_A (mm_Kr mm_wv) q o) : mp_121_214 L xs d s0 M o := by
  unfold mf_121_j214 at h
  obtain ⟨d, rfl⟩ := mm_d1 (n := 11) hd
  intro z0 z1 z2 z3 z4 z5 z6
  show mm_Runs L xs (d + 1) 121 (214, [z0, z1, z2, z3, z4, z5, z6], [.int s0], M) o
  refine mm_R_call (v := mm_wv) h hA (k2 := 27) (as := [.int s0]) (r := []) rfl (fun _ => rfl) (fun q hq o ho => ms_27 (by omega) hq ho) (fun _ M1 h => ?_)
  show mm_Runs L xs (d + 1) 121 (217, [z0, z1, z2, z3, z4, z5, z6], [], M1) o
  cases h
  exact mm_R_retv rfl rfl hA
set_option maxRecDepth 8000 in
set_option maxHeartbeats 4000000 in
theorem ms_121_j167 {L : Nat} {xs : Nat → Int32} {d : Nat} (hd : 12 ≤ d) {s0 : Int32} {M : mm_M} {q : (Unit ⊕ Nat) × mm_M} {o : mm_E} (h : mf_121_j167 s0 M = some q) (hA : mm_A (mm_Kr mm_wv) q o) : mp_121_167 L xs d s0 M o := by
  unfold mf_121_j167 at h
  obtain ⟨d, rfl⟩ := mm_d1 (n := 11) hd
  intro z1 z2 z3 z4 z5 z6
  show mm_Runs L xs (d + 1) 121 (167, [some (.ref 41), z1, z2, z3, z4, z5, z6], [.int s0], M) o
  refine mm_R_call (v := mm_wv) h hA (k2 := 27) (as := [.int s0]) (r := []) rfl (fun _ => rfl) (fun q hq o ho => ms_27 (by omega) hq ho) (fun _ M1 h => ?_)
  show mm_Runs L xs (d + 1) 121 (170, [some (.ref 41), z1, z2, z3, z4, z5, z6], [], M1) o
  refine mm_Runs.seq (l := [(170, .aload_n 0, 1), (171, .getfield 77, 3), (174, .iconst 4, 1), (175, .iand, 1)]) (S2 := (176, [some (.ref 41), z1, z2, z3, z4, z5, z6], [.int ((M1.1 41 4) &&& (4 : Int32))], M1)) (by decide +kernel) (hO := mm_own_121) rfl ?_
  refine mm_R_zeq (t := 217) rfl rfl rfl (fun hc => ?_) (fun hc => ?_)
  · replace h := mm_ip hc h
    cases h
    exact mm_R_retv rfl rfl hA
  · replace h := mm_iq hc h
    refine mm_Runs.seq (l := [(179, .aload_n 0, 1), (180, .getfield 9, 3), (183, .iconst 4, 1)]) (S2 := (184, [some (.ref 41), z1, z2, z3, z4, z5, z6], [.int (4 : Int32), .ref 1], M1)) (by decide +kernel) (hO := mm_own_121) rfl ?_
    refine mm_R_call (v := mm_wl) h hA (k2 := 47) (as := [.ref 1, .int (4 : Int32)]) (r := []) rfl (fun _ => rfl) (fun q hq o ho => ms_47 (by omega) hq ho) (fun r2 M3 h => ?_)
    show mm_Runs L xs (d + 1) 121 (187, [some (.ref 41), z1, z2, z3, z4, z5, z6], [.long r2], M3) o
    refine mm_Runs.seq (l := [(187, .l2i, 1), (188, .aload_n 0, 1), (189, .getfield 15, 3), (192, .getfield 80, 3), (195, .iconst 0, 1), (196, .aload_n 0, 1), (197, .getfield 15, 3), (200, .getfield 56, 3)]) (S2 := (203, [some (.ref 41), z1, z2, z3, z4, z5, z6], [.int (M3.1 3 1), .int (0 : Int32), .ref 4, .int r2.toInt32], M3)) (by decide +kernel) (hO := mm_own_121) rfl ?_
    refine mm_R_call (v := mm_wi) h hA (k2 := 31) (as := [.ref 4, .int (0 : Int32), .int (M3.1 3 1)]) (r := [.int r2.toInt32]) rfl (fun _ => rfl) (fun q hq o ho => ms_31 rfl (by omega) hq ho) (fun r4 M5 h => ?_)
    show mm_Runs L xs (d + 1) 121 (206, [some (.ref 41), z1, z2, z3, z4, z5, z6], [.int r4, .int r2.toInt32], M5) o
    refine mm_R_ieq (t := 213) rfl rfl rfl (fun hc => ?_) (fun hc => ?_)
    · replace h := mm_ip hc h
      refine mm_Runs.seq (l := [(213, .iconst 0, 1)]) (S2 := (214, [some (.ref 41), z1, z2, z3, z4, z5, z6], [.int (0 : Int32)], M5)) (by decide +kernel) (hO := mm_own_121) rfl ?_
      exact (ms_121_j214 hd h hA : mp_121_214 L xs (d + 1) (0 : Int32) M5 o) (some (.ref 41)) z1 z2 z3 z4 z5 z6
    · replace h := mm_iq hc h
      refine mm_Runs.seq (l := [(209, .iconst 1, 1), (210, .goto 4, 3)]) (S2 := (214, [some (.ref 41), z1, z2, z3, z4, z5, z6], [.int (1 : Int32)], M5)) (by decide +kernel) (hO := mm_own_121) rfl ?_
      exact (ms_121_j214 hd h hA : mp_121_214 L xs (d + 1) (1 : Int32) M5 o) (some (.ref 41)) z1 z2 z3 z4 z5 z6
set_option maxRecDepth 8000 in
set_option maxHeartbeats 4000000 in
theorem ms_121_j166 {L : Nat} {xs : Nat → Int32} {d : Nat} (hd : 12 ≤ d) {M : mm_M} {q : (Unit ⊕ Nat) × mm_M} {o : mm_E} (h : mf_121_j166 M = some q) (hA : mm_A (mm_Kr mm_wv) q o) : mp_121_166 L xs d M o := by
  unfold mf_121_j166 at h
  obtain ⟨d, rfl⟩ := mm_d1 (n := 11) hd
  intro z1 z2 z3 z4 z5 z6
  show mm_Runs L xs (d + 1) 121 (166, [some (.ref 41), z1, z2, z3, z4, z5, z6], [], M) o
  refine mm_Runs.seq (l := [(166, .iconst 0, 1)]) (S2 := (167, [some (.ref 41), z1, z2, z3, z4, z5, z6], [.int (0 : Int32)], M)) (by decide +kernel) (hO := mm_own_121) rfl ?_
  exact (ms_121_j167 hd h hA : mp_121_167 L xs (d + 1) (0 : Int32) M o) z1 z2 z3 z4 z5 z6
set_option maxRecDepth 8000 in
set_option maxHeartbeats 4000000 in
theorem ms_121_j139 {L : Nat} {xs : Nat → Int32} {d : Nat} (hd : 12 ≤ d) {v1 : Int64} {M : mm_M} {q : (Unit ⊕ Nat) × mm_M} {o : mm_E} (h : mf_121_j139 v1 M = some q) (hA : mm_A (mm_Kr mm_wv) q o) : mp_121_139 L xs d v1 M o := by
  unfold mf_121_j139 at h
  obtain ⟨d, rfl⟩ := mm_d1 (n := 11) hd
  intro z2 z3 z4 z5 z6
  show mm_Runs L xs (d + 1) 121 (139, [some (.ref 41), some (.long v1), z2, z3, z4, z5, z6], [], M) o
  refine mm_Runs.seq (l := [(139, .aload_n 0, 1), (140, .getfield 77, 3), (143, .bipush 8, 2), (145, .iand, 1)]) (S2 := (146, [some (.ref 41), some (.long v1), z2, z3, z4, z5, z6], [.int ((M.1 41 4) &&& (8 : Int32))], M)) (by decide +kernel) (hO := mm_own_121) rfl ?_
  refine mm_R_zeq (t := 166) rfl rfl rfl (fun hc => ?_) (fun hc => ?_)
  · replace h := mm_ip hc h
    exact (ms_121_j166 hd h hA : mp_121_166 L xs (d + 1) M o) (some (.long v1)) z2 z3 z4 z5 z6
  · replace h := mm_iq hc h
    refine mm_Runs.seq (l := [(149, .lload_n 1, 1), (150, .aload_n 0, 1), (151, .getfield 15, 3), (154, .getfield 56, 3), (157, .i2l, 1)]) (S2 := (158, [some (.ref 41), some (.long v1), z2, z3, z4, z5, z6], [.long (M.1 3 1).toInt64, .long v1], M)) (by decide +kernel) (hO := mm_own_121) rfl ?_
    refine mm_R_leq (t := 166) rfl rfl rfl rfl (fun hc => ?_) (fun hc => ?_)
    · replace h := mm_ip hc h
      exact (ms_121_j166 hd h hA : mp_121_166 L xs (d + 1) M o) (some (.long v1)) z2 z3 z4 z5 z6
    · replace h := mm_iq hc h
      refine mm_Runs.seq (l := [(162, .iconst 1, 1), (163, .goto 4, 3)]) (S2 := (167, [some (.ref 41), some (.long v1), z2, z3, z4, z5, z6], [.int (1 : Int32)], M)) (by decide +kernel) (hO := mm_own_121) rfl ?_
      exact (ms_121_j167 hd h hA : mp_121_167 L xs (d + 1) (1 : Int32) M o) (some (.long v1)) z2 z3 z4 z5 z6
set_option maxRecDepth 8000 in
set_option maxHeartbeats 4000000 in
theorem ms_121_j76 {L : Nat} {xs : Nat → Int32} {d : Nat} (hd : 12 ≤ d) {s0 : Int32} {M : mm_M} {q : (Unit ⊕ Nat) × mm_M} {o : mm_E} (h : mf_121_j76 s0 M = some q) (hA : mm_A (mm_Kr mm_wv) q o) : mp_121_76 L xs d s0 M o := by
  unfold mf_121_j76 at h
  obtain ⟨d, rfl⟩ := mm_d1 (n := 11) hd
  intro z1 z2 z3 z4 z5 z6
  show mm_Runs L xs (d + 1) 121 (76, [some (.ref 41), z1, z2, z3, z4, z5, z6], [.int s0], M) o
  refine mm_R_call (v := mm_wv) h hA (k2 := 27) (as := [.int s0]) (r := []) rfl (fun _ => rfl) (fun q hq o ho => ms_27 (by omega) hq ho) (fun _ M1 h => ?_)
  show mm_Runs L xs (d + 1) 121 (79, [some (.ref 41), z1, z2, z3, z4, z5, z6], [], M1) o
  refine mm_Runs.seq (l := [(79, .aload_n 0, 1)]) (S2 := (80, [some (.ref 41), z1, z2, z3, z4, z5, z6], [.ref 41], M1)) (by decide +kernel) (hO := mm_own_121) rfl ?_
  refine mm_R_call (v := mm_wl) h hA (k2 := 122) (as := [.ref 41]) (r := []) rfl (fun _ => rfl) (fun q hq o ho => ms_122 (by omega) hq ho) (fun r2 M3 h => ?_)
  show mm_Runs L xs (d + 1) 121 (83, [some (.ref 41), z1, z2, z3, z4, z5, z6], [.long r2], M3) o
  refine mm_Runs.seq (l := [(83, .lstore_n 1, 1), (84, .iconst 1, 1), (85, .istore_n 3, 1), (86, .iconst 0, 1), (87, .istore 4, 2)]) (S2 := (89, [some (.ref 41), some (.long r2), none, some (.int (1 : Int32)), some (.int (0 : Int32)), z5, z6], [], M3)) (by decide +kernel) (hO := mm_own_121) rfl ?_
  have hp : mp_121_89 L xs (d + 1) r2 (1 : Int32) (0 : Int32) M3 o := by
    refine ms_121_L89 hd h hA (fun r5 M4 h => ?_)
    intro y6 y7 y8 y9 y10
    show mm_Runs L xs (d + 1) 121 (139, [some (.ref 41), some (.long r2), y6, y7, y8, y9, y10], [], M4) o
    exact (ms_121_j139 hd h hA : mp_121_139 L xs (d + 1) r2 M4 o) y6 y7 y8 y9 y10
  exact hp none z5 z6
set_option maxRecDepth 8000 in
set_option maxHeartbeats 4000000 in
theorem ms_121_j56 {L : Nat} {xs : Nat → Int32} {d : Nat} (hd : 12 ≤ d) {s0 : Int32} {M : mm_M} {q : (Unit ⊕ Nat) × mm_M} {o : mm_E} (h : mf_121_j56 s0 M = some q) (hA : mm_A (mm_Kr mm_wv) q o) : mp_121_56 L xs d s0 M o := by
  unfold mf_121_j56 at h
  obtain ⟨d, rfl⟩ := mm_d1 (n := 11) hd
  intro z1 z2 z3 z4 z5 z6
  show mm_Runs L xs (d + 1) 121 (56, [some (.ref 41), z1, z2, z3, z4, z5, z6], [.int s0], M) o
  refine mm_R_call (v := mm_wv) h hA (k2 := 27) (as := [.int s0]) (r := []) rfl (fun _ => rfl) (fun q hq o ho => ms_27 (by omega) hq ho) (fun _ M1 h => ?_)
  show mm_Runs L xs (d + 1) 121 (59, [some (.ref 41), z1, z2, z3, z4, z5, z6], [], M1) o
  refine mm_Runs.seq (l := [(59, .aload_n 0, 1), (60, .getfield 9, 3)]) (S2 := (63, [some (.ref 41), z1, z2, z3, z4, z5, z6], [.ref 1], M1)) (by decide +kernel) (hO := mm_own_121) rfl ?_
  refine mm_R_call (v := mm_wi) h hA (k2 := 44) (as := [.ref 1]) (r := []) rfl (fun _ => rfl) (fun q hq o ho => ms_44 (by omega) hq ho) (fun r2 M3 h => ?_)
  show mm_Runs L xs (d + 1) 121 (66, [some (.ref 41), z1, z2, z3, z4, z5, z6], [.int r2], M3) o
  refine mm_Runs.seq (l := [(66, .bipush 24, 2)]) (S2 := (68, [some (.ref 41), z1, z2, z3, z4, z5, z6], [.int (24 : Int32), .int r2], M3)) (by decide +kernel) (hO := mm_own_121) rfl ?_
  refine mm_R_ieq (t := 75) rfl rfl rfl (fun hc => ?_) (fun hc => ?_)
  · replace h := mm_ip hc h
    refine mm_Runs.seq (l := [(75, .iconst 0, 1)]) (S2 := (76, [some (.ref 41), z1, z2, z3, z4, z5, z6], [.int (0 : Int32)], M3)) (by decide +kernel) (hO := mm_own_121) rfl ?_
    exact (ms_121_j76 hd h hA : mp_121_76 L xs (d + 1) (0 : Int32) M3 o) z1 z2 z3 z4 z5 z6
  · replace h := mm_iq hc h
    refine mm_Runs.seq (l := [(71, .iconst 1, 1), (72, .goto 4, 3)]) (S2 := (76, [some (.ref 41), z1, z2, z3, z4, z5, z6], [.int (1 : Int32)], M3)) (by decide +kernel) (hO := mm_own_121) rfl ?_
    exact (ms_121_j76 hd h hA : mp_121_76 L xs (d + 1) (1 : Int32) M3 o) z1 z2 z3 z4 z5 z6
set_option maxRecDepth 8000 in
set_option maxHeartbeats 4000000 in
theorem ms_121_j36 {L : Nat} {xs : Nat → Int32} {d : Nat} (hd : 12 ≤ d) {s0 : Int32} {M : mm_M} {q : (Unit ⊕ Nat) × mm_M} {o : mm_E} (h : mf_121_j36 s0 M = some q) (hA : mm_A (mm_Kr mm_wv) q o) : mp_121_36 L xs d s0 M o := by
  unfold mf_121_j36 at h
  obtain ⟨d, rfl⟩ := mm_d1 (n := 11) hd
  intro z1 z2 z3 z4 z5 z6
  show mm_Runs L xs (d + 1) 121 (36, [some (.ref 41), z1, z2, z3, z4, z5, z6], [.int s0], M) o
  refine mm_R_call (v := mm_wv) h hA (k2 := 27) (as := [.int s0]) (r := []) rfl (fun _ => rfl) (fun q hq o ho => ms_27 (by omega) hq ho) (fun _ M1 h => ?_)
  show mm_Runs L xs (d + 1) 121 (39, [some (.ref 41), z1, z2, z3, z4, z5, z6], [], M1) o
  refine mm_Runs.seq (l := [(39, .aload_n 0, 1), (40, .getfield 9, 3)]) (S2 := (43, [some (.ref 41), z1, z2, z3, z4, z5, z6], [.ref 1], M1)) (by decide +kernel) (hO := mm_own_121) rfl ?_
  refine mm_R_call (v := mm_wi) h hA (k2 := 44) (as := [.ref 1]) (r := []) rfl (fun _ => rfl) (fun q hq o ho => ms_44 (by omega) hq ho) (fun r2 M3 h => ?_)
  show mm_Runs L xs (d + 1) 121 (46, [some (.ref 41), z1, z2, z3, z4, z5, z6], [.int r2], M3) o
  refine mm_Runs.seq (l := [(46, .bipush 77, 2)]) (S2 := (48, [some (.ref 41), z1, z2, z3, z4, z5, z6], [.int (77 : Int32), .int r2], M3)) (by decide +kernel) (hO := mm_own_121) rfl ?_
  refine mm_R_ieq (t := 55) rfl rfl rfl (fun hc => ?_) (fun hc => ?_)
  · replace h := mm_ip hc h
    refine mm_Runs.seq (l := [(55, .iconst 0, 1)]) (S2 := (56, [some (.ref 41), z1, z2, z3, z4, z5, z6], [.int (0 : Int32)], M3)) (by decide +kernel) (hO := mm_own_121) rfl ?_
    exact (ms_121_j56 hd h hA : mp_121_56 L xs (d + 1) (0 : Int32) M3 o) z1 z2 z3 z4 z5 z6
  · replace h := mm_iq hc h
    refine mm_Runs.seq (l := [(51, .iconst 1, 1), (52, .goto 4, 3)]) (S2 := (56, [some (.ref 41), z1, z2, z3, z4, z5, z6], [.int (1 : Int32)], M3)) (by decide +kernel) (hO := mm_own_121) rfl ?_
    exact (ms_121_j56 hd h hA : mp_121_56 L xs (d + 1) (1 : Int32) M3 o) z1 z2 z3 z4 z5 z6
set_option maxRecDepth 8000 in
set_option maxHeartbeats 4000000 in
theorem ms_121_j16 {L : Nat} {xs : Nat → Int32} {d : Nat} (hd : 12 ≤ d) {s0 : Int32} {M : mm_M} {q : (Unit ⊕ Nat) × mm_M} {o : mm_E} (h : mf_121_j16 s0 M = some q) (hA : mm_A (mm_Kr mm_wv) q o) : mp_121_16 L xs d s0 M o := by
  unfold mf_121_j16 at h
  obtain ⟨d, rfl⟩ := mm_d1 (n := 11) hd
  intro z1 z2 z3 z4 z5 z6
  show mm_Runs L xs (d + 1) 121 (16, [some (.ref 41), z1, z2, z3, z4, z5, z6], [.int s0], M) o
  refine mm_R_call (v := mm_wv) h hA (k2 := 27) (as := [.int s0]) (r := []) rfl (fun _ => rfl) (fun q hq o ho => ms_27 (by omega) hq ho) (fun _ M1 h => ?_)
  show mm_Runs L xs (d + 1) 121 (19, [some (.ref 41), z1, z2, z3, z4, z5, z6], [], M1) o
  refine mm_Runs.seq (l := [(19, .aload_n 0, 1), (20, .getfield 9, 3)]) (S2 := (23, [some (.ref 41), z1, z2, z3, z4, z5, z6], [.ref 1], M1)) (by decide +kernel) (hO := mm_own_121) rfl ?_
  refine mm_R_call (v := mm_wi) h hA (k2 := 44) (as := [.ref 1]) (r := []) rfl (fun _ => rfl) (fun q hq o ho => ms_44 (by omega) hq ho) (fun r2 M3 h => ?_)
  show mm_Runs L xs (d + 1) 121 (26, [some (.ref 41), z1, z2, z3, z4, z5, z6], [.int r2], M3) o
  refine mm_Runs.seq (l := [(26, .bipush 34, 2)]) (S2 := (28, [some (.ref 41), z1, z2, z3, z4, z5, z6], [.int (34 : Int32), .int r2], M3)) (by decide +kernel) (hO := mm_own_121) rfl ?_
  refine mm_R_ieq (t := 35) rfl rfl rfl (fun hc => ?_) (fun hc => ?_)
  · replace h := mm_ip hc h
    refine mm_Runs.seq (l := [(35, .iconst 0, 1)]) (S2 := (36, [some (.ref 41), z1, z2, z3, z4, z5, z6], [.int (0 : Int32)], M3)) (by decide +kernel) (hO := mm_own_121) rfl ?_
    exact (ms_121_j36 hd h hA : mp_121_36 L xs (d + 1) (0 : Int32) M3 o) z1 z2 z3 z4 z5 z6
  · replace h := mm_iq hc h
    refine mm_Runs.seq (l := [(31, .iconst 1, 1), (32, .goto 4, 3)]) (S2 := (36, [some (.ref 41), z1, z2, z3, z4, z5, z6], [.int (1 : Int32)], M3)) (by decide +kernel) (hO := mm_own_121) rfl ?_
    exact (ms_121_j36 hd h hA : mp_121_36 L xs (d + 1) (1 : Int32) M3 o) z1 z2 z3 z4 z5 z6
set_option maxRecDepth 8000 in
set_option maxHeartbeats 4000000 in
theorem ms_121 {L : Nat} {xs : Nat → Int32} {d : Nat} (hd : 12 ≤ d) {M : mm_M} {q : (Unit ⊕ Nat) × mm_M} {o : mm_E} (h : mf_121 M = some q) (hA : mm_A (mm_Kr mm_wv) q o) : mm_Runs L xs d 121 (0, mm_ent (mm_ml 121) [.ref 41], [], M) o := by
  unfold mf_121 at h
  obtain ⟨d, rfl⟩ := mm_d1 (n := 11) hd
  show mm_Runs L xs (d + 1) 121 (0, [some (.ref 41), none, none, none, none, none, none], [], M) o
  refine mm_Runs.seq (l := [(0, .aload_n 0, 1), (1, .getfield 9, 3)]) (S2 := (4, [some (.ref 41), none, none, none, none, none, none], [.ref 1], M)) (by decide +kernel) (hO := mm_own_121) rfl ?_
  refine mm_R_call (v := mm_wi) h hA (k2 := 44) (as := [.ref 1]) (r := []) rfl (fun _ => rfl) (fun q hq o ho => ms_44 (by omega) hq ho) (fun r1 M2 h => ?_)
  show mm_Runs L xs (d + 1) 121 (7, [some (.ref 41), none, none, none, none, none, none], [.int r1], M2) o
  refine mm_Runs.seq (l := [(7, .iconst 4, 1)]) (S2 := (8, [some (.ref 41), none, none, none, none, none, none], [.int (4 : Int32), .int r1], M2)) (by decide +kernel) (hO := mm_own_121) rfl ?_
  refine mm_R_ieq (t := 15) rfl rfl rfl (fun hc => ?_) (fun hc => ?_)
  · replace h := mm_ip hc h
    refine mm_Runs.seq (l := [(15, .iconst 0, 1)]) (S2 := (16, [some (.ref 41), none, none, none, none, none, none], [.int (0 : Int32)], M2)) (by decide +kernel) (hO := mm_own_121) rfl ?_
    exact (ms_121_j16 hd h hA : mp_121_16 L xs (d + 1) (0 : Int32) M2 o) none none none none none none
  · replace h := mm_iq hc h
    refine mm_Runs.seq (l := [(11, .iconst 1, 1), (12, .goto 4, 3)]) (S2 := (16, [some (.ref 41), none, none, none, none, none, none], [.int (1 : Int32)], M2)) (by decide +kernel) (hO := mm_own_121) rfl ?_
    exact (ms_121_j16 hd h hA : mp_121_16 L xs (d + 1) (1 : Int32) M2 o) none none none none none none
-- 125: PlainPacks$Pieces.readTagCount()J (depth 8)
theorem mm_own_125 : mm_own 125 = 9 := rfl
def mp_125_7 (L : Nat) (xs : Nat → Int32) (d : Nat) (v1 : Int64) (v3 : Int32) (v4 : Int32) (M : mm_M) (o : mm_E) : Prop := ∀ z2 z5 : Option Value, mm_Runs L xs d 125 (7, [some (.ref 41), some (.long v1), z2, some (.int v3), some (.int v4), z5], [], M) o
def mp_125_61 (L : Nat) (xs : Nat → Int32) (d : Nat) (v1 : Int64) (v3 : Int32) (M : mm_M) (o : mm_E) : Prop := ∀ z0 z2 z4 z5 : Option Value, mm_Runs L xs d 125 (61, [z0, some (.long v1), z2, some (.int v3), z4, z5], [], M) o
set_option maxRecDepth 8000 in
set_option maxHeartbeats 4000000 in
theorem ms_125_b7 {L : Nat} {xs : Nat → Int32} {d : Nat} (hd : 8 ≤ d) {v1 : Int64} {v3 : Int32} {v4 : Int32} {M : mm_M} {q : (((Int64 × Int32 × Int32) ⊕ (Int64 × Int32)) ⊕ Nat) × mm_M} {o : mm_E} (h : mf_125_b7 v1 v3 v4 M = some q) (hA : mm_A (mm_K2 (fun s M o => mp_125_7 L xs (d) s.1 s.2.1 s.2.2 M o) (fun r M o => mp_125_61 L xs (d) r.1 r.2 M o)) q o) : mp_125_7 L xs d v1 v3 v4 M o := by
  unfold mf_125_b7 at h
  obtain ⟨d, rfl⟩ := mm_d1 (n := 7) hd
  intro z2 z5
  show mm_Runs L xs (d + 1) 125 (7, [some (.ref 41), some (.long v1), z2, some (.int v3), some (.int v4), z5], [], M) o
  refine mm_Runs.seq (l := [(7, .iload 4, 2), (9, .iconst 5, 1)]) (S2 := (10, [some (.ref 41), some (.long v1), z2, some (.int v3), some (.int v4), z5], [.int (5 : Int32), .int v4], M)) (by decide +kernel) (hO := mm_own_125) rfl ?_
  refine mm_R_ige (t := 61) rfl rfl rfl (fun hc => ?_) (fun hc => ?_)
  · replace h := mm_ip hc h
    refine mm_Runs.seq (l := [(13, .iload_n 3, 1)]) (S2 := (14, [some (.ref 41), some (.long v1), z2, some (.int v3), some (.int v4), z5], [.int v3], M)) (by decide +kernel) (hO := mm_own_125) rfl ?_
    refine mm_R_zeq (t := 61) rfl rfl rfl (fun hc => ?_) (fun hc => ?_)
    · replace h := mm_ip hc h
      cases h
      exact (show mp_125_61 L xs (d + 1) v1 v3 M o from hA) (some (.ref 41)) z2 (some (.int v4)) z5
    · replace h := mm_iq hc h
      refine mm_Runs.seq (l := [(17, .aload_n 0, 1), (18, .getfield 9, 3)]) (S2 := (21, [some (.ref 41), some (.long v1), z2, some (.int v3), some (.int v4), z5], [.ref 1], M)) (by decide +kernel) (hO := mm_own_125) rfl ?_
      refine mm_R_call (v := mm_wi) h hA (k2 := 44) (as := [.ref 1]) (r := []) rfl (fun _ => rfl) (fun q hq o ho => ms_44 (by omega) hq ho) (fun r1 M2 h => ?_)
      show mm_Runs L xs (d + 1) 125 (24, [some (.ref 41), some (.long v1), z2, some (.int v3), some (.int v4), z5], [.int r1], M2) o
      refine mm_Runs.seq (l := [(24, .istore 5, 2), (26, .lload_n 1, 1), (27, .iload 5, 2), (29, .bipush 127, 2), (31, .iand, 1), (32, .i2l, 1), (33, .bipush 7, 2), (35, .iload 4, 2), (37, .imul, 1), (38, .lshl, 1), (39, .lor, 1), (40, .lstore_n 1, 1), (41, .iload 5, 2), (43, .sipush 128, 3)]) (S2 := (46, [some (.ref 41), some (.long (v1 ||| (mm_lshl (r1 &&& (127 : Int32)).toInt64 ((7 : Int32) * v4)))), none, some (.int v3), some (.int v4), some (.int r1)], [.int (128 : Int32), .int r1], M2)) (by decide +kernel) (hO := mm_own_125) rfl ?_
      refine mm_R_ilt (t := 53) rfl rfl rfl (fun hc => ?_) (fun hc => ?_)
      · replace h := mm_ip hc h
        refine mm_Runs.seq (l := [(53, .iconst 0, 1), (54, .istore_n 3, 1), (55, .iinc 4 1, 3), (58, .goto (-51), 3)]) (S2 := (7, [some (.ref 41), some (.long (v1 ||| (mm_lshl (r1 &&& (127 : Int32)).toInt64 ((7 : Int32) * v4)))), none, some (.int (0 : Int32)), some (.int (v4 + (1 : Int32))), some (.int r1)], [], M2)) (by decide +kernel) (hO := mm_own_125) rfl ?_
        cases h
        exact (show mp_125_7 L xs (d + 1) (v1 ||| (mm_lshl (r1 &&& (127 : Int32)).toInt64 ((7 : Int32) * v4))) (0 : Int32) (v4 + (1 : Int32)) M2 o from hA) none (some (.int r1))
      · replace h := mm_iq hc h
        refine mm_Runs.seq (l := [(49, .iconst 1, 1), (50, .goto 4, 3), (54, .istore_n 3, 1), (55, .iinc 4 1, 3), (58, .goto (-51), 3)]) (S2 := (7, [some (.ref 41), some (.long (v1 ||| (mm_lshl (r1 &&& (127 : Int32)).toInt64 ((7 : Int32) * v4)))), none, some (.int (1 : Int32)), some (.int (v4 + (1 : Int32))), some (.int r1)], [], M2)) (by decide +kernel) (hO := mm_own_125) rfl ?_
        cases h
        exact (show mp_125_7 L xs (d + 1) (v1 ||| (mm_lshl (r1 &&& (127 : Int32)).toInt64 ((7 : Int32) * v4))) (1 : Int32) (v4 + (1 : Int32)) M2 o from hA) none (some (.int r1))
  · replace h := mm_iq hc h
    cases h
    exact (show mp_125_61 L xs (d + 1) v1 v3 M o from hA) (some (.ref 41)) z2 (some (.int v4)) z5
theorem ms_125_L7 {L : Nat} {xs : Nat → Int32} {d : Nat} (hd : 8 ≤ d) {v1 : Int64} {v3 : Int32} {v4 : Int32} {β : Type} {K : β → mm_M → mm_E → Prop} {F : (Int64 × Int32) → mm_M → mm_O β} {M : mm_M} {q : (β ⊕ Nat) × mm_M} {o : mm_E} (h : mm_B (mf_125_L7 (v1, v3, v4) M) F = some q) (hA : mm_A K q o) (hx : ∀ (r : (Int64 × Int32)) (M2 : mm_M), F r M2 = some q → (fun r M o => mp_125_61 L xs (d) r.1 r.2 M o) r M2 o) : mp_125_7 L xs d v1 v3 v4 M o := by
  unfold mf_125_L7 at h
  exact mm_R_loop (step := (fun s M => mf_125_b7 s.1 s.2.1 s.2.2 M)) (s := (v1, v3, v4)) (M := M) (P := (fun s M o => mp_125_7 L xs (d) s.1 s.2.1 s.2.2 M o)) (X := (fun r M o => mp_125_61 L xs (d) r.1 r.2 M o)) h hA (fun s M q hq hA => ms_125_b7 (v1 := s.1) (v3 := s.2.1) (v4 := s.2.2) (M := M) (q := q) hd hq hA) hx
def mp_125_78 (L : Nat) (xs : Nat → Int32) (d : Nat) (v1 : Int64) (s0 : Int32) (M : mm_M) (o : mm_E) : Prop := ∀ z0 z2 z3 z4 z5 : Option Value, mm_Runs L xs d 125 (78, [z0, some (.long v1), z2, z3, z4, z5], [.int s0], M) o
set_option maxRecDepth 8000 in
set_option maxHeartbeats 4000000 in
theorem ms_125_j78 {L : Nat} {xs : Nat → Int32} {d : Nat} (hd : 8 ≤ d) {v1 : Int64} {s0 : Int32} {M : mm_M} {q : (Int64 ⊕ Nat) × mm_M} {o : mm_E} (h : mf_125_j78 v1 s0 M = some q) (hA : mm_A (mm_Kr mm_wl) q o) : mp_125_78 L xs d v1 s0 M o := by
  unfold mf_125_j78 at h
  obtain ⟨d, rfl⟩ := mm_d1 (n := 7) hd
  intro z0 z2 z3 z4 z5
  show mm_Runs L xs (d + 1) 125 (78, [z0, some (.long v1), z2, z3, z4, z5], [.int s0], M) o
  refine mm_R_call (v := mm_wv) h hA (k2 := 27) (as := [.int s0]) (r := []) rfl (fun _ => rfl) (fun q hq o ho => ms_27 (by omega) hq ho) (fun _ M1 h => ?_)
  show mm_Runs L xs (d + 1) 125 (81, [z0, some (.long v1), z2, z3, z4, z5], [], M1) o
  refine mm_Runs.seq (l := [(81, .lload_n 1, 1)]) (S2 := (82, [z0, some (.long v1), z2, z3, z4, z5], [.long v1], M1)) (by decide +kernel) (hO := mm_own_125) rfl ?_
  cases h
  exact mm_R_retl rfl rfl hA
set_option maxRecDepth 8000 in
set_option maxHeartbeats 4000000 in
theorem ms_125_j61 {L : Nat} {xs : Nat → Int32} {d : Nat} (hd : 8 ≤ d) {v1 : Int64} {v3 : Int32} {M : mm_M} {q : (Int64 ⊕ Nat) × mm_M} {o : mm_E} (h : mf_125_j61 v1 v3 M = some q) (hA : mm_A (mm_Kr mm_wl) q o) : mp_125_61 L xs d v1 v3 M o := by
  unfold mf_125_j61 at h
  obtain ⟨d, rfl⟩ := mm_d1 (n := 7) hd
  intro z0 z2 z4 z5
  show mm_Runs L xs (d + 1) 125 (61, [z0, some (.long v1), z2, some (.int v3), z4, z5], [], M) o
  refine mm_Runs.seq (l := [(61, .iload_n 3, 1)]) (S2 := (62, [z0, some (.long v1), z2, some (.int v3), z4, z5], [.int v3], M)) (by decide +kernel) (hO := mm_own_125) rfl ?_
  refine mm_R_zne (t := 73) rfl rfl rfl (fun hc => ?_) (fun hc => ?_)
  · replace h := mm_ip hc h
    refine mm_Runs.seq (l := [(65, .lload_n 1, 1), (66, .ldc2_w 118, 3)]) (S2 := (69, [z0, some (.long v1), z2, some (.int v3), z4, z5], [.long (4294967295 : Int64), .long v1], M)) (by decide +kernel) (hO := mm_own_125) rfl ?_
    refine mm_R_lle (t := 77) rfl rfl rfl rfl (fun hc => ?_) (fun hc => ?_)
    · replace h := mm_ip hc h
      refine mm_Runs.seq (l := [(73, .iconst 1, 1), (74, .goto 4, 3)]) (S2 := (78, [z0, some (.long v1), z2, some (.int v3), z4, z5], [.int (1 : Int32)], M)) (by decide +kernel) (hO := mm_own_125) rfl ?_
      exact (ms_125_j78 hd h hA : mp_125_78 L xs (d + 1) v1 (1 : Int32) M o) z0 z2 (some (.int v3)) z4 z5
    · replace h := mm_iq hc h
      refine mm_Runs.seq (l := [(77, .iconst 0, 1)]) (S2 := (78, [z0, some (.long v1), z2, some (.int v3), z4, z5], [.int (0 : Int32)], M)) (by decide +kernel) (hO := mm_own_125) rfl ?_
      exact (ms_125_j78 hd h hA : mp_125_78 L xs (d + 1) v1 (0 : Int32) M o) z0 z2 (some (.int v3)) z4 z5
  · replace h := mm_iq hc h
    refine mm_Runs.seq (l := [(73, .iconst 1, 1), (74, .goto 4, 3)]) (S2 := (78, [z0, some (.long v1), z2, some (.int v3), z4, z5], [.int (1 : Int32)], M)) (by decide +kernel) (hO := mm_own_125) rfl ?_
    exact (ms_125_j78 hd h hA : mp_125_78 L xs (d + 1) v1 (1 : Int32) M o) z0 z2 (some (.int v3)) z4 z5
set_option maxRecDepth 8000 in
set_option maxHeartbeats 4000000 in
theorem ms_125 {L : Nat} {xs : Nat → Int32} {d : Nat} (hd : 8 ≤ d) {M : mm_M} {q : (Int64 ⊕ Nat) × mm_M} {o : mm_E} (h : mf_125 M = some q) (hA : mm_A (mm_Kr mm_wl) q o) : mm_Runs L xs d 125 (0, mm_ent (mm_ml 125) [.ref 41], [], M) o := by
  unfold mf_125 at h
  obtain ⟨d, rfl⟩ := mm_d1 (n := 7) hd
  show mm_Runs L xs (d + 1) 125 (0, [some (.ref 41), none, none, none, none, none], [], M) o
  refine mm_Runs.seq (l := [(0, .lconst 0, 1), (1, .lstore_n 1, 1), (2, .iconst 1, 1), (3, .istore_n 3, 1), (4, .iconst 0, 1), (5, .istore 4, 2)]) (S2 := (7, [some (.ref 41), some (.long (0 : Int64)), none, some (.int (1 : Int32)), some (.int (0 : Int32)), none], [], M)) (by decide +kernel) (hO := mm_own_125) rfl ?_
  have hp : mp_125_7 L xs (d + 1) (0 : Int64) (1 : Int32) (0 : Int32) M o := by
    refine ms_125_L7 hd h hA (fun r2 M1 h => ?_)
    intro y3 y4 y5 y6
    show mm_Runs L xs (d + 1) 125 (61, [y3, some (.long r2.1), y4, some (.int r2.2), y5, y6], [], M1) o
    exact (ms_125_j61 hd h hA : mp_125_61 L xs (d + 1) r2.1 r2.2 M1 o) y3 y4 y5 y6
  exact hp none none
