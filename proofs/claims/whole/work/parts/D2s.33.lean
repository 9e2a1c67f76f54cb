/-! MEANINGS ARE SOUND 33 -/
-- 267: PlainPacksModel.writeTape(II)V (depth 1)
theorem mm_own_267 : mm_own 267 = 12 := rfl
def mp_267_2 (L : Nat) (xs : Nat → Int32) (d : Nat) (v2 : Int32) (v3 : Int32) (M : mm_M) (o : mm_E) : Prop := ∀ z1 : Option Value, mm_Runs L xs d 267 (2, [some (.ref 84), z1, some (.int v2), some (.int v3)], [], M) o
def mp_267_23 (L : Nat) (xs : Nat → Int32) (d : Nat) (M : mm_M) (o : mm_E) : Prop := ∀ z0 z1 z2 z3 : Option Value, mm_Runs L xs d 267 (23, [z0, z1, z2, z3], [], M) o
set_option maxRecDepth 8000 in
set_option maxHeartbeats 4000000 in
theorem ms_267_b2 {L : Nat} {xs : Nat → Int32} {d : Nat} (hd : 1 ≤ d) {v2 : Int32} {v3 : Int32} {M : mm_M} {q : (((Int32) ⊕ (Unit)) ⊕ Nat) × mm_M} {o : mm_E} (h : mf_267_b2 v2 v3 M = some q) (hA : mm_A (mm_K2 (fun s M o => mp_267_2 L xs (d) v2 s M o) (fun r M o => mp_267_23 L xs (d) M o)) q o) : mp_267_2 L xs d v2 v3 M o := by
  unfold mf_267_b2 at h
  obtain ⟨d, rfl⟩ := mm_d1 (n := 0) hd
  intro z1
  show mm_Runs L xs (d + 1) 267 (2, [some (.ref 84), z1, some (.int v2), some (.int v3)], [], M) o
  refine mm_Runs.seq (l := [(2, .iload_n 3, 1), (3, .iload_n 2, 1)]) (S2 := (4, [some (.ref 84), z1, some (.int v2), some (.int v3)], [.int v2, .int v3], M)) (by decide +kernel) (hO := mm_own_267) rfl ?_
  refine mm_R_ige (t := 23) rfl rfl rfl (fun hc => ?_) (fun hc => ?_)
  · replace h := mm_ip hc h
    refine mm_Runs.seq (l := [(7, .aload_n 0, 1), (8, .aload_n 0, 1), (9, .getfield 7, 3), (12, .iload_n 3, 1)]) (S2 := (13, [some (.ref 84), z1, some (.int v2), some (.int v3)], [.int v3, .ref 85, .ref 84], M)) (by decide +kernel) (hO := mm_own_267) rfl ?_
    obtain ⟨hb, h⟩ := mm_gd h
    refine mm_R_iald rfl rfl hb ?_
    refine mm_R_call (v := mm_wv) h hA (k2 := 245) (as := [.ref 84, .int (M.1 85 v3.toNatClampNeg)]) (r := []) rfl (fun _ => rfl) (fun q hq o ho => ms_245 (by omega) hq ho) (fun _ M1 h => ?_)
    show mm_Runs L xs (d + 1) 267 (17, [some (.ref 84), z1, some (.int v2), some (.int v3)], [], M1) o
    refine mm_Runs.seq (l := [(17, .iinc 3 1, 3), (20, .goto (-18), 3)]) (S2 := (2, [some (.ref 84), z1, some (.int v2), some (.int (v3 + (1 : Int32)))], [], M1)) (by decide +kernel) (hO := mm_own_267) rfl ?_
    cases h
    exact (show mp_267_2 L xs (d + 1) v2 (v3 + (1 : Int32)) M1 o from hA) z1
  · replace h := mm_iq hc h
    cases h
    exact (show mp_267_23 L xs (d + 1) M o from hA) (some (.ref 84)) z1 (some (.int v2)) (some (.int v3))
theorem ms_267_L2 {L : Nat} {xs : Nat → Int32} {d : Nat} (hd : 1 ≤ d) {v2 : Int32} {v3 : Int32} {β : Type} {K : β → mm_M → mm_E → Prop} {F : (Unit) → mm_M → mm_O β} {M : mm_M} {q : (β ⊕ Nat) × mm_M} {o : mm_E} (h : mm_B (mf_267_L2 v2 v3 M) F = some q) (hA : mm_A K q o) (hx : ∀ (r : (Unit)) (M2 : mm_M), F r M2 = some q → (fun r M o => mp_267_23 L xs (d) M o) r M2 o) : mp_267_2 L xs d v2 v3 M o := by
  unfold mf_267_L2 at h
  exact mm_R_loop (step := (fun s M => mf_267_b2 v2 s M)) (s := v3) (M := M) (P := (fun s M o => mp_267_2 L xs (d) v2 s M o)) (X := (fun r M o => mp_267_23 L xs (d) M o)) h hA (fun s M q hq hA => ms_267_b2 (v2 := v2) (v3 := s) (M := M) (q := q) hd hq hA) hx
set_option maxRecDepth 8000 in
set_option maxHeartbeats 4000000 in
theorem ms_267 {L : Nat} {xs : Nat → Int32} {d : Nat} (hd : 1 ≤ d) {v1 : Int32} {v2 : Int32} {M : mm_M} {q : (Unit ⊕ Nat) × mm_M} {o : mm_E} (h : mf_267 v1 v2 M = some q) (hA : mm_A (mm_Kr mm_wv) q o) : mm_Runs L xs d 267 (0, mm_ent (mm_ml 267) [.ref 84, .int v1, .int v2], [], M) o := by
  unfold mf_267 at h
  obtain ⟨d, rfl⟩ := mm_d1 (n := 0) hd
  show mm_Runs L xs (d + 1) 267 (0, [some (.ref 84), some (.int v1), some (.int v2), none], [], M) o
  refine mm_Runs.seq (l := [(0, .iload_n 1, 1), (1, .istore_n 3, 1)]) (S2 := (2, [some (.ref 84), some (.int v1), some (.int v2), some (.int v1)], [], M)) (by decide +kernel) (hO := mm_own_267) rfl ?_
  have hp : mp_267_2 L xs (d + 1) v2 v1 M o := by
    refine ms_267_L2 hd h hA (fun r2 M1 h => ?_)
    intro y3 y4 y5 y6
    show mm_Runs L xs (d + 1) 267 (23, [y3, y4, y5, y6], [], M1) o
    cases h
    exact mm_R_retv rfl rfl hA
  exact hp (some (.int v1))
-- 266: PlainPacksModel.packFrame()V (depth 4)
theorem mm_own_266 : mm_own 266 = 12 := rfl
def mp_266_99 (L : Nat) (xs : Nat → Int32) (d : Nat) (v1 : Int32) (v2 : Int32) (s0 : Int32) (M : mm_M) (o : mm_E) : Prop := ∀ z3 : Option Value, mm_Runs L xs d 266 (99, [some (.ref 84), some (.int v1), some (.int v2), z3], [.int s0], M) o
def mp_266_124 (L : Nat) (xs : Nat → Int32) (d : Nat) (v2 : Int32) (v3 : Int32) (s1 : Int64) (M : mm_M) (o : mm_E) : Prop := ∀ z1 : Option Value, mm_Runs L xs d 266 (124, [some (.ref 84), z1, some (.int v2), some (.int v3)], [.long s1, .ref 84], M) o
def mp_266_154 (L : Nat) (xs : Nat → Int32) (d : Nat) (M : mm_M) (o : mm_E) : Prop := ∀ z1 z2 z3 : Option Value, mm_Runs L xs d 266 (154, [some (.ref 84), z1, z2, z3], [], M) o
set_option maxRecDepth 8000 in
set_option maxHeartbeats 4000000 in
theorem ms_266_j154 {L : Nat} {xs : Nat → Int32} {d : Nat} (hd : 4 ≤ d) {M : mm_M} {q : (Unit ⊕ Nat) × mm_M} {o : mm_E} (h : mf_266_j154 M = some q) (hA : mm_A (mm_Kr mm_wv) q o) : mp_266_154 L xs d M o := by
  unfold mf_266_j154 at h
  obtain ⟨d, rfl⟩ := mm_d1 (n := 3) hd
  intro z1 z2 z3
  show mm_Runs L xs (d + 1) 266 (154, [some (.ref 84), z1, z2, z3], [], M) o
  refine mm_Runs.seq (l := [(154, .aload_n 0, 1), (155, .lconst 0, 1), (156, .iconst 4, 1)]) (S2 := (157, [some (.ref 84), z1, z2, z3], [.int (4 : Int32), .long (0 : Int64), .ref 84], M)) (by decide +kernel) (hO := mm_own_266) rfl ?_
  refine mm_R_call (v := mm_wv) h hA (k2 := 246) (as := [.ref 84, .long (0 : Int64), .int (4 : Int32)]) (r := []) rfl (fun _ => rfl) (fun q hq o ho => ms_246 (by omega) hq ho) (fun _ M1 h => ?_)
  show mm_Runs L xs (d + 1) 266 (160, [some (.ref 84), z1, z2, z3], [], M1) o
  refine mm_Runs.seq (l := [(160, .aload_n 0, 1), (161, .aload_n 0, 1), (162, .getfield 7, 3), (165, .iconst 0, 1), (166, .aload_n 0, 1), (167, .getfield 91, 3)]) (S2 := (170, [some (.ref 84), z1, z2, z3], [.int (M1.1 84 2), .int (0 : Int32), .ref 85, .ref 84], M1)) (by decide +kernel) (hO := mm_own_266) rfl ?_
  refine mm_R_call (v := mm_wi) h hA (k2 := 188) (as := [.ref 85, .int (0 : Int32), .int (M1.1 84 2)]) (r := [.ref 84]) rfl (fun _ => rfl) (fun q hq o ho => ms_188 rfl (by omega) hq ho) (fun r2 M3 h => ?_)
  show mm_Runs L xs (d + 1) 266 (173, [some (.ref 84), z1, z2, z3], [.int r2, .ref 84], M3) o
  refine mm_Runs.seq (l := [(173, .i2l, 1), (174, .iconst 4, 1)]) (S2 := (175, [some (.ref 84), z1, z2, z3], [.int (4 : Int32), .long r2.toInt64, .ref 84], M3)) (by decide +kernel) (hO := mm_own_266) rfl ?_
  refine mm_R_call (v := mm_wv) h hA (k2 := 246) (as := [.ref 84, .long r2.toInt64, .int (4 : Int32)]) (r := []) rfl (fun _ => rfl) (fun q hq o ho => ms_246 (by omega) hq ho) (fun _ M4 h => ?_)
  show mm_Runs L xs (d + 1) 266 (178, [some (.ref 84), z1, z2, z3], [], M4) o
  cases h
  exact mm_R_retv rfl rfl hA
set_option maxRecDepth 8000 in
set_option maxHeartbeats 4000000 in
theorem ms_266_j124 {L : Nat} {xs : Nat → Int32} {d : Nat} (hd : 4 ≤ d) {v2 : Int32} {v3 : Int32} {s1 : Int64} {M : mm_M} {q : (Unit ⊕ Nat) × mm_M} {o : mm_E} (h : mf_266_j124 v2 v3 s1 M = some q) (hA : mm_A (mm_Kr mm_wv) q o) : mp_266_124 L xs d v2 v3 s1 M o := by
  unfold mf_266_j124 at h
  obtain ⟨d, rfl⟩ := mm_d1 (n := 3) hd
  intro z1
  show mm_Runs L xs (d + 1) 266 (124, [some (.ref 84), z1, some (.int v2), some (.int v3)], [.long s1, .ref 84], M) o
  refine mm_Runs.seq (l := [(124, .iconst 4, 1)]) (S2 := (125, [some (.ref 84), z1, some (.int v2), some (.int v3)], [.int (4 : Int32), .long s1, .ref 84], M)) (by decide +kernel) (hO := mm_own_266) rfl ?_
  refine mm_R_call (v := mm_wv) h hA (k2 := 246) (as := [.ref 84, .long s1, .int (4 : Int32)]) (r := []) rfl (fun _ => rfl) (fun q hq o ho => ms_246 (by omega) hq ho) (fun _ M1 h => ?_)
  show mm_Runs L xs (d + 1) 266 (128, [some (.ref 84), z1, some (.int v2), some (.int v3)], [], M1) o
  refine mm_Runs.seq (l := [(128, .iload_n 3, 1)]) (S2 := (129, [some (.ref 84), z1, some (.int v2), some (.int v3)], [.int v3], M1)) (by decide +kernel) (hO := mm_own_266) rfl ?_
  refine mm_R_zeq (t := 144) rfl rfl rfl (fun hc => ?_) (fun hc => ?_)
  · replace h := mm_ip hc h
    refine mm_Runs.seq (l := [(144, .aload_n 0, 1), (145, .dup, 1), (146, .getfield 406, 3), (149, .iload_n 2, 1), (150, .iadd, 1), (151, .putfield 406, 3)]) (S2 := (154, [some (.ref 84), z1, some (.int v2), some (.int v3)], [], (mm_pi M1 84 41 ((M1.1 84 41) + v2)))) (by decide +kernel) (hO := mm_own_266) rfl ?_
    exact (ms_266_j154 hd h hA : mp_266_154 L xs (d + 1) (mm_pi M1 84 41 ((M1.1 84 41) + v2)) o) z1 (some (.int v2)) (some (.int v3))
  · replace h := mm_iq hc h
    refine mm_Runs.seq (l := [(132, .aload_n 0, 1), (133, .iconst 0, 1), (134, .aload_n 0, 1), (135, .getfield 91, 3)]) (S2 := (138, [some (.ref 84), z1, some (.int v2), some (.int v3)], [.int (M1.1 84 2), .int (0 : Int32), .ref 84], M1)) (by decide +kernel) (hO := mm_own_266) rfl ?_
    refine mm_R_call (v := mm_wv) h hA (k2 := 267) (as := [.ref 84, .int (0 : Int32), .int (M1.1 84 2)]) (r := []) rfl (fun _ => rfl) (fun q hq o ho => ms_267 (by omega) hq ho) (fun _ M2 h => ?_)
    show mm_Runs L xs (d + 1) 266 (141, [some (.ref 84), z1, some (.int v2), some (.int v3)], [], M2) o
    refine mm_Runs.seq (l := [(141, .goto 13, 3)]) (S2 := (154, [some (.ref 84), z1, some (.int v2), some (.int v3)], [], M2)) (by decide +kernel) (hO := mm_own_266) rfl ?_
    exact (ms_266_j154 hd h hA : mp_266_154 L xs (d + 1) M2 o) z1 (some (.int v2)) (some (.int v3))
set_option maxRecDepth 8000 in
set_option maxHeartbeats 4000000 in
theorem ms_266_j99 {L : Nat} {xs : Nat → Int32} {d : Nat} (hd : 4 ≤ d) {v1 : Int32} {v2 : Int32} {s0 : Int32} {M : mm_M} {q : (Unit ⊕ Nat) × mm_M} {o : mm_E} (h : mf_266_j99 v1 v2 s0 M = some q) (hA : mm_A (mm_Kr mm_wv) q o) : mp_266_99 L xs d v1 v2 s0 M o := by
  unfold mf_266_j99 at h
  obtain ⟨d, rfl⟩ := mm_d1 (n := 3) hd
  intro z3
  show mm_Runs L xs (d + 1) 266 (99, [some (.ref 84), some (.int v1), some (.int v2), z3], [.int s0], M) o
  refine mm_Runs.seq (l := [(99, .istore_n 3, 1), (100, .aload_n 0, 1), (101, .iload_n 1, 1), (102, .putfield 406, 3), (105, .aload_n 0, 1), (106, .iload_n 3, 1)]) (S2 := (107, [some (.ref 84), some (.int v1), some (.int v2), some (.int s0)], [.int s0, .ref 84], (mm_pi M 84 41 v1))) (by decide +kernel) (hO := mm_own_266) rfl ?_
  refine mm_R_zeq (t := 122) rfl rfl rfl (fun hc => ?_) (fun hc => ?_)
  · replace h := mm_ip hc h
    refine mm_Runs.seq (l := [(122, .iload_n 2, 1), (123, .i2l, 1)]) (S2 := (124, [some (.ref 84), some (.int v1), some (.int v2), some (.int s0)], [.long v2.toInt64, .ref 84], (mm_pi M 84 41 v1))) (by decide +kernel) (hO := mm_own_266) rfl ?_
    exact (ms_266_j124 hd h hA : mp_266_124 L xs (d + 1) v2 s0 v2.toInt64 (mm_pi M 84 41 v1) o) (some (.int v1))
  · replace h := mm_iq hc h
    refine mm_Runs.seq (l := [(110, .aload_n 0, 1), (111, .getfield 91, 3), (114, .i2l, 1), (115, .ldc2_w 479, 3), (118, .lor, 1), (119, .goto 5, 3)]) (S2 := (124, [some (.ref 84), some (.int v1), some (.int v2), some (.int s0)], [.long ((M.1 84 2).toInt64 ||| (2147483648 : Int64)), .ref 84], (mm_pi M 84 41 v1))) (by decide +kernel) (hO := mm_own_266) rfl ?_
    exact (ms_266_j124 hd h hA : mp_266_124 L xs (d + 1) v2 s0 ((M.1 84 2).toInt64 ||| (2147483648 : Int64)) (mm_pi M 84 41 v1) o) (some (.int v1))
set_option maxRecDepth 8000 in
set_option maxHeartbeats 4000000 in
theorem ms_266 {L : Nat} {xs : Nat → Int32} {d : Nat} (hd : 4 ≤ d) {M : mm_M} {q : (Unit ⊕ Nat) × mm_M} {o : mm_E} (h : mf_266 M = some q) (hA : mm_A (mm_Kr mm_wv) q o) : mm_Runs L xs d 266 (0, mm_ent (mm_ml 266) [.ref 84], [], M) o := by
  unfold mf_266 at h
  obtain ⟨d, rfl⟩ := mm_d1 (n := 3) hd
  show mm_Runs L xs (d + 1) 266 (0, [some (.ref 84), none, none, none], [], M) o
  refine mm_Runs.seq (l := [(0, .aload_n 0, 1), (1, .iconst 4, 1)]) (S2 := (2, [some (.ref 84), none, none, none], [.int (4 : Int32), .ref 84], M)) (by decide +kernel) (hO := mm_own_266) rfl ?_
  refine mm_R_call (v := mm_wv) h hA (k2 := 245) (as := [.ref 84, .int (4 : Int32)]) (r := []) rfl (fun _ => rfl) (fun q hq o ho => ms_245 (by omega) hq ho) (fun _ M1 h => ?_)
  show mm_Runs L xs (d + 1) 266 (5, [some (.ref 84), none, none, none], [], M1) o
  refine mm_Runs.seq (l := [(5, .aload_n 0, 1), (6, .bipush 34, 2)]) (S2 := (8, [some (.ref 84), none, none, none], [.int (34 : Int32), .ref 84], M1)) (by decide +kernel) (hO := mm_own_266) rfl ?_
  refine mm_R_call (v := mm_wv) h hA (k2 := 245) (as := [.ref 84, .int (34 : Int32)]) (r := []) rfl (fun _ => rfl) (fun q hq o ho => ms_245 (by omega) hq ho) (fun _ M2 h => ?_)
  show mm_Runs L xs (d + 1) 266 (11, [some (.ref 84), none, none, none], [], M2) o
  refine mm_Runs.seq (l := [(11, .aload_n 0, 1), (12, .bipush 77, 2)]) (S2 := (14, [some (.ref 84), none, none, none], [.int (77 : Int32), .ref 84], M2)) (by decide +kernel) (hO := mm_own_266) rfl ?_
  refine mm_R_call (v := mm_wv) h hA (k2 := 245) (as := [.ref 84, .int (77 : Int32)]) (r := []) rfl (fun _ => rfl) (fun q hq o ho => ms_245 (by omega) hq ho) (fun _ M3 h => ?_)
  show mm_Runs L xs (d + 1) 266 (17, [some (.ref 84), none, none, none], [], M3) o
  refine mm_Runs.seq (l := [(17, .aload_n 0, 1), (18, .bipush 24, 2)]) (S2 := (20, [some (.ref 84), none, none, none], [.int (24 : Int32), .ref 84], M3)) (by decide +kernel) (hO := mm_own_266) rfl ?_
  refine mm_R_call (v := mm_wv) h hA (k2 := 245) (as := [.ref 84, .int (24 : Int32)]) (r := []) rfl (fun _ => rfl) (fun q hq o ho => ms_245 (by omega) hq ho) (fun _ M4 h => ?_)
  show mm_Runs L xs (d + 1) 266 (23, [some (.ref 84), none, none, none], [], M4) o
  refine mm_Runs.seq (l := [(23, .aload_n 0, 1), (24, .bipush 100, 2)]) (S2 := (26, [some (.ref 84), none, none, none], [.int (100 : Int32), .ref 84], M4)) (by decide +kernel) (hO := mm_own_266) rfl ?_
  refine mm_R_call (v := mm_wv) h hA (k2 := 245) (as := [.ref 84, .int (100 : Int32)]) (r := []) rfl (fun _ => rfl) (fun q hq o ho => ms_245 (by omega) hq ho) (fun _ M5 h => ?_)
  show mm_Runs L xs (d + 1) 266 (29, [some (.ref 84), none, none, none], [], M5) o
  refine mm_Runs.seq (l := [(29, .aload_n 0, 1), (30, .bipush 64, 2)]) (S2 := (32, [some (.ref 84), none, none, none], [.int (64 : Int32), .ref 84], M5)) (by decide +kernel) (hO := mm_own_266) rfl ?_
  refine mm_R_call (v := mm_wv) h hA (k2 := 245) (as := [.ref 84, .int (64 : Int32)]) (r := []) rfl (fun _ => rfl) (fun q hq o ho => ms_245 (by omega) hq ho) (fun _ M6 h => ?_)
  show mm_Runs L xs (d + 1) 266 (35, [some (.ref 84), none, none, none], [], M6) o
  refine mm_Runs.seq (l := [(35, .aload_n 0, 1), (36, .aload_n 0, 1), (37, .getfield 60, 3), (40, .iconst 0, 1), (41, .iconst 2, 1)]) (S2 := (42, [some (.ref 84), none, none, none], [.int (2 : Int32), .int (0 : Int32), .ref 101, .ref 84], M6)) (by decide +kernel) (hO := mm_own_266) rfl ?_
  refine mm_R_call (v := mm_wi) h hA (k2 := 188) (as := [.ref 101, .int (0 : Int32), .int (2 : Int32)]) (r := [.ref 84]) rfl (fun _ => rfl) (fun q hq o ho => ms_188 rfl (by omega) hq ho) (fun r7 M8 h => ?_)
  show mm_Runs L xs (d + 1) 266 (45, [some (.ref 84), none, none, none], [.int r7, .ref 84], M8) o
  refine mm_Runs.seq (l := [(45, .bipush 8, 2), (47, .iushr, 1), (48, .sipush 255, 3), (51, .iand, 1)]) (S2 := (52, [some (.ref 84), none, none, none], [.int ((mm_ush r7 (8 : Int32)) &&& (255 : Int32)), .ref 84], M8)) (by decide +kernel) (hO := mm_own_266) rfl ?_
  refine mm_R_call (v := mm_wv) h hA (k2 := 245) (as := [.ref 84, .int ((mm_ush r7 (8 : Int32)) &&& (255 : Int32))]) (r := []) rfl (fun _ => rfl) (fun q hq o ho => ms_245 (by omega) hq ho) (fun _ M9 h => ?_)
  show mm_Runs L xs (d + 1) 266 (55, [some (.ref 84), none, none, none], [], M9) o
  refine mm_Runs.seq (l := [(55, .aload_n 0, 1), (56, .getfield 91, 3)]) (S2 := (59, [some (.ref 84), none, none, none], [.int (M9.1 84 2)], M9)) (by decide +kernel) (hO := mm_own_266) rfl ?_
  refine mm_R_zle (t := 154) rfl rfl rfl (fun hc => ?_) (fun hc => ?_)
  · replace h := mm_ip hc h
    refine mm_Runs.seq (l := [(62, .aload_n 0, 1), (63, .getfield 406, 3), (66, .istore_n 1, 1), (67, .aload_n 0, 1), (68, .lconst 0, 1), (69, .iconst 4, 1)]) (S2 := (70, [some (.ref 84), some (.int (M9.1 84 41)), none, none], [.int (4 : Int32), .long (0 : Int64), .ref 84], M9)) (by decide +kernel) (hO := mm_own_266) rfl ?_
    refine mm_R_call (v := mm_wv) h hA (k2 := 246) (as := [.ref 84, .long (0 : Int64), .int (4 : Int32)]) (r := []) rfl (fun _ => rfl) (fun q hq o ho => ms_246 (by omega) hq ho) (fun _ M10 h => ?_)
    show mm_Runs L xs (d + 1) 266 (73, [some (.ref 84), some (.int (M9.1 84 41)), none, none], [], M10) o
    refine mm_Runs.seq (l := [(73, .aload_n 0, 1)]) (S2 := (74, [some (.ref 84), some (.int (M9.1 84 41)), none, none], [.ref 84], M10)) (by decide +kernel) (hO := mm_own_266) rfl ?_
    refine mm_R_call (v := mm_wv) h hA (k2 := 265) (as := [.ref 84]) (r := []) rfl (fun _ => rfl) (fun q hq o ho => ms_265 (by omega) hq ho) (fun _ M11 h => ?_)
    show mm_Runs L xs (d + 1) 266 (77, [some (.ref 84), some (.int (M9.1 84 41)), none, none], [], M11) o
    refine mm_Runs.seq (l := [(77, .aload_n 0, 1), (78, .getfield 406, 3), (81, .iload_n 1, 1), (82, .isub, 1), (83, .iconst 4, 1), (84, .isub, 1), (85, .istore_n 2, 1), (86, .iload_n 2, 1), (87, .aload_n 0, 1), (88, .getfield 91, 3)]) (S2 := (91, [some (.ref 84), some (.int (M9.1 84 41)), some (.int (((M11.1 84 41) - (M9.1 84 41)) - (4 : Int32))), none], [.int (M11.1 84 2), .int (((M11.1 84 41) - (M9.1 84 41)) - (4 : Int32))], M11)) (by decide +kernel) (hO := mm_own_266) rfl ?_
    refine mm_R_ilt (t := 98) rfl rfl rfl (fun hc => ?_) (fun hc => ?_)
    · replace h := mm_ip hc h
      refine mm_Runs.seq (l := [(98, .iconst 0, 1)]) (S2 := (99, [some (.ref 84), some (.int (M9.1 84 41)), some (.int (((M11.1 84 41) - (M9.1 84 41)) - (4 : Int32))), none], [.int (0 : Int32)], M11)) (by decide +kernel) (hO := mm_own_266) rfl ?_
      exact (ms_266_j99 hd h hA : mp_266_99 L xs (d + 1) (M9.1 84 41) (((M11.1 84 41) - (M9.1 84 41)) - (4 : Int32)) (0 : Int32) M11 o) none
    · replace h := mm_iq hc h
      refine mm_Runs.seq (l := [(94, .iconst 1, 1), (95, .goto 4, 3)]) (S2 := (99, [some (.ref 84), some (.int (M9.1 84 41)), some (.int (((M11.1 84 41) - (M9.1 84 41)) - (4 : Int32))), none], [.int (1 : Int32)], M11)) (by decide +kernel) (hO := mm_own_266) rfl ?_
      exact (ms_266_j99 hd h hA : mp_266_99 L xs (d + 1) (M9.1 84 41) (((M11.1 84 41) - (M9.1 84 41)) - (4 : Int32)) (1 : Int32) M11 o) none
  · replace h := mm_iq hc h
    exact (ms_266_j154 hd h hA : mp_266_154 L xs (d + 1) M9 o) none none none
-- 268: PlainPacksModel.writeTag(II)V (depth 2)
theorem mm_own_268 : mm_own 268 = 12 := rfl
def mp_268_63 (L : Nat) (xs : Nat → Int32) (d : Nat) (v1 : Int32) (v2 : Int32) (M : mm_M) (o : mm_E) : Prop := ∀ z3 : Option Value, mm_Runs L xs d 268 (63, [some (.ref 84), some (.int v1), some (.int v2), z3], [], M) o
set_option maxRecDepth 8000 in
set_option maxHeartbeats 4000000 in
theorem ms_268_j63 {L : Nat} {xs : Nat → Int32} {d : Nat} (hd : 2 ≤ d) {v1 : Int32} {v2 : Int32} {M : mm_M} {q : (Unit ⊕ Nat) × mm_M} {o : mm_E} (h : mf_268_j63 v1 v2 M = some q) (hA : mm_A (mm_Kr mm_wv) q o) : mp_268_63 L xs d v1 v2 M o := by
  unfold mf_268_j63 at h
  obtain ⟨d, rfl⟩ := mm_d1 (n := 1) hd
  intro z3
  show mm_Runs L xs (d + 1) 268 (63, [some (.ref 84), some (.int v1), some (.int v2), z3], [], M) o
  refine mm_Runs.seq (l := [(63, .aload_n 0, 1), (64, .iload_n 1, 1), (65, .iload_n 2, 1)]) (S2 := (66, [some (.ref 84), some (.int v1), some (.int v2), z3], [.int v2, .int v1, .ref 84], M)) (by decide +kernel) (hO := mm_own_268) rfl ?_
  refine mm_R_call (v := mm_wv) h hA (k2 := 267) (as := [.ref 84, .int v1, .int v2]) (r := []) rfl (fun _ => rfl) (fun q hq o ho => ms_267 (by omega) hq ho) (fun _ M1 h => ?_)
  show mm_Runs L xs (d + 1) 268 (69, [some (.ref 84), some (.int v1), some (.int v2), z3], [], M1) o
  cases h
  exact mm_R_retv rfl rfl hA
set_option maxRecDepth 8000 in
set_option maxHeartbeats 4000000 in
theorem ms_268 {L : Nat} {xs : Nat → Int32} {d : Nat} (hd : 2 ≤ d) {v1 : Int32} {v2 : Int32} {M : mm_M} {q : (Unit ⊕ Nat) × mm_M} {o : mm_E} (h : mf_268 v1 v2 M = some q) (hA : mm_A (mm_Kr mm_wv) q o) : mm_Runs L xs d 268 (0, mm_ent (mm_ml 268) [.ref 84, .int v1, .int v2], [], M) o := by
  unfold mf_268 at h
  obtain ⟨d, rfl⟩ := mm_d1 (n := 1) hd
  show mm_Runs L xs (d + 1) 268 (0, [some (.ref 84), some (.int v1), some (.int v2), none], [], M) o
  refine mm_Runs.seq (l := [(0, .iload_n 2, 1), (1, .iload_n 1, 1), (2, .isub, 1), (3, .iconst 1, 1), (4, .isub, 1), (5, .istore_n 3, 1), (6, .iload_n 3, 1)]) (S2 := (7, [some (.ref 84), some (.int v1), some (.int v2), some (.int ((v2 - v1) - (1 : Int32)))], [.int ((v2 - v1) - (1 : Int32))], M)) (by decide +kernel) (hO := mm_own_268) rfl ?_
  refine mm_R_zge (t := 11) rfl rfl rfl (fun hc => ?_) (fun hc => ?_)
  · replace h := mm_ip hc h
    cases h
    exact mm_R_retv rfl rfl hA
  · replace h := mm_iq hc h
    refine mm_Runs.seq (l := [(11, .iload_n 3, 1), (12, .bipush 60, 2)]) (S2 := (14, [some (.ref 84), some (.int v1), some (.int v2), some (.int ((v2 - v1) - (1 : Int32)))], [.int (60 : Int32), .int ((v2 - v1) - (1 : Int32))], M)) (by decide +kernel) (hO := mm_own_268) rfl ?_
    refine mm_R_ige (t := 27) rfl rfl rfl (fun hc => ?_) (fun hc => ?_)
    · replace h := mm_ip hc h
      refine mm_Runs.seq (l := [(17, .aload_n 0, 1), (18, .iload_n 3, 1), (19, .iconst 2, 1), (20, .ishl, 1)]) (S2 := (21, [some (.ref 84), some (.int v1), some (.int v2), some (.int ((v2 - v1) - (1 : Int32)))], [.int (mm_shl ((v2 - v1) - (1 : Int32)) (2 : Int32)), .ref 84], M)) (by decide +kernel) (hO := mm_own_268) rfl ?_
      refine mm_R_call (v := mm_wv) h hA (k2 := 245) (as := [.ref 84, .int (mm_shl ((v2 - v1) - (1 : Int32)) (2 : Int32))]) (r := []) rfl (fun _ => rfl) (fun q hq o ho => ms_245 (by omega) hq ho) (fun _ M1 h => ?_)
      show mm_Runs L xs (d + 1) 268 (24, [some (.ref 84), some (.int v1), some (.int v2), some (.int ((v2 - v1) - (1 : Int32)))], [], M1) o
      refine mm_Runs.seq (l := [(24, .goto 39, 3)]) (S2 := (63, [some (.ref 84), some (.int v1), some (.int v2), some (.int ((v2 - v1) - (1 : Int32)))], [], M1)) (by decide +kernel) (hO := mm_own_268) rfl ?_
      exact (ms_268_j63 hd h hA : mp_268_63 L xs (d + 1) v1 v2 M1 o) (some (.int ((v2 - v1) - (1 : Int32))))
    · replace h := mm_iq hc h
      refine mm_Runs.seq (l := [(27, .iload_n 3, 1), (28, .sipush 256, 3)]) (S2 := (31, [some (.ref 84), some (.int v1), some (.int v2), some (.int ((v2 - v1) - (1 : Int32)))], [.int (256 : Int32), .int ((v2 - v1) - (1 : Int32))], M)) (by decide +kernel) (hO := mm_own_268) rfl ?_
      refine mm_R_ige (t := 49) rfl rfl rfl (fun hc => ?_) (fun hc => ?_)
      · replace h := mm_ip hc h
        refine mm_Runs.seq (l := [(34, .aload_n 0, 1), (35, .sipush 240, 3)]) (S2 := (38, [some (.ref 84), some (.int v1), some (.int v2), some (.int ((v2 - v1) - (1 : Int32)))], [.int (240 : Int32), .ref 84], M)) (by decide +kernel) (hO := mm_own_268) rfl ?_
        refine mm_R_call (v := mm_wv) h hA (k2 := 245) (as := [.ref 84, .int (240 : Int32)]) (r := []) rfl (fun _ => rfl) (fun q hq o ho => ms_245 (by omega) hq ho) (fun _ M2 h => ?_)
        show mm_Runs L xs (d + 1) 268 (41, [some (.ref 84), some (.int v1), some (.int v2), some (.int ((v2 - v1) - (1 : Int32)))], [], M2) o
        refine mm_Runs.seq (l := [(41, .aload_n 0, 1), (42, .iload_n 3, 1)]) (S2 := (43, [some (.ref 84), some (.int v1), some (.int v2), some (.int ((v2 - v1) - (1 : Int32)))], [.int ((v2 - v1) - (1 : Int32)), .ref 84], M2)) (by decide +kernel) (hO := mm_own_268) rfl ?_
        refine mm_R_call (v := mm_wv) h hA (k2 := 245) (as := [.ref 84, .int ((v2 - v1) - (1 : Int32))]) (r := []) rfl (fun _ => rfl) (fun q hq o ho => ms_245 (by omega) hq ho) (fun _ M3 h => ?_)
        show mm_Runs L xs (d + 1) 268 (46, [some (.ref 84), some (.int v1), some (.int v2), some (.int ((v2 - v1) - (1 : Int32)))], [], M3) o
        refine mm_Runs.seq (l := [(46, .goto 17, 3)]) (S2 := (63, [some (.ref 84), some (.int v1), some (.int v2), some (.int ((v2 - v1) - (1 : Int32)))], [], M3)) (by decide +kernel) (hO := mm_own_268) rfl ?_
        exact (ms_268_j63 hd h hA : mp_268_63 L xs (d + 1) v1 v2 M3 o) (some (.int ((v2 - v1) - (1 : Int32))))
      · replace h := mm_iq hc h
        refine mm_Runs.seq (l := [(49, .aload_n 0, 1), (50, .sipush 244, 3)]) (S2 := (53, [some (.ref 84), some (.int v1), some (.int v2), some (.int ((v2 - v1) - (1 : Int32)))], [.int (244 : Int32), .ref 84], M)) (by decide +kernel) (hO := mm_own_268) rfl ?_
        refine mm_R_call (v := mm_wv) h hA (k2 := 245) (as := [.ref 84, .int (244 : Int32)]) (r := []) rfl (fun _ => rfl) (fun q hq o ho => ms_245 (by omega) hq ho) (fun _ M4 h => ?_)
        show mm_Runs L xs (d + 1) 268 (56, [some (.ref 84), some (.int v1), some (.int v2), some (.int ((v2 - v1) - (1 : Int32)))], [], M4) o
        refine mm_Runs.seq (l := [(56, .aload_n 0, 1), (57, .iload_n 3, 1), (58, .i2l, 1), (59, .iconst 2, 1)]) (S2 := (60, [some (.ref 84), some (.int v1), some (.int v2), some (.int ((v2 - v1) - (1 : Int32)))], [.int (2 : Int32), .long ((v2 - v1) - (1 : Int32)).toInt64, .ref 84], M4)) (by decide +kernel) (hO := mm_own_268) rfl ?_
        refine mm_R_call (v := mm_wv) h hA (k2 := 246) (as := [.ref 84, .long ((v2 - v1) - (1 : Int32)).toInt64, .int (2 : Int32)]) (r := []) rfl (fun _ => rfl) (fun q hq o ho => ms_246 (by omega) hq ho) (fun _ M5 h => ?_)
        show mm_Runs L xs (d + 1) 268 (63, [some (.ref 84), some (.int v1), some (.int v2), some (.int ((v2 - v1) - (1 : Int32)))], [], M5) o
        exact (ms_268_j63 hd h hA : mp_268_63 L xs (d + 1) v1 v2 M5 o) (some (.int ((v2 - v1) - (1 : Int32))))
-- 269: PlainPacksModel.packTags()V (depth 3)
theorem mm_own_269 : mm_own 269 = 12 := rfl
def mp_269_5 (L : Nat) (xs : Nat → Int32) (d : Nat) (v1 : Int32) (M : mm_M) (o : mm_E) : Prop := ∀ z2 z3 : Option Value, mm_Runs L xs d 269 (5, [some (.ref 84), some (.int v1), z2, z3], [], M) o
def mp_269_31 (L : Nat) (xs : Nat → Int32) (d : Nat) (v1 : Int32) (M : mm_M) (o : mm_E) : Prop := ∀ z2 z3 : Option Value, mm_Runs L xs d 269 (31, [some (.ref 84), some (.int v1), z2, z3], [], M) o
set_option maxRecDepth 8000 in
set_option maxHeartbeats 4000000 in
theorem ms_269_b5 {L : Nat} {xs : Nat → Int32} {d : Nat} (hd : 3 ≤ d) {v1 : Int32} {M : mm_M} {q : (((Int32) ⊕ (Int32)) ⊕ Nat) × mm_M} {o : mm_E} (h : mf_269_b5 v1 M = some q) (hA : mm_A (mm_K2 (fun s M o => mp_269_5 L xs (d) s M o) (fun r M o => mp_269_31 L xs (d) r M o)) q o) : mp_269_5 L xs d v1 M o := by
  unfold mf_269_b5 at h
  obtain ⟨d, rfl⟩ := mm_d1 (n := 2) hd
  intro z2 z3
  show mm_Runs L xs (d + 1) 269 (5, [some (.ref 84), some (.int v1), z2, z3], [], M) o
  refine mm_Runs.seq (l := [(5, .iload_n 1, 1), (6, .bipush 127, 2)]) (S2 := (8, [some (.ref 84), some (.int v1), z2, z3], [.int (127 : Int32), .int v1], M)) (by decide +kernel) (hO := mm_own_269) rfl ?_
  refine mm_R_ile (t := 31) rfl rfl rfl (fun hc => ?_) (fun hc => ?_)
  · replace h := mm_ip hc h
    refine mm_Runs.seq (l := [(11, .aload_n 0, 1), (12, .iload_n 1, 1), (13, .bipush 127, 2), (15, .iand, 1), (16, .sipush 128, 3), (19, .ior, 1)]) (S2 := (20, [some (.ref 84), some (.int v1), z2, z3], [.int ((v1 &&& (127 : Int32)) ||| (128 : Int32)), .ref 84], M)) (by decide +kernel) (hO := mm_own_269) rfl ?_
    refine mm_R_call (v := mm_wv) h hA (k2 := 245) (as := [.ref 84, .int ((v1 &&& (127 : Int32)) ||| (128 : Int32))]) (r := []) rfl (fun _ => rfl) (fun q hq o ho => ms_245 (by omega) hq ho) (fun _ M1 h => ?_)
    show mm_Runs L xs (d + 1) 269 (23, [some (.ref 84), some (.int v1), z2, z3], [], M1) o
    refine mm_Runs.seq (l := [(23, .iload_n 1, 1), (24, .bipush 7, 2), (26, .ishr, 1), (27, .istore_n 1, 1), (28, .goto (-23), 3)]) (S2 := (5, [some (.ref 84), some (.int (mm_shr v1 (7 : Int32))), z2, z3], [], M1)) (by decide +kernel) (hO := mm_own_269) rfl ?_
    cases h
    exact (show mp_269_5 L xs (d + 1) (mm_shr v1 (7 : Int32)) M1 o from hA) z2 z3
  · replace h := mm_iq hc h
    cases h
    exact (show mp_269_31 L xs (d + 1) v1 M o from hA) z2 z3
theorem ms_269_L5 {L : Nat} {xs : Nat → Int32} {d : Nat} (hd : 3 ≤ d) {v1 : Int32} {β : Type} {K : β → mm_M → mm_E → Prop} {F : (Int32) → mm_M → mm_O β} {M : mm_M} {q : (β ⊕ Nat) × mm_M} {o : mm_E} (h : mm_B (mf_269_L5 v1 M) F = some q) (hA : mm_A K q o) (hx : ∀ (r : (Int32)) (M2 : mm_M), F r M2 = some q → (fun r M o => mp_269_31 L xs (d) r M o) r M2 o) : mp_269_5 L xs d v1 M o := by
  unfold mf_269_L5 at h
  exact mm_R_loop (step := (fun s M => mf_269_b5 s M)) (s := v1) (M := M) (P := (fun s M o => mp_269_5 L xs (d) s M o)) (X := (fun r M o => mp_269_31 L xs (d) r M o)) h hA (fun s M q hq hA => ms_269_b5 (v1 := s) (M := M) (q := q) hd hq hA) hx
def mp_269_40 (L : Nat) (xs : Nat → Int32) (d : Nat) (v2 : Int32) (v3 : Int32) (M : mm_M) (o : mm_E) : Prop := ∀ z1 : Option Value, mm_Runs L xs d 269 (40, [some (.ref 84), z1, some (.int v2), some (.int v3)], [], M) o
def mp_269_117 (L : Nat) (xs : Nat → Int32) (d : Nat) (v2 : Int32) (M : mm_M) (o : mm_E) : Prop := ∀ z1 z3 : Option Value, mm_Runs L xs d 269 (117, [some (.ref 84), z1, some (.int v2), z3], [], M) o
set_option maxRecDepth 8000 in
set_option maxHeartbeats 4000000 in
theorem ms_269_b40 {L : Nat} {xs : Nat → Int32} {d : Nat} (hd : 3 ≤ d) {v2 : Int32} {v3 : Int32} {M : mm_M} {q : (((Int32 × Int32) ⊕ (Int32)) ⊕ Nat) × mm_M} {o : mm_E} (h : mf_269_b40 v2 v3 M = some q) (hA : mm_A (mm_K2 (fun s M o => mp_269_40 L xs (d) s.1 s.2 M o) (fun r M o => mp_269_117 L xs (d) r M o)) q o) : mp_269_40 L xs d v2 v3 M o := by
  unfold mf_269_b40 at h
  obtain ⟨d, rfl⟩ := mm_d1 (n := 2) hd
  intro z1
  show mm_Runs L xs (d + 1) 269 (40, [some (.ref 84), z1, some (.int v2), some (.int v3)], [], M) o
  refine mm_Runs.seq (l := [(40, .iload_n 3, 1), (41, .aload_n 0, 1), (42, .getfield 91, 3)]) (S2 := (45, [some (.ref 84), z1, some (.int v2), some (.int v3)], [.int (M.1 84 2), .int v3], M)) (by decide +kernel) (hO := mm_own_269) rfl ?_
  refine mm_R_ige (t := 117) rfl rfl rfl (fun hc => ?_) (fun hc => ?_)
  · replace h := mm_ip hc h
    refine mm_Runs.seq (l := [(48, .aload_n 0, 1), (49, .iload_n 3, 1), (50, .bipush 64, 2), (52, .ldc 210, 2), (54, .aload_n 0, 1), (55, .getfield 91, 3)]) (S2 := (58, [some (.ref 84), z1, some (.int v2), some (.int v3)], [.int (M.1 84 2), .int (65535 : Int32), .int (64 : Int32), .int v3, .ref 84], M)) (by decide +kernel) (hO := mm_own_269) rfl ?_
    refine mm_R_call (v := mm_wv) h hA (k2 := 250) (as := [.ref 84, .int v3, .int (64 : Int32), .int (65535 : Int32), .int (M.1 84 2)]) (r := []) rfl (fun _ => rfl) (fun q hq o ho => ms_250 (by omega) hq ho) (fun _ M1 h => ?_)
    show mm_Runs L xs (d + 1) 269 (61, [some (.ref 84), z1, some (.int v2), some (.int v3)], [], M1) o
    refine mm_Runs.seq (l := [(61, .aload_n 0, 1), (62, .getfield 424, 3), (65, .iconst 4, 1)]) (S2 := (66, [some (.ref 84), z1, some (.int v2), some (.int v3)], [.int (4 : Int32), .int (M1.1 84 44)], M1)) (by decide +kernel) (hO := mm_own_269) rfl ?_
    refine mm_R_ige (t := 75) rfl rfl rfl (fun hc => ?_) (fun hc => ?_)
    · replace h := mm_ip hc h
      refine mm_Runs.seq (l := [(69, .iinc 3 1, 3), (72, .goto (-32), 3)]) (S2 := (40, [some (.ref 84), z1, some (.int v2), some (.int (v3 + (1 : Int32)))], [], M1)) (by decide +kernel) (hO := mm_own_269) rfl ?_
      cases h
      exact (show mp_269_40 L xs (d + 1) v2 (v3 + (1 : Int32)) M1 o from hA) z1
    · replace h := mm_iq hc h
      refine mm_Runs.seq (l := [(75, .aload_n 0, 1), (76, .iload_n 2, 1), (77, .iload_n 3, 1)]) (S2 := (78, [some (.ref 84), z1, some (.int v2), some (.int v3)], [.int v3, .int v2, .ref 84], M1)) (by decide +kernel) (hO := mm_own_269) rfl ?_
      refine mm_R_call (v := mm_wv) h hA (k2 := 268) (as := [.ref 84, .int v2, .int v3]) (r := []) rfl (fun _ => rfl) (fun q hq o ho => ms_268 (by omega) hq ho) (fun _ M2 h => ?_)
      show mm_Runs L xs (d + 1) 269 (81, [some (.ref 84), z1, some (.int v2), some (.int v3)], [], M2) o
      refine mm_Runs.seq (l := [(81, .aload_n 0, 1), (82, .aload_n 0, 1), (83, .getfield 424, 3), (86, .iconst 1, 1), (87, .isub, 1), (88, .iconst 2, 1), (89, .ishl, 1), (90, .iconst 2, 1), (91, .ior, 1)]) (S2 := (92, [some (.ref 84), z1, some (.int v2), some (.int v3)], [.int ((mm_shl ((M2.1 84 44) - (1 : Int32)) (2 : Int32)) ||| (2 : Int32)), .ref 84], M2)) (by decide +kernel) (hO := mm_own_269) rfl ?_
      refine mm_R_call (v := mm_wv) h hA (k2 := 245) (as := [.ref 84, .int ((mm_shl ((M2.1 84 44) - (1 : Int32)) (2 : Int32)) ||| (2 : Int32))]) (r := []) rfl (fun _ => rfl) (fun q hq o ho => ms_245 (by omega) hq ho) (fun _ M3 h => ?_)
      show mm_Runs L xs (d + 1) 269 (95, [some (.ref 84), z1, some (.int v2), some (.int v3)], [], M3) o
      refine mm_Runs.seq (l := [(95, .aload_n 0, 1), (96, .aload_n 0, 1), (97, .getfield 427, 3), (100, .i2l, 1), (101, .iconst 2, 1)]) (S2 := (102, [some (.ref 84), z1, some (.int v2), some (.int v3)], [.int (2 : Int32), .long (M3.1 84 45).toInt64, .ref 84], M3)) (by decide +kernel) (hO := mm_own_269) rfl ?_
      refine mm_R_call (v := mm_wv) h hA (k2 := 246) (as := [.ref 84, .long (M3.1 84 45).toInt64, .int (2 : Int32)]) (r := []) rfl (fun _ => rfl) (fun q hq o ho => ms_246 (by omega) hq ho) (fun _ M4 h => ?_)
      show mm_Runs L xs (d + 1) 269 (105, [some (.ref 84), z1, some (.int v2), some (.int v3)], [], M4) o
      refine mm_Runs.seq (l := [(105, .iload_n 3, 1), (106, .aload_n 0, 1), (107, .getfield 424, 3), (110, .iadd, 1), (111, .istore_n 3, 1), (112, .iload_n 3, 1), (113, .istore_n 2, 1), (114, .goto (-74), 3)]) (S2 := (40, [some (.ref 84), (mm_no2 z1), some (.int (v3 + (M4.1 84 44))), some (.int (v3 + (M4.1 84 44)))], [], M4)) (by decide +kernel) (hO := mm_own_269) rfl ?_
      cases h
      exact (show mp_269_40 L xs (d + 1) (v3 + (M4.1 84 44)) (v3 + (M4.1 84 44)) M4 o from hA) ((mm_no2 z1))
  · replace h := mm_iq hc h
    cases h
    exact (show mp_269_117 L xs (d + 1) v2 M o from hA) z1 (some (.int v3))
theorem ms_269_L40 {L : Nat} {xs : Nat → Int32} {d : Nat} (hd : 3 ≤ d) {v2 : Int32} {v3 : Int32} {β : Type} {K : β → mm_M → mm_E → Prop} {F : (Int32) → mm_M → mm_O β} {M : mm_M} {q : (β ⊕ Nat) × mm_M} {o : mm_E} (h : mm_B (mf_269_L40 (v2, v3) M) F = some q) (hA : mm_A K q o) (hx : ∀ (r : (Int32)) (M2 : mm_M), F r M2 = some q → (fun r M o => mp_269_117 L xs (d) r M o) r M2 o) : mp_269_40 L xs d v2 v3 M o := by
  unfold mf_269_L40 at h
  exact mm_R_loop (step := (fun s M => mf_269_b40 s.1 s.2 M)) (s := (v2, v3)) (M := M) (P := (fun s M o => mp_269_40 L xs (d) s.1 s.2 M o)) (X := (fun r M o => mp_269_117 L xs (d) r M o)) h hA (fun s M q hq hA => ms_269_b40 (v2 := s.1) (v3 := s.2) (M := M) (q := q) hd hq hA) hx
set_option maxRecDepth 8000 in
set_option maxHeartbeats 4000000 in
theorem ms_269_j117 {L : Nat} {xs : Nat → Int32} {d : Nat} (hd : 3 ≤ d) {v2 : Int32} {M : mm_M} {q : (Unit ⊕ Nat) × mm_M} {o : mm_E} (h : mf_269_j117 v2 M = some q) (hA : mm_A (mm_Kr mm_wv) q o) : mp_269_117 L xs d v2 M o := by
  unfold mf_269_j117 at h
  obtain ⟨d, rfl⟩ := mm_d1 (n := 2) hd
  intro z1 z3
  show mm_Runs L xs (d + 1) 269 (117, [some (.ref 84), z1, some (.int v2), z3], [], M) o
  refine mm_Runs.seq (l := [(117, .aload_n 0, 1), (118, .iload_n 2, 1), (119, .aload_n 0, 1), (120, .getfield 91, 3)]) (S2 := (123, [some (.ref 84), z1, some (.int v2), z3], [.int (M.1 84 2), .int v2, .ref 84], M)) (by decide +kernel) (hO := mm_own_269) rfl ?_
  refine mm_R_call (v := mm_wv) h hA (k2 := 268) (as := [.ref 84, .int v2, .int (M.1 84 2)]) (r := []) rfl (fun _ => rfl) (fun q hq o ho => ms_268 (by omega) hq ho) (fun _ M1 h => ?_)
  show mm_Runs L xs (d + 1) 269 (126, [some (.ref 84), z1, some (.int v2), z3], [], M1) o
  cases h
  exact mm_R_retv rfl rfl hA
set_option maxRecDepth 8000 in
set_option maxHeartbeats 4000000 in
theorem ms_269_j31 {L : Nat} {xs : Nat → Int32} {d : Nat} (hd : 3 ≤ d) {v1 : Int32} {M : mm_M} {q : (Unit ⊕ Nat) × mm_M} {o : mm_E} (h : mf_269_j31 v1 M = some q) (hA : mm_A (mm_Kr mm_wv) q o) : mp_269_31 L xs d v1 M o := by
  unfold mf_269_j31 at h
  obtain ⟨d, rfl⟩ := mm_d1 (n := 2) hd
  intro z2 z3
  show mm_Runs L xs (d + 1) 269 (31, [some (.ref 84), some (.int v1), z2, z3], [], M) o
  refine mm_Runs.seq (l := [(31, .aload_n 0, 1), (32, .iload_n 1, 1)]) (S2 := (33, [some (.ref 84), some (.int v1), z2, z3], [.int v1, .ref 84], M)) (by decide +kernel) (hO := mm_own_269) rfl ?_
  refine mm_R_call (v := mm_wv) h hA (k2 := 245) (as := [.ref 84, .int v1]) (r := []) rfl (fun _ => rfl) (fun q hq o ho => ms_245 (by omega) hq ho) (fun _ M1 h => ?_)
  show mm_Runs L xs (d + 1) 269 (36, [some (.ref 84), some (.int v1), z2, z3], [], M1) o
  refine mm_Runs.seq (l := [(36, .iconst 0, 1), (37, .istore_n 2, 1), (38, .iconst 0, 1), (39, .istore_n 3, 1)]) (S2 := (40, [some (.ref 84), some (.int v1), some (.int (0 : Int32)), some (.int (0 : Int32))], [], M1)) (by decide +kernel) (hO := mm_own_269) rfl ?_
  have hp : mp_269_40 L xs (d + 1) (0 : Int32) (0 : Int32) M1 o := by
    refine ms_269_L40 hd h hA (fun r3 M2 h => ?_)
    intro y4 y5
    show mm_Runs L xs (d + 1) 269 (117, [some (.ref 84), y4, some (.int r3), y5], [], M2) o
    exact (ms_269_j117 hd h hA : mp_269_117 L xs (d + 1) r3 M2 o) y4 y5
  exact hp (some (.int v1))
set_option maxRecDepth 8000 in
set_option maxHeartbeats 4000000 in
theorem ms_269 {L : Nat} {xs : Nat → Int32} {d : Nat} (hd : 3 ≤ d) {M : mm_M} {q : (Unit ⊕ Nat) × mm_M} {o : mm_E} (h : mf_269 M = some q) (hA : mm_A (mm_Kr mm_wv) q o) : mm_Runs L xs d 269 (0, mm_ent (mm_ml 269) [.ref 84], [], M) o := by
  unfold mf_269 at h
  obtain ⟨d, rfl⟩ := mm_d1 (n := 2) hd
  show mm_Runs L xs (d + 1) 269 (0, [some (.ref 84), none, none, none], [], M) o
  refine mm_Runs.seq (l := [(0, .aload_n 0, 1), (1, .getfield 91, 3), (4, .istore_n 1, 1)]) (S2 := (5, [some (.ref 84), some (.int (M.1 84 2)), none, none], [], M)) (by decide +kernel) (hO := mm_own_269) rfl ?_
  have hp : mp_269_5 L xs (d + 1) (M.1 84 2) M o := by
    refine ms_269_L5 hd h hA (fun r2 M1 h => ?_)
    intro y3 y4
    show mm_Runs L xs (d + 1) 269 (31, [some (.ref 84), some (.int r2), y3, y4], [], M1) o
    exact (ms_269_j31 hd h hA : mp_269_31 L xs (d + 1) r2 M1 o) y3 y4
  exact hp none none
-- 275: PlainPacksModel.counted()I (depth 1)
theorem mm_own_275 : mm_own 275 = 12 := rfl
def mp_275_4 (L : Nat) (xs : Nat → Int32) (d : Nat) (v1 : Int32) (v2 : Int32) (M : mm_M) (o : mm_E) : Prop := ∀ z3 z4 : Option Value, mm_Runs L xs d 275 (4, [some (.ref 84), some (.int v1), some (.int v2), z3, z4], [], M) o
def mp_275_81 (L : Nat) (xs : Nat → Int32) (d : Nat) (v1 : Int32) (M : mm_M) (o : mm_E) : Prop := ∀ z0 z2 z3 z4 : Option Value, mm_Runs L xs d 275 (81, [z0, some (.int v1), z2, z3, z4], [], M) o
def mp_275_24 (L : Nat) (xs : Nat → Int32) (d : Nat) (v1 : Int32) (v2 : Int32) (v3 : Int32) (v4 : Int32) (M : mm_M) (o : mm_E) : Prop := mm_Runs L xs d 275 (24, [some (.ref 84), some (.int v1), some (.int v2), some (.int v3), some (.int v4)], [], M) o
def mp_275_57 (L : Nat) (xs : Nat → Int32) (d : Nat) (v1 : Int32) (v2 : Int32) (v3 : Int32) (M : mm_M) (o : mm_E) : Prop := ∀ z4 : Option Value, mm_Runs L xs d 275 (57, [some (.ref 84), some (.int v1), some (.int v2), some (.int v3), z4], [], M) o
set_option maxRecDepth 8000 in
set_option maxHeartbeats 4000000 in
theorem ms_275_b24 {L : Nat} {xs : Nat → Int32} {d : Nat} (hd : 1 ≤ d) {v1 : Int32} {v2 : Int32} {v3 : Int32} {v4 : Int32} {M : mm_M} {q : (((Int32 × Int32) ⊕ (Int32)) ⊕ Nat) × mm_M} {o : mm_E} (h : mf_275_b24 v1 v2 v3 v4 M = some q) (hA : mm_A (mm_K2 (fun s M o => mp_275_24 L xs (d) s.1 v2 v3 s.2 M o) (fun r M o => mp_275_57 L xs (d) r v2 v3 M o)) q o) : mp_275_24 L xs d v1 v2 v3 v4 M o := by
  unfold mf_275_b24 at h
  obtain ⟨d, rfl⟩ := mm_d1 (n := 0) hd
  show mm_Runs L xs (d + 1) 275 (24, [some (.ref 84), some (.int v1), some (.int v2), some (.int v3), some (.int v4)], [], M) o
  refine mm_Runs.seq (l := [(24, .iload 4, 2), (26, .iload_n 3, 1)]) (S2 := (27, [some (.ref 84), some (.int v1), some (.int v2), some (.int v3), some (.int v4)], [.int v3, .int v4], M)) (by decide +kernel) (hO := mm_own_275) rfl ?_
  refine mm_R_ige (t := 57) rfl rfl rfl (fun hc => ?_) (fun hc => ?_)
  · replace h := mm_ip hc h
    refine mm_Runs.seq (l := [(30, .iload 4, 2), (32, .iconst 4, 1)]) (S2 := (33, [some (.ref 84), some (.int v1), some (.int v2), some (.int v3), some (.int v4)], [.int (4 : Int32), .int v4], M)) (by decide +kernel) (hO := mm_own_275) rfl ?_
    refine mm_R_ige (t := 57) rfl rfl rfl (fun hc => ?_) (fun hc => ?_)
    · replace h := mm_ip hc h
      refine mm_Runs.seq (l := [(36, .aload_n 0, 1), (37, .getfield 63, 3), (40, .iload_n 1, 1), (41, .aload_n 0, 1), (42, .getfield 7, 3), (45, .iload_n 2, 1)]) (S2 := (46, [some (.ref 84), some (.int v1), some (.int v2), some (.int v3), some (.int v4)], [.int v2, .ref 85, .int v1, .ref 102], M)) (by decide +kernel) (hO := mm_own_275) rfl ?_
      obtain ⟨hb, h⟩ := mm_gd h
      refine mm_R_iald rfl rfl hb ?_
      obtain ⟨hb, h⟩ := mm_gd h
      refine mm_R_iast rfl rfl hb ?_
      refine mm_Runs.seq (l := [(48, .iinc 1 1, 3), (51, .iinc 4 1, 3), (54, .goto (-30), 3)]) (S2 := (24, [some (.ref 84), some (.int (v1 + (1 : Int32))), some (.int v2), some (.int v3), some (.int (v4 + (1 : Int32)))], [], (mm_pi M 102 v1.toNatClampNeg (M.1 85 v2.toNatClampNeg)))) (by decide +kernel) (hO := mm_own_275) rfl ?_
      cases h
      exact (show mp_275_24 L xs (d + 1) (v1 + (1 : Int32)) v2 v3 (v4 + (1 : Int32)) (mm_pi M 102 v1.toNatClampNeg (M.1 85 v2.toNatClampNeg)) o from hA)
    · replace h := mm_iq hc h
      cases h
      exact (show mp_275_57 L xs (d + 1) v1 v2 v3 M o from hA) (some (.int v4))
  · replace h := mm_iq hc h
    cases h
    exact (show mp_275_57 L xs (d + 1) v1 v2 v3 M o from hA) (some (.int v4))
theorem ms_275_L24 {L : Nat} {xs : Nat → Int32} {d : Nat} (hd : 1 ≤ d) {v1 : Int32} {v2 : Int32} {v3 : Int32} {v4 : Int32} {β : Type} {K : β → mm_M → mm_E → Prop} {F : (Int32) → mm_M → mm_O β} {M : mm_M} {q : (β ⊕ Nat) × mm_M} {o : mm_E} (h : mm_B (mf_275_L24 v2 v3 (v1, v4) M) F = some q) (hA : mm_A K q o) (hx : ∀ (r : (Int32)) (M2 : mm_M), F r M2 = some q → (fun r M o => mp_275_57 L xs (d) r v2 v3 M o) r M2 o) : mp_275_24 L xs d v1 v2 v3 v4 M o := by
  unfold mf_275_L24 at h
  exact mm_R_loop (step := (fun s M => mf_275_b24 s.1 v2 v3 s.2 M)) (s := (v1, v4)) (M := M) (P := (fun s M o => mp_275_24 L xs (d) s.1 v2 v3 s.2 M o)) (X := (fun r M o => mp_275_57 L xs (d) r v2 v3 M o)) h hA (fun s M q hq hA => ms_275_b24 (v1 := s.1) (v2 := v2) (v3 := v3) (v4 := s.2) (M := M) (q := q) hd hq hA) hx
set_option maxRecDepth 8000 in
set_option maxHeartbeats 4000000 in
theorem ms_275_j57 {L : Nat} {xs : Nat → Int32} {d : Nat} (hd : 1 ≤ d) {v1 : Int32} {v2 : Int32} {v3 : Int32} {M : mm_M} {q : (((Int32 × Int32) ⊕ (Int32)) ⊕ Nat) × mm_M} {o : mm_E} (h : mf_275_j57 v1 v2 v3 M = some q) (hA : mm_A (mm_K2 (fun s M o => mp_275_4 L xs (d) s.1 s.2 M o) (fun r M o => mp_275_81 L xs (d) r M o)) q o) : mp_275_57 L xs d v1 v2 v3 M o := by
  unfold mf_275_j57 at h
  obtain ⟨d, rfl⟩ := mm_d1 (n := 0) hd
  intro z4
  show mm_Runs L xs (d + 1) 275 (57, [some (.ref 84), some (.int v1), some (.int v2), some (.int v3), z4], [], M) o
  refine mm_Runs.seq (l := [(57, .iload_n 3, 1), (58, .iconst 3, 1)]) (S2 := (59, [some (.ref 84), some (.int v1), some (.int v2), some (.int v3), z4], [.int (3 : Int32), .int v3], M)) (by decide +kernel) (hO := mm_own_275) rfl ?_
  refine mm_R_ile (t := 74) rfl rfl rfl (fun hc => ?_) (fun hc => ?_)
  · replace h := mm_ip hc h
    refine mm_Runs.seq (l := [(62, .aload_n 0, 1), (63, .getfield 63, 3), (66, .iload_n 1, 1), (67, .iload_n 3, 1), (68, .iconst 4, 1), (69, .isub, 1)]) (S2 := (70, [some (.ref 84), some (.int v1), some (.int v2), some (.int v3), z4], [.int (v3 - (4 : Int32)), .int v1, .ref 102], M)) (by decide +kernel) (hO := mm_own_275) rfl ?_
    obtain ⟨hb, h⟩ := mm_gd h
    refine mm_R_iast rfl rfl hb ?_
    refine mm_Runs.seq (l := [(71, .iinc 1 1, 3), (74, .iload_n 2, 1), (75, .iload_n 3, 1), (76, .iadd, 1), (77, .istore_n 2, 1), (78, .goto (-74), 3)]) (S2 := (4, [some (.ref 84), some (.int (v1 + (1 : Int32))), some (.int (v2 + v3)), some (.int v3), z4], [], (mm_pi M 102 v1.toNatClampNeg (v3 - (4 : Int32))))) (by decide +kernel) (hO := mm_own_275) rfl ?_
    cases h
    exact (show mp_275_4 L xs (d + 1) (v1 + (1 : Int32)) (v2 + v3) (mm_pi M 102 v1.toNatClampNeg (v3 - (4 : Int32))) o from hA) (some (.int v3)) z4
  · replace h := mm_iq hc h
    refine mm_Runs.seq (l := [(74, .iload_n 2, 1), (75, .iload_n 3, 1), (76, .iadd, 1), (77, .istore_n 2, 1), (78, .goto (-74), 3)]) (S2 := (4, [some (.ref 84), some (.int v1), some (.int (v2 + v3)), some (.int v3), z4], [], M)) (by decide +kernel) (hO := mm_own_275) rfl ?_
    cases h
    exact (show mp_275_4 L xs (d + 1) v1 (v2 + v3) M o from hA) (some (.int v3)) z4
set_option maxRecDepth 8000 in
set_option maxHeartbeats 4000000 in
theorem ms_275_b4 {L : Nat} {xs : Nat → Int32} {d : Nat} (hd : 1 ≤ d) {v1 : Int32} {v2 : Int32} {M : mm_M} {q : (((Int32 × Int32) ⊕ (Int32)) ⊕ Nat) × mm_M} {o : mm_E} (h : mf_275_b4 v1 v2 M = some q) (hA : mm_A (mm_K2 (fun s M o => mp_275_4 L xs (d) s.1 s.2 M o) (fun r M o => mp_275_81 L xs (d) r M o)) q o) : mp_275_4 L xs d v1 v2 M o := by
  unfold mf_275_b4 at h
  obtain ⟨d, rfl⟩ := mm_d1 (n := 0) hd
  intro z3 z4
  show mm_Runs L xs (d + 1) 275 (4, [some (.ref 84), some (.int v1), some (.int v2), z3, z4], [], M) o
  refine mm_Runs.seq (l := [(4, .iload_n 2, 1), (5, .aload_n 0, 1), (6, .getfield 91, 3)]) (S2 := (9, [some (.ref 84), some (.int v1), some (.int v2), z3, z4], [.int (M.1 84 2), .int v2], M)) (by decide +kernel) (hO := mm_own_275) rfl ?_
  refine mm_R_ige (t := 81) rfl rfl rfl (fun hc => ?_) (fun hc => ?_)
  · replace h := mm_ip hc h
    refine mm_Runs.seq (l := [(12, .aload_n 0, 1), (13, .iload_n 2, 1), (14, .sipush 255, 3)]) (S2 := (17, [some (.ref 84), some (.int v1), some (.int v2), z3, z4], [.int (255 : Int32), .int v2, .ref 84], M)) (by decide +kernel) (hO := mm_own_275) rfl ?_
    refine mm_R_call (v := mm_wi) h hA (k2 := 251) (as := [.ref 84, .int v2, .int (255 : Int32)]) (r := []) rfl (fun _ => rfl) (fun q hq o ho => ms_251 (by omega) hq ho) (fun r1 M2 h => ?_)
    show mm_Runs L xs (d + 1) 275 (20, [some (.ref 84), some (.int v1), some (.int v2), z3, z4], [.int r1], M2) o
    refine mm_Runs.seq (l := [(20, .istore_n 3, 1), (21, .iconst 0, 1), (22, .istore 4, 2)]) (S2 := (24, [some (.ref 84), some (.int v1), some (.int v2), some (.int r1), some (.int (0 : Int32))], [], M2)) (by decide +kernel) (hO := mm_own_275) rfl ?_
    have hp : mp_275_24 L xs (d + 1) v1 v2 r1 (0 : Int32) M2 o := by
      refine ms_275_L24 hd h hA (fun r4 M3 h => ?_)
      intro y5
      show mm_Runs L xs (d + 1) 275 (57, [some (.ref 84), some (.int r4), some (.int v2), some (.int r1), y5], [], M3) o
      exact (ms_275_j57 hd h hA : mp_275_57 L xs (d + 1) r4 v2 r1 M3 o) y5
    exact hp
  · replace h := mm_iq hc h
    cases h
    exact (show mp_275_81 L xs (d + 1) v1 M o from hA) (some (.ref 84)) (some (.int v2)) z3 z4
theorem ms_275_L4 {L : Nat} {xs : Nat → Int32} {d : Nat} (hd : 1 ≤ d) {v1 : Int32} {v2 : Int32} {β : Type} {K : β → mm_M → mm_E → Prop} {F : (Int32) → mm_M → mm_O β} {M : mm_M} {q : (β ⊕ Nat) × mm_M} {o : mm_E} (h : mm_B (mf_275_L4 (v1, v2) M) F = some q) (hA : mm_A K q o) (hx : ∀ (r : (Int32)) (M2 : mm_M), F r M2 = some q → (fun r M o => mp_275_81 L xs (d) r M o) r M2 o) : mp_275_4 L xs d v1 v2 M o := by
  unfold mf_275_L4 at h
  exact mm_R_loop (step := (fun s M => mf_275_b4 s.1 s.2 M)) (s := (v1, v2)) (M := M) (P := (fun s M o => mp_275_4 L xs (d) s.1 s.2 M o)) (X := (fun r M o => mp_275_81 L xs (d) r M o)) h hA (fun s M q hq hA => ms_275_b4 (v1 := s.1) (v2 := s.2) (M := M) (q := q) hd hq hA) hx
set_option maxRecDepth 8000 in
set_option maxHeartbeats 4000000 in
theorem ms_275 {L : Nat} {xs : Nat → Int32} {d : Nat} (hd : 1 ≤ d) {M : mm_M} {q : (Int32 ⊕ Nat) × mm_M} {o : mm_E} (h : mf_275 M = some q) (hA : mm_A (mm_Kr mm_wi) q o) : mm_Runs L xs d 275 (0, mm_ent (mm_ml 275) [.ref 84], [], M) o := by
  unfold mf_275 at h
  obtain ⟨d, rfl⟩ := mm_d1 (n := 0) hd
  show mm_Runs L xs (d + 1) 275 (0, [some (.ref 84), none, none, none, none], [], M) o
  refine mm_Runs.seq (l := [(0, .iconst 0, 1), (1, .istore_n 1, 1), (2, .iconst 0, 1), (3, .istore_n 2, 1)]) (S2 := (4, [some (.ref 84), some (.int (0 : Int32)), some (.int (0 : Int32)), none, none], [], M)) (by decide +kernel) (hO := mm_own_275) rfl ?_
  have hp : mp_275_4 L xs (d + 1) (0 : Int32) (0 : Int32) M o := by
    refine ms_275_L4 hd h hA (fun r2 M1 h => ?_)
    intro y3 y4 y5 y6
    show mm_Runs L xs (d + 1) 275 (81, [y3, some (.int r2), y4, y5, y6], [], M1) o
    refine mm_Runs.seq (l := [(81, .iload_n 1, 1)]) (S2 := (82, [y3, some (.int r2), y4, y5, y6], [.int r2], M1)) (by decide +kernel) (hO := mm_own_275) rfl ?_
    cases h
    exact mm_R_reti rfl rfl hA
  exact hp none none
-- 270: PlainPacksModel.compare(IIII)I (depth 0)
theorem mm_own_270 : mm_own 270 = 12 := rfl
set_option maxRecDepth 8000 in
set_option maxHeartbeats 4000000 in
theorem ms_270 {L : Nat} {xs : Nat → Int32} {d : Nat} (hd : 0 ≤ d) {v1 : Int32} {v2 : Int32} {v3 : Int32} {v4 : Int32} {M : mm_M} {q : (Int32 ⊕ Nat) × mm_M} {o : mm_E} (h : mf_270 v1 v2 v3 v4 M = some q) (hA : mm_A (mm_Kr mm_wi) q o) : mm_Runs L xs d 270 (0, mm_ent (mm_ml 270) [.ref 84, .int v1, .int v2, .int v3, .int v4], [], M) o := by
  unfold mf_270 at h
  show mm_Runs L xs (d) 270 (0, [some (.ref 84), some (.int v1), some (.int v2), some (.int v3), some (.int v4), none], [], M) o
  refine mm_Runs.seq (l := [(0, .aload_n 0, 1), (1, .getfield 66, 3), (4, .iload_n 1, 1)]) (S2 := (5, [some (.ref 84), some (.int v1), some (.int v2), some (.int v3), some (.int v4), none], [.int v1, .ref 103], M)) (by decide +kernel) (hO := mm_own_270) rfl ?_
  obtain ⟨hb, h⟩ := mm_gd h
  refine mm_R_iald rfl rfl hb ?_
  refine mm_Runs.seq (l := [(6, .aload_n 0, 1), (7, .getfield 66, 3), (10, .iload_n 2, 1)]) (S2 := (11, [some (.ref 84), some (.int v1), some (.int v2), some (.int v3), some (.int v4), none], [.int v2, .ref 103, .int (M.1 103 v1.toNatClampNeg)], M)) (by decide +kernel) (hO := mm_own_270) rfl ?_
  obtain ⟨hb, h⟩ := mm_gd h
  refine mm_R_iald rfl rfl hb ?_
  refine mm_Runs.seq (l := [(12, .isub, 1), (13, .istore 5, 2), (15, .iload 5, 2)]) (S2 := (17, [some (.ref 84), some (.int v1), some (.int v2), some (.int v3), some (.int v4), some (.int ((M.1 103 v1.toNatClampNeg) - (M.1 103 v2.toNatClampNeg)))], [.int ((M.1 103 v1.toNatClampNeg) - (M.1 103 v2.toNatClampNeg))], M)) (by decide +kernel) (hO := mm_own_270) rfl ?_
  refine mm_R_zeq (t := 25) rfl rfl rfl (fun hc => ?_) (fun hc => ?_)
  · replace h := mm_ip hc h
    refine mm_Runs.seq (l := [(25, .aload_n 0, 1), (26, .getfield 66, 3), (29, .iload_n 1, 1), (30, .iload_n 3, 1), (31, .iadd, 1), (32, .iload 4, 2)]) (S2 := (34, [some (.ref 84), some (.int v1), some (.int v2), some (.int v3), some (.int v4), some (.int ((M.1 103 v1.toNatClampNeg) - (M.1 103 v2.toNatClampNeg)))], [.int v4, .int (v1 + v3), .ref 103], M)) (by decide +kernel) (hO := mm_own_270) rfl ?_
    obtain ⟨hb, h⟩ := mm_gd h
    refine mm_R_rem rfl hb ?_
    obtain ⟨hb, h⟩ := mm_gd h
    refine mm_R_iald rfl rfl hb ?_
    refine mm_Runs.seq (l := [(36, .aload_n 0, 1), (37, .getfield 66, 3), (40, .iload_n 2, 1), (41, .iload_n 3, 1), (42, .iadd, 1), (43, .iload 4, 2)]) (S2 := (45, [some (.ref 84), some (.int v1), some (.int v2), some (.int v3), some (.int v4), some (.int ((M.1 103 v1.toNatClampNeg) - (M.1 103 v2.toNatClampNeg)))], [.int v4, .int (v2 + v3), .ref 103, .int (M.1 103 (mm_rem (v1 + v3) v4).toNatClampNeg)], M)) (by decide +kernel) (hO := mm_own_270) rfl ?_
    obtain ⟨hb, h⟩ := mm_gd h
    refine mm_R_rem rfl hb ?_
    obtain ⟨hb, h⟩ := mm_gd h
    refine mm_R_iald rfl rfl hb ?_
    refine mm_Runs.seq (l := [(47, .isub, 1)]) (S2 := (48, [some (.ref 84), some (.int v1), some (.int v2), some (.int v3), some (.int v4), some (.int ((M.1 103 v1.toNatClampNeg) - (M.1 103 v2.toNatClampNeg)))], [.int ((M.1 103 (mm_rem (v1 + v3) v4).toNatClampNeg) - (M.1 103 (mm_rem (v2 + v3) v4).toNatClampNeg))], M)) (by decide +kernel) (hO := mm_own_270) rfl ?_
    cases h
    exact mm_R_reti rfl rfl hA
  · replace h := mm_iq hc h
    refine mm_Runs.seq (l := [(20, .iload 5, 2), (22, .goto 26, 3)]) (S2 := (48, [some (.ref 84), some (.int v1), some (.int v2), some (.int v3), some (.int v4), some (.int ((M.1 103 v1.toNatClampNeg) - (M.1 103 v2.toNatClampNeg)))], [.int ((M.1 103 v1.toNatClampNeg) - (M.1 103 v2.toNatClampNeg))], M)) (by decide +kernel) (hO := mm_own_270) rfl ?_
    cases h
    exact mm_R_reti rfl rfl hA
-- 272: PlainPacksModel.mergeBy(IIIII)V (depth 1)
theorem mm_own_272 : mm_own 272 = 12 := rfl
def mp_272_9 (L : Nat) (xs : Nat → Int32) (d : Nat) (v2 : Int32) (v3 : Int32) (v4 : Int32) (v5 : Int32) (v6 : Int32) (v7 : Int32) (v8 : Int32) (M : mm_M) (o : mm_E) : Prop := ∀ z1 z9 : Option Value, mm_Runs L xs d 272 (9, [some (.ref 84), z1, some (.int v2), some (.int v3), some (.int v4), some (.int v5), some (.int v6), some (.int v7), some (.int v8), z9], [], M) o
def mp_272_124 (L : Nat) (xs : Nat → Int32) (d : Nat) (M : mm_M) (o : mm_E) : Prop := ∀ z0 z1 z2 z3 z4 z5 z6 z7 z8 z9 : Option Value, mm_Runs L xs d 272 (124, [z0, z1, z2, z3, z4, z5, z6, z7, z8, z9], [], M) o
def mp_272_57 (L : Nat) (xs : Nat → Int32) (d : Nat) (v2 : Int32) (v3 : Int32) (v4 : Int32) (v5 : Int32) (v6 : Int32) (v7 : Int32) (v8 : Int32) (s0 : Int32) (M : mm_M) (o : mm_E) : Prop := ∀ z1 z9 : Option Value, mm_Runs L xs d 272 (57, [some (.ref 84), z1, some (.int v2), some (.int v3), some (.int v4), some (.int v5), some (.int v6), some (.int v7), some (.int v8), z9], [.int s0], M) o
def mp_272_87 (L : Nat) (xs : Nat → Int32) (d : Nat) (v2 : Int32) (v3 : Int32) (v4 : Int32) (v5 : Int32) (v6 : Int32) (v7 : Int32) (v8 : Int32) (v9 : Int32) (s1 : Int32) (s2 : Int32) (M : mm_M) (o : mm_E) : Prop := ∀ z1 : Option Value, mm_Runs L xs d 272 (87, [some (.ref 84), z1, some (.int v2), some (.int v3), some (.int v4), some (.int v5), some (.int v6), some (.int v7), some (.int v8), some (.int v9)], [.int s2, .int s1, .ref 106], M) o
def mp_272_100 (L : Nat) (xs : Nat → Int32) (d : Nat) (v2 : Int32) (v3 : Int32) (v4 : Int32) (v5 : Int32) (v7 : Int32) (v8 : Int32) (v9 : Int32) (s0 : Int32) (s1 : Int32) (M : mm_M) (o : mm_E) : Prop := ∀ z1 z6 : Option Value, mm_Runs L xs d 272 (100, [some (.ref 84), z1, some (.int v2), some (.int v3), some (.int v4), some (.int v5), z6, some (.int v7), some (.int v8), some (.int v9)], [.int s1, .int s0], M) o
set_option maxRecDepth 8000 in
set_option maxHeartbeats 4000000 in
theorem ms_272_j100 {L : Nat} {xs : Nat → Int32} {d : Nat} (hd : 1 ≤ d) {v2 : Int32} {v3 : Int32} {v4 : Int32} {v5 : Int32} {v7 : Int32} {v8 : Int32} {v9 : Int32} {s0 : Int32} {s1 : Int32} {M : mm_M} {q : (((Int32 × Int32 × Int32) ⊕ (Unit)) ⊕ Nat) × mm_M} {o : mm_E} (h : mf_272_j100 v2 v3 v4 v5 v7 v8 v9 s0 s1 M = some q) (hA : mm_A (mm_K2 (fun s M o => mp_272_9 L xs (d) v2 v3 v4 v5 s.1 s.2.1 s.2.2 M o) (fun r M o => mp_272_124 L xs (d) M o)) q o) : mp_272_100 L xs d v2 v3 v4 v5 v7 v8 v9 s0 s1 M o := by
  unfold mf_272_j100 at h
  obtain ⟨d, rfl⟩ := mm_d1 (n := 0) hd
  intro z1 z6
  show mm_Runs L xs (d + 1) 272 (100, [some (.ref 84), z1, some (.int v2), some (.int v3), some (.int v4), some (.int v5), z6, some (.int v7), some (.int v8), some (.int v9)], [.int s1, .int s0], M) o
  refine mm_Runs.seq (l := [(100, .iadd, 1), (101, .istore 6, 2), (103, .iload 7, 2), (105, .iload 9, 2)]) (S2 := (107, [some (.ref 84), z1, some (.int v2), some (.int v3), some (.int v4), some (.int v5), some (.int (s0 + s1)), some (.int v7), some (.int v8), some (.int v9)], [.int v9, .int v7], M)) (by decide +kernel) (hO := mm_own_272) rfl ?_
  refine mm_R_zeq (t := 114) rfl rfl rfl (fun hc => ?_) (fun hc => ?_)
  · replace h := mm_ip hc h
    refine mm_Runs.seq (l := [(114, .iconst 1, 1), (115, .iadd, 1), (116, .istore 7, 2), (118, .iinc 8 1, 3), (121, .goto (-112), 3)]) (S2 := (9, [some (.ref 84), z1, some (.int v2), some (.int v3), some (.int v4), some (.int v5), some (.int (s0 + s1)), some (.int (v7 + (1 : Int32))), some (.int (v8 + (1 : Int32))), some (.int v9)], [], M)) (by decide +kernel) (hO := mm_own_272) rfl ?_
    cases h
    exact (show mp_272_9 L xs (d + 1) v2 v3 v4 v5 (s0 + s1) (v7 + (1 : Int32)) (v8 + (1 : Int32)) M o from hA) z1 (some (.int v9))
  · replace h := mm_iq hc h
    refine mm_Runs.seq (l := [(110, .iconst 0, 1), (111, .goto 4, 3), (115, .iadd, 1), (116, .istore 7, 2), (118, .iinc 8 1, 3), (121, .goto (-112), 3)]) (S2 := (9, [some (.ref 84), z1, some (.int v2), some (.int v3), some (.int v4), some (.int v5), some (.int (s0 + s1)), some (.int (v7 + (0 : Int32))), some (.int (v8 + (1 : Int32))), some (.int v9)], [], M)) (by decide +kernel) (hO := mm_own_272) rfl ?_
    cases h
    exact (show mp_272_9 L xs (d + 1) v2 v3 v4 v5 (s0 + s1) (v7 + (0 : Int32)) (v8 + (1 : Int32)) M o from hA) z1 (some (.int v9))
set_option maxRecDepth 8000 in
set_option maxHeartbeats 4000000 in
theorem ms_272_j87 {L : Nat} {xs : Nat → Int32} {d : Nat} (hd : 1 ≤ d) {v2 : Int32} {v3 : Int32} {v4 : Int32} {v5 : Int32} {v6 : Int32} {v7 : Int32} {v8 : Int32} {v9 : Int32} {s1 : Int32} {s2 : Int32} {M : mm_M} {q : (((Int32 × Int32 × Int32) ⊕ (Unit)) ⊕ Nat) × mm_M} {o : mm_E} (h : mf_272_j87 v2 v3 v4 v5 v6 v7 v8 v9 s1 s2 M = some q) (hA : mm_A (mm_K2 (fun s M o => mp_272_9 L xs (d) v2 v3 v4 v5 s.1 s.2.1 s.2.2 M o) (fun r M o => mp_272_124 L xs (d) M o)) q o) : mp_272_87 L xs d v2 v3 v4 v5 v6 v7 v8 v9 s1 s2 M o := by
  unfold mf_272_j87 at h
  obtain ⟨d, rfl⟩ := mm_d1 (n := 0) hd
  intro z1
  show mm_Runs L xs (d + 1) 272 (87, [some (.ref 84), z1, some (.int v2), some (.int v3), some (.int v4), some (.int v5), some (.int v6), some (.int v7), some (.int v8), some (.int v9)], [.int s2, .int s1, .ref 106], M) o
  obtain ⟨hb, h⟩ := mm_gd h
  refine mm_R_iast rfl rfl hb ?_
  refine mm_Runs.seq (l := [(88, .iload 6, 2), (90, .iload 9, 2)]) (S2 := (92, [some (.ref 84), z1, some (.int v2), some (.int v3), some (.int v4), some (.int v5), some (.int v6), some (.int v7), some (.int v8), some (.int v9)], [.int v9, .int v6], (mm_pi M 106 s1.toNatClampNeg s2))) (by decide +kernel) (hO := mm_own_272) rfl ?_
  refine mm_R_zeq (t := 99) rfl rfl rfl (fun hc => ?_) (fun hc => ?_)
  · replace h := mm_ip hc h
    refine mm_Runs.seq (l := [(99, .iconst 0, 1)]) (S2 := (100, [some (.ref 84), z1, some (.int v2), some (.int v3), some (.int v4), some (.int v5), some (.int v6), some (.int v7), some (.int v8), some (.int v9)], [.int (0 : Int32), .int v6], (mm_pi M 106 s1.toNatClampNeg s2))) (by decide +kernel) (hO := mm_own_272) rfl ?_
    exact (ms_272_j100 hd h hA : mp_272_100 L xs (d + 1) v2 v3 v4 v5 v7 v8 v9 v6 (0 : Int32) (mm_pi M 106 s1.toNatClampNeg s2) o) z1 (some (.int v6))
  · replace h := mm_iq hc h
    refine mm_Runs.seq (l := [(95, .iconst 1, 1), (96, .goto 4, 3)]) (S2 := (100, [some (.ref 84), z1, some (.int v2), some (.int v3), some (.int v4), some (.int v5), some (.int v6), some (.int v7), some (.int v8), some (.int v9)], [.int (1 : Int32), .int v6], (mm_pi M 106 s1.toNatClampNeg s2))) (by decide +kernel) (hO := mm_own_272) rfl ?_
    exact (ms_272_j100 hd h hA : mp_272_100 L xs (d + 1) v2 v3 v4 v5 v7 v8 v9 v6 (1 : Int32) (mm_pi M 106 s1.toNatClampNeg s2) o) z1 (some (.int v6))
set_option maxRecDepth 8000 in
set_option maxHeartbeats 4000000 in
theorem ms_272_j57 {L : Nat} {xs : Nat → Int32} {d : Nat} (hd : 1 ≤ d) {v2 : Int32} {v3 : Int32} {v4 : Int32} {v5 : Int32} {v6 : Int32} {v7 : Int32} {v8 : Int32} {s0 : Int32} {M : mm_M} {q : (((Int32 × Int32 × Int32) ⊕ (Unit)) ⊕ Nat) × mm_M} {o : mm_E} (h : mf_272_j57 v2 v3 v4 v5 v6 v7 v8 s0 M = some q) (hA : mm_A (mm_K2 (fun s M o => mp_272_9 L xs (d) v2 v3 v4 v5 s.1 s.2.1 s.2.2 M o) (fun r M o => mp_272_124 L xs (d) M o)) q o) : mp_272_57 L xs d v2 v3 v4 v5 v6 v7 v8 s0 M o := by
  unfold mf_272_j57 at h
  obtain ⟨d, rfl⟩ := mm_d1 (n := 0) hd
  intro z1 z9
  show mm_Runs L xs (d + 1) 272 (57, [some (.ref 84), z1, some (.int v2), some (.int v3), some (.int v4), some (.int v5), some (.int v6), some (.int v7), some (.int v8), z9], [.int s0], M) o
  refine mm_Runs.seq (l := [(57, .istore 9, 2), (59, .aload_n 0, 1), (60, .getfield 75, 3), (63, .iload 8, 2), (65, .iload 9, 2)]) (S2 := (67, [some (.ref 84), z1, some (.int v2), some (.int v3), some (.int v4), some (.int v5), some (.int v6), some (.int v7), some (.int v8), some (.int s0)], [.int s0, .int v8, .ref 106], M)) (by decide +kernel) (hO := mm_own_272) rfl ?_
  refine mm_R_zeq (t := 80) rfl rfl rfl (fun hc => ?_) (fun hc => ?_)
  · replace h := mm_ip hc h
    refine mm_Runs.seq (l := [(80, .aload_n 0, 1), (81, .getfield 72, 3), (84, .iload 7, 2)]) (S2 := (86, [some (.ref 84), z1, some (.int v2), some (.int v3), some (.int v4), some (.int v5), some (.int v6), some (.int v7), some (.int v8), some (.int s0)], [.int v7, .ref 105, .int v8, .ref 106], M)) (by decide +kernel) (hO := mm_own_272) rfl ?_
    obtain ⟨hb, h⟩ := mm_gd h
    refine mm_R_iald rfl rfl hb ?_
    exact (ms_272_j87 hd h hA : mp_272_87 L xs (d + 1) v2 v3 v4 v5 v6 v7 v8 s0 v8 (M.1 105 v7.toNatClampNeg) M o) z1
  · replace h := mm_iq hc h
    refine mm_Runs.seq (l := [(70, .aload_n 0, 1), (71, .getfield 72, 3), (74, .iload 6, 2)]) (S2 := (76, [some (.ref 84), z1, some (.int v2), some (.int v3), some (.int v4), some (.int v5), some (.int v6), some (.int v7), some (.int v8), some (.int s0)], [.int v6, .ref 105, .int v8, .ref 106], M)) (by decide +kernel) (hO := mm_own_272) rfl ?_
    obtain ⟨hb, h⟩ := mm_gd h
    refine mm_R_iald rfl rfl hb ?_
    refine mm_Runs.seq (l := [(77, .goto 10, 3)]) (S2 := (87, [some (.ref 84), z1, some (.int v2), some (.int v3), some (.int v4), some (.int v5), some (.int v6), some (.int v7), some (.int v8), some (.int s0)], [.int (M.1 105 v6.toNatClampNeg), .int v8, .ref 106], M)) (by decide +kernel) (hO := mm_own_272) rfl ?_
    exact (ms_272_j87 hd h hA : mp_272_87 L xs (d + 1) v2 v3 v4 v5 v6 v7 v8 s0 v8 (M.1 105 v6.toNatClampNeg) M o) z1
def mp_272_56 (L : Nat) (xs : Nat → Int32) (d : Nat) (v2 : Int32) (v3 : Int32) (v4 : Int32) (v5 : Int32) (v6 : Int32) (v7 : Int32) (v8 : Int32) (M : mm_M) (o : mm_E) : Prop := ∀ z1 z9 : Option Value, mm_Runs L xs d 272 (56, [some (.ref 84), z1, some (.int v2), some (.int v3), some (.int v4), some (.int v5), some (.int v6), some (.int v7), some (.int v8), z9], [], M) o
set_option maxRecDepth 8000 in
set_option maxHeartbeats 4000000 in
theorem ms_272_j56 {L : Nat} {xs : Nat → Int32} {d : Nat} (hd : 1 ≤ d) {v2 : Int32} {v3 : Int32} {v4 : Int32} {v5 : Int32} {v6 : Int32} {v7 : Int32} {v8 : Int32} {M : mm_M} {q : (((Int32 × Int32 × Int32) ⊕ (Unit)) ⊕ Nat) × mm_M} {o : mm_E} (h : mf_272_j56 v2 v3 v4 v5 v6 v7 v8 M = some q) (hA : mm_A (mm_K2 (fun s M o => mp_272_9 L xs (d) v2 v3 v4 v5 s.1 s.2.1 s.2.2 M o) (fun r M o => mp_272_124 L xs (d) M o)) q o) : mp_272_56 L xs d v2 v3 v4 v5 v6 v7 v8 M o := by
  unfold mf_272_j56 at h
  obtain ⟨d, rfl⟩ := mm_d1 (n := 0) hd
  intro z1 z9
  show mm_Runs L xs (d + 1) 272 (56, [some (.ref 84), z1, some (.int v2), some (.int v3), some (.int v4), some (.int v5), some (.int v6), some (.int v7), some (.int v8), z9], [], M) o
  refine mm_Runs.seq (l := [(56, .iconst 0, 1)]) (S2 := (57, [some (.ref 84), z1, some (.int v2), some (.int v3), some (.int v4), some (.int v5), some (.int v6), some (.int v7), some (.int v8), z9], [.int (0 : Int32)], M)) (by decide +kernel) (hO := mm_own_272) rfl ?_
  exact (ms_272_j57 hd h hA : mp_272_57 L xs (d + 1) v2 v3 v4 v5 v6 v7 v8 (0 : Int32) M o) z1 z9
set_option maxRecDepth 8000 in
set_option maxHeartbeats 4000000 in
theorem ms_272_b9 {L : Nat} {xs : Nat → Int32} {d : Nat} (hd : 1 ≤ d) {v2 : Int32} {v3 : Int32} {v4 : Int32} {v5 : Int32} {v6 : Int32} {v7 : Int32} {v8 : Int32} {M : mm_M} {q : (((Int32 × Int32 × Int32) ⊕ (Unit)) ⊕ Nat) × mm_M} {o : mm_E} (h : mf_272_b9 v2 v3 v4 v5 v6 v7 v8 M = some q) (hA : mm_A (mm_K2 (fun s M o => mp_272_9 L xs (d) v2 v3 v4 v5 s.1 s.2.1 s.2.2 M o) (fun r M o => mp_272_124 L xs (d) M o)) q o) : mp_272_9 L xs d v2 v3 v4 v5 v6 v7 v8 M o := by
  unfold mf_272_b9 at h
  obtain ⟨d, rfl⟩ := mm_d1 (n := 0) hd
  intro z1 z9
  show mm_Runs L xs (d + 1) 272 (9, [some (.ref 84), z1, some (.int v2), some (.int v3), some (.int v4), some (.int v5), some (.int v6), some (.int v7), some (.int v8), z9], [], M) o
  refine mm_Runs.seq (l := [(9, .iload 8, 2), (11, .iload_n 3, 1)]) (S2 := (12, [some (.ref 84), z1, some (.int v2), some (.int v3), some (.int v4), some (.int v5), some (.int v6), some (.int v7), some (.int v8), z9], [.int v3, .int v8], M)) (by decide +kernel) (hO := mm_own_272) rfl ?_
  refine mm_R_ige (t := 124) rfl rfl rfl (fun hc => ?_) (fun hc => ?_)
  · replace h := mm_ip hc h
    refine mm_Runs.seq (l := [(15, .iload 7, 2), (17, .iload_n 3, 1)]) (S2 := (18, [some (.ref 84), z1, some (.int v2), some (.int v3), some (.int v4), some (.int v5), some (.int v6), some (.int v7), some (.int v8), z9], [.int v3, .int v7], M)) (by decide +kernel) (hO := mm_own_272) rfl ?_
    refine mm_R_ieq (t := 52) rfl rfl rfl (fun hc => ?_) (fun hc => ?_)
    · replace h := mm_ip hc h
      refine mm_Runs.seq (l := [(52, .iconst 1, 1), (53, .goto 4, 3)]) (S2 := (57, [some (.ref 84), z1, some (.int v2), some (.int v3), some (.int v4), some (.int v5), some (.int v6), some (.int v7), some (.int v8), z9], [.int (1 : Int32)], M)) (by decide +kernel) (hO := mm_own_272) rfl ?_
      exact (ms_272_j57 hd h hA : mp_272_57 L xs (d + 1) v2 v3 v4 v5 v6 v7 v8 (1 : Int32) M o) z1 z9
    · replace h := mm_iq hc h
      refine mm_Runs.seq (l := [(21, .iload 6, 2), (23, .iload_n 2, 1)]) (S2 := (24, [some (.ref 84), z1, some (.int v2), some (.int v3), some (.int v4), some (.int v5), some (.int v6), some (.int v7), some (.int v8), z9], [.int v2, .int v6], M)) (by decide +kernel) (hO := mm_own_272) rfl ?_
      refine mm_R_ige (t := 56) rfl rfl rfl (fun hc => ?_) (fun hc => ?_)
      · replace h := mm_ip hc h
        refine mm_Runs.seq (l := [(27, .aload_n 0, 1), (28, .aload_n 0, 1), (29, .getfield 72, 3), (32, .iload 6, 2)]) (S2 := (34, [some (.ref 84), z1, some (.int v2), some (.int v3), some (.int v4), some (.int v5), some (.int v6), some (.int v7), some (.int v8), z9], [.int v6, .ref 105, .ref 84], M)) (by decide +kernel) (hO := mm_own_272) rfl ?_
        obtain ⟨hb, h⟩ := mm_gd h
        refine mm_R_iald rfl rfl hb ?_
        refine mm_Runs.seq (l := [(35, .aload_n 0, 1), (36, .getfield 72, 3), (39, .iload 7, 2)]) (S2 := (41, [some (.ref 84), z1, some (.int v2), some (.int v3), some (.int v4), some (.int v5), some (.int v6), some (.int v7), some (.int v8), z9], [.int v7, .ref 105, .int (M.1 105 v6.toNatClampNeg), .ref 84], M)) (by decide +kernel) (hO := mm_own_272) rfl ?_
        obtain ⟨hb, h⟩ := mm_gd h
        refine mm_R_iald rfl rfl hb ?_
        refine mm_Runs.seq (l := [(42, .iload 4, 2), (44, .iload 5, 2)]) (S2 := (46, [some (.ref 84), z1, some (.int v2), some (.int v3), some (.int v4), some (.int v5), some (.int v6), some (.int v7), some (.int v8), z9], [.int v5, .int v4, .int (M.1 105 v7.toNatClampNeg), .int (M.1 105 v6.toNatClampNeg), .ref 84], M)) (by decide +kernel) (hO := mm_own_272) rfl ?_
        refine mm_R_call (v := mm_wi) h hA (k2 := 270) (as := [.ref 84, .int (M.1 105 v6.toNatClampNeg), .int (M.1 105 v7.toNatClampNeg), .int v4, .int v5]) (r := []) rfl (fun _ => rfl) (fun q hq o ho => ms_270 (by omega) hq ho) (fun r1 M2 h => ?_)
        show mm_Runs L xs (d + 1) 272 (49, [some (.ref 84), z1, some (.int v2), some (.int v3), some (.int v4), some (.int v5), some (.int v6), some (.int v7), some (.int v8), z9], [.int r1], M2) o
        refine mm_R_zgt (t := 56) rfl rfl rfl (fun hc => ?_) (fun hc => ?_)
        · replace h := mm_ip hc h
          exact (ms_272_j56 hd h hA : mp_272_56 L xs (d + 1) v2 v3 v4 v5 v6 v7 v8 M2 o) z1 z9
        · replace h := mm_iq hc h
          refine mm_Runs.seq (l := [(52, .iconst 1, 1), (53, .goto 4, 3)]) (S2 := (57, [some (.ref 84), z1, some (.int v2), some (.int v3), some (.int v4), some (.int v5), some (.int v6), some (.int v7), some (.int v8), z9], [.int (1 : Int32)], M2)) (by decide +kernel) (hO := mm_own_272) rfl ?_
          exact (ms_272_j57 hd h hA : mp_272_57 L xs (d + 1) v2 v3 v4 v5 v6 v7 v8 (1 : Int32) M2 o) z1 z9
      · replace h := mm_iq hc h
        exact (ms_272_j56 hd h hA : mp_272_56 L xs (d + 1) v2 v3 v4 v5 v6 v7 v8 M o) z1 z9
  · replace h := mm_iq hc h
    cases h
    exact (show mp_272_124 L xs (d + 1) M o from hA) (some (.ref 84)) z1 (some (.int v2)) (some (.int v3)) (some (.int v4)) (some (.int v5)) (some (.int v6)) (some (.int v7)) (some (.int v8)) z9
theorem ms_272_L9 {L : Nat} {xs : Nat → Int32} {d : Nat} (hd : 1 ≤ d) {v2 : Int32} {v3 : Int32} {v4 : Int32} {v5 : Int32} {v6 : Int32} {v7 : Int32} {v8 : Int32} {β : Type} {K : β → mm_M → mm_E → Prop} {F : (Unit) → mm_M → mm_O β} {M : mm_M} {q : (β ⊕ Nat) × mm_M} {o : mm_E} (h : mm_B (mf_272_L9 v2 v3 v4 v5 (v6, v7, v8) M) F = some q) (hA : mm_A K q o) (hx : ∀ (r : (Unit)) (M2 : mm_M), F r M2 = some q → (fun r M o => mp_272_124 L xs (d) M o) r M2 o) : mp_272_9 L xs d v2 v3 v4 v5 v6 v7 v8 M o := by
  unfold mf_272_L9 at h
  exact mm_R_loop (step := (fun s M => mf_272_b9 v2 v3 v4 v5 s.1 s.2.1 s.2.2 M)) (s := (v6, v7, v8)) (M := M) (P := (fun s M o => mp_272_9 L xs (d) v2 v3 v4 v5 s.1 s.2.1 s.2.2 M o)) (X := (fun r M o => mp_272_124 L xs (d) M o)) h hA (fun s M q hq hA => ms_272_b9 (v2 := v2) (v3 := v3) (v4 := v4) (v5 := v5) (v6 := s.1) (v7 := s.2.1) (v8 := s.2.2) (M := M) (q := q) hd hq hA) hx
set_option maxRecDepth 8000 in
set_option maxHeartbeats 4000000 in
theorem ms_272 {L : Nat} {xs : Nat → Int32} {d : Nat} (hd : 1 ≤ d) {v1 : Int32} {v2 : Int32} {v3 : Int32} {v4 : Int32} {v5 : Int32} {M : mm_M} {q : (Unit ⊕ Nat) × mm_M} {o : mm_E} (h : mf_272 v1 v2 v3 v4 v5 M = some q) (hA : mm_A (mm_Kr mm_wv) q o) : mm_Runs L xs d 272 (0, mm_ent (mm_ml 272) [.ref 84, .int v1, .int v2, .int v3, .int v4, .int v5], [], M) o := by
  unfold mf_272 at h
  obtain ⟨d, rfl⟩ := mm_d1 (n := 0) hd
  show mm_Runs L xs (d + 1) 272 (0, [some (.ref 84), some (.int v1), some (.int v2), some (.int v3), some (.int v4), some (.int v5), none, none, none, none], [], M) o
  refine mm_Runs.seq (l := [(0, .iload_n 1, 1), (1, .istore 6, 2), (3, .iload_n 2, 1), (4, .istore 7, 2), (6, .iload_n 1, 1), (7, .istore 8, 2)]) (S2 := (9, [some (.ref 84), some (.int v1), some (.int v2), some (.int v3), some (.int v4), some (.int v5), some (.int v1), some (.int v2), some (.int v1), none], [], M)) (by decide +kernel) (hO := mm_own_272) rfl ?_
  have hp : mp_272_9 L xs (d + 1) v2 v3 v4 v5 v1 v2 v1 M o := by
    refine ms_272_L9 hd h hA (fun r2 M1 h => ?_)
    intro y3 y4 y5 y6 y7 y8 y9 y10 y11 y12
    show mm_Runs L xs (d + 1) 272 (124, [y3, y4, y5, y6, y7, y8, y9, y10, y11, y12], [], M1) o
    cases h
    exact mm_R_retv rfl rfl hA
  exact hp (some (.int v1)) none
