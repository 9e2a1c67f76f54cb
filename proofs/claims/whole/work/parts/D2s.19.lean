/-! MEANINGS ARE SOUND 19 -/
-- 222: PlainPacksModel.tag(IJ)V (depth 3)
theorem mm_own_222 : mm_own 222 = 12 := rfl
def mp_222_32 (L : Nat) (xs : Nat → Int32) (d : Nat) (v1 : Int32) (v2 : Int64) (v4 : Int32) (v5 : Int32) (s0 : Int64) (M : mm_M) (o : mm_E) : Prop := ∀ z3 z6 z7 z8 z9 : Option Value, mm_Runs L xs d 222 (32, [some (.ref 84), some (.int v1), some (.long v2), z3, some (.int v4), some (.int v5), z6, z7, z8, z9], [.long s0], M) o
def mp_222_59 (L : Nat) (xs : Nat → Int32) (d : Nat) (v1 : Int32) (v2 : Int64) (v4 : Int32) (v6 : Int64) (M : mm_M) (o : mm_E) : Prop := ∀ z3 z5 z7 z8 z9 : Option Value, mm_Runs L xs d 222 (59, [some (.ref 84), some (.int v1), some (.long v2), z3, some (.int v4), z5, some (.long v6), z7, z8, z9], [], M) o
def mp_222_77 (L : Nat) (xs : Nat → Int32) (d : Nat) (v1 : Int32) (v4 : Int32) (v6 : Int64) (M : mm_M) (o : mm_E) : Prop := ∀ z2 z3 z5 z7 z8 z9 : Option Value, mm_Runs L xs d 222 (77, [some (.ref 84), some (.int v1), z2, z3, some (.int v4), z5, some (.long v6), z7, z8, z9], [], M) o
def mp_222_141 (L : Nat) (xs : Nat → Int32) (d : Nat) (v6 : Int64) (s0 : Int64) (M : mm_M) (o : mm_E) : Prop := ∀ z1 z2 z3 z4 z5 z7 z8 z9 : Option Value, mm_Runs L xs d 222 (141, [some (.ref 84), z1, z2, z3, z4, z5, some (.long v6), z7, z8, z9], [.long s0], M) o
set_option maxRecDepth 8000 in
set_option maxHeartbeats 4000000 in
theorem ms_222_j141 {L : Nat} {xs : Nat → Int32} {d : Nat} (hd : 3 ≤ d) {v6 : Int64} {s0 : Int64} {M : mm_M} {q : (Unit ⊕ Nat) × mm_M} {o : mm_E} (h : mf_222_j141 v6 s0 M = some q) (hA : mm_A (mm_Kr mm_wv) q o) : mp_222_141 L xs d v6 s0 M o := by
  unfold mf_222_j141 at h
  obtain ⟨d, rfl⟩ := mm_d1 (n := 2) hd
  intro z1 z2 z3 z4 z5 z7 z8 z9
  show mm_Runs L xs (d + 1) 222 (141, [some (.ref 84), z1, z2, z3, z4, z5, some (.long v6), z7, z8, z9], [.long s0], M) o
  refine mm_Runs.seq (l := [(141, .lstore 8, 2), (143, .aload_n 0, 1), (144, .lload 6, 2), (146, .l2i, 1), (147, .lload 8, 2), (149, .iconst 0, 1)]) (S2 := (150, [some (.ref 84), z1, z2, z3, z4, z5, some (.long v6), (mm_no2 z7), some (.long s0), none], [.int (0 : Int32), .long s0, .int v6.toInt32, .ref 84], M)) (by decide +kernel) (hO := mm_own_222) rfl ?_
  refine mm_R_call (v := mm_wv) h hA (k2 := 196) (as := [.ref 84, .int v6.toInt32, .long s0, .int (0 : Int32)]) (r := []) rfl (fun _ => rfl) (fun q hq o ho => ms_196 (by omega) hq ho) (fun _ M1 h => ?_)
  show mm_Runs L xs (d + 1) 222 (153, [some (.ref 84), z1, z2, z3, z4, z5, some (.long v6), (mm_no2 z7), some (.long s0), none], [], M1) o
  cases h
  exact mm_R_retv rfl rfl hA
set_option maxRecDepth 8000 in
set_option maxHeartbeats 4000000 in
theorem ms_222_j77 {L : Nat} {xs : Nat → Int32} {d : Nat} (hd : 3 ≤ d) {v1 : Int32} {v4 : Int32} {v6 : Int64} {M : mm_M} {q : (Unit ⊕ Nat) × mm_M} {o : mm_E} (h : mf_222_j77 v1 v4 v6 M = some q) (hA : mm_A (mm_Kr mm_wv) q o) : mp_222_77 L xs d v1 v4 v6 M o := by
  unfold mf_222_j77 at h
  obtain ⟨d, rfl⟩ := mm_d1 (n := 2) hd
  intro z2 z3 z5 z7 z8 z9
  show mm_Runs L xs (d + 1) 222 (77, [some (.ref 84), some (.int v1), z2, z3, some (.int v4), z5, some (.long v6), z7, z8, z9], [], M) o
  refine mm_Runs.seq (l := [(77, .iload 4, 2)]) (S2 := (79, [some (.ref 84), some (.int v1), z2, z3, some (.int v4), z5, some (.long v6), z7, z8, z9], [.int v4], M)) (by decide +kernel) (hO := mm_own_222) rfl ?_
  refine mm_R_zne (t := 91) rfl rfl rfl (fun hc => ?_) (fun hc => ?_)
  · replace h := mm_ip hc h
    refine mm_Runs.seq (l := [(82, .aload_n 0, 1), (83, .lload 6, 2)]) (S2 := (85, [some (.ref 84), some (.int v1), z2, z3, some (.int v4), z5, some (.long v6), z7, z8, z9], [.long v6, .ref 84], M)) (by decide +kernel) (hO := mm_own_222) rfl ?_
    refine mm_R_call (v := mm_wv) h hA (k2 := 195) (as := [.ref 84, .long v6]) (r := []) rfl (fun _ => rfl) (fun q hq o ho => ms_195 (by omega) hq ho) (fun _ M1 h => ?_)
    show mm_Runs L xs (d + 1) 222 (88, [some (.ref 84), some (.int v1), z2, z3, some (.int v4), z5, some (.long v6), z7, z8, z9], [], M1) o
    refine mm_Runs.seq (l := [(88, .goto 65, 3)]) (S2 := (153, [some (.ref 84), some (.int v1), z2, z3, some (.int v4), z5, some (.long v6), z7, z8, z9], [], M1)) (by decide +kernel) (hO := mm_own_222) rfl ?_
    cases h
    exact mm_R_retv rfl rfl hA
  · replace h := mm_iq hc h
    refine mm_Runs.seq (l := [(91, .aload_n 0, 1), (92, .getfield 154, 3)]) (S2 := (95, [some (.ref 84), some (.int v1), z2, z3, some (.int v4), z5, some (.long v6), z7, z8, z9], [.int (M.1 84 7)], M)) (by decide +kernel) (hO := mm_own_222) rfl ?_
    refine mm_R_zne (t := 153) rfl rfl rfl (fun hc => ?_) (fun hc => ?_)
    · replace h := mm_ip hc h
      refine mm_Runs.seq (l := [(98, .iload 4, 2), (100, .iconst 1, 1)]) (S2 := (101, [some (.ref 84), some (.int v1), z2, z3, some (.int v4), z5, some (.long v6), z7, z8, z9], [.int (1 : Int32), .int v4], M)) (by decide +kernel) (hO := mm_own_222) rfl ?_
      refine mm_R_ine (t := 122) rfl rfl rfl (fun hc => ?_) (fun hc => ?_)
      · replace h := mm_ip hc h
        refine mm_Runs.seq (l := [(104, .iload_n 1, 1), (105, .bipush 32, 2), (107, .idiv, 1), (108, .i2l, 1), (109, .ldc2_w 280, 3), (112, .lmul, 1), (113, .aload_n 0, 1)]) (S2 := (114, [some (.ref 84), some (.int v1), z2, z3, some (.int v4), z5, some (.long v6), z7, z8, z9], [.ref 84, .long ((v1 / (32 : Int32)).toInt64 * (256 : Int64))], M)) (by decide +kernel) (hO := mm_own_222) rfl ?_
        refine mm_R_call (v := mm_wi) h hA (k2 := 191) (as := [.ref 84]) (r := [.long ((v1 / (32 : Int32)).toInt64 * (256 : Int64))]) rfl (fun _ => rfl) (fun q hq o ho => ms_191 (by omega) hq ho) (fun r2 M3 h => ?_)
        show mm_Runs L xs (d + 1) 222 (117, [some (.ref 84), some (.int v1), z2, z3, some (.int v4), z5, some (.long v6), z7, z8, z9], [.int r2, .long ((v1 / (32 : Int32)).toInt64 * (256 : Int64))], M3) o
        refine mm_Runs.seq (l := [(117, .i2l, 1), (118, .ladd, 1), (119, .goto 22, 3)]) (S2 := (141, [some (.ref 84), some (.int v1), z2, z3, some (.int v4), z5, some (.long v6), z7, z8, z9], [.long (((v1 / (32 : Int32)).toInt64 * (256 : Int64)) + r2.toInt64)], M3)) (by decide +kernel) (hO := mm_own_222) rfl ?_
        exact (ms_222_j141 hd h hA : mp_222_141 L xs (d + 1) v6 (((v1 / (32 : Int32)).toInt64 * (256 : Int64)) + r2.toInt64) M3 o) (some (.int v1)) z2 z3 (some (.int v4)) z5 z7 z8 z9
      · replace h := mm_iq hc h
        refine mm_Runs.seq (l := [(122, .iload 4, 2), (124, .iconst 2, 1)]) (S2 := (125, [some (.ref 84), some (.int v1), z2, z3, some (.int v4), z5, some (.long v6), z7, z8, z9], [.int (2 : Int32), .int v4], M)) (by decide +kernel) (hO := mm_own_222) rfl ?_
        refine mm_R_ine (t := 136) rfl rfl rfl (fun hc => ?_) (fun hc => ?_)
        · replace h := mm_ip hc h
          refine mm_Runs.seq (l := [(128, .aload_n 0, 1), (129, .iconst 2, 1)]) (S2 := (130, [some (.ref 84), some (.int v1), z2, z3, some (.int v4), z5, some (.long v6), z7, z8, z9], [.int (2 : Int32), .ref 84], M)) (by decide +kernel) (hO := mm_own_222) rfl ?_
          refine mm_R_call (v := mm_wl) h hA (k2 := 193) (as := [.ref 84, .int (2 : Int32)]) (r := []) rfl (fun _ => rfl) (fun q hq o ho => ms_193 (by omega) hq ho) (fun r4 M5 h => ?_)
          show mm_Runs L xs (d + 1) 222 (133, [some (.ref 84), some (.int v1), z2, z3, some (.int v4), z5, some (.long v6), z7, z8, z9], [.long r4], M5) o
          refine mm_Runs.seq (l := [(133, .goto 8, 3)]) (S2 := (141, [some (.ref 84), some (.int v1), z2, z3, some (.int v4), z5, some (.long v6), z7, z8, z9], [.long r4], M5)) (by decide +kernel) (hO := mm_own_222) rfl ?_
          exact (ms_222_j141 hd h hA : mp_222_141 L xs (d + 1) v6 r4 M5 o) (some (.int v1)) z2 z3 (some (.int v4)) z5 z7 z8 z9
        · replace h := mm_iq hc h
          refine mm_Runs.seq (l := [(136, .aload_n 0, 1), (137, .iconst 4, 1)]) (S2 := (138, [some (.ref 84), some (.int v1), z2, z3, some (.int v4), z5, some (.long v6), z7, z8, z9], [.int (4 : Int32), .ref 84], M)) (by decide +kernel) (hO := mm_own_222) rfl ?_
          refine mm_R_call (v := mm_wl) h hA (k2 := 193) (as := [.ref 84, .int (4 : Int32)]) (r := []) rfl (fun _ => rfl) (fun q hq o ho => ms_193 (by omega) hq ho) (fun r6 M7 h => ?_)
          show mm_Runs L xs (d + 1) 222 (141, [some (.ref 84), some (.int v1), z2, z3, some (.int v4), z5, some (.long v6), z7, z8, z9], [.long r6], M7) o
          exact (ms_222_j141 hd h hA : mp_222_141 L xs (d + 1) v6 r6 M7 o) (some (.int v1)) z2 z3 (some (.int v4)) z5 z7 z8 z9
    · replace h := mm_iq hc h
      cases h
      exact mm_R_retv rfl rfl hA
set_option maxRecDepth 8000 in
set_option maxHeartbeats 4000000 in
theorem ms_222_j59 {L : Nat} {xs : Nat → Int32} {d : Nat} (hd : 3 ≤ d) {v1 : Int32} {v2 : Int64} {v4 : Int32} {v6 : Int64} {M : mm_M} {q : (Unit ⊕ Nat) × mm_M} {o : mm_E} (h : mf_222_j59 v1 v2 v4 v6 M = some q) (hA : mm_A (mm_Kr mm_wv) q o) : mp_222_59 L xs d v1 v2 v4 v6 M o := by
  unfold mf_222_j59 at h
  obtain ⟨d, rfl⟩ := mm_d1 (n := 2) hd
  intro z3 z5 z7 z8 z9
  show mm_Runs L xs (d + 1) 222 (59, [some (.ref 84), some (.int v1), some (.long v2), z3, some (.int v4), z5, some (.long v6), z7, z8, z9], [], M) o
  refine mm_Runs.seq (l := [(59, .aload_n 0, 1), (60, .getfield 154, 3)]) (S2 := (63, [some (.ref 84), some (.int v1), some (.long v2), z3, some (.int v4), z5, some (.long v6), z7, z8, z9], [.int (M.1 84 7)], M)) (by decide +kernel) (hO := mm_own_222) rfl ?_
  refine mm_R_zne (t := 77) rfl rfl rfl (fun hc => ?_) (fun hc => ?_)
  · replace h := mm_ip hc h
    refine mm_Runs.seq (l := [(66, .lload 6, 2), (68, .lload_n 2, 1)]) (S2 := (69, [some (.ref 84), some (.int v1), some (.long v2), z3, some (.int v4), z5, some (.long v6), z7, z8, z9], [.long v2, .long v6], M)) (by decide +kernel) (hO := mm_own_222) rfl ?_
    refine mm_R_lle (t := 77) rfl rfl rfl rfl (fun hc => ?_) (fun hc => ?_)
    · replace h := mm_ip hc h
      refine mm_Runs.seq (l := [(73, .aload_n 0, 1)]) (S2 := (74, [some (.ref 84), some (.int v1), some (.long v2), z3, some (.int v4), z5, some (.long v6), z7, z8, z9], [.ref 84], M)) (by decide +kernel) (hO := mm_own_222) rfl ?_
      refine mm_R_call (v := mm_wv) h hA (k2 := 190) (as := [.ref 84]) (r := []) rfl (fun _ => rfl) (fun q hq o ho => ms_190 (by omega) hq ho) (fun _ M1 h => ?_)
      show mm_Runs L xs (d + 1) 222 (77, [some (.ref 84), some (.int v1), some (.long v2), z3, some (.int v4), z5, some (.long v6), z7, z8, z9], [], M1) o
      exact (ms_222_j77 hd h hA : mp_222_77 L xs (d + 1) v1 v4 v6 M1 o) (some (.long v2)) z3 z5 z7 z8 z9
    · replace h := mm_iq hc h
      exact (ms_222_j77 hd h hA : mp_222_77 L xs (d + 1) v1 v4 v6 M o) (some (.long v2)) z3 z5 z7 z8 z9
  · replace h := mm_iq hc h
    exact (ms_222_j77 hd h hA : mp_222_77 L xs (d + 1) v1 v4 v6 M o) (some (.long v2)) z3 z5 z7 z8 z9
set_option maxRecDepth 8000 in
set_option maxHeartbeats 4000000 in
theorem ms_222_j32 {L : Nat} {xs : Nat → Int32} {d : Nat} (hd : 3 ≤ d) {v1 : Int32} {v2 : Int64} {v4 : Int32} {v5 : Int32} {s0 : Int64} {M : mm_M} {q : (Unit ⊕ Nat) × mm_M} {o : mm_E} (h : mf_222_j32 v1 v2 v4 v5 s0 M = some q) (hA : mm_A (mm_Kr mm_wv) q o) : mp_222_32 L xs d v1 v2 v4 v5 s0 M o := by
  unfold mf_222_j32 at h
  obtain ⟨d, rfl⟩ := mm_d1 (n := 2) hd
  intro z3 z6 z7 z8 z9
  show mm_Runs L xs (d + 1) 222 (32, [some (.ref 84), some (.int v1), some (.long v2), z3, some (.int v4), some (.int v5), z6, z7, z8, z9], [.long s0], M) o
  refine mm_Runs.seq (l := [(32, .lstore 6, 2), (34, .iload 4, 2)]) (S2 := (36, [some (.ref 84), some (.int v1), some (.long v2), z3, some (.int v4), some (.int v5), some (.long s0), none, z8, z9], [.int v4], M)) (by decide +kernel) (hO := mm_own_222) rfl ?_
  refine mm_R_zne (t := 59) rfl rfl rfl (fun hc => ?_) (fun hc => ?_)
  · replace h := mm_ip hc h
    refine mm_Runs.seq (l := [(39, .iload 5, 2), (41, .bipush 60, 2)]) (S2 := (43, [some (.ref 84), some (.int v1), some (.long v2), z3, some (.int v4), some (.int v5), some (.long s0), none, z8, z9], [.int (60 : Int32), .int v5], M)) (by decide +kernel) (hO := mm_own_222) rfl ?_
    refine mm_R_ilt (t := 59) rfl rfl rfl (fun hc => ?_) (fun hc => ?_)
    · replace h := mm_ip hc h
      exact (ms_222_j59 hd h hA : mp_222_59 L xs (d + 1) v1 v2 v4 s0 M o) z3 (some (.int v5)) none z8 z9
    · replace h := mm_iq hc h
      refine mm_Runs.seq (l := [(46, .aload_n 0, 1), (47, .iload 5, 2), (49, .bipush 59, 2), (51, .isub, 1)]) (S2 := (52, [some (.ref 84), some (.int v1), some (.long v2), z3, some (.int v4), some (.int v5), some (.long s0), none, z8, z9], [.int (v5 - (59 : Int32)), .ref 84], M)) (by decide +kernel) (hO := mm_own_222) rfl ?_
      refine mm_R_call (v := mm_wl) h hA (k2 := 193) (as := [.ref 84, .int (v5 - (59 : Int32))]) (r := []) rfl (fun _ => rfl) (fun q hq o ho => ms_193 (by omega) hq ho) (fun r1 M2 h => ?_)
      show mm_Runs L xs (d + 1) 222 (55, [some (.ref 84), some (.int v1), some (.long v2), z3, some (.int v4), some (.int v5), some (.long s0), none, z8, z9], [.long r1], M2) o
      refine mm_Runs.seq (l := [(55, .lconst 1, 1), (56, .ladd, 1), (57, .lstore 6, 2)]) (S2 := (59, [some (.ref 84), some (.int v1), some (.long v2), z3, some (.int v4), some (.int v5), some (.long (r1 + (1 : Int64))), none, z8, z9], [], M2)) (by decide +kernel) (hO := mm_own_222) rfl ?_
      exact (ms_222_j59 hd h hA : mp_222_59 L xs (d + 1) v1 v2 v4 (r1 + (1 : Int64)) M2 o) z3 (some (.int v5)) none z8 z9
  · replace h := mm_iq hc h
    exact (ms_222_j59 hd h hA : mp_222_59 L xs (d + 1) v1 v2 v4 s0 M o) z3 (some (.int v5)) none z8 z9
set_option maxRecDepth 8000 in
set_option maxHeartbeats 4000000 in
theorem ms_222 {L : Nat} {xs : Nat → Int32} {d : Nat} (hd : 3 ≤ d) {v1 : Int32} {v2 : Int64} {M : mm_M} {q : (Unit ⊕ Nat) × mm_M} {o : mm_E} (h : mf_222 v1 v2 M = some q) (hA : mm_A (mm_Kr mm_wv) q o) : mm_Runs L xs d 222 (0, mm_ent (mm_ml 222) [.ref 84, .int v1, .long v2], [], M) o := by
  unfold mf_222 at h
  obtain ⟨d, rfl⟩ := mm_d1 (n := 2) hd
  show mm_Runs L xs (d + 1) 222 (0, [some (.ref 84), some (.int v1), some (.long v2), none, none, none, none, none, none, none], [], M) o
  refine mm_Runs.seq (l := [(0, .iload_n 1, 1), (1, .iconst 4, 1), (2, .irem, 1), (3, .istore 4, 2), (5, .iload_n 1, 1), (6, .iconst 4, 1), (7, .idiv, 1), (8, .istore 5, 2), (10, .iload 4, 2), (12, .iconst 1, 1)]) (S2 := (13, [some (.ref 84), some (.int v1), some (.long v2), none, some (.int (mm_rem v1 (4 : Int32))), some (.int (v1 / (4 : Int32))), none, none, none, none], [.int (1 : Int32), .int (mm_rem v1 (4 : Int32))], M)) (by decide +kernel) (hO := mm_own_222) rfl ?_
  refine mm_R_ine (t := 27) rfl rfl rfl (fun hc => ?_) (fun hc => ?_)
  · replace h := mm_ip hc h
    refine mm_Runs.seq (l := [(16, .iconst 4, 1), (17, .iload 5, 2), (19, .bipush 8, 2), (21, .irem, 1), (22, .iadd, 1), (23, .i2l, 1), (24, .goto 8, 3)]) (S2 := (32, [some (.ref 84), some (.int v1), some (.long v2), none, some (.int (mm_rem v1 (4 : Int32))), some (.int (v1 / (4 : Int32))), none, none, none, none], [.long ((4 : Int32) + (mm_rem (v1 / (4 : Int32)) (8 : Int32))).toInt64], M)) (by decide +kernel) (hO := mm_own_222) rfl ?_
    exact (ms_222_j32 hd h hA : mp_222_32 L xs (d + 1) v1 v2 (mm_rem v1 (4 : Int32)) (v1 / (4 : Int32)) ((4 : Int32) + (mm_rem (v1 / (4 : Int32)) (8 : Int32))).toInt64 M o) none none none none none
  · replace h := mm_iq hc h
    refine mm_Runs.seq (l := [(27, .iload 5, 2), (29, .iconst 1, 1), (30, .iadd, 1), (31, .i2l, 1)]) (S2 := (32, [some (.ref 84), some (.int v1), some (.long v2), none, some (.int (mm_rem v1 (4 : Int32))), some (.int (v1 / (4 : Int32))), none, none, none, none], [.long ((v1 / (4 : Int32)) + (1 : Int32)).toInt64], M)) (by decide +kernel) (hO := mm_own_222) rfl ?_
    exact (ms_222_j32 hd h hA : mp_222_32 L xs (d + 1) v1 v2 (mm_rem v1 (4 : Int32)) (v1 / (4 : Int32)) ((v1 / (4 : Int32)) + (1 : Int32)).toInt64 M o) none none none none none
-- 221: PlainPacksModel.tags()V (depth 4)
theorem mm_own_221 : mm_own 221 = 12 := rfl
def mp_221_7 (L : Nat) (xs : Nat → Int32) (d : Nat) (v1 : Int64) (v3 : Int32) (v4 : Int32) (M : mm_M) (o : mm_E) : Prop := ∀ z2 z5 : Option Value, mm_Runs L xs d 221 (7, [some (.ref 84), some (.long v1), z2, some (.int v3), some (.int v4), z5], [], M) o
def mp_221_81 (L : Nat) (xs : Nat → Int32) (d : Nat) (v1 : Int64) (M : mm_M) (o : mm_E) : Prop := ∀ z2 z3 z4 z5 : Option Value, mm_Runs L xs d 221 (81, [some (.ref 84), some (.long v1), z2, z3, z4, z5], [], M) o
def mp_221_54 (L : Nat) (xs : Nat → Int32) (d : Nat) (v1 : Int64) (v3 : Int32) (s0 : Int32) (M : mm_M) (o : mm_E) : Prop := ∀ z2 z4 z5 : Option Value, mm_Runs L xs d 221 (54, [some (.ref 84), some (.long v1), z2, some (.int v3), z4, z5], [.int s0], M) o
def mp_221_74 (L : Nat) (xs : Nat → Int32) (d : Nat) (v1 : Int64) (v3 : Int32) (v4 : Int32) (M : mm_M) (o : mm_E) : Prop := ∀ z2 z5 : Option Value, mm_Runs L xs d 221 (74, [some (.ref 84), some (.long v1), z2, some (.int v3), some (.int v4), z5], [], M) o
set_option maxRecDepth 8000 in
set_option maxHeartbeats 4000000 in
theorem ms_221_j74 {L : Nat} {xs : Nat → Int32} {d : Nat} (hd : 4 ≤ d) {v1 : Int64} {v3 : Int32} {v4 : Int32} {M : mm_M} {q : (((Int64 × Int32 × Int32) ⊕ (Int64)) ⊕ Nat) × mm_M} {o : mm_E} (h : mf_221_j74 v1 v3 v4 M = some q) (hA : mm_A (mm_K2 (fun s M o => mp_221_7 L xs (d) s.1 s.2.1 s.2.2 M o) (fun r M o => mp_221_81 L xs (d) r M o)) q o) : mp_221_74 L xs d v1 v3 v4 M o := by
  unfold mf_221_j74 at h
  obtain ⟨d, rfl⟩ := mm_d1 (n := 3) hd
  intro z2 z5
  show mm_Runs L xs (d + 1) 221 (74, [some (.ref 84), some (.long v1), z2, some (.int v3), some (.int v4), z5], [], M) o
  refine mm_Runs.seq (l := [(74, .aload_n 0, 1)]) (S2 := (75, [some (.ref 84), some (.long v1), z2, some (.int v3), some (.int v4), z5], [.ref 84], M)) (by decide +kernel) (hO := mm_own_221) rfl ?_
  refine mm_R_call (v := mm_wv) h hA (k2 := 190) (as := [.ref 84]) (r := []) rfl (fun _ => rfl) (fun q hq o ho => ms_190 (by omega) hq ho) (fun _ M1 h => ?_)
  show mm_Runs L xs (d + 1) 221 (78, [some (.ref 84), some (.long v1), z2, some (.int v3), some (.int v4), z5], [], M1) o
  refine mm_Runs.seq (l := [(78, .goto (-71), 3)]) (S2 := (7, [some (.ref 84), some (.long v1), z2, some (.int v3), some (.int v4), z5], [], M1)) (by decide +kernel) (hO := mm_own_221) rfl ?_
  cases h
  exact (show mp_221_7 L xs (d + 1) v1 v3 v4 M1 o from hA) z2 z5
set_option maxRecDepth 8000 in
set_option maxHeartbeats 4000000 in
theorem ms_221_j54 {L : Nat} {xs : Nat → Int32} {d : Nat} (hd : 4 ≤ d) {v1 : Int64} {v3 : Int32} {s0 : Int32} {M : mm_M} {q : (((Int64 × Int32 × Int32) ⊕ (Int64)) ⊕ Nat) × mm_M} {o : mm_E} (h : mf_221_j54 v1 v3 s0 M = some q) (hA : mm_A (mm_K2 (fun s M o => mp_221_7 L xs (d) s.1 s.2.1 s.2.2 M o) (fun r M o => mp_221_81 L xs (d) r M o)) q o) : mp_221_54 L xs d v1 v3 s0 M o := by
  unfold mf_221_j54 at h
  obtain ⟨d, rfl⟩ := mm_d1 (n := 3) hd
  intro z2 z4 z5
  show mm_Runs L xs (d + 1) 221 (54, [some (.ref 84), some (.long v1), z2, some (.int v3), z4, z5], [.int s0], M) o
  refine mm_Runs.seq (l := [(54, .istore 4, 2), (56, .lload_n 1, 1), (57, .ldc2_w 272, 3)]) (S2 := (60, [some (.ref 84), some (.long v1), z2, some (.int v3), some (.int s0), z5], [.long (4294967295 : Int64), .long v1], M)) (by decide +kernel) (hO := mm_own_221) rfl ?_
  refine mm_R_lgt (t := 74) rfl rfl rfl rfl (fun hc => ?_) (fun hc => ?_)
  · replace h := mm_ip hc h
    exact (ms_221_j74 hd h hA : mp_221_74 L xs (d + 1) v1 v3 s0 M o) z2 z5
  · replace h := mm_iq hc h
    refine mm_Runs.seq (l := [(64, .iload 4, 2)]) (S2 := (66, [some (.ref 84), some (.long v1), z2, some (.int v3), some (.int s0), z5], [.int s0], M)) (by decide +kernel) (hO := mm_own_221) rfl ?_
    refine mm_R_zeq (t := 78) rfl rfl rfl (fun hc => ?_) (fun hc => ?_)
    · replace h := mm_ip hc h
      refine mm_Runs.seq (l := [(78, .goto (-71), 3)]) (S2 := (7, [some (.ref 84), some (.long v1), z2, some (.int v3), some (.int s0), z5], [], M)) (by decide +kernel) (hO := mm_own_221) rfl ?_
      cases h
      exact (show mp_221_7 L xs (d + 1) v1 v3 s0 M o from hA) z2 z5
    · replace h := mm_iq hc h
      refine mm_Runs.seq (l := [(69, .iload_n 3, 1), (70, .iconst 5, 1)]) (S2 := (71, [some (.ref 84), some (.long v1), z2, some (.int v3), some (.int s0), z5], [.int (5 : Int32), .int v3], M)) (by decide +kernel) (hO := mm_own_221) rfl ?_
      refine mm_R_ine (t := 78) rfl rfl rfl (fun hc => ?_) (fun hc => ?_)
      · replace h := mm_ip hc h
        exact (ms_221_j74 hd h hA : mp_221_74 L xs (d + 1) v1 v3 s0 M o) z2 z5
      · replace h := mm_iq hc h
        refine mm_Runs.seq (l := [(78, .goto (-71), 3)]) (S2 := (7, [some (.ref 84), some (.long v1), z2, some (.int v3), some (.int s0), z5], [], M)) (by decide +kernel) (hO := mm_own_221) rfl ?_
        cases h
        exact (show mp_221_7 L xs (d + 1) v1 v3 s0 M o from hA) z2 z5
set_option maxRecDepth 8000 in
set_option maxHeartbeats 4000000 in
theorem ms_221_b7 {L : Nat} {xs : Nat → Int32} {d : Nat} (hd : 4 ≤ d) {v1 : Int64} {v3 : Int32} {v4 : Int32} {M : mm_M} {q : (((Int64 × Int32 × Int32) ⊕ (Int64)) ⊕ Nat) × mm_M} {o : mm_E} (h : mf_221_b7 v1 v3 v4 M = some q) (hA : mm_A (mm_K2 (fun s M o => mp_221_7 L xs (d) s.1 s.2.1 s.2.2 M o) (fun r M o => mp_221_81 L xs (d) r M o)) q o) : mp_221_7 L xs d v1 v3 v4 M o := by
  unfold mf_221_b7 at h
  obtain ⟨d, rfl⟩ := mm_d1 (n := 3) hd
  intro z2 z5
  show mm_Runs L xs (d + 1) 221 (7, [some (.ref 84), some (.long v1), z2, some (.int v3), some (.int v4), z5], [], M) o
  refine mm_Runs.seq (l := [(7, .iload 4, 2)]) (S2 := (9, [some (.ref 84), some (.long v1), z2, some (.int v3), some (.int v4), z5], [.int v4], M)) (by decide +kernel) (hO := mm_own_221) rfl ?_
  refine mm_R_zeq (t := 81) rfl rfl rfl (fun hc => ?_) (fun hc => ?_)
  · replace h := mm_ip hc h
    cases h
    exact (show mp_221_81 L xs (d + 1) v1 M o from hA) z2 (some (.int v3)) (some (.int v4)) z5
  · replace h := mm_iq hc h
    refine mm_Runs.seq (l := [(12, .aload_n 0, 1), (13, .getfield 154, 3)]) (S2 := (16, [some (.ref 84), some (.long v1), z2, some (.int v3), some (.int v4), z5], [.int (M.1 84 7)], M)) (by decide +kernel) (hO := mm_own_221) rfl ?_
    refine mm_R_zne (t := 81) rfl rfl rfl (fun hc => ?_) (fun hc => ?_)
    · replace h := mm_ip hc h
      refine mm_Runs.seq (l := [(19, .aload_n 0, 1)]) (S2 := (20, [some (.ref 84), some (.long v1), z2, some (.int v3), some (.int v4), z5], [.ref 84], M)) (by decide +kernel) (hO := mm_own_221) rfl ?_
      refine mm_R_call (v := mm_wi) h hA (k2 := 191) (as := [.ref 84]) (r := []) rfl (fun _ => rfl) (fun q hq o ho => ms_191 (by omega) hq ho) (fun r1 M2 h => ?_)
      show mm_Runs L xs (d + 1) 221 (23, [some (.ref 84), some (.long v1), z2, some (.int v3), some (.int v4), z5], [.int r1], M2) o
      refine mm_Runs.seq (l := [(23, .istore 5, 2), (25, .lload_n 1, 1), (26, .iload 5, 2), (28, .bipush 127, 2), (30, .iand, 1), (31, .i2l, 1), (32, .bipush 7, 2), (34, .iload_n 3, 1), (35, .imul, 1), (36, .lshl, 1), (37, .lor, 1), (38, .lstore_n 1, 1), (39, .iinc 3 1, 3), (42, .iload 5, 2), (44, .bipush 127, 2)]) (S2 := (46, [some (.ref 84), some (.long (v1 ||| (mm_lshl (r1 &&& (127 : Int32)).toInt64 ((7 : Int32) * v3)))), none, some (.int (v3 + (1 : Int32))), some (.int v4), some (.int r1)], [.int (127 : Int32), .int r1], M2)) (by decide +kernel) (hO := mm_own_221) rfl ?_
      refine mm_R_ile (t := 53) rfl rfl rfl (fun hc => ?_) (fun hc => ?_)
      · replace h := mm_ip hc h
        refine mm_Runs.seq (l := [(49, .iconst 1, 1), (50, .goto 4, 3)]) (S2 := (54, [some (.ref 84), some (.long (v1 ||| (mm_lshl (r1 &&& (127 : Int32)).toInt64 ((7 : Int32) * v3)))), none, some (.int (v3 + (1 : Int32))), some (.int v4), some (.int r1)], [.int (1 : Int32)], M2)) (by decide +kernel) (hO := mm_own_221) rfl ?_
        exact (ms_221_j54 hd h hA : mp_221_54 L xs (d + 1) (v1 ||| (mm_lshl (r1 &&& (127 : Int32)).toInt64 ((7 : Int32) * v3))) (v3 + (1 : Int32)) (1 : Int32) M2 o) none (some (.int v4)) (some (.int r1))
      · replace h := mm_iq hc h
        refine mm_Runs.seq (l := [(53, .iconst 0, 1)]) (S2 := (54, [some (.ref 84), some (.long (v1 ||| (mm_lshl (r1 &&& (127 : Int32)).toInt64 ((7 : Int32) * v3)))), none, some (.int (v3 + (1 : Int32))), some (.int v4), some (.int r1)], [.int (0 : Int32)], M2)) (by decide +kernel) (hO := mm_own_221) rfl ?_
        exact (ms_221_j54 hd h hA : mp_221_54 L xs (d + 1) (v1 ||| (mm_lshl (r1 &&& (127 : Int32)).toInt64 ((7 : Int32) * v3))) (v3 + (1 : Int32)) (0 : Int32) M2 o) none (some (.int v4)) (some (.int r1))
    · replace h := mm_iq hc h
      cases h
      exact (show mp_221_81 L xs (d + 1) v1 M o from hA) z2 (some (.int v3)) (some (.int v4)) z5
theorem ms_221_L7 {L : Nat} {xs : Nat → Int32} {d : Nat} (hd : 4 ≤ d) {v1 : Int64} {v3 : Int32} {v4 : Int32} {β : Type} {K : β → mm_M → mm_E → Prop} {F : (Int64) → mm_M → mm_O β} {M : mm_M} {q : (β ⊕ Nat) × mm_M} {o : mm_E} (h : mm_B (mf_221_L7 (v1, v3, v4) M) F = some q) (hA : mm_A K q o) (hx : ∀ (r : (Int64)) (M2 : mm_M), F r M2 = some q → (fun r M o => mp_221_81 L xs (d) r M o) r M2 o) : mp_221_7 L xs d v1 v3 v4 M o := by
  unfold mf_221_L7 at h
  exact mm_R_loop (step := (fun s M => mf_221_b7 s.1 s.2.1 s.2.2 M)) (s := (v1, v3, v4)) (M := M) (P := (fun s M o => mp_221_7 L xs (d) s.1 s.2.1 s.2.2 M o)) (X := (fun r M o => mp_221_81 L xs (d) r M o)) h hA (fun s M q hq hA => ms_221_b7 (v1 := s.1) (v3 := s.2.1) (v4 := s.2.2) (M := M) (q := q) hd hq hA) hx
def mp_221_100 (L : Nat) (xs : Nat → Int32) (d : Nat) (v1 : Int64) (M : mm_M) (o : mm_E) : Prop := ∀ z2 z3 z4 z5 : Option Value, mm_Runs L xs d 221 (100, [some (.ref 84), some (.long v1), z2, z3, z4, z5], [], M) o
def mp_221_146 (L : Nat) (xs : Nat → Int32) (d : Nat) (M : mm_M) (o : mm_E) : Prop := ∀ z0 z1 z2 z3 z4 z5 : Option Value, mm_Runs L xs d 221 (146, [z0, z1, z2, z3, z4, z5], [], M) o
set_option maxRecDepth 8000 in
set_option maxHeartbeats 4000000 in
theorem ms_221_b100 {L : Nat} {xs : Nat → Int32} {d : Nat} (hd : 4 ≤ d) {v1 : Int64} {M : mm_M} {q : (((Unit) ⊕ (Unit)) ⊕ Nat) × mm_M} {o : mm_E} (h : mf_221_b100 v1 M = some q) (hA : mm_A (mm_K2 (fun s M o => mp_221_100 L xs (d) v1 M o) (fun r M o => mp_221_146 L xs (d) M o)) q o) : mp_221_100 L xs d v1 M o := by
  unfold mf_221_b100 at h
  obtain ⟨d, rfl⟩ := mm_d1 (n := 3) hd
  intro z2 z3 z4 z5
  show mm_Runs L xs (d + 1) 221 (100, [some (.ref 84), some (.long v1), z2, z3, z4, z5], [], M) o
  refine mm_Runs.seq (l := [(100, .aload_n 0, 1), (101, .getfield 154, 3)]) (S2 := (104, [some (.ref 84), some (.long v1), z2, z3, z4, z5], [.int (M.1 84 7)], M)) (by decide +kernel) (hO := mm_own_221) rfl ?_
  refine mm_R_zne (t := 146) rfl rfl rfl (fun hc => ?_) (fun hc => ?_)
  · replace h := mm_ip hc h
    refine mm_Runs.seq (l := [(107, .aload_n 0, 1), (108, .getfield 98, 3), (111, .i2l, 1), (112, .lload_n 1, 1)]) (S2 := (113, [some (.ref 84), some (.long v1), z2, z3, z4, z5], [.long v1, .long (M.1 84 4).toInt64], M)) (by decide +kernel) (hO := mm_own_221) rfl ?_
    refine mm_R_lge (t := 146) rfl rfl rfl rfl (fun hc => ?_) (fun hc => ?_)
    · replace h := mm_ip hc h
      refine mm_Runs.seq (l := [(117, .aload_n 0, 1)]) (S2 := (118, [some (.ref 84), some (.long v1), z2, z3, z4, z5], [.ref 84], M)) (by decide +kernel) (hO := mm_own_221) rfl ?_
      refine mm_R_call (v := mm_wi) h hA (k2 := 191) (as := [.ref 84]) (r := []) rfl (fun _ => rfl) (fun q hq o ho => ms_191 (by omega) hq ho) (fun r1 M2 h => ?_)
      show mm_Runs L xs (d + 1) 221 (121, [some (.ref 84), some (.long v1), z2, z3, z4, z5], [.int r1], M2) o
      refine mm_Runs.seq (l := [(121, .istore 5, 2), (123, .aload_n 0, 1), (124, .getfield 154, 3)]) (S2 := (127, [some (.ref 84), some (.long v1), z2, z3, (mm_no2 z4), some (.int r1)], [.int (M2.1 84 7)], M2)) (by decide +kernel) (hO := mm_own_221) rfl ?_
      refine mm_R_zne (t := 143) rfl rfl rfl (fun hc => ?_) (fun hc => ?_)
      · replace h := mm_ip hc h
        refine mm_Runs.seq (l := [(130, .aload_n 0, 1), (131, .iload 5, 2), (133, .lload_n 1, 1), (134, .aload_n 0, 1), (135, .getfield 98, 3), (138, .i2l, 1), (139, .lsub, 1)]) (S2 := (140, [some (.ref 84), some (.long v1), z2, z3, (mm_no2 z4), some (.int r1)], [.long (v1 - (M2.1 84 4).toInt64), .int r1, .ref 84], M2)) (by decide +kernel) (hO := mm_own_221) rfl ?_
        refine mm_R_call (v := mm_wv) h hA (k2 := 222) (as := [.ref 84, .int r1, .long (v1 - (M2.1 84 4).toInt64)]) (r := []) rfl (fun _ => rfl) (fun q hq o ho => ms_222 (by omega) hq ho) (fun _ M3 h => ?_)
        show mm_Runs L xs (d + 1) 221 (143, [some (.ref 84), some (.long v1), z2, z3, (mm_no2 z4), some (.int r1)], [], M3) o
        refine mm_Runs.seq (l := [(143, .goto (-43), 3)]) (S2 := (100, [some (.ref 84), some (.long v1), z2, z3, (mm_no2 z4), some (.int r1)], [], M3)) (by decide +kernel) (hO := mm_own_221) rfl ?_
        cases h
        exact (show mp_221_100 L xs (d + 1) v1 M3 o from hA) z2 z3 ((mm_no2 z4)) (some (.int r1))
      · replace h := mm_iq hc h
        refine mm_Runs.seq (l := [(143, .goto (-43), 3)]) (S2 := (100, [some (.ref 84), some (.long v1), z2, z3, (mm_no2 z4), some (.int r1)], [], M2)) (by decide +kernel) (hO := mm_own_221) rfl ?_
        cases h
        exact (show mp_221_100 L xs (d + 1) v1 M2 o from hA) z2 z3 ((mm_no2 z4)) (some (.int r1))
    · replace h := mm_iq hc h
      cases h
      exact (show mp_221_146 L xs (d + 1) M o from hA) (some (.ref 84)) (some (.long v1)) z2 z3 z4 z5
  · replace h := mm_iq hc h
    cases h
    exact (show mp_221_146 L xs (d + 1) M o from hA) (some (.ref 84)) (some (.long v1)) z2 z3 z4 z5
theorem ms_221_L100 {L : Nat} {xs : Nat → Int32} {d : Nat} (hd : 4 ≤ d) {v1 : Int64} {β : Type} {K : β → mm_M → mm_E → Prop} {F : (Unit) → mm_M → mm_O β} {M : mm_M} {q : (β ⊕ Nat) × mm_M} {o : mm_E} (h : mm_B (mf_221_L100 v1 () M) F = some q) (hA : mm_A K q o) (hx : ∀ (r : (Unit)) (M2 : mm_M), F r M2 = some q → (fun r M o => mp_221_146 L xs (d) M o) r M2 o) : mp_221_100 L xs d v1 M o := by
  unfold mf_221_L100 at h
  exact mm_R_loop (step := (fun s M => mf_221_b100 v1 M)) (s := ()) (M := M) (P := (fun s M o => mp_221_100 L xs (d) v1 M o)) (X := (fun r M o => mp_221_146 L xs (d) M o)) h hA (fun s M q hq hA => ms_221_b100 (v1 := v1) (M := M) (q := q) hd hq hA) hx
set_option maxRecDepth 8000 in
set_option maxHeartbeats 4000000 in
theorem ms_221_j81 {L : Nat} {xs : Nat → Int32} {d : Nat} (hd : 4 ≤ d) {v1 : Int64} {M : mm_M} {q : (Unit ⊕ Nat) × mm_M} {o : mm_E} (h : mf_221_j81 v1 M = some q) (hA : mm_A (mm_Kr mm_wv) q o) : mp_221_81 L xs d v1 M o := by
  unfold mf_221_j81 at h
  obtain ⟨d, rfl⟩ := mm_d1 (n := 3) hd
  intro z2 z3 z4 z5
  show mm_Runs L xs (d + 1) 221 (81, [some (.ref 84), some (.long v1), z2, z3, z4, z5], [], M) o
  refine mm_Runs.seq (l := [(81, .aload_n 0, 1), (82, .getfield 154, 3)]) (S2 := (85, [some (.ref 84), some (.long v1), z2, z3, z4, z5], [.int (M.1 84 7)], M)) (by decide +kernel) (hO := mm_own_221) rfl ?_
  refine mm_R_zne (t := 100) rfl rfl rfl (fun hc => ?_) (fun hc => ?_)
  · replace h := mm_ip hc h
    refine mm_Runs.seq (l := [(88, .lload_n 1, 1), (89, .ldc2_w 274, 3)]) (S2 := (92, [some (.ref 84), some (.long v1), z2, z3, z4, z5], [.long (16384 : Int64), .long v1], M)) (by decide +kernel) (hO := mm_own_221) rfl ?_
    refine mm_R_lle (t := 100) rfl rfl rfl rfl (fun hc => ?_) (fun hc => ?_)
    · replace h := mm_ip hc h
      refine mm_Runs.seq (l := [(96, .aload_n 0, 1)]) (S2 := (97, [some (.ref 84), some (.long v1), z2, z3, z4, z5], [.ref 84], M)) (by decide +kernel) (hO := mm_own_221) rfl ?_
      refine mm_R_call (v := mm_wv) h hA (k2 := 190) (as := [.ref 84]) (r := []) rfl (fun _ => rfl) (fun q hq o ho => ms_190 (by omega) hq ho) (fun _ M1 h => ?_)
      show mm_Runs L xs (d + 1) 221 (100, [some (.ref 84), some (.long v1), z2, z3, z4, z5], [], M1) o
      have hp : mp_221_100 L xs (d + 1) v1 M1 o := by
        refine ms_221_L100 hd h hA (fun r3 M2 h => ?_)
        intro y4 y5 y6 y7 y8 y9
        show mm_Runs L xs (d + 1) 221 (146, [y4, y5, y6, y7, y8, y9], [], M2) o
        cases h
        exact mm_R_retv rfl rfl hA
      exact hp z2 z3 z4 z5
    · replace h := mm_iq hc h
      have hp : mp_221_100 L xs (d + 1) v1 M o := by
        refine ms_221_L100 hd h hA (fun r11 M10 h => ?_)
        intro y12 y13 y14 y15 y16 y17
        show mm_Runs L xs (d + 1) 221 (146, [y12, y13, y14, y15, y16, y17], [], M10) o
        cases h
        exact mm_R_retv rfl rfl hA
      exact hp z2 z3 z4 z5
  · replace h := mm_iq hc h
    have hp : mp_221_100 L xs (d + 1) v1 M o := by
      refine ms_221_L100 hd h hA (fun r19 M18 h => ?_)
      intro y20 y21 y22 y23 y24 y25
      show mm_Runs L xs (d + 1) 221 (146, [y20, y21, y22, y23, y24, y25], [], M18) o
      cases h
      exact mm_R_retv rfl rfl hA
    exact hp z2 z3 z4 z5
set_option maxRecDepth 8000 in
set_option maxHeartbeats 4000000 in
theorem ms_221 {L : Nat} {xs : Nat → Int32} {d : Nat} (hd : 4 ≤ d) {M : mm_M} {q : (Unit ⊕ Nat) × mm_M} {o : mm_E} (h : mf_221 M = some q) (hA : mm_A (mm_Kr mm_wv) q o) : mm_Runs L xs d 221 (0, mm_ent (mm_ml 221) [.ref 84], [], M) o := by
  unfold mf_221 at h
  obtain ⟨d, rfl⟩ := mm_d1 (n := 3) hd
  show mm_Runs L xs (d + 1) 221 (0, [some (.ref 84), none, none, none, none, none], [], M) o
  refine mm_Runs.seq (l := [(0, .lconst 0, 1), (1, .lstore_n 1, 1), (2, .iconst 0, 1), (3, .istore_n 3, 1), (4, .iconst 1, 1), (5, .istore 4, 2)]) (S2 := (7, [some (.ref 84), some (.long (0 : Int64)), none, some (.int (0 : Int32)), some (.int (1 : Int32)), none], [], M)) (by decide +kernel) (hO := mm_own_221) rfl ?_
  have hp : mp_221_7 L xs (d + 1) (0 : Int64) (0 : Int32) (1 : Int32) M o := by
    refine ms_221_L7 hd h hA (fun r2 M1 h => ?_)
    intro y3 y4 y5 y6
    show mm_Runs L xs (d + 1) 221 (81, [some (.ref 84), some (.long r2), y3, y4, y5, y6], [], M1) o
    exact (ms_221_j81 hd h hA : mp_221_81 L xs (d + 1) r2 M1 o) y3 y4 y5 y6
  exact hp none none
-- 225: PlainPacksModel.occurring()V (depth 4)
theorem mm_own_225 : mm_own 225 = 12 := rfl
def mp_225_15 (L : Nat) (xs : Nat → Int32) (d : Nat) (v1 : Int32) (v2 : Int32) (M : mm_M) (o : mm_E) : Prop := ∀ z3 z4 : Option Value, mm_Runs L xs d 225 (15, [some (.ref 84), some (.int v1), some (.int v2), z3, z4], [], M) o
def mp_225_113 (L : Nat) (xs : Nat → Int32) (d : Nat) (M : mm_M) (o : mm_E) : Prop := ∀ z1 z2 z3 z4 : Option Value, mm_Runs L xs d 225 (113, [some (.ref 84), z1, z2, z3, z4], [], M) o
def mp_225_55 (L : Nat) (xs : Nat → Int32) (d : Nat) (v1 : Int32) (v2 : Int32) (v3 : Int32) (v4 : Int32) (M : mm_M) (o : mm_E) : Prop := mm_Runs L xs d 225 (55, [some (.ref 84), some (.int v1), some (.int v2), some (.int v3), some (.int v4)], [], M) o
def mp_225_107 (L : Nat) (xs : Nat → Int32) (d : Nat) (v1 : Int32) (v2 : Int32) (M : mm_M) (o : mm_E) : Prop := ∀ z3 z4 : Option Value, mm_Runs L xs d 225 (107, [some (.ref 84), some (.int v1), some (.int v2), z3, z4], [], M) o
set_option maxRecDepth 8000 in
set_option maxHeartbeats 4000000 in
theorem ms_225_b55 {L : Nat} {xs : Nat → Int32} {d : Nat} (hd : 4 ≤ d) {v1 : Int32} {v2 : Int32} {v3 : Int32} {v4 : Int32} {M : mm_M} {q : (((Int32) ⊕ (Unit)) ⊕ Nat) × mm_M} {o : mm_E} (h : mf_225_b55 v1 v2 v3 v4 M = some q) (hA : mm_A (mm_K2 (fun s M o => mp_225_55 L xs (d) v1 v2 v3 s M o) (fun r M o => mp_225_107 L xs (d) v1 v2 M o)) q o) : mp_225_55 L xs d v1 v2 v3 v4 M o := by
  unfold mf_225_b55 at h
  obtain ⟨d, rfl⟩ := mm_d1 (n := 3) hd
  show mm_Runs L xs (d + 1) 225 (55, [some (.ref 84), some (.int v1), some (.int v2), some (.int v3), some (.int v4)], [], M) o
  refine mm_Runs.seq (l := [(55, .iload 4, 2), (57, .bipush 16, 2)]) (S2 := (59, [some (.ref 84), some (.int v1), some (.int v2), some (.int v3), some (.int v4)], [.int (16 : Int32), .int v4], M)) (by decide +kernel) (hO := mm_own_225) rfl ?_
  refine mm_R_ige (t := 107) rfl rfl rfl (fun hc => ?_) (fun hc => ?_)
  · replace h := mm_ip hc h
    refine mm_Runs.seq (l := [(62, .iload_n 3, 1), (63, .bipush 15, 2), (65, .iload 4, 2), (67, .isub, 1), (68, .ishr, 1), (69, .iconst 1, 1), (70, .iand, 1), (71, .iconst 1, 1)]) (S2 := (72, [some (.ref 84), some (.int v1), some (.int v2), some (.int v3), some (.int v4)], [.int (1 : Int32), .int ((mm_shr v3 ((15 : Int32) - v4)) &&& (1 : Int32))], M)) (by decide +kernel) (hO := mm_own_225) rfl ?_
    refine mm_R_ine (t := 101) rfl rfl rfl (fun hc => ?_) (fun hc => ?_)
    · replace h := mm_ip hc h
      refine mm_Runs.seq (l := [(75, .aload_n 0, 1), (76, .getfield 38, 3), (79, .aload_n 0, 1), (80, .getfield 215, 3), (83, .bipush 16, 2), (85, .iload_n 2, 1), (86, .imul, 1), (87, .iload 4, 2), (89, .iadd, 1)]) (S2 := (90, [some (.ref 84), some (.int v1), some (.int v2), some (.int v3), some (.int v4)], [.int (((16 : Int32) * v2) + v4), .int (M.1 84 20), .ref 94], M)) (by decide +kernel) (hO := mm_own_225) rfl ?_
      obtain ⟨hb, h⟩ := mm_gd h
      refine mm_R_iast rfl rfl hb ?_
      refine mm_Runs.seq (l := [(91, .aload_n 0, 1), (92, .dup, 1), (93, .getfield 215, 3), (96, .iconst 1, 1), (97, .iadd, 1), (98, .putfield 215, 3), (101, .iinc 4 1, 3), (104, .goto (-49), 3)]) (S2 := (55, [some (.ref 84), some (.int v1), some (.int v2), some (.int v3), some (.int (v4 + (1 : Int32)))], [], (mm_pi (mm_pi M 94 (M.1 84 20).toNatClampNeg (((16 : Int32) * v2) + v4)) 84 20 ((M.1 84 20) + (1 : Int32))))) (by decide +kernel) (hO := mm_own_225) rfl ?_
      cases h
      exact (show mp_225_55 L xs (d + 1) v1 v2 v3 (v4 + (1 : Int32)) (mm_pi (mm_pi M 94 (M.1 84 20).toNatClampNeg (((16 : Int32) * v2) + v4)) 84 20 ((M.1 84 20) + (1 : Int32))) o from hA)
    · replace h := mm_iq hc h
      refine mm_Runs.seq (l := [(101, .iinc 4 1, 3), (104, .goto (-49), 3)]) (S2 := (55, [some (.ref 84), some (.int v1), some (.int v2), some (.int v3), some (.int (v4 + (1 : Int32)))], [], M)) (by decide +kernel) (hO := mm_own_225) rfl ?_
      cases h
      exact (show mp_225_55 L xs (d + 1) v1 v2 v3 (v4 + (1 : Int32)) M o from hA)
  · replace h := mm_iq hc h
    cases h
    exact (show mp_225_107 L xs (d + 1) v1 v2 M o from hA) (some (.int v3)) (some (.int v4))
theorem ms_225_L55 {L : Nat} {xs : Nat → Int32} {d : Nat} (hd : 4 ≤ d) {v1 : Int32} {v2 : Int32} {v3 : Int32} {v4 : Int32} {β : Type} {K : β → mm_M → mm_E → Prop} {F : (Unit) → mm_M → mm_O β} {M : mm_M} {q : (β ⊕ Nat) × mm_M} {o : mm_E} (h : mm_B (mf_225_L55 v1 v2 v3 v4 M) F = some q) (hA : mm_A K q o) (hx : ∀ (r : (Unit)) (M2 : mm_M), F r M2 = some q → (fun r M o => mp_225_107 L xs (d) v1 v2 M o) r M2 o) : mp_225_55 L xs d v1 v2 v3 v4 M o := by
  unfold mf_225_L55 at h
  exact mm_R_loop (step := (fun s M => mf_225_b55 v1 v2 v3 s M)) (s := v4) (M := M) (P := (fun s M o => mp_225_55 L xs (d) v1 v2 v3 s M o)) (X := (fun r M o => mp_225_107 L xs (d) v1 v2 M o)) h hA (fun s M q hq hA => ms_225_b55 (v1 := v1) (v2 := v2) (v3 := v3) (v4 := s) (M := M) (q := q) hd hq hA) hx
set_option maxRecDepth 8000 in
set_option maxHeartbeats 4000000 in
theorem ms_225_b15 {L : Nat} {xs : Nat → Int32} {d : Nat} (hd : 4 ≤ d) {v1 : Int32} {v2 : Int32} {M : mm_M} {q : (((Int32) ⊕ (Unit)) ⊕ Nat) × mm_M} {o : mm_E} (h : mf_225_b15 v1 v2 M = some q) (hA : mm_A (mm_K2 (fun s M o => mp_225_15 L xs (d) v1 s M o) (fun r M o => mp_225_113 L xs (d) M o)) q o) : mp_225_15 L xs d v1 v2 M o := by
  unfold mf_225_b15 at h
  obtain ⟨d, rfl⟩ := mm_d1 (n := 3) hd
  intro z3 z4
  show mm_Runs L xs (d + 1) 225 (15, [some (.ref 84), some (.int v1), some (.int v2), z3, z4], [], M) o
  refine mm_Runs.seq (l := [(15, .iload_n 2, 1), (16, .bipush 16, 2)]) (S2 := (18, [some (.ref 84), some (.int v1), some (.int v2), z3, z4], [.int (16 : Int32), .int v2], M)) (by decide +kernel) (hO := mm_own_225) rfl ?_
  refine mm_R_ige (t := 113) rfl rfl rfl (fun hc => ?_) (fun hc => ?_)
  · replace h := mm_ip hc h
    refine mm_Runs.seq (l := [(21, .aload_n 0, 1), (22, .getfield 154, 3)]) (S2 := (25, [some (.ref 84), some (.int v1), some (.int v2), z3, z4], [.int (M.1 84 7)], M)) (by decide +kernel) (hO := mm_own_225) rfl ?_
    refine mm_R_zne (t := 113) rfl rfl rfl (fun hc => ?_) (fun hc => ?_)
    · replace h := mm_ip hc h
      refine mm_Runs.seq (l := [(28, .iload_n 1, 1), (29, .bipush 15, 2), (31, .iload_n 2, 1), (32, .isub, 1), (33, .ishr, 1), (34, .iconst 1, 1), (35, .iand, 1), (36, .iconst 1, 1)]) (S2 := (37, [some (.ref 84), some (.int v1), some (.int v2), z3, z4], [.int (1 : Int32), .int ((mm_shr v1 ((15 : Int32) - v2)) &&& (1 : Int32))], M)) (by decide +kernel) (hO := mm_own_225) rfl ?_
      refine mm_R_ine (t := 50) rfl rfl rfl (fun hc => ?_) (fun hc => ?_)
      · replace h := mm_ip hc h
        refine mm_Runs.seq (l := [(40, .aload_n 0, 1), (41, .bipush 16, 2)]) (S2 := (43, [some (.ref 84), some (.int v1), some (.int v2), z3, z4], [.int (16 : Int32), .ref 84], M)) (by decide +kernel) (hO := mm_own_225) rfl ?_
        refine mm_R_call (v := mm_wl) h hA (k2 := 198) (as := [.ref 84, .int (16 : Int32)]) (r := []) rfl (fun _ => rfl) (fun q hq o ho => ms_198 (by omega) hq ho) (fun r1 M2 h => ?_)
        show mm_Runs L xs (d + 1) 225 (46, [some (.ref 84), some (.int v1), some (.int v2), z3, z4], [.long r1], M2) o
        refine mm_Runs.seq (l := [(46, .l2i, 1), (47, .goto 4, 3), (51, .istore_n 3, 1), (52, .iconst 0, 1), (53, .istore 4, 2)]) (S2 := (55, [some (.ref 84), some (.int v1), some (.int v2), some (.int r1.toInt32), some (.int (0 : Int32))], [], M2)) (by decide +kernel) (hO := mm_own_225) rfl ?_
        have hp : mp_225_55 L xs (d + 1) v1 v2 r1.toInt32 (0 : Int32) M2 o := by
          refine ms_225_L55 hd h hA (fun r4 M3 h => ?_)
          intro y5 y6
          show mm_Runs L xs (d + 1) 225 (107, [some (.ref 84), some (.int v1), some (.int v2), y5, y6], [], M3) o
          refine mm_Runs.seq (l := [(107, .iinc 2 1, 3), (110, .goto (-95), 3)]) (S2 := (15, [some (.ref 84), some (.int v1), some (.int (v2 + (1 : Int32))), y5, y6], [], M3)) (by decide +kernel) (hO := mm_own_225) rfl ?_
          cases h
          exact (show mp_225_15 L xs (d + 1) v1 (v2 + (1 : Int32)) M3 o from hA) y5 y6
        exact hp
      · replace h := mm_iq hc h
        refine mm_Runs.seq (l := [(50, .iconst 0, 1), (51, .istore_n 3, 1), (52, .iconst 0, 1), (53, .istore 4, 2)]) (S2 := (55, [some (.ref 84), some (.int v1), some (.int v2), some (.int (0 : Int32)), some (.int (0 : Int32))], [], M)) (by decide +kernel) (hO := mm_own_225) rfl ?_
        have hp : mp_225_55 L xs (d + 1) v1 v2 (0 : Int32) (0 : Int32) M o := by
          refine ms_225_L55 hd h hA (fun r8 M7 h => ?_)
          intro y9 y10
          show mm_Runs L xs (d + 1) 225 (107, [some (.ref 84), some (.int v1), some (.int v2), y9, y10], [], M7) o
          refine mm_Runs.seq (l := [(107, .iinc 2 1, 3), (110, .goto (-95), 3)]) (S2 := (15, [some (.ref 84), some (.int v1), some (.int (v2 + (1 : Int32))), y9, y10], [], M7)) (by decide +kernel) (hO := mm_own_225) rfl ?_
          cases h
          exact (show mp_225_15 L xs (d + 1) v1 (v2 + (1 : Int32)) M7 o from hA) y9 y10
        exact hp
    · replace h := mm_iq hc h
      cases h
      exact (show mp_225_113 L xs (d + 1) M o from hA) (some (.int v1)) (some (.int v2)) z3 z4
  · replace h := mm_iq hc h
    cases h
    exact (show mp_225_113 L xs (d + 1) M o from hA) (some (.int v1)) (some (.int v2)) z3 z4
theorem ms_225_L15 {L : Nat} {xs : Nat → Int32} {d : Nat} (hd : 4 ≤ d) {v1 : Int32} {v2 : Int32} {β : Type} {K : β → mm_M → mm_E → Prop} {F : (Unit) → mm_M → mm_O β} {M : mm_M} {q : (β ⊕ Nat) × mm_M} {o : mm_E} (h : mm_B (mf_225_L15 v1 v2 M) F = some q) (hA : mm_A K q o) (hx : ∀ (r : (Unit)) (M2 : mm_M), F r M2 = some q → (fun r M o => mp_225_113 L xs (d) M o) r M2 o) : mp_225_15 L xs d v1 v2 M o := by
  unfold mf_225_L15 at h
  exact mm_R_loop (step := (fun s M => mf_225_b15 v1 s M)) (s := v2) (M := M) (P := (fun s M o => mp_225_15 L xs (d) v1 s M o)) (X := (fun r M o => mp_225_113 L xs (d) M o)) h hA (fun s M q hq hA => ms_225_b15 (v1 := v1) (v2 := s) (M := M) (q := q) hd hq hA) hx
set_option maxRecDepth 8000 in
set_option maxHeartbeats 4000000 in
theorem ms_225_j113 {L : Nat} {xs : Nat → Int32} {d : Nat} (hd : 4 ≤ d) {M : mm_M} {q : (Unit ⊕ Nat) × mm_M} {o : mm_E} (h : mf_225_j113 M = some q) (hA : mm_A (mm_Kr mm_wv) q o) : mp_225_113 L xs d M o := by
  unfold mf_225_j113 at h
  obtain ⟨d, rfl⟩ := mm_d1 (n := 3) hd
  intro z1 z2 z3 z4
  show mm_Runs L xs (d + 1) 225 (113, [some (.ref 84), z1, z2, z3, z4], [], M) o
  refine mm_Runs.seq (l := [(113, .aload_n 0, 1), (114, .getfield 154, 3)]) (S2 := (117, [some (.ref 84), z1, z2, z3, z4], [.int (M.1 84 7)], M)) (by decide +kernel) (hO := mm_own_225) rfl ?_
  refine mm_R_zne (t := 131) rfl rfl rfl (fun hc => ?_) (fun hc => ?_)
  · replace h := mm_ip hc h
    refine mm_Runs.seq (l := [(120, .aload_n 0, 1), (121, .getfield 215, 3)]) (S2 := (124, [some (.ref 84), z1, z2, z3, z4], [.int (M.1 84 20)], M)) (by decide +kernel) (hO := mm_own_225) rfl ?_
    refine mm_R_zne (t := 131) rfl rfl rfl (fun hc => ?_) (fun hc => ?_)
    · replace h := mm_ip hc h
      refine mm_Runs.seq (l := [(127, .aload_n 0, 1)]) (S2 := (128, [some (.ref 84), z1, z2, z3, z4], [.ref 84], M)) (by decide +kernel) (hO := mm_own_225) rfl ?_
      refine mm_R_call (v := mm_wv) h hA (k2 := 190) (as := [.ref 84]) (r := []) rfl (fun _ => rfl) (fun q hq o ho => ms_190 (by omega) hq ho) (fun _ M1 h => ?_)
      show mm_Runs L xs (d + 1) 225 (131, [some (.ref 84), z1, z2, z3, z4], [], M1) o
      cases h
      exact mm_R_retv rfl rfl hA
    · replace h := mm_iq hc h
      cases h
      exact mm_R_retv rfl rfl hA
  · replace h := mm_iq hc h
    cases h
    exact mm_R_retv rfl rfl hA
set_option maxRecDepth 8000 in
set_option maxHeartbeats 4000000 in
theorem ms_225 {L : Nat} {xs : Nat → Int32} {d : Nat} (hd : 4 ≤ d) {M : mm_M} {q : (Unit ⊕ Nat) × mm_M} {o : mm_E} (h : mf_225 M = some q) (hA : mm_A (mm_Kr mm_wv) q o) : mm_Runs L xs d 225 (0, mm_ent (mm_ml 225) [.ref 84], [], M) o := by
  unfold mf_225 at h
  obtain ⟨d, rfl⟩ := mm_d1 (n := 3) hd
  show mm_Runs L xs (d + 1) 225 (0, [some (.ref 84), none, none, none, none], [], M) o
  refine mm_Runs.seq (l := [(0, .aload_n 0, 1), (1, .bipush 16, 2)]) (S2 := (3, [some (.ref 84), none, none, none, none], [.int (16 : Int32), .ref 84], M)) (by decide +kernel) (hO := mm_own_225) rfl ?_
  refine mm_R_call (v := mm_wl) h hA (k2 := 198) (as := [.ref 84, .int (16 : Int32)]) (r := []) rfl (fun _ => rfl) (fun q hq o ho => ms_198 (by omega) hq ho) (fun r1 M2 h => ?_)
  show mm_Runs L xs (d + 1) 225 (6, [some (.ref 84), none, none, none, none], [.long r1], M2) o
  refine mm_Runs.seq (l := [(6, .l2i, 1), (7, .istore_n 1, 1), (8, .aload_n 0, 1), (9, .iconst 0, 1), (10, .putfield 215, 3), (13, .iconst 0, 1), (14, .istore_n 2, 1)]) (S2 := (15, [some (.ref 84), some (.int r1.toInt32), some (.int (0 : Int32)), none, none], [], (mm_pi M2 84 20 (0 : Int32)))) (by decide +kernel) (hO := mm_own_225) rfl ?_
  have hp : mp_225_15 L xs (d + 1) r1.toInt32 (0 : Int32) (mm_pi M2 84 20 (0 : Int32)) o := by
    refine ms_225_L15 hd h hA (fun r4 M3 h => ?_)
    intro y5 y6 y7 y8
    show mm_Runs L xs (d + 1) 225 (113, [some (.ref 84), y5, y6, y7, y8], [], M3) o
    exact (ms_225_j113 hd h hA : mp_225_113 L xs (d + 1) M3 o) y5 y6 y7 y8
  exact hp none none
-- 226: PlainPacksModel.readSelectors()V (depth 3)
theorem mm_own_226 : mm_own 226 = 12 := rfl
def mp_226_2 (L : Nat) (xs : Nat → Int32) (d : Nat) (v1 : Int32) (M : mm_M) (o : mm_E) : Prop := ∀ z2 z3 z4 : Option Value, mm_Runs L xs d 226 (2, [some (.ref 84), some (.int v1), z2, z3, z4], [], M) o
def mp_226_21 (L : Nat) (xs : Nat → Int32) (d : Nat) (M : mm_M) (o : mm_E) : Prop := ∀ z1 z2 z3 z4 : Option Value, mm_Runs L xs d 226 (21, [some (.ref 84), z1, z2, z3, z4], [], M) o
set_option maxRecDepth 8000 in
set_option maxHeartbeats 4000000 in
theorem ms_226_b2 {L : Nat} {xs : Nat → Int32} {d : Nat} (hd : 3 ≤ d) {v1 : Int32} {M : mm_M} {q : (((Int32) ⊕ (Unit)) ⊕ Nat) × mm_M} {o : mm_E} (h : mf_226_b2 v1 M = some q) (hA : mm_A (mm_K2 (fun s M o => mp_226_2 L xs (d) s M o) (fun r M o => mp_226_21 L xs (d) M o)) q o) : mp_226_2 L xs d v1 M o := by
  unfold mf_226_b2 at h
  obtain ⟨d, rfl⟩ := mm_d1 (n := 2) hd
  intro z2 z3 z4
  show mm_Runs L xs (d + 1) 226 (2, [some (.ref 84), some (.int v1), z2, z3, z4], [], M) o
  refine mm_Runs.seq (l := [(2, .iload_n 1, 1), (3, .bipush 6, 2)]) (S2 := (5, [some (.ref 84), some (.int v1), z2, z3, z4], [.int (6 : Int32), .int v1], M)) (by decide +kernel) (hO := mm_own_226) rfl ?_
  refine mm_R_ige (t := 21) rfl rfl rfl (fun hc => ?_) (fun hc => ?_)
  · replace h := mm_ip hc h
    refine mm_Runs.seq (l := [(8, .aload_n 0, 1), (9, .getfield 47, 3), (12, .iload_n 1, 1), (13, .iload_n 1, 1)]) (S2 := (14, [some (.ref 84), some (.int v1), z2, z3, z4], [.int v1, .int v1, .ref 97], M)) (by decide +kernel) (hO := mm_own_226) rfl ?_
    obtain ⟨hb, h⟩ := mm_gd h
    refine mm_R_iast rfl rfl hb ?_
    refine mm_Runs.seq (l := [(15, .iinc 1 1, 3), (18, .goto (-16), 3)]) (S2 := (2, [some (.ref 84), some (.int (v1 + (1 : Int32))), z2, z3, z4], [], (mm_pi M 97 v1.toNatClampNeg v1))) (by decide +kernel) (hO := mm_own_226) rfl ?_
    cases h
    exact (show mp_226_2 L xs (d + 1) (v1 + (1 : Int32)) (mm_pi M 97 v1.toNatClampNeg v1) o from hA) z2 z3 z4
  · replace h := mm_iq hc h
    cases h
    exact (show mp_226_21 L xs (d + 1) M o from hA) (some (.int v1)) z2 z3 z4
theorem ms_226_L2 {L : Nat} {xs : Nat → Int32} {d : Nat} (hd : 3 ≤ d) {v1 : Int32} {β : Type} {K : β → mm_M → mm_E → Prop} {F : (Unit) → mm_M → mm_O β} {M : mm_M} {q : (β ⊕ Nat) × mm_M} {o : mm_E} (h : mm_B (mf_226_L2 v1 M) F = some q) (hA : mm_A K q o) (hx : ∀ (r : (Unit)) (M2 : mm_M), F r M2 = some q → (fun r M o => mp_226_21 L xs (d) M o) r M2 o) : mp_226_2 L xs d v1 M o := by
  unfold mf_226_L2 at h
  exact mm_R_loop (step := (fun s M => mf_226_b2 s M)) (s := v1) (M := M) (P := (fun s M o => mp_226_2 L xs (d) s M o)) (X := (fun r M o => mp_226_21 L xs (d) M o)) h hA (fun s M q hq hA => ms_226_b2 (v1 := s) (M := M) (q := q) hd hq hA) hx
def mp_226_23 (L : Nat) (xs : Nat → Int32) (d : Nat) (v1 : Int32) (M : mm_M) (o : mm_E) : Prop := ∀ z2 z3 z4 : Option Value, mm_Runs L xs d 226 (23, [some (.ref 84), some (.int v1), z2, z3, z4], [], M) o
def mp_226_137 (L : Nat) (xs : Nat → Int32) (d : Nat) (M : mm_M) (o : mm_E) : Prop := ∀ z0 z1 z2 z3 z4 : Option Value, mm_Runs L xs d 226 (137, [z0, z1, z2, z3, z4], [], M) o
def mp_226_40 (L : Nat) (xs : Nat → Int32) (d : Nat) (v1 : Int32) (v2 : Int32) (M : mm_M) (o : mm_E) : Prop := ∀ z3 z4 : Option Value, mm_Runs L xs d 226 (40, [some (.ref 84), some (.int v1), some (.int v2), z3, z4], [], M) o
def mp_226_73 (L : Nat) (xs : Nat → Int32) (d : Nat) (v1 : Int32) (v2 : Int32) (M : mm_M) (o : mm_E) : Prop := ∀ z3 z4 : Option Value, mm_Runs L xs d 226 (73, [some (.ref 84), some (.int v1), some (.int v2), z3, z4], [], M) o
set_option maxRecDepth 8000 in
set_option maxHeartbeats 4000000 in
theorem ms_226_b40 {L : Nat} {xs : Nat → Int32} {d : Nat} (hd : 3 ≤ d) {v1 : Int32} {v2 : Int32} {M : mm_M} {q : (((Int32) ⊕ (Int32)) ⊕ Nat) × mm_M} {o : mm_E} (h : mf_226_b40 v1 v2 M = some q) (hA : mm_A (mm_K2 (fun s M o => mp_226_40 L xs (d) v1 s M o) (fun r M o => mp_226_73 L xs (d) v1 r M o)) q o) : mp_226_40 L xs d v1 v2 M o := by
  unfold mf_226_b40 at h
  obtain ⟨d, rfl⟩ := mm_d1 (n := 2) hd
  intro z3 z4
  show mm_Runs L xs (d + 1) 226 (40, [some (.ref 84), some (.int v1), some (.int v2), z3, z4], [], M) o
  refine mm_Runs.seq (l := [(40, .aload_n 0, 1), (41, .getfield 154, 3)]) (S2 := (44, [some (.ref 84), some (.int v1), some (.int v2), z3, z4], [.int (M.1 84 7)], M)) (by decide +kernel) (hO := mm_own_226) rfl ?_
  refine mm_R_zne (t := 73) rfl rfl rfl (fun hc => ?_) (fun hc => ?_)
  · replace h := mm_ip hc h
    refine mm_Runs.seq (l := [(47, .aload_n 0, 1)]) (S2 := (48, [some (.ref 84), some (.int v1), some (.int v2), z3, z4], [.ref 84], M)) (by decide +kernel) (hO := mm_own_226) rfl ?_
    refine mm_R_call (v := mm_wi) h hA (k2 := 197) (as := [.ref 84]) (r := []) rfl (fun _ => rfl) (fun q hq o ho => ms_197 (by omega) hq ho) (fun r1 M2 h => ?_)
    show mm_Runs L xs (d + 1) 226 (51, [some (.ref 84), some (.int v1), some (.int v2), z3, z4], [.int r1], M2) o
    refine mm_Runs.seq (l := [(51, .iconst 1, 1)]) (S2 := (52, [some (.ref 84), some (.int v1), some (.int v2), z3, z4], [.int (1 : Int32), .int r1], M2)) (by decide +kernel) (hO := mm_own_226) rfl ?_
    refine mm_R_ine (t := 73) rfl rfl rfl (fun hc => ?_) (fun hc => ?_)
    · replace h := mm_ip hc h
      refine mm_Runs.seq (l := [(55, .iinc 2 1, 3), (58, .iload_n 2, 1), (59, .aload_n 0, 1), (60, .getfield 292, 3)]) (S2 := (63, [some (.ref 84), some (.int v1), some (.int (v2 + (1 : Int32))), z3, z4], [.int (M2.1 84 29), .int (v2 + (1 : Int32))], M2)) (by decide +kernel) (hO := mm_own_226) rfl ?_
      refine mm_R_ilt (t := 40) rfl rfl rfl (fun hc => ?_) (fun hc => ?_)
      · replace h := mm_ip hc h
        cases h
        exact (show mp_226_40 L xs (d + 1) v1 (v2 + (1 : Int32)) M2 o from hA) z3 z4
      · replace h := mm_iq hc h
        refine mm_Runs.seq (l := [(66, .aload_n 0, 1)]) (S2 := (67, [some (.ref 84), some (.int v1), some (.int (v2 + (1 : Int32))), z3, z4], [.ref 84], M2)) (by decide +kernel) (hO := mm_own_226) rfl ?_
        refine mm_R_call (v := mm_wv) h hA (k2 := 190) (as := [.ref 84]) (r := []) rfl (fun _ => rfl) (fun q hq o ho => ms_190 (by omega) hq ho) (fun _ M3 h => ?_)
        show mm_Runs L xs (d + 1) 226 (70, [some (.ref 84), some (.int v1), some (.int (v2 + (1 : Int32))), z3, z4], [], M3) o
        refine mm_Runs.seq (l := [(70, .goto (-30), 3)]) (S2 := (40, [some (.ref 84), some (.int v1), some (.int (v2 + (1 : Int32))), z3, z4], [], M3)) (by decide +kernel) (hO := mm_own_226) rfl ?_
        cases h
        exact (show mp_226_40 L xs (d + 1) v1 (v2 + (1 : Int32)) M3 o from hA) z3 z4
    · replace h := mm_iq hc h
      cases h
      exact (show mp_226_73 L xs (d + 1) v1 v2 M2 o from hA) z3 z4
  · replace h := mm_iq hc h
    cases h
    exact (show mp_226_73 L xs (d + 1) v1 v2 M o from hA) z3 z4
theorem ms_226_L40 {L : Nat} {xs : Nat → Int32} {d : Nat} (hd : 3 ≤ d) {v1 : Int32} {v2 : Int32} {β : Type} {K : β → mm_M → mm_E → Prop} {F : (Int32) → mm_M → mm_O β} {M : mm_M} {q : (β ⊕ Nat) × mm_M} {o : mm_E} (h : mm_B (mf_226_L40 v1 v2 M) F = some q) (hA : mm_A K q o) (hx : ∀ (r : (Int32)) (M2 : mm_M), F r M2 = some q → (fun r M o => mp_226_73 L xs (d) v1 r M o) r M2 o) : mp_226_40 L xs d v1 v2 M o := by
  unfold mf_226_L40 at h
  exact mm_R_loop (step := (fun s M => mf_226_b40 v1 s M)) (s := v2) (M := M) (P := (fun s M o => mp_226_40 L xs (d) v1 s M o)) (X := (fun r M o => mp_226_73 L xs (d) v1 r M o)) h hA (fun s M q hq hA => ms_226_b40 (v1 := v1) (v2 := s) (M := M) (q := q) hd hq hA) hx
def mp_226_90 (L : Nat) (xs : Nat → Int32) (d : Nat) (v1 : Int32) (v3 : Int32) (v4 : Int32) (M : mm_M) (o : mm_E) : Prop := ∀ z2 : Option Value, mm_Runs L xs d 226 (90, [some (.ref 84), some (.int v1), z2, some (.int v3), some (.int v4)], [], M) o
def mp_226_117 (L : Nat) (xs : Nat → Int32) (d : Nat) (v1 : Int32) (v3 : Int32) (M : mm_M) (o : mm_E) : Prop := ∀ z2 z4 : Option Value, mm_Runs L xs d 226 (117, [some (.ref 84), some (.int v1), z2, some (.int v3), z4], [], M) o
set_option maxRecDepth 8000 in
set_option maxHeartbeats 4000000 in
theorem ms_226_b90 {L : Nat} {xs : Nat → Int32} {d : Nat} (hd : 3 ≤ d) {v1 : Int32} {v3 : Int32} {v4 : Int32} {M : mm_M} {q : (((Int32) ⊕ (Unit)) ⊕ Nat) × mm_M} {o : mm_E} (h : mf_226_b90 v1 v3 v4 M = some q) (hA : mm_A (mm_K2 (fun s M o => mp_226_90 L xs (d) v1 v3 s M o) (fun r M o => mp_226_117 L xs (d) v1 v3 M o)) q o) : mp_226_90 L xs d v1 v3 v4 M o := by
  unfold mf_226_b90 at h
  obtain ⟨d, rfl⟩ := mm_d1 (n := 2) hd
  intro z2
  show mm_Runs L xs (d + 1) 226 (90, [some (.ref 84), some (.int v1), z2, some (.int v3), some (.int v4)], [], M) o
  refine mm_Runs.seq (l := [(90, .iload 4, 2)]) (S2 := (92, [some (.ref 84), some (.int v1), z2, some (.int v3), some (.int v4)], [.int v4], M)) (by decide +kernel) (hO := mm_own_226) rfl ?_
  refine mm_R_zle (t := 117) rfl rfl rfl (fun hc => ?_) (fun hc => ?_)
  · replace h := mm_ip hc h
    refine mm_Runs.seq (l := [(95, .aload_n 0, 1), (96, .getfield 47, 3), (99, .iload 4, 2), (101, .aload_n 0, 1), (102, .getfield 47, 3), (105, .iload 4, 2), (107, .iconst 1, 1), (108, .isub, 1)]) (S2 := (109, [some (.ref 84), some (.int v1), z2, some (.int v3), some (.int v4)], [.int (v4 - (1 : Int32)), .ref 97, .int v4, .ref 97], M)) (by decide +kernel) (hO := mm_own_226) rfl ?_
    obtain ⟨hb, h⟩ := mm_gd h
    refine mm_R_iald rfl rfl hb ?_
    obtain ⟨hb, h⟩ := mm_gd h
    refine mm_R_iast rfl rfl hb ?_
    refine mm_Runs.seq (l := [(111, .iinc 4 (-1), 3), (114, .goto (-24), 3)]) (S2 := (90, [some (.ref 84), some (.int v1), z2, some (.int v3), some (.int (v4 + (-1 : Int32)))], [], (mm_pi M 97 v4.toNatClampNeg (M.1 97 (v4 - (1 : Int32)).toNatClampNeg)))) (by decide +kernel) (hO := mm_own_226) rfl ?_
    cases h
    exact (show mp_226_90 L xs (d + 1) v1 v3 (v4 + (-1 : Int32)) (mm_pi M 97 v4.toNatClampNeg (M.1 97 (v4 - (1 : Int32)).toNatClampNeg)) o from hA) z2
  · replace h := mm_iq hc h
    cases h
    exact (show mp_226_117 L xs (d + 1) v1 v3 M o from hA) z2 (some (.int v4))
theorem ms_226_L90 {L : Nat} {xs : Nat → Int32} {d : Nat} (hd : 3 ≤ d) {v1 : Int32} {v3 : Int32} {v4 : Int32} {β : Type} {K : β → mm_M → mm_E → Prop} {F : (Unit) → mm_M → mm_O β} {M : mm_M} {q : (β ⊕ Nat) × mm_M} {o : mm_E} (h : mm_B (mf_226_L90 v1 v3 v4 M) F = some q) (hA : mm_A K q o) (hx : ∀ (r : (Unit)) (M2 : mm_M), F r M2 = some q → (fun r M o => mp_226_117 L xs (d) v1 v3 M o) r M2 o) : mp_226_90 L xs d v1 v3 v4 M o := by
  unfold mf_226_L90 at h
  exact mm_R_loop (step := (fun s M => mf_226_b90 v1 v3 s M)) (s := v4) (M := M) (P := (fun s M o => mp_226_90 L xs (d) v1 v3 s M o)) (X := (fun r M o => mp_226_117 L xs (d) v1 v3 M o)) h hA (fun s M q hq hA => ms_226_b90 (v1 := v1) (v3 := v3) (v4 := s) (M := M) (q := q) hd hq hA) hx
set_option maxRecDepth 8000 in
set_option maxHeartbeats 4000000 in
theorem ms_226_j117 {L : Nat} {xs : Nat → Int32} {d : Nat} (hd : 3 ≤ d) {v1 : Int32} {v3 : Int32} {M : mm_M} {q : (((Int32) ⊕ (Unit)) ⊕ Nat) × mm_M} {o : mm_E} (h : mf_226_j117 v1 v3 M = some q) (hA : mm_A (mm_K2 (fun s M o => mp_226_23 L xs (d) s M o) (fun r M o => mp_226_137 L xs (d) M o)) q o) : mp_226_117 L xs d v1 v3 M o := by
  unfold mf_226_j117 at h
  obtain ⟨d, rfl⟩ := mm_d1 (n := 2) hd
  intro z2 z4
  show mm_Runs L xs (d + 1) 226 (117, [some (.ref 84), some (.int v1), z2, some (.int v3), z4], [], M) o
  refine mm_Runs.seq (l := [(117, .aload_n 0, 1), (118, .getfield 47, 3), (121, .iconst 0, 1), (122, .iload_n 3, 1)]) (S2 := (123, [some (.ref 84), some (.int v1), z2, some (.int v3), z4], [.int v3, .int (0 : Int32), .ref 97], M)) (by decide +kernel) (hO := mm_own_226) rfl ?_
  obtain ⟨hb, h⟩ := mm_gd h
  refine mm_R_iast rfl rfl hb ?_
  refine mm_Runs.seq (l := [(124, .aload_n 0, 1), (125, .getfield 35, 3), (128, .iload_n 1, 1), (129, .iload_n 3, 1)]) (S2 := (130, [some (.ref 84), some (.int v1), z2, some (.int v3), z4], [.int v3, .int v1, .ref 93], (mm_pi M 97 (0 : Int32).toNatClampNeg v3))) (by decide +kernel) (hO := mm_own_226) rfl ?_
  obtain ⟨hb, h⟩ := mm_gd h
  refine mm_R_iast rfl rfl hb ?_
  refine mm_Runs.seq (l := [(131, .iinc 1 1, 3), (134, .goto (-111), 3)]) (S2 := (23, [some (.ref 84), some (.int (v1 + (1 : Int32))), z2, some (.int v3), z4], [], (mm_pi (mm_pi M 97 (0 : Int32).toNatClampNeg v3) 93 v1.toNatClampNeg v3))) (by decide +kernel) (hO := mm_own_226) rfl ?_
  cases h
  exact (show mp_226_23 L xs (d + 1) (v1 + (1 : Int32)) (mm_pi (mm_pi M 97 (0 : Int32).toNatClampNeg v3) 93 v1.toNatClampNeg v3) o from hA) z2 (some (.int v3)) z4
set_option maxRecDepth 8000 in
set_option maxHeartbeats 4000000 in
theorem ms_226_j73 {L : Nat} {xs : Nat → Int32} {d : Nat} (hd : 3 ≤ d) {v1 : Int32} {v2 : Int32} {M : mm_M} {q : (((Int32) ⊕ (Unit)) ⊕ Nat) × mm_M} {o : mm_E} (h : mf_226_j73 v1 v2 M = some q) (hA : mm_A (mm_K2 (fun s M o => mp_226_23 L xs (d) s M o) (fun r M o => mp_226_137 L xs (d) M o)) q o) : mp_226_73 L xs d v1 v2 M o := by
  unfold mf_226_j73 at h
  obtain ⟨d, rfl⟩ := mm_d1 (n := 2) hd
  intro z3 z4
  show mm_Runs L xs (d + 1) 226 (73, [some (.ref 84), some (.int v1), some (.int v2), z3, z4], [], M) o
  refine mm_Runs.seq (l := [(73, .aload_n 0, 1), (74, .getfield 154, 3)]) (S2 := (77, [some (.ref 84), some (.int v1), some (.int v2), z3, z4], [.int (M.1 84 7)], M)) (by decide +kernel) (hO := mm_own_226) rfl ?_
  refine mm_R_zne (t := 131) rfl rfl rfl (fun hc => ?_) (fun hc => ?_)
  · replace h := mm_ip hc h
    refine mm_Runs.seq (l := [(80, .aload_n 0, 1), (81, .getfield 47, 3), (84, .iload_n 2, 1)]) (S2 := (85, [some (.ref 84), some (.int v1), some (.int v2), z3, z4], [.int v2, .ref 97], M)) (by decide +kernel) (hO := mm_own_226) rfl ?_
    obtain ⟨hb, h⟩ := mm_gd h
    refine mm_R_iald rfl rfl hb ?_
    refine mm_Runs.seq (l := [(86, .istore_n 3, 1), (87, .iload_n 2, 1), (88, .istore 4, 2)]) (S2 := (90, [some (.ref 84), some (.int v1), some (.int v2), some (.int (M.1 97 v2.toNatClampNeg)), some (.int v2)], [], M)) (by decide +kernel) (hO := mm_own_226) rfl ?_
    have hp : mp_226_90 L xs (d + 1) v1 (M.1 97 v2.toNatClampNeg) v2 M o := by
      refine ms_226_L90 hd h hA (fun r2 M1 h => ?_)
      intro y3 y4
      show mm_Runs L xs (d + 1) 226 (117, [some (.ref 84), some (.int v1), y3, some (.int (M.1 97 v2.toNatClampNeg)), y4], [], M1) o
      exact (ms_226_j117 hd h hA : mp_226_117 L xs (d + 1) v1 (M.1 97 v2.toNatClampNeg) M1 o) y3 y4
    exact hp (some (.int v2))
  · replace h := mm_iq hc h
    refine mm_Runs.seq (l := [(131, .iinc 1 1, 3), (134, .goto (-111), 3)]) (S2 := (23, [some (.ref 84), some (.int (v1 + (1 : Int32))), some (.int v2), z3, z4], [], M)) (by decide +kernel) (hO := mm_own_226) rfl ?_
    cases h
    exact (show mp_226_23 L xs (d + 1) (v1 + (1 : Int32)) M o from hA) (some (.int v2)) z3 z4
set_option maxRecDepth 8000 in
set_option maxHeartbeats 4000000 in
theorem ms_226_b23 {L : Nat} {xs : Nat → Int32} {d : Nat} (hd : 3 ≤ d) {v1 : Int32} {M : mm_M} {q : (((Int32) ⊕ (Unit)) ⊕ Nat) × mm_M} {o : mm_E} (h : mf_226_b23 v1 M = some q) (hA : mm_A (mm_K2 (fun s M o => mp_226_23 L xs (d) s M o) (fun r M o => mp_226_137 L xs (d) M o)) q o) : mp_226_23 L xs d v1 M o := by
  unfold mf_226_b23 at h
  obtain ⟨d, rfl⟩ := mm_d1 (n := 2) hd
  intro z2 z3 z4
  show mm_Runs L xs (d + 1) 226 (23, [some (.ref 84), some (.int v1), z2, z3, z4], [], M) o
  refine mm_Runs.seq (l := [(23, .iload_n 1, 1), (24, .aload_n 0, 1), (25, .getfield 295, 3)]) (S2 := (28, [some (.ref 84), some (.int v1), z2, z3, z4], [.int (M.1 84 30), .int v1], M)) (by decide +kernel) (hO := mm_own_226) rfl ?_
  refine mm_R_ige (t := 137) rfl rfl rfl (fun hc => ?_) (fun hc => ?_)
  · replace h := mm_ip hc h
    refine mm_Runs.seq (l := [(31, .aload_n 0, 1), (32, .getfield 154, 3)]) (S2 := (35, [some (.ref 84), some (.int v1), z2, z3, z4], [.int (M.1 84 7)], M)) (by decide +kernel) (hO := mm_own_226) rfl ?_
    refine mm_R_zne (t := 137) rfl rfl rfl (fun hc => ?_) (fun hc => ?_)
    · replace h := mm_ip hc h
      refine mm_Runs.seq (l := [(38, .iconst 0, 1), (39, .istore_n 2, 1)]) (S2 := (40, [some (.ref 84), some (.int v1), some (.int (0 : Int32)), z3, z4], [], M)) (by decide +kernel) (hO := mm_own_226) rfl ?_
      have hp : mp_226_40 L xs (d + 1) v1 (0 : Int32) M o := by
        refine ms_226_L40 hd h hA (fun r2 M1 h => ?_)
        intro y3 y4
        show mm_Runs L xs (d + 1) 226 (73, [some (.ref 84), some (.int v1), some (.int r2), y3, y4], [], M1) o
        exact (ms_226_j73 hd h hA : mp_226_73 L xs (d + 1) v1 r2 M1 o) y3 y4
      exact hp z3 z4
    · replace h := mm_iq hc h
      cases h
      exact (show mp_226_137 L xs (d + 1) M o from hA) (some (.ref 84)) (some (.int v1)) z2 z3 z4
  · replace h := mm_iq hc h
    cases h
    exact (show mp_226_137 L xs (d + 1) M o from hA) (some (.ref 84)) (some (.int v1)) z2 z3 z4
theorem ms_226_L23 {L : Nat} {xs : Nat → Int32} {d : Nat} (hd : 3 ≤ d) {v1 : Int32} {β : Type} {K : β → mm_M → mm_E → Prop} {F : (Unit) → mm_M → mm_O β} {M : mm_M} {q : (β ⊕ Nat) × mm_M} {o : mm_E} (h : mm_B (mf_226_L23 v1 M) F = some q) (hA : mm_A K q o) (hx : ∀ (r : (Unit)) (M2 : mm_M), F r M2 = some q → (fun r M o => mp_226_137 L xs (d) M o) r M2 o) : mp_226_23 L xs d v1 M o := by
  unfold mf_226_L23 at h
  exact mm_R_loop (step := (fun s M => mf_226_b23 s M)) (s := v1) (M := M) (P := (fun s M o => mp_226_23 L xs (d) s M o)) (X := (fun r M o => mp_226_137 L xs (d) M o)) h hA (fun s M q hq hA => ms_226_b23 (v1 := s) (M := M) (q := q) hd hq hA) hx
set_option maxRecDepth 8000 in
set_option maxHeartbeats 4000000 in
theorem ms_226 {L : Nat} {xs : Nat → Int32} {d : Nat} (hd : 3 ≤ d) {M : mm_M} {q : (Unit ⊕ Nat) × mm_M} {o : mm_E} (h : mf_226 M = some q) (hA : mm_A (mm_Kr mm_wv) q o) : mm_Runs L xs d 226 (0, mm_ent (mm_ml 226) [.ref 84], [], M) o := by
  unfold mf_226 at h
  obtain ⟨d, rfl⟩ := mm_d1 (n := 2) hd
  show mm_Runs L xs (d + 1) 226 (0, [some (.ref 84), none, none, none, none], [], M) o
  refine mm_Runs.seq (l := [(0, .iconst 0, 1), (1, .istore_n 1, 1)]) (S2 := (2, [some (.ref 84), some (.int (0 : Int32)), none, none, none], [], M)) (by decide +kernel) (hO := mm_own_226) rfl ?_
  have hp : mp_226_2 L xs (d + 1) (0 : Int32) M o := by
    refine ms_226_L2 hd h hA (fun r2 M1 h => ?_)
    intro y3 y4 y5 y6
    show mm_Runs L xs (d + 1) 226 (21, [some (.ref 84), y3, y4, y5, y6], [], M1) o
    refine mm_Runs.seq (l := [(21, .iconst 0, 1), (22, .istore_n 1, 1)]) (S2 := (23, [some (.ref 84), some (.int (0 : Int32)), y4, y5, y6], [], M1)) (by decide +kernel) (hO := mm_own_226) rfl ?_
    have hp : mp_226_23 L xs (d + 1) (0 : Int32) M1 o := by
      refine ms_226_L23 hd h hA (fun r8 M7 h => ?_)
      intro y9 y10 y11 y12 y13
      show mm_Runs L xs (d + 1) 226 (137, [y9, y10, y11, y12, y13], [], M7) o
      cases h
      exact mm_R_retv rfl rfl hA
    exact hp y4 y5 y6
  exact hp none none none
