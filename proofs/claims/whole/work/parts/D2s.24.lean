/-! MEANINGS ARE SOUND 24 -/
-- 244: PlainPacksModel.open(I)I (depth 8)
theorem mm_own_244 : mm_own 244 = 12 := rfl
def mp_244_15 (L : Nat) (xs : Nat → Int32) (d : Nat) (v1 : Int32) (M : mm_M) (o : mm_E) : Prop := mm_Runs L xs d 244 (15, [some (.ref 84), some (.int v1)], [.ref 84], M) o
def mp_244_16 (L : Nat) (xs : Nat → Int32) (d : Nat) (v1 : Int32) (s1 : Int32) (M : mm_M) (o : mm_E) : Prop := mm_Runs L xs d 244 (16, [some (.ref 84), some (.int v1)], [.int s1, .ref 84], M) o
def mp_244_221 (L : Nat) (xs : Nat → Int32) (d : Nat) (M : mm_M) (o : mm_E) : Prop := ∀ z1 : Option Value, mm_Runs L xs d 244 (221, [some (.ref 84), z1], [], M) o
set_option maxRecDepth 8000 in
set_option maxHeartbeats 4000000 in
theorem ms_244_j221 {L : Nat} {xs : Nat → Int32} {d : Nat} (hd : 8 ≤ d) {M : mm_M} {q : (Int32 ⊕ Nat) × mm_M} {o : mm_E} (h : mf_244_j221 M = some q) (hA : mm_A (mm_Kr mm_wi) q o) : mp_244_221 L xs d M o := by
  unfold mf_244_j221 at h
  obtain ⟨d, rfl⟩ := mm_d1 (n := 7) hd
  intro z1
  show mm_Runs L xs (d + 1) 244 (221, [some (.ref 84), z1], [], M) o
  refine mm_Runs.seq (l := [(221, .aload_n 0, 1), (222, .getfield 154, 3)]) (S2 := (225, [some (.ref 84), z1], [.int (M.1 84 7)], M)) (by decide +kernel) (hO := mm_own_244) rfl ?_
  refine mm_R_zeq (t := 237) rfl rfl rfl (fun hc => ?_) (fun hc => ?_)
  · replace h := mm_ip hc h
    refine mm_Runs.seq (l := [(237, .aload_n 0, 1), (238, .getfield 98, 3)]) (S2 := (241, [some (.ref 84), z1], [.int (M.1 84 4)], M)) (by decide +kernel) (hO := mm_own_244) rfl ?_
    cases h
    exact mm_R_reti rfl rfl hA
  · replace h := mm_iq hc h
    refine mm_Runs.seq (l := [(228, .iconst (-1), 1), (229, .aload_n 0, 1), (230, .getfield 101, 3), (233, .isub, 1), (234, .goto 7, 3)]) (S2 := (241, [some (.ref 84), z1], [.int ((-1 : Int32) - (M.1 84 5))], M)) (by decide +kernel) (hO := mm_own_244) rfl ?_
    cases h
    exact mm_R_reti rfl rfl hA
set_option maxRecDepth 8000 in
set_option maxHeartbeats 4000000 in
theorem ms_244_j16 {L : Nat} {xs : Nat → Int32} {d : Nat} (hd : 8 ≤ d) {v1 : Int32} {s1 : Int32} {M : mm_M} {q : (Int32 ⊕ Nat) × mm_M} {o : mm_E} (h : mf_244_j16 v1 s1 M = some q) (hA : mm_A (mm_Kr mm_wi) q o) : mp_244_16 L xs d v1 s1 M o := by
  unfold mf_244_j16 at h
  obtain ⟨d, rfl⟩ := mm_d1 (n := 7) hd
  show mm_Runs L xs (d + 1) 244 (16, [some (.ref 84), some (.int v1)], [.int s1, .ref 84], M) o
  refine mm_R_call (v := mm_wi) h hA (k2 := 174) (as := [.ref 84, .int s1]) (r := []) rfl (fun _ => rfl) (fun q hq o ho => ms_174 (by omega) hq ho) (fun r1 M2 h => ?_)
  show mm_Runs L xs (d + 1) 244 (19, [some (.ref 84), some (.int v1)], [.int r1], M2) o
  refine mm_R_zne (t := 24) rfl rfl rfl (fun hc => ?_) (fun hc => ?_)
  · replace h := mm_ip hc h
    refine mm_Runs.seq (l := [(22, .iconst 0, 1)]) (S2 := (23, [some (.ref 84), some (.int v1)], [.int (0 : Int32)], M2)) (by decide +kernel) (hO := mm_own_244) rfl ?_
    cases h
    exact mm_R_reti rfl rfl hA
  · replace h := mm_iq hc h
    refine mm_Runs.seq (l := [(24, .aload_n 0, 1), (25, .iconst 0, 1), (26, .putfield 101, 3), (29, .aload_n 0, 1), (30, .ldc_w 271, 3), (33, .putfield 158, 3), (36, .aload_n 0, 1), (37, .iconst 0, 1), (38, .putfield 154, 3), (41, .aload_n 0, 1), (42, .iconst 0, 1), (43, .putfield 98, 3), (46, .aload_n 0, 1), (47, .iconst 0, 1), (48, .putfield 104, 3), (51, .aload_n 0, 1), (52, .iconst 0, 1), (53, .putfield 107, 3), (56, .aload_n 0, 1), (57, .iconst 0, 1), (58, .putfield 110, 3), (61, .aload_n 0, 1), (62, .iconst 0, 1), (63, .putfield 113, 3), (66, .aload_n 0, 1), (67, .iconst 0, 1), (68, .putfield 116, 3), (71, .aload_n 0, 1), (72, .iconst 0, 1), (73, .putfield 172, 3), (76, .iload_n 1, 1)]) (S2 := (77, [some (.ref 84), some (.int v1)], [.int v1], (mm_pi (mm_pi (mm_pi (mm_pi (mm_pi (mm_pi (mm_pi (mm_pi (mm_pi (mm_pi M2 84 5 (0 : Int32)) 84 6 (1000000000 : Int32)) 84 7 (0 : Int32)) 84 4 (0 : Int32)) 84 8 (0 : Int32)) 84 9 (0 : Int32)) 84 10 (0 : Int32)) 84 11 (0 : Int32)) 84 12 (0 : Int32)) 84 15 (0 : Int32)))) (by decide +kernel) (hO := mm_own_244) rfl ?_
    by_cases hc0 : v1 = (0 : Int32)
    · replace h := mm_ip hc0 h
      refine mm_R_sw (t := 132) rfl rfl rfl (by rw [hc0]; rfl) ?_
      refine mm_Runs.seq (l := [(132, .aload_n 0, 1)]) (S2 := (133, [some (.ref 84), some (.int v1)], [.ref 84], (mm_pi (mm_pi (mm_pi (mm_pi (mm_pi (mm_pi (mm_pi (mm_pi (mm_pi (mm_pi M2 84 5 (0 : Int32)) 84 6 (1000000000 : Int32)) 84 7 (0 : Int32)) 84 4 (0 : Int32)) 84 8 (0 : Int32)) 84 9 (0 : Int32)) 84 10 (0 : Int32)) 84 11 (0 : Int32)) 84 12 (0 : Int32)) 84 15 (0 : Int32)))) (by decide +kernel) (hO := mm_own_244) rfl ?_
      refine mm_R_call (v := mm_wv) h hA (k2 := 214) (as := [.ref 84]) (r := []) rfl (fun _ => rfl) (fun q hq o ho => ms_214 (by omega) hq ho) (fun _ M3 h => ?_)
      show mm_Runs L xs (d + 1) 244 (136, [some (.ref 84), some (.int v1)], [], M3) o
      refine mm_Runs.seq (l := [(136, .goto 85, 3)]) (S2 := (221, [some (.ref 84), some (.int v1)], [], M3)) (by decide +kernel) (hO := mm_own_244) rfl ?_
      exact (ms_244_j221 hd h hA : mp_244_221 L xs (d + 1) M3 o) (some (.int v1))
    replace h := mm_iq hc0 h
    by_cases hc1 : v1 = (1 : Int32)
    · replace h := mm_ip hc1 h
      refine mm_R_sw (t := 139) rfl rfl rfl (by rw [hc1]; rfl) ?_
      refine mm_Runs.seq (l := [(139, .aload_n 0, 1), (140, .ldc 122, 2)]) (S2 := (142, [some (.ref 84), some (.int v1)], [.int (65536 : Int32), .ref 84], (mm_pi (mm_pi (mm_pi (mm_pi (mm_pi (mm_pi (mm_pi (mm_pi (mm_pi (mm_pi M2 84 5 (0 : Int32)) 84 6 (1000000000 : Int32)) 84 7 (0 : Int32)) 84 4 (0 : Int32)) 84 8 (0 : Int32)) 84 9 (0 : Int32)) 84 10 (0 : Int32)) 84 11 (0 : Int32)) 84 12 (0 : Int32)) 84 15 (0 : Int32)))) (by decide +kernel) (hO := mm_own_244) rfl ?_
      refine mm_R_call (v := mm_wv) h hA (k2 := 203) (as := [.ref 84, .int (65536 : Int32)]) (r := []) rfl (fun _ => rfl) (fun q hq o ho => ms_203 (by omega) hq ho) (fun _ M4 h => ?_)
      show mm_Runs L xs (d + 1) 244 (145, [some (.ref 84), some (.int v1)], [], M4) o
      refine mm_Runs.seq (l := [(145, .goto 76, 3)]) (S2 := (221, [some (.ref 84), some (.int v1)], [], M4)) (by decide +kernel) (hO := mm_own_244) rfl ?_
      exact (ms_244_j221 hd h hA : mp_244_221 L xs (d + 1) M4 o) (some (.int v1))
    replace h := mm_iq hc1 h
    by_cases hc2 : v1 = (2 : Int32)
    · replace h := mm_ip hc2 h
      refine mm_R_sw (t := 148) rfl rfl rfl (by rw [hc2]; rfl) ?_
      refine mm_Runs.seq (l := [(148, .aload_n 0, 1)]) (S2 := (149, [some (.ref 84), some (.int v1)], [.ref 84], (mm_pi (mm_pi (mm_pi (mm_pi (mm_pi (mm_pi (mm_pi (mm_pi (mm_pi (mm_pi M2 84 5 (0 : Int32)) 84 6 (1000000000 : Int32)) 84 7 (0 : Int32)) 84 4 (0 : Int32)) 84 8 (0 : Int32)) 84 9 (0 : Int32)) 84 10 (0 : Int32)) 84 11 (0 : Int32)) 84 12 (0 : Int32)) 84 15 (0 : Int32)))) (by decide +kernel) (hO := mm_own_244) rfl ?_
      refine mm_R_call (v := mm_wv) h hA (k2 := 210) (as := [.ref 84]) (r := []) rfl (fun _ => rfl) (fun q hq o ho => ms_210 (by omega) hq ho) (fun _ M5 h => ?_)
      show mm_Runs L xs (d + 1) 244 (152, [some (.ref 84), some (.int v1)], [], M5) o
      refine mm_Runs.seq (l := [(152, .goto 69, 3)]) (S2 := (221, [some (.ref 84), some (.int v1)], [], M5)) (by decide +kernel) (hO := mm_own_244) rfl ?_
      exact (ms_244_j221 hd h hA : mp_244_221 L xs (d + 1) M5 o) (some (.int v1))
    replace h := mm_iq hc2 h
    by_cases hc3 : v1 = (3 : Int32)
    · replace h := mm_ip hc3 h
      refine mm_R_sw (t := 155) rfl rfl rfl (by rw [hc3]; rfl) ?_
      refine mm_Runs.seq (l := [(155, .aload_n 0, 1)]) (S2 := (156, [some (.ref 84), some (.int v1)], [.ref 84], (mm_pi (mm_pi (mm_pi (mm_pi (mm_pi (mm_pi (mm_pi (mm_pi (mm_pi (mm_pi M2 84 5 (0 : Int32)) 84 6 (1000000000 : Int32)) 84 7 (0 : Int32)) 84 4 (0 : Int32)) 84 8 (0 : Int32)) 84 9 (0 : Int32)) 84 10 (0 : Int32)) 84 11 (0 : Int32)) 84 12 (0 : Int32)) 84 15 (0 : Int32)))) (by decide +kernel) (hO := mm_own_244) rfl ?_
      refine mm_R_call (v := mm_wv) h hA (k2 := 212) (as := [.ref 84]) (r := []) rfl (fun _ => rfl) (fun q hq o ho => ms_212 (by omega) hq ho) (fun _ M6 h => ?_)
      show mm_Runs L xs (d + 1) 244 (159, [some (.ref 84), some (.int v1)], [], M6) o
      refine mm_Runs.seq (l := [(159, .goto 62, 3)]) (S2 := (221, [some (.ref 84), some (.int v1)], [], M6)) (by decide +kernel) (hO := mm_own_244) rfl ?_
      exact (ms_244_j221 hd h hA : mp_244_221 L xs (d + 1) M6 o) (some (.int v1))
    replace h := mm_iq hc3 h
    by_cases hc4 : v1 = (4 : Int32)
    · replace h := mm_ip hc4 h
      refine mm_R_sw (t := 162) rfl rfl rfl (by rw [hc4]; rfl) ?_
      refine mm_Runs.seq (l := [(162, .aload_n 0, 1)]) (S2 := (163, [some (.ref 84), some (.int v1)], [.ref 84], (mm_pi (mm_pi (mm_pi (mm_pi (mm_pi (mm_pi (mm_pi (mm_pi (mm_pi (mm_pi M2 84 5 (0 : Int32)) 84 6 (1000000000 : Int32)) 84 7 (0 : Int32)) 84 4 (0 : Int32)) 84 8 (0 : Int32)) 84 9 (0 : Int32)) 84 10 (0 : Int32)) 84 11 (0 : Int32)) 84 12 (0 : Int32)) 84 15 (0 : Int32)))) (by decide +kernel) (hO := mm_own_244) rfl ?_
      refine mm_R_call (v := mm_wv) h hA (k2 := 216) (as := [.ref 84]) (r := []) rfl (fun _ => rfl) (fun q hq o ho => ms_216 (by omega) hq ho) (fun _ M7 h => ?_)
      show mm_Runs L xs (d + 1) 244 (166, [some (.ref 84), some (.int v1)], [], M7) o
      refine mm_Runs.seq (l := [(166, .goto 55, 3)]) (S2 := (221, [some (.ref 84), some (.int v1)], [], M7)) (by decide +kernel) (hO := mm_own_244) rfl ?_
      exact (ms_244_j221 hd h hA : mp_244_221 L xs (d + 1) M7 o) (some (.int v1))
    replace h := mm_iq hc4 h
    by_cases hc5 : v1 = (5 : Int32)
    · replace h := mm_ip hc5 h
      refine mm_R_sw (t := 169) rfl rfl rfl (by rw [hc5]; rfl) ?_
      refine mm_Runs.seq (l := [(169, .aload_n 0, 1), (170, .iconst 1, 1), (171, .putfield 178, 3), (174, .aload_n 0, 1), (175, .bipush 8, 2), (177, .iconst 1, 1)]) (S2 := (178, [some (.ref 84), some (.int v1)], [.int (1 : Int32), .int (8 : Int32), .ref 84], (mm_pi (mm_pi (mm_pi (mm_pi (mm_pi (mm_pi (mm_pi (mm_pi (mm_pi (mm_pi (mm_pi M2 84 5 (0 : Int32)) 84 6 (1000000000 : Int32)) 84 7 (0 : Int32)) 84 4 (0 : Int32)) 84 8 (0 : Int32)) 84 9 (0 : Int32)) 84 10 (0 : Int32)) 84 11 (0 : Int32)) 84 12 (0 : Int32)) 84 15 (0 : Int32)) 84 13 (1 : Int32)))) (by decide +kernel) (hO := mm_own_244) rfl ?_
      refine mm_R_call (v := mm_wv) h hA (k2 := 215) (as := [.ref 84, .int (8 : Int32), .int (1 : Int32)]) (r := []) rfl (fun _ => rfl) (fun q hq o ho => ms_215 (by omega) hq ho) (fun _ M8 h => ?_)
      show mm_Runs L xs (d + 1) 244 (181, [some (.ref 84), some (.int v1)], [], M8) o
      refine mm_Runs.seq (l := [(181, .goto 40, 3)]) (S2 := (221, [some (.ref 84), some (.int v1)], [], M8)) (by decide +kernel) (hO := mm_own_244) rfl ?_
      exact (ms_244_j221 hd h hA : mp_244_221 L xs (d + 1) M8 o) (some (.int v1))
    replace h := mm_iq hc5 h
    by_cases hc6 : v1 = (6 : Int32)
    · replace h := mm_ip hc6 h
      refine mm_R_sw (t := 184) rfl rfl rfl (by rw [hc6]; rfl) ?_
      refine mm_Runs.seq (l := [(184, .aload_n 0, 1), (185, .aload_n 0, 1), (186, .getfield 91, 3), (189, .iconst 0, 1)]) (S2 := (190, [some (.ref 84), some (.int v1)], [.int (0 : Int32), .int (M2.1 84 2), .ref 84], (mm_pi (mm_pi (mm_pi (mm_pi (mm_pi (mm_pi (mm_pi (mm_pi (mm_pi (mm_pi M2 84 5 (0 : Int32)) 84 6 (1000000000 : Int32)) 84 7 (0 : Int32)) 84 4 (0 : Int32)) 84 8 (0 : Int32)) 84 9 (0 : Int32)) 84 10 (0 : Int32)) 84 11 (0 : Int32)) 84 12 (0 : Int32)) 84 15 (0 : Int32)))) (by decide +kernel) (hO := mm_own_244) rfl ?_
      refine mm_R_call (v := mm_wv) h hA (k2 := 218) (as := [.ref 84, .int (M2.1 84 2), .int (0 : Int32)]) (r := []) rfl (fun _ => rfl) (fun q hq o ho => ms_218 (by omega) hq ho) (fun _ M9 h => ?_)
      show mm_Runs L xs (d + 1) 244 (193, [some (.ref 84), some (.int v1)], [], M9) o
      refine mm_Runs.seq (l := [(193, .goto 28, 3)]) (S2 := (221, [some (.ref 84), some (.int v1)], [], M9)) (by decide +kernel) (hO := mm_own_244) rfl ?_
      exact (ms_244_j221 hd h hA : mp_244_221 L xs (d + 1) M9 o) (some (.int v1))
    replace h := mm_iq hc6 h
    by_cases hc7 : v1 = (7 : Int32)
    · replace h := mm_ip hc7 h
      refine mm_R_sw (t := 196) rfl rfl rfl (by rw [hc7]; rfl) ?_
      refine mm_Runs.seq (l := [(196, .aload_n 0, 1)]) (S2 := (197, [some (.ref 84), some (.int v1)], [.ref 84], (mm_pi (mm_pi (mm_pi (mm_pi (mm_pi (mm_pi (mm_pi (mm_pi (mm_pi (mm_pi M2 84 5 (0 : Int32)) 84 6 (1000000000 : Int32)) 84 7 (0 : Int32)) 84 4 (0 : Int32)) 84 8 (0 : Int32)) 84 9 (0 : Int32)) 84 10 (0 : Int32)) 84 11 (0 : Int32)) 84 12 (0 : Int32)) 84 15 (0 : Int32)))) (by decide +kernel) (hO := mm_own_244) rfl ?_
      refine mm_R_call (v := mm_wv) h hA (k2 := 219) (as := [.ref 84]) (r := []) rfl (fun _ => rfl) (fun q hq o ho => ms_219 (by omega) hq ho) (fun _ M10 h => ?_)
      show mm_Runs L xs (d + 1) 244 (200, [some (.ref 84), some (.int v1)], [], M10) o
      refine mm_Runs.seq (l := [(200, .goto 21, 3)]) (S2 := (221, [some (.ref 84), some (.int v1)], [], M10)) (by decide +kernel) (hO := mm_own_244) rfl ?_
      exact (ms_244_j221 hd h hA : mp_244_221 L xs (d + 1) M10 o) (some (.int v1))
    replace h := mm_iq hc7 h
    by_cases hc8 : v1 = (8 : Int32)
    · replace h := mm_ip hc8 h
      refine mm_R_sw (t := 203) rfl rfl rfl (by rw [hc8]; rfl) ?_
      refine mm_Runs.seq (l := [(203, .aload_n 0, 1)]) (S2 := (204, [some (.ref 84), some (.int v1)], [.ref 84], (mm_pi (mm_pi (mm_pi (mm_pi (mm_pi (mm_pi (mm_pi (mm_pi (mm_pi (mm_pi M2 84 5 (0 : Int32)) 84 6 (1000000000 : Int32)) 84 7 (0 : Int32)) 84 4 (0 : Int32)) 84 8 (0 : Int32)) 84 9 (0 : Int32)) 84 10 (0 : Int32)) 84 11 (0 : Int32)) 84 12 (0 : Int32)) 84 15 (0 : Int32)))) (by decide +kernel) (hO := mm_own_244) rfl ?_
      refine mm_R_call (v := mm_wv) h hA (k2 := 221) (as := [.ref 84]) (r := []) rfl (fun _ => rfl) (fun q hq o ho => ms_221 (by omega) hq ho) (fun _ M11 h => ?_)
      show mm_Runs L xs (d + 1) 244 (207, [some (.ref 84), some (.int v1)], [], M11) o
      refine mm_Runs.seq (l := [(207, .goto 14, 3)]) (S2 := (221, [some (.ref 84), some (.int v1)], [], M11)) (by decide +kernel) (hO := mm_own_244) rfl ?_
      exact (ms_244_j221 hd h hA : mp_244_221 L xs (d + 1) M11 o) (some (.int v1))
    replace h := mm_iq hc8 h
    by_cases hc9 : v1 = (9 : Int32)
    · replace h := mm_ip hc9 h
      refine mm_R_sw (t := 210) rfl rfl rfl (by rw [hc9]; rfl) ?_
      refine mm_Runs.seq (l := [(210, .aload_n 0, 1)]) (S2 := (211, [some (.ref 84), some (.int v1)], [.ref 84], (mm_pi (mm_pi (mm_pi (mm_pi (mm_pi (mm_pi (mm_pi (mm_pi (mm_pi (mm_pi M2 84 5 (0 : Int32)) 84 6 (1000000000 : Int32)) 84 7 (0 : Int32)) 84 4 (0 : Int32)) 84 8 (0 : Int32)) 84 9 (0 : Int32)) 84 10 (0 : Int32)) 84 11 (0 : Int32)) 84 12 (0 : Int32)) 84 15 (0 : Int32)))) (by decide +kernel) (hO := mm_own_244) rfl ?_
      refine mm_R_call (v := mm_wv) h hA (k2 := 223) (as := [.ref 84]) (r := []) rfl (fun _ => rfl) (fun q hq o ho => ms_223 (by omega) hq ho) (fun _ M12 h => ?_)
      show mm_Runs L xs (d + 1) 244 (214, [some (.ref 84), some (.int v1)], [], M12) o
      refine mm_Runs.seq (l := [(214, .goto 7, 3)]) (S2 := (221, [some (.ref 84), some (.int v1)], [], M12)) (by decide +kernel) (hO := mm_own_244) rfl ?_
      exact (ms_244_j221 hd h hA : mp_244_221 L xs (d + 1) M12 o) (some (.int v1))
    replace h := mm_iq hc9 h
    have e0 := mm_i32 (n := 0) hc0 (by decide) (by decide)
    have e1 := mm_i32 (n := 1) hc1 (by decide) (by decide)
    have e2 := mm_i32 (n := 2) hc2 (by decide) (by decide)
    have e3 := mm_i32 (n := 3) hc3 (by decide) (by decide)
    have e4 := mm_i32 (n := 4) hc4 (by decide) (by decide)
    have e5 := mm_i32 (n := 5) hc5 (by decide) (by decide)
    have e6 := mm_i32 (n := 6) hc6 (by decide) (by decide)
    have e7 := mm_i32 (n := 7) hc7 (by decide) (by decide)
    have e8 := mm_i32 (n := 8) hc8 (by decide) (by decide)
    have e9 := mm_i32 (n := 9) hc9 (by decide) (by decide)
    refine mm_R_sw (t := 217) rfl rfl rfl (mm_tsd (by omega) rfl rfl) ?_
    refine mm_Runs.seq (l := [(217, .aload_n 0, 1)]) (S2 := (218, [some (.ref 84), some (.int v1)], [.ref 84], (mm_pi (mm_pi (mm_pi (mm_pi (mm_pi (mm_pi (mm_pi (mm_pi (mm_pi (mm_pi M2 84 5 (0 : Int32)) 84 6 (1000000000 : Int32)) 84 7 (0 : Int32)) 84 4 (0 : Int32)) 84 8 (0 : Int32)) 84 9 (0 : Int32)) 84 10 (0 : Int32)) 84 11 (0 : Int32)) 84 12 (0 : Int32)) 84 15 (0 : Int32)))) (by decide +kernel) (hO := mm_own_244) rfl ?_
    refine mm_R_call (v := mm_wv) h hA (k2 := 237) (as := [.ref 84]) (r := []) rfl (fun _ => rfl) (fun q hq o ho => ms_237 (by omega) hq ho) (fun _ M13 h => ?_)
    show mm_Runs L xs (d + 1) 244 (221, [some (.ref 84), some (.int v1)], [], M13) o
    exact (ms_244_j221 hd h hA : mp_244_221 L xs (d + 1) M13 o) (some (.int v1))
set_option maxRecDepth 8000 in
set_option maxHeartbeats 4000000 in
theorem ms_244_j15 {L : Nat} {xs : Nat → Int32} {d : Nat} (hd : 8 ≤ d) {v1 : Int32} {M : mm_M} {q : (Int32 ⊕ Nat) × mm_M} {o : mm_E} (h : mf_244_j15 v1 M = some q) (hA : mm_A (mm_Kr mm_wi) q o) : mp_244_15 L xs d v1 M o := by
  unfold mf_244_j15 at h
  obtain ⟨d, rfl⟩ := mm_d1 (n := 7) hd
  show mm_Runs L xs (d + 1) 244 (15, [some (.ref 84), some (.int v1)], [.ref 84], M) o
  refine mm_Runs.seq (l := [(15, .iconst 0, 1)]) (S2 := (16, [some (.ref 84), some (.int v1)], [.int (0 : Int32), .ref 84], M)) (by decide +kernel) (hO := mm_own_244) rfl ?_
  exact (ms_244_j16 hd h hA : mp_244_16 L xs (d + 1) v1 (0 : Int32) M o)
set_option maxRecDepth 8000 in
set_option maxHeartbeats 4000000 in
theorem ms_244 {L : Nat} {xs : Nat → Int32} {d : Nat} (hd : 8 ≤ d) {v1 : Int32} {M : mm_M} {q : (Int32 ⊕ Nat) × mm_M} {o : mm_E} (h : mf_244 v1 M = some q) (hA : mm_A (mm_Kr mm_wi) q o) : mm_Runs L xs d 244 (0, mm_ent (mm_ml 244) [.ref 84, .int v1], [], M) o := by
  unfold mf_244 at h
  obtain ⟨d, rfl⟩ := mm_d1 (n := 7) hd
  show mm_Runs L xs (d + 1) 244 (0, [some (.ref 84), some (.int v1)], [], M) o
  refine mm_Runs.seq (l := [(0, .aload_n 0, 1), (1, .iload_n 1, 1)]) (S2 := (2, [some (.ref 84), some (.int v1)], [.int v1, .ref 84], M)) (by decide +kernel) (hO := mm_own_244) rfl ?_
  refine mm_R_zlt (t := 15) rfl rfl rfl (fun hc => ?_) (fun hc => ?_)
  · replace h := mm_ip hc h
    exact (ms_244_j15 hd h hA : mp_244_15 L xs (d + 1) v1 M o)
  · replace h := mm_iq hc h
    refine mm_Runs.seq (l := [(5, .iload_n 1, 1), (6, .bipush 10, 2)]) (S2 := (8, [some (.ref 84), some (.int v1)], [.int (10 : Int32), .int v1, .ref 84], M)) (by decide +kernel) (hO := mm_own_244) rfl ?_
    refine mm_R_igt (t := 15) rfl rfl rfl (fun hc => ?_) (fun hc => ?_)
    · replace h := mm_ip hc h
      exact (ms_244_j15 hd h hA : mp_244_15 L xs (d + 1) v1 M o)
    · replace h := mm_iq hc h
      refine mm_Runs.seq (l := [(11, .iconst 1, 1), (12, .goto 4, 3)]) (S2 := (16, [some (.ref 84), some (.int v1)], [.int (1 : Int32), .ref 84], M)) (by decide +kernel) (hO := mm_own_244) rfl ?_
      exact (ms_244_j16 hd h hA : mp_244_16 L xs (d + 1) v1 (1 : Int32) M o)
-- 18: PlainPacks.told(I)I (depth 7)
theorem mm_own_18 : mm_own 18 = 0 := rfl
set_option maxRecDepth 8000 in
set_option maxHeartbeats 4000000 in
theorem ms_18 {L : Nat} {xs : Nat → Int32} {d : Nat} (hd : 7 ≤ d) {v1 : Int32} {M : mm_M} {q : (Int32 ⊕ Nat) × mm_M} {o : mm_E} (h : mf_18 v1 M = some q) (hA : mm_A (mm_Kr mm_wi) q o) : mm_Runs L xs d 18 (0, mm_ent (mm_ml 18) [.ref 0, .int v1], [], M) o := by
  unfold mf_18 at h
  show mm_Runs L xs (d) 18 (0, [some (.ref 0), some (.int v1)], [], M) o
  refine mm_Runs.seq (l := [(0, .iload_n 1, 1)]) (S2 := (1, [some (.ref 0), some (.int v1)], [.int v1], M)) (by decide +kernel) (hO := mm_own_18) rfl ?_
  by_cases hc0 : v1 = (0 : Int32)
  · replace h := mm_ip hc0 h
    refine mm_R_sw (t := 40) rfl rfl rfl (by rw [hc0]; rfl) ?_
    refine mm_Runs.seq (l := [(40, .aload_n 0, 1), (41, .getfield 12, 3), (44, .getfield 171, 3)]) (S2 := (47, [some (.ref 0), some (.int v1)], [.int (M.1 1 2)], M)) (by decide +kernel) (hO := mm_own_18) rfl ?_
    cases h
    exact mm_R_reti rfl rfl hA
  replace h := mm_iq hc0 h
  by_cases hc1 : v1 = (1 : Int32)
  · replace h := mm_ip hc1 h
    refine mm_R_sw (t := 48) rfl rfl rfl (by rw [hc1]; rfl) ?_
    refine mm_Runs.seq (l := [(48, .aload_n 0, 1), (49, .getfield 19, 3), (52, .getfield 174, 3)]) (S2 := (55, [some (.ref 0), some (.int v1)], [.int (M.1 3 2)], M)) (by decide +kernel) (hO := mm_own_18) rfl ?_
    cases h
    exact mm_R_reti rfl rfl hA
  replace h := mm_iq hc1 h
  by_cases hc2 : v1 = (2 : Int32)
  · replace h := mm_ip hc2 h
    refine mm_R_sw (t := 56) rfl rfl rfl (by rw [hc2]; rfl) ?_
    refine mm_Runs.seq (l := [(56, .aload_n 0, 1), (57, .getfield 19, 3), (60, .getfield 177, 3)]) (S2 := (63, [some (.ref 0), some (.int v1)], [.int (M.1 3 3)], M)) (by decide +kernel) (hO := mm_own_18) rfl ?_
    cases h
    exact mm_R_reti rfl rfl hA
  replace h := mm_iq hc2 h
  by_cases hc3 : v1 = (3 : Int32)
  · replace h := mm_ip hc3 h
    refine mm_R_sw (t := 64) rfl rfl rfl (by rw [hc3]; rfl) ?_
    refine mm_Runs.seq (l := [(64, .aload_n 0, 1), (65, .getfield 19, 3), (68, .getfield 180, 3)]) (S2 := (71, [some (.ref 0), some (.int v1)], [.int (M.1 3 4)], M)) (by decide +kernel) (hO := mm_own_18) rfl ?_
    cases h
    exact mm_R_reti rfl rfl hA
  replace h := mm_iq hc3 h
  by_cases hc4 : v1 = (4 : Int32)
  · replace h := mm_ip hc4 h
    refine mm_R_sw (t := 72) rfl rfl rfl (by rw [hc4]; rfl) ?_
    refine mm_Runs.seq (l := [(72, .aload_n 0, 1), (73, .getfield 19, 3), (76, .getfield 183, 3)]) (S2 := (79, [some (.ref 0), some (.int v1)], [.int (M.1 3 5)], M)) (by decide +kernel) (hO := mm_own_18) rfl ?_
    cases h
    exact mm_R_reti rfl rfl hA
  replace h := mm_iq hc4 h
  by_cases hc5 : v1 = (5 : Int32)
  · replace h := mm_ip hc5 h
    refine mm_R_sw (t := 80) rfl rfl rfl (by rw [hc5]; rfl) ?_
    refine mm_Runs.seq (l := [(80, .aload_n 0, 1), (81, .getfield 19, 3), (84, .getfield 186, 3)]) (S2 := (87, [some (.ref 0), some (.int v1)], [.int (M.1 3 6)], M)) (by decide +kernel) (hO := mm_own_18) rfl ?_
    cases h
    exact mm_R_reti rfl rfl hA
  replace h := mm_iq hc5 h
  have e0 := mm_i32 (n := 0) hc0 (by decide) (by decide)
  have e1 := mm_i32 (n := 1) hc1 (by decide) (by decide)
  have e2 := mm_i32 (n := 2) hc2 (by decide) (by decide)
  have e3 := mm_i32 (n := 3) hc3 (by decide) (by decide)
  have e4 := mm_i32 (n := 4) hc4 (by decide) (by decide)
  have e5 := mm_i32 (n := 5) hc5 (by decide) (by decide)
  refine mm_R_sw (t := 88) rfl rfl rfl (mm_tsd (by omega) rfl rfl) ?_
  cases h
  exact mm_R_thr rfl rfl rfl (by omega) hA
-- 5: PlainPacksLaw.told(LPlainPacks;I[J)I (depth 8)
theorem mm_own_5 : mm_own 5 = 13 := rfl
set_option maxRecDepth 8000 in
set_option maxHeartbeats 4000000 in
theorem ms_5 {L : Nat} {xs : Nat → Int32} {d : Nat} (hd : 8 ≤ d) {v1 : Int32} {M : mm_M} {q : (Int32 ⊕ Nat) × mm_M} {o : mm_E} (h : mf_5 v1 M = some q) (hA : mm_A (mm_Kr mm_wi) q o) : mm_Runs L xs d 5 (0, mm_ent (mm_ml 5) [.ref 0, .int v1, .ref 110], [], M) o := by
  unfold mf_5 at h
  obtain ⟨d, rfl⟩ := mm_d1 (n := 7) hd
  show mm_Runs L xs (d + 1) 5 (0, [some (.ref 0), some (.int v1), some (.ref 110), none], [], M) o
  refine mm_Runs.seq (l := [(0, .aload_n 2, 1), (1, .iconst 0, 1), (2, .aload_n 0, 1), (3, .iload_n 1, 1)]) (S2 := (4, [some (.ref 0), some (.int v1), some (.ref 110), none], [.int v1, .ref 0, .int (0 : Int32), .ref 110], M)) (by decide +kernel) (hO := mm_own_5) rfl ?_
  refine mm_R_callc (v := mm_wi) (X := 2) (hh := 13) (i := 3) h hA (k2 := 18) (as := [.ref 0, .int v1]) (r := [.int (0 : Int32), .ref 110]) rfl rfl rfl (fun q hq o ho => ms_18 (by omega) hq ho) (fun r1 M2 h => ?_) (fun M3 h => ?_)
  · show mm_Runs L xs (d + 1) 5 (7, [some (.ref 0), some (.int v1), some (.ref 110), none], [.int r1, .int (0 : Int32), .ref 110], M2) o
    refine mm_Runs.seq (l := [(7, .i2l, 1)]) (S2 := (8, [some (.ref 0), some (.int v1), some (.ref 110), none], [.long r1.toInt64, .int (0 : Int32), .ref 110], M2)) (by decide +kernel) (hO := mm_own_5) rfl ?_
    obtain ⟨hb, h⟩ := mm_gd h
    refine mm_R_last rfl rfl hb ?_
    refine mm_Runs.seq (l := [(9, .goto 6, 3), (15, .iconst 0, 1)]) (S2 := (16, [some (.ref 0), some (.int v1), some (.ref 110), none], [.int (0 : Int32)], (mm_pl M2 110 (0 : Int32).toNatClampNeg r1.toInt64))) (by decide +kernel) (hO := mm_own_5) rfl ?_
    cases h
    exact mm_R_reti rfl rfl hA
  · show mm_Runs L xs (d + 1) 5 (13, [some (.ref 0), some (.int v1), some (.ref 110), none], [], M3) o
    refine mm_Runs.seq (l := [(13, .iconst 1, 1)]) (S2 := (14, [some (.ref 0), some (.int v1), some (.ref 110), none], [.int (1 : Int32)], M3)) (by decide +kernel) (hO := mm_own_5) rfl ?_
    cases h
    exact mm_R_reti rfl rfl hA
-- 181: PlainPacksModel.told(I)I (depth 1)
theorem mm_own_181 : mm_own 181 = 12 := rfl
def mp_181_14 (L : Nat) (xs : Nat → Int32) (d : Nat) (v1 : Int32) (M : mm_M) (o : mm_E) : Prop := mm_Runs L xs d 181 (14, [some (.ref 84), some (.int v1)], [.ref 84], M) o
def mp_181_15 (L : Nat) (xs : Nat → Int32) (d : Nat) (v1 : Int32) (s1 : Int32) (M : mm_M) (o : mm_E) : Prop := mm_Runs L xs d 181 (15, [some (.ref 84), some (.int v1)], [.int s1, .ref 84], M) o
set_option maxRecDepth 8000 in
set_option maxHeartbeats 4000000 in
theorem ms_181_j15 {L : Nat} {xs : Nat → Int32} {d : Nat} (hd : 1 ≤ d) {v1 : Int32} {s1 : Int32} {M : mm_M} {q : (Int32 ⊕ Nat) × mm_M} {o : mm_E} (h : mf_181_j15 v1 s1 M = some q) (hA : mm_A (mm_Kr mm_wi) q o) : mp_181_15 L xs d v1 s1 M o := by
  unfold mf_181_j15 at h
  obtain ⟨d, rfl⟩ := mm_d1 (n := 0) hd
  show mm_Runs L xs (d + 1) 181 (15, [some (.ref 84), some (.int v1)], [.int s1, .ref 84], M) o
  refine mm_R_call (v := mm_wi) h hA (k2 := 174) (as := [.ref 84, .int s1]) (r := []) rfl (fun _ => rfl) (fun q hq o ho => ms_174 (by omega) hq ho) (fun r1 M2 h => ?_)
  show mm_Runs L xs (d + 1) 181 (18, [some (.ref 84), some (.int v1)], [.int r1], M2) o
  refine mm_R_zne (t := 23) rfl rfl rfl (fun hc => ?_) (fun hc => ?_)
  · replace h := mm_ip hc h
    refine mm_Runs.seq (l := [(21, .iconst 0, 1)]) (S2 := (22, [some (.ref 84), some (.int v1)], [.int (0 : Int32)], M2)) (by decide +kernel) (hO := mm_own_181) rfl ?_
    cases h
    exact mm_R_reti rfl rfl hA
  · replace h := mm_iq hc h
    refine mm_Runs.seq (l := [(23, .iload_n 1, 1)]) (S2 := (24, [some (.ref 84), some (.int v1)], [.int v1], M2)) (by decide +kernel) (hO := mm_own_181) rfl ?_
    by_cases hc0 : v1 = (0 : Int32)
    · replace h := mm_ip hc0 h
      refine mm_R_sw (t := 60) rfl rfl rfl (by rw [hc0]; rfl) ?_
      refine mm_Runs.seq (l := [(60, .aload_n 0, 1), (61, .getfield 101, 3)]) (S2 := (64, [some (.ref 84), some (.int v1)], [.int (M2.1 84 5)], M2)) (by decide +kernel) (hO := mm_own_181) rfl ?_
      cases h
      exact mm_R_reti rfl rfl hA
    replace h := mm_iq hc0 h
    by_cases hc1 : v1 = (1 : Int32)
    · replace h := mm_ip hc1 h
      refine mm_R_sw (t := 65) rfl rfl rfl (by rw [hc1]; rfl) ?_
      refine mm_Runs.seq (l := [(65, .aload_n 0, 1), (66, .getfield 104, 3)]) (S2 := (69, [some (.ref 84), some (.int v1)], [.int (M2.1 84 8)], M2)) (by decide +kernel) (hO := mm_own_181) rfl ?_
      cases h
      exact mm_R_reti rfl rfl hA
    replace h := mm_iq hc1 h
    by_cases hc2 : v1 = (2 : Int32)
    · replace h := mm_ip hc2 h
      refine mm_R_sw (t := 70) rfl rfl rfl (by rw [hc2]; rfl) ?_
      refine mm_Runs.seq (l := [(70, .aload_n 0, 1), (71, .getfield 107, 3)]) (S2 := (74, [some (.ref 84), some (.int v1)], [.int (M2.1 84 9)], M2)) (by decide +kernel) (hO := mm_own_181) rfl ?_
      cases h
      exact mm_R_reti rfl rfl hA
    replace h := mm_iq hc2 h
    by_cases hc3 : v1 = (3 : Int32)
    · replace h := mm_ip hc3 h
      refine mm_R_sw (t := 75) rfl rfl rfl (by rw [hc3]; rfl) ?_
      refine mm_Runs.seq (l := [(75, .aload_n 0, 1), (76, .getfield 110, 3)]) (S2 := (79, [some (.ref 84), some (.int v1)], [.int (M2.1 84 10)], M2)) (by decide +kernel) (hO := mm_own_181) rfl ?_
      cases h
      exact mm_R_reti rfl rfl hA
    replace h := mm_iq hc3 h
    by_cases hc4 : v1 = (4 : Int32)
    · replace h := mm_ip hc4 h
      refine mm_R_sw (t := 80) rfl rfl rfl (by rw [hc4]; rfl) ?_
      refine mm_Runs.seq (l := [(80, .aload_n 0, 1), (81, .getfield 113, 3)]) (S2 := (84, [some (.ref 84), some (.int v1)], [.int (M2.1 84 11)], M2)) (by decide +kernel) (hO := mm_own_181) rfl ?_
      cases h
      exact mm_R_reti rfl rfl hA
    replace h := mm_iq hc4 h
    have e0 := mm_i32 (n := 0) hc0 (by decide) (by decide)
    have e1 := mm_i32 (n := 1) hc1 (by decide) (by decide)
    have e2 := mm_i32 (n := 2) hc2 (by decide) (by decide)
    have e3 := mm_i32 (n := 3) hc3 (by decide) (by decide)
    have e4 := mm_i32 (n := 4) hc4 (by decide) (by decide)
    refine mm_R_sw (t := 85) rfl rfl rfl (mm_tsd (by omega) rfl rfl) ?_
    refine mm_Runs.seq (l := [(85, .aload_n 0, 1), (86, .getfield 116, 3)]) (S2 := (89, [some (.ref 84), some (.int v1)], [.int (M2.1 84 12)], M2)) (by decide +kernel) (hO := mm_own_181) rfl ?_
    cases h
    exact mm_R_reti rfl rfl hA
set_option maxRecDepth 8000 in
set_option maxHeartbeats 4000000 in
theorem ms_181_j14 {L : Nat} {xs : Nat → Int32} {d : Nat} (hd : 1 ≤ d) {v1 : Int32} {M : mm_M} {q : (Int32 ⊕ Nat) × mm_M} {o : mm_E} (h : mf_181_j14 v1 M = some q) (hA : mm_A (mm_Kr mm_wi) q o) : mp_181_14 L xs d v1 M o := by
  unfold mf_181_j14 at h
  obtain ⟨d, rfl⟩ := mm_d1 (n := 0) hd
  show mm_Runs L xs (d + 1) 181 (14, [some (.ref 84), some (.int v1)], [.ref 84], M) o
  refine mm_Runs.seq (l := [(14, .iconst 0, 1)]) (S2 := (15, [some (.ref 84), some (.int v1)], [.int (0 : Int32), .ref 84], M)) (by decide +kernel) (hO := mm_own_181) rfl ?_
  exact (ms_181_j15 hd h hA : mp_181_15 L xs (d + 1) v1 (0 : Int32) M o)
set_option maxRecDepth 8000 in
set_option maxHeartbeats 4000000 in
theorem ms_181 {L : Nat} {xs : Nat → Int32} {d : Nat} (hd : 1 ≤ d) {v1 : Int32} {M : mm_M} {q : (Int32 ⊕ Nat) × mm_M} {o : mm_E} (h : mf_181 v1 M = some q) (hA : mm_A (mm_Kr mm_wi) q o) : mm_Runs L xs d 181 (0, mm_ent (mm_ml 181) [.ref 84, .int v1], [], M) o := by
  unfold mf_181 at h
  obtain ⟨d, rfl⟩ := mm_d1 (n := 0) hd
  show mm_Runs L xs (d + 1) 181 (0, [some (.ref 84), some (.int v1)], [], M) o
  refine mm_Runs.seq (l := [(0, .aload_n 0, 1), (1, .iload_n 1, 1)]) (S2 := (2, [some (.ref 84), some (.int v1)], [.int v1, .ref 84], M)) (by decide +kernel) (hO := mm_own_181) rfl ?_
  refine mm_R_zlt (t := 14) rfl rfl rfl (fun hc => ?_) (fun hc => ?_)
  · replace h := mm_ip hc h
    exact (ms_181_j14 hd h hA : mp_181_14 L xs (d + 1) v1 M o)
  · replace h := mm_iq hc h
    refine mm_Runs.seq (l := [(5, .iload_n 1, 1), (6, .iconst 5, 1)]) (S2 := (7, [some (.ref 84), some (.int v1)], [.int (5 : Int32), .int v1, .ref 84], M)) (by decide +kernel) (hO := mm_own_181) rfl ?_
    refine mm_R_igt (t := 14) rfl rfl rfl (fun hc => ?_) (fun hc => ?_)
    · replace h := mm_ip hc h
      exact (ms_181_j14 hd h hA : mp_181_14 L xs (d + 1) v1 M o)
    · replace h := mm_iq hc h
      refine mm_Runs.seq (l := [(10, .iconst 1, 1), (11, .goto 4, 3)]) (S2 := (15, [some (.ref 84), some (.int v1)], [.int (1 : Int32), .ref 84], M)) (by decide +kernel) (hO := mm_own_181) rfl ?_
      exact (ms_181_j15 hd h hA : mp_181_15 L xs (d + 1) v1 (1 : Int32) M o)
-- 19: PlainPacks.out(I)I (depth 7)
theorem mm_own_19 : mm_own 19 = 0 := rfl
set_option maxRecDepth 8000 in
set_option maxHeartbeats 4000000 in
theorem ms_19 {L : Nat} {xs : Nat → Int32} {d : Nat} (hd : 7 ≤ d) {v1 : Int32} {M : mm_M} {q : (Int32 ⊕ Nat) × mm_M} {o : mm_E} (h : mf_19 v1 M = some q) (hA : mm_A (mm_Kr mm_wi) q o) : mm_Runs L xs d 19 (0, mm_ent (mm_ml 19) [.ref 0, .int v1], [], M) o := by
  unfold mf_19 at h
  show mm_Runs L xs (d) 19 (0, [some (.ref 0), some (.int v1)], [], M) o
  refine mm_Runs.seq (l := [(0, .iload_n 1, 1)]) (S2 := (1, [some (.ref 0), some (.int v1)], [.int v1], M)) (by decide +kernel) (hO := mm_own_19) rfl ?_
  refine mm_R_zlt (t := 15) rfl rfl rfl (fun hc => ?_) (fun hc => ?_)
  · replace h := mm_ip hc h
    cases h
    exact mm_R_thr rfl rfl rfl (by omega) hA
  · replace h := mm_iq hc h
    refine mm_Runs.seq (l := [(4, .iload_n 1, 1), (5, .aload_n 0, 1), (6, .getfield 19, 3), (9, .getfield 118, 3)]) (S2 := (12, [some (.ref 0), some (.int v1)], [.int (M.1 3 1), .int v1], M)) (by decide +kernel) (hO := mm_own_19) rfl ?_
    refine mm_R_ilt (t := 25) rfl rfl rfl (fun hc => ?_) (fun hc => ?_)
    · replace h := mm_ip hc h
      refine mm_Runs.seq (l := [(25, .aload_n 0, 1), (26, .getfield 19, 3), (29, .getfield 121, 3), (32, .iload_n 1, 1)]) (S2 := (33, [some (.ref 0), some (.int v1)], [.int v1, .ref 4], M)) (by decide +kernel) (hO := mm_own_19) rfl ?_
      obtain ⟨hb, h⟩ := mm_gd h
      refine mm_R_iald rfl rfl hb ?_
      cases h
      exact mm_R_reti rfl rfl hA
    · replace h := mm_iq hc h
      cases h
      exact mm_R_thr rfl rfl rfl (by omega) hA
-- 6: PlainPacksLaw.out(LPlainPacks;I[J)I (depth 8)
theorem mm_own_6 : mm_own 6 = 13 := rfl
set_option maxRecDepth 8000 in
set_option maxHeartbeats 4000000 in
theorem ms_6 {L : Nat} {xs : Nat → Int32} {d : Nat} (hd : 8 ≤ d) {v1 : Int32} {M : mm_M} {q : (Int32 ⊕ Nat) × mm_M} {o : mm_E} (h : mf_6 v1 M = some q) (hA : mm_A (mm_Kr mm_wi) q o) : mm_Runs L xs d 6 (0, mm_ent (mm_ml 6) [.ref 0, .int v1, .ref 110], [], M) o := by
  unfold mf_6 at h
  obtain ⟨d, rfl⟩ := mm_d1 (n := 7) hd
  show mm_Runs L xs (d + 1) 6 (0, [some (.ref 0), some (.int v1), some (.ref 110), none], [], M) o
  refine mm_Runs.seq (l := [(0, .aload_n 2, 1), (1, .iconst 0, 1), (2, .aload_n 0, 1), (3, .iload_n 1, 1)]) (S2 := (4, [some (.ref 0), some (.int v1), some (.ref 110), none], [.int v1, .ref 0, .int (0 : Int32), .ref 110], M)) (by decide +kernel) (hO := mm_own_6) rfl ?_
  refine mm_R_callc (v := mm_wi) (X := 2) (hh := 13) (i := 3) h hA (k2 := 19) (as := [.ref 0, .int v1]) (r := [.int (0 : Int32), .ref 110]) rfl rfl rfl (fun q hq o ho => ms_19 (by omega) hq ho) (fun r1 M2 h => ?_) (fun M3 h => ?_)
  · show mm_Runs L xs (d + 1) 6 (7, [some (.ref 0), some (.int v1), some (.ref 110), none], [.int r1, .int (0 : Int32), .ref 110], M2) o
    refine mm_Runs.seq (l := [(7, .i2l, 1)]) (S2 := (8, [some (.ref 0), some (.int v1), some (.ref 110), none], [.long r1.toInt64, .int (0 : Int32), .ref 110], M2)) (by decide +kernel) (hO := mm_own_6) rfl ?_
    obtain ⟨hb, h⟩ := mm_gd h
    refine mm_R_last rfl rfl hb ?_
    refine mm_Runs.seq (l := [(9, .goto 6, 3), (15, .iconst 0, 1)]) (S2 := (16, [some (.ref 0), some (.int v1), some (.ref 110), none], [.int (0 : Int32)], (mm_pl M2 110 (0 : Int32).toNatClampNeg r1.toInt64))) (by decide +kernel) (hO := mm_own_6) rfl ?_
    cases h
    exact mm_R_reti rfl rfl hA
  · show mm_Runs L xs (d + 1) 6 (13, [some (.ref 0), some (.int v1), some (.ref 110), none], [], M3) o
    refine mm_Runs.seq (l := [(13, .iconst 1, 1)]) (S2 := (14, [some (.ref 0), some (.int v1), some (.ref 110), none], [.int (1 : Int32)], M3)) (by decide +kernel) (hO := mm_own_6) rfl ?_
    cases h
    exact mm_R_reti rfl rfl hA
-- 180: PlainPacksModel.out(I)I (depth 1)
theorem mm_own_180 : mm_own 180 = 12 := rfl
def mp_180_17 (L : Nat) (xs : Nat → Int32) (d : Nat) (v1 : Int32) (M : mm_M) (o : mm_E) : Prop := mm_Runs L xs d 180 (17, [some (.ref 84), some (.int v1)], [.ref 84], M) o
def mp_180_18 (L : Nat) (xs : Nat → Int32) (d : Nat) (v1 : Int32) (s1 : Int32) (M : mm_M) (o : mm_E) : Prop := mm_Runs L xs d 180 (18, [some (.ref 84), some (.int v1)], [.int s1, .ref 84], M) o
set_option maxRecDepth 8000 in
set_option maxHeartbeats 4000000 in
theorem ms_180_j18 {L : Nat} {xs : Nat → Int32} {d : Nat} (hd : 1 ≤ d) {v1 : Int32} {s1 : Int32} {M : mm_M} {q : (Int32 ⊕ Nat) × mm_M} {o : mm_E} (h : mf_180_j18 v1 s1 M = some q) (hA : mm_A (mm_Kr mm_wi) q o) : mp_180_18 L xs d v1 s1 M o := by
  unfold mf_180_j18 at h
  obtain ⟨d, rfl⟩ := mm_d1 (n := 0) hd
  show mm_Runs L xs (d + 1) 180 (18, [some (.ref 84), some (.int v1)], [.int s1, .ref 84], M) o
  refine mm_R_call (v := mm_wi) h hA (k2 := 174) (as := [.ref 84, .int s1]) (r := []) rfl (fun _ => rfl) (fun q hq o ho => ms_174 (by omega) hq ho) (fun r1 M2 h => ?_)
  show mm_Runs L xs (d + 1) 180 (21, [some (.ref 84), some (.int v1)], [.int r1], M2) o
  refine mm_R_zeq (t := 33) rfl rfl rfl (fun hc => ?_) (fun hc => ?_)
  · replace h := mm_ip hc h
    refine mm_Runs.seq (l := [(33, .iconst 0, 1)]) (S2 := (34, [some (.ref 84), some (.int v1)], [.int (0 : Int32)], M2)) (by decide +kernel) (hO := mm_own_180) rfl ?_
    cases h
    exact mm_R_reti rfl rfl hA
  · replace h := mm_iq hc h
    refine mm_Runs.seq (l := [(24, .aload_n 0, 1), (25, .getfield 13, 3), (28, .iload_n 1, 1)]) (S2 := (29, [some (.ref 84), some (.int v1)], [.int v1, .ref 86], M2)) (by decide +kernel) (hO := mm_own_180) rfl ?_
    obtain ⟨hb, h⟩ := mm_gd h
    refine mm_R_iald rfl rfl hb ?_
    refine mm_Runs.seq (l := [(30, .goto 4, 3)]) (S2 := (34, [some (.ref 84), some (.int v1)], [.int (M2.1 86 v1.toNatClampNeg)], M2)) (by decide +kernel) (hO := mm_own_180) rfl ?_
    cases h
    exact mm_R_reti rfl rfl hA
set_option maxRecDepth 8000 in
set_option maxHeartbeats 4000000 in
theorem ms_180_j17 {L : Nat} {xs : Nat → Int32} {d : Nat} (hd : 1 ≤ d) {v1 : Int32} {M : mm_M} {q : (Int32 ⊕ Nat) × mm_M} {o : mm_E} (h : mf_180_j17 v1 M = some q) (hA : mm_A (mm_Kr mm_wi) q o) : mp_180_17 L xs d v1 M o := by
  unfold mf_180_j17 at h
  obtain ⟨d, rfl⟩ := mm_d1 (n := 0) hd
  show mm_Runs L xs (d + 1) 180 (17, [some (.ref 84), some (.int v1)], [.ref 84], M) o
  refine mm_Runs.seq (l := [(17, .iconst 0, 1)]) (S2 := (18, [some (.ref 84), some (.int v1)], [.int (0 : Int32), .ref 84], M)) (by decide +kernel) (hO := mm_own_180) rfl ?_
  exact (ms_180_j18 hd h hA : mp_180_18 L xs (d + 1) v1 (0 : Int32) M o)
set_option maxRecDepth 8000 in
set_option maxHeartbeats 4000000 in
theorem ms_180 {L : Nat} {xs : Nat → Int32} {d : Nat} (hd : 1 ≤ d) {v1 : Int32} {M : mm_M} {q : (Int32 ⊕ Nat) × mm_M} {o : mm_E} (h : mf_180 v1 M = some q) (hA : mm_A (mm_Kr mm_wi) q o) : mm_Runs L xs d 180 (0, mm_ent (mm_ml 180) [.ref 84, .int v1], [], M) o := by
  unfold mf_180 at h
  obtain ⟨d, rfl⟩ := mm_d1 (n := 0) hd
  show mm_Runs L xs (d + 1) 180 (0, [some (.ref 84), some (.int v1)], [], M) o
  refine mm_Runs.seq (l := [(0, .aload_n 0, 1), (1, .iload_n 1, 1)]) (S2 := (2, [some (.ref 84), some (.int v1)], [.int v1, .ref 84], M)) (by decide +kernel) (hO := mm_own_180) rfl ?_
  refine mm_R_zlt (t := 17) rfl rfl rfl (fun hc => ?_) (fun hc => ?_)
  · replace h := mm_ip hc h
    exact (ms_180_j17 hd h hA : mp_180_17 L xs (d + 1) v1 M o)
  · replace h := mm_iq hc h
    refine mm_Runs.seq (l := [(5, .iload_n 1, 1), (6, .aload_n 0, 1), (7, .getfield 98, 3)]) (S2 := (10, [some (.ref 84), some (.int v1)], [.int (M.1 84 4), .int v1, .ref 84], M)) (by decide +kernel) (hO := mm_own_180) rfl ?_
    refine mm_R_ige (t := 17) rfl rfl rfl (fun hc => ?_) (fun hc => ?_)
    · replace h := mm_ip hc h
      refine mm_Runs.seq (l := [(13, .iconst 1, 1), (14, .goto 4, 3)]) (S2 := (18, [some (.ref 84), some (.int v1)], [.int (1 : Int32), .ref 84], M)) (by decide +kernel) (hO := mm_own_180) rfl ?_
      exact (ms_180_j18 hd h hA : mp_180_18 L xs (d + 1) v1 (1 : Int32) M o)
    · replace h := mm_iq hc h
      exact (ms_180_j17 hd h hA : mp_180_17 L xs (d + 1) v1 M o)
-- 56: PlainPacks$Writer.back(I)V (depth 0)
theorem mm_own_56 : mm_own 56 = 3 := rfl
set_option maxRecDepth 8000 in
set_option maxHeartbeats 4000000 in
theorem ms_56 {L : Nat} {xs : Nat → Int32} {d : Nat} (hd : 0 ≤ d) {v1 : Int32} {M : mm_M} {q : (Unit ⊕ Nat) × mm_M} {o : mm_E} (h : mf_56 v1 M = some q) (hA : mm_A (mm_Kr mm_wv) q o) : mm_Runs L xs d 56 (0, mm_ent (mm_ml 56) [.ref 5, .int v1], [], M) o := by
  unfold mf_56 at h
  show mm_Runs L xs (d) 56 (0, [some (.ref 5), some (.int v1)], [], M) o
  refine mm_Runs.seq (l := [(0, .aload_n 0, 1), (1, .iload_n 1, 1), (2, .putfield 26, 3), (5, .aload_n 0, 1), (6, .iconst 0, 1), (7, .putfield 30, 3), (10, .aload_n 0, 1), (11, .iconst 0, 1), (12, .putfield 33, 3)]) (S2 := (15, [some (.ref 5), some (.int v1)], [], (mm_pi (mm_pi (mm_pi M 5 1 v1) 5 4 (0 : Int32)) 5 5 (0 : Int32)))) (by decide +kernel) (hO := mm_own_56) rfl ?_
  cases h
  exact mm_R_retv rfl rfl hA
-- 55: PlainPacks$Writer.start()V (depth 1)
theorem mm_own_55 : mm_own 55 = 3 := rfl
set_option maxRecDepth 8000 in
set_option maxHeartbeats 4000000 in
theorem ms_55 {L : Nat} {xs : Nat → Int32} {d : Nat} (hd : 1 ≤ d) {M : mm_M} {q : (Unit ⊕ Nat) × mm_M} {o : mm_E} (h : mf_55 M = some q) (hA : mm_A (mm_Kr mm_wv) q o) : mm_Runs L xs d 55 (0, mm_ent (mm_ml 55) [.ref 5], [], M) o := by
  unfold mf_55 at h
  obtain ⟨d, rfl⟩ := mm_d1 (n := 0) hd
  show mm_Runs L xs (d + 1) 55 (0, [some (.ref 5)], [], M) o
  refine mm_Runs.seq (l := [(0, .aload_n 0, 1), (1, .iconst 0, 1), (2, .putfield 15, 3), (5, .aload_n 0, 1), (6, .iconst 0, 1), (7, .putfield 19, 3), (10, .aload_n 0, 1), (11, .iconst 0, 1)]) (S2 := (12, [some (.ref 5)], [.int (0 : Int32), .ref 5], (mm_pi (mm_pi M 5 2 (0 : Int32)) 5 3 (0 : Int32)))) (by decide +kernel) (hO := mm_own_55) rfl ?_
  refine mm_R_call (v := mm_wv) h hA (k2 := 56) (as := [.ref 5, .int (0 : Int32)]) (r := []) rfl (fun _ => rfl) (fun q hq o ho => ms_56 (by omega) hq ho) (fun _ M1 h => ?_)
  show mm_Runs L xs (d + 1) 55 (15, [some (.ref 5)], [], M1) o
  cases h
  exact mm_R_retv rfl rfl hA
-- 128: PlainPacks$Pieces.runAt(II)I (depth 0)
theorem mm_own_128 : mm_own 128 = 9 := rfl
def mp_128_2 (L : Nat) (xs : Nat → Int32) (d : Nat) (v1 : Int32) (v2 : Int32) (v3 : Int32) (M : mm_M) (o : mm_E) : Prop := mm_Runs L xs d 128 (2, [some (.ref 41), some (.int v1), some (.int v2), some (.int v3)], [], M) o
def mp_128_49 (L : Nat) (xs : Nat → Int32) (d : Nat) (v3 : Int32) (M : mm_M) (o : mm_E) : Prop := ∀ z0 z1 z2 : Option Value, mm_Runs L xs d 128 (49, [z0, z1, z2, some (.int v3)], [], M) o
set_option maxRecDepth 8000 in
set_option maxHeartbeats 4000000 in
theorem ms_128_b2 {L : Nat} {xs : Nat → Int32} {d : Nat} (hd : 0 ≤ d) {v1 : Int32} {v2 : Int32} {v3 : Int32} {M : mm_M} {q : (((Int32) ⊕ (Int32)) ⊕ Nat) × mm_M} {o : mm_E} (h : mf_128_b2 v1 v2 v3 M = some q) (hA : mm_A (mm_K2 (fun s M o => mp_128_2 L xs (d) v1 v2 s M o) (fun r M o => mp_128_49 L xs (d) r M o)) q o) : mp_128_2 L xs d v1 v2 v3 M o := by
  unfold mf_128_b2 at h
  show mm_Runs L xs (d) 128 (2, [some (.ref 41), some (.int v1), some (.int v2), some (.int v3)], [], M) o
  refine mm_Runs.seq (l := [(2, .iload_n 3, 1), (3, .iload_n 2, 1)]) (S2 := (4, [some (.ref 41), some (.int v1), some (.int v2), some (.int v3)], [.int v2, .int v3], M)) (by decide +kernel) (hO := mm_own_128) rfl ?_
  refine mm_R_ige (t := 49) rfl rfl rfl (fun hc => ?_) (fun hc => ?_)
  · replace h := mm_ip hc h
    refine mm_Runs.seq (l := [(7, .iload_n 1, 1), (8, .iload_n 3, 1), (9, .iadd, 1), (10, .aload_n 0, 1), (11, .getfield 9, 3), (14, .getfield 120, 3)]) (S2 := (17, [some (.ref 41), some (.int v1), some (.int v2), some (.int v3)], [.int (M.1 1 1), .int (v1 + v3)], M)) (by decide +kernel) (hO := mm_own_128) rfl ?_
    refine mm_R_ige (t := 49) rfl rfl rfl (fun hc => ?_) (fun hc => ?_)
    · replace h := mm_ip hc h
      refine mm_Runs.seq (l := [(20, .aload_n 0, 1), (21, .getfield 9, 3), (24, .getfield 95, 3), (27, .iload_n 1, 1), (28, .iload_n 3, 1), (29, .iadd, 1)]) (S2 := (30, [some (.ref 41), some (.int v1), some (.int v2), some (.int v3)], [.int (v1 + v3), .ref 2], M)) (by decide +kernel) (hO := mm_own_128) rfl ?_
      obtain ⟨hb, h⟩ := mm_gd h
      refine mm_R_iald rfl rfl hb ?_
      refine mm_Runs.seq (l := [(31, .aload_n 0, 1), (32, .getfield 9, 3), (35, .getfield 95, 3), (38, .iload_n 1, 1)]) (S2 := (39, [some (.ref 41), some (.int v1), some (.int v2), some (.int v3)], [.int v1, .ref 2, .int (M.1 2 (v1 + v3).toNatClampNeg)], M)) (by decide +kernel) (hO := mm_own_128) rfl ?_
      obtain ⟨hb, h⟩ := mm_gd h
      refine mm_R_iald rfl rfl hb ?_
      refine mm_R_ine (t := 49) rfl rfl rfl (fun hc => ?_) (fun hc => ?_)
      · replace h := mm_ip hc h
        refine mm_Runs.seq (l := [(43, .iinc 3 1, 3), (46, .goto (-44), 3)]) (S2 := (2, [some (.ref 41), some (.int v1), some (.int v2), some (.int (v3 + (1 : Int32)))], [], M)) (by decide +kernel) (hO := mm_own_128) rfl ?_
        cases h
        exact (show mp_128_2 L xs (d) v1 v2 (v3 + (1 : Int32)) M o from hA)
      · replace h := mm_iq hc h
        cases h
        exact (show mp_128_49 L xs (d) v3 M o from hA) (some (.ref 41)) (some (.int v1)) (some (.int v2))
    · replace h := mm_iq hc h
      cases h
      exact (show mp_128_49 L xs (d) v3 M o from hA) (some (.ref 41)) (some (.int v1)) (some (.int v2))
  · replace h := mm_iq hc h
    cases h
    exact (show mp_128_49 L xs (d) v3 M o from hA) (some (.ref 41)) (some (.int v1)) (some (.int v2))
theorem ms_128_L2 {L : Nat} {xs : Nat → Int32} {d : Nat} (hd : 0 ≤ d) {v1 : Int32} {v2 : Int32} {v3 : Int32} {β : Type} {K : β → mm_M → mm_E → Prop} {F : (Int32) → mm_M → mm_O β} {M : mm_M} {q : (β ⊕ Nat) × mm_M} {o : mm_E} (h : mm_B (mf_128_L2 v1 v2 v3 M) F = some q) (hA : mm_A K q o) (hx : ∀ (r : (Int32)) (M2 : mm_M), F r M2 = some q → (fun r M o => mp_128_49 L xs (d) r M o) r M2 o) : mp_128_2 L xs d v1 v2 v3 M o := by
  unfold mf_128_L2 at h
  exact mm_R_loop (step := (fun s M => mf_128_b2 v1 v2 s M)) (s := v3) (M := M) (P := (fun s M o => mp_128_2 L xs (d) v1 v2 s M o)) (X := (fun r M o => mp_128_49 L xs (d) r M o)) h hA (fun s M q hq hA => ms_128_b2 (v1 := v1) (v2 := v2) (v3 := s) (M := M) (q := q) hd hq hA) hx
set_option maxRecDepth 8000 in
set_option maxHeartbeats 4000000 in
theorem ms_128 {L : Nat} {xs : Nat → Int32} {d : Nat} (hd : 0 ≤ d) {v1 : Int32} {v2 : Int32} {M : mm_M} {q : (Int32 ⊕ Nat) × mm_M} {o : mm_E} (h : mf_128 v1 v2 M = some q) (hA : mm_A (mm_Kr mm_wi) q o) : mm_Runs L xs d 128 (0, mm_ent (mm_ml 128) [.ref 41, .int v1, .int v2], [], M) o := by
  unfold mf_128 at h
  show mm_Runs L xs (d) 128 (0, [some (.ref 41), some (.int v1), some (.int v2), none], [], M) o
  refine mm_Runs.seq (l := [(0, .iconst 1, 1), (1, .istore_n 3, 1)]) (S2 := (2, [some (.ref 41), some (.int v1), some (.int v2), some (.int (1 : Int32))], [], M)) (by decide +kernel) (hO := mm_own_128) rfl ?_
  have hp : mp_128_2 L xs (d) v1 v2 (1 : Int32) M o := by
    refine ms_128_L2 hd h hA (fun r2 M1 h => ?_)
    intro y3 y4 y5
    show mm_Runs L xs (d) 128 (49, [y3, y4, y5, some (.int r2)], [], M1) o
    refine mm_Runs.seq (l := [(49, .iload_n 3, 1)]) (S2 := (50, [y3, y4, y5, some (.int r2)], [.int r2], M1)) (by decide +kernel) (hO := mm_own_128) rfl ?_
    cases h
    exact mm_R_reti rfl rfl hA
  exact hp
-- 57: PlainPacks$Writer.put(I)V (depth 0)
theorem mm_own_57 : mm_own 57 = 3 := rfl
set_option maxRecDepth 8000 in
set_option maxHeartbeats 4000000 in
theorem ms_57 {L : Nat} {xs : Nat → Int32} {d : Nat} (hd : 0 ≤ d) {v1 : Int32} {M : mm_M} {q : (Unit ⊕ Nat) × mm_M} {o : mm_E} (h : mf_57 v1 M = some q) (hA : mm_A (mm_Kr mm_wv) q o) : mm_Runs L xs d 57 (0, mm_ent (mm_ml 57) [.ref 5, .int v1], [], M) o := by
  unfold mf_57 at h
  show mm_Runs L xs (d) 57 (0, [some (.ref 5), some (.int v1)], [], M) o
  refine mm_Runs.seq (l := [(0, .aload_n 0, 1), (1, .getfield 26, 3), (4, .sipush 16384, 3)]) (S2 := (7, [some (.ref 5), some (.int v1)], [.int (16384 : Int32), .int (M.1 5 1)], M)) (by decide +kernel) (hO := mm_own_57) rfl ?_
  refine mm_R_ilt (t := 16) rfl rfl rfl (fun hc => ?_) (fun hc => ?_)
  · replace h := mm_ip hc h
    refine mm_Runs.seq (l := [(16, .aload_n 0, 1), (17, .getfield 9, 3), (20, .aload_n 0, 1), (21, .getfield 26, 3), (24, .iload_n 1, 1), (25, .sipush 255, 3), (28, .iand, 1)]) (S2 := (29, [some (.ref 5), some (.int v1)], [.int (v1 &&& (255 : Int32)), .int (M.1 5 1), .ref 6], M)) (by decide +kernel) (hO := mm_own_57) rfl ?_
    obtain ⟨hb, h⟩ := mm_gd h
    refine mm_R_iast rfl rfl hb ?_
    refine mm_Runs.seq (l := [(30, .aload_n 0, 1), (31, .dup, 1), (32, .getfield 26, 3), (35, .iconst 1, 1), (36, .iadd, 1), (37, .putfield 26, 3)]) (S2 := (40, [some (.ref 5), some (.int v1)], [], (mm_pi (mm_pi M 6 (M.1 5 1).toNatClampNeg (v1 &&& (255 : Int32))) 5 1 ((M.1 5 1) + (1 : Int32))))) (by decide +kernel) (hO := mm_own_57) rfl ?_
    cases h
    exact mm_R_retv rfl rfl hA
  · replace h := mm_iq hc h
    refine mm_Runs.seq (l := [(10, .aload_n 0, 1), (11, .iconst 1, 1), (12, .putfield 15, 3)]) (S2 := (15, [some (.ref 5), some (.int v1)], [], (mm_pi M 5 2 (1 : Int32)))) (by decide +kernel) (hO := mm_own_57) rfl ?_
    cases h
    exact mm_R_retv rfl rfl hA
-- 58: PlainPacks$Writer.putAll([III)V (depth 1)
theorem mm_own_58 : mm_own 58 = 3 := rfl
def mp_58_3 (L : Nat) (xs : Nat → Int32) (d : Nat) (v3 : Int32) (v4 : Int32) (M : mm_M) (o : mm_E) : Prop := ∀ z2 : Option Value, mm_Runs L xs d 58 (3, [some (.ref 5), some (.ref 2), z2, some (.int v3), some (.int v4)], [], M) o
def mp_58_23 (L : Nat) (xs : Nat → Int32) (d : Nat) (M : mm_M) (o : mm_E) : Prop := ∀ z0 z1 z2 z3 z4 : Option Value, mm_Runs L xs d 58 (23, [z0, z1, z2, z3, z4], [], M) o
set_option maxRecDepth 8000 in
set_option maxHeartbeats 4000000 in
theorem ms_58_b3 {L : Nat} {xs : Nat → Int32} {d : Nat} (hd : 1 ≤ d) {v3 : Int32} {v4 : Int32} {M : mm_M} {q : (((Int32) ⊕ (Unit)) ⊕ Nat) × mm_M} {o : mm_E} (h : mf_58_b3 v3 v4 M = some q) (hA : mm_A (mm_K2 (fun s M o => mp_58_3 L xs (d) v3 s M o) (fun r M o => mp_58_23 L xs (d) M o)) q o) : mp_58_3 L xs d v3 v4 M o := by
  unfold mf_58_b3 at h
  obtain ⟨d, rfl⟩ := mm_d1 (n := 0) hd
  intro z2
  show mm_Runs L xs (d + 1) 58 (3, [some (.ref 5), some (.ref 2), z2, some (.int v3), some (.int v4)], [], M) o
  refine mm_Runs.seq (l := [(3, .iload 4, 2), (5, .iload_n 3, 1)]) (S2 := (6, [some (.ref 5), some (.ref 2), z2, some (.int v3), some (.int v4)], [.int v3, .int v4], M)) (by decide +kernel) (hO := mm_own_58) rfl ?_
  refine mm_R_ige (t := 23) rfl rfl rfl (fun hc => ?_) (fun hc => ?_)
  · replace h := mm_ip hc h
    refine mm_Runs.seq (l := [(9, .aload_n 0, 1), (10, .aload_n 1, 1), (11, .iload 4, 2)]) (S2 := (13, [some (.ref 5), some (.ref 2), z2, some (.int v3), some (.int v4)], [.int v4, .ref 2, .ref 5], M)) (by decide +kernel) (hO := mm_own_58) rfl ?_
    obtain ⟨hb, h⟩ := mm_gd h
    refine mm_R_iald rfl rfl hb ?_
    refine mm_R_call (v := mm_wv) h hA (k2 := 57) (as := [.ref 5, .int (M.1 2 v4.toNatClampNeg)]) (r := []) rfl (fun _ => rfl) (fun q hq o ho => ms_57 (by omega) hq ho) (fun _ M1 h => ?_)
    show mm_Runs L xs (d + 1) 58 (17, [some (.ref 5), some (.ref 2), z2, some (.int v3), some (.int v4)], [], M1) o
    refine mm_Runs.seq (l := [(17, .iinc 4 1, 3), (20, .goto (-17), 3)]) (S2 := (3, [some (.ref 5), some (.ref 2), z2, some (.int v3), some (.int (v4 + (1 : Int32)))], [], M1)) (by decide +kernel) (hO := mm_own_58) rfl ?_
    cases h
    exact (show mp_58_3 L xs (d + 1) v3 (v4 + (1 : Int32)) M1 o from hA) z2
  · replace h := mm_iq hc h
    cases h
    exact (show mp_58_23 L xs (d + 1) M o from hA) (some (.ref 5)) (some (.ref 2)) z2 (some (.int v3)) (some (.int v4))
theorem ms_58_L3 {L : Nat} {xs : Nat → Int32} {d : Nat} (hd : 1 ≤ d) {v3 : Int32} {v4 : Int32} {β : Type} {K : β → mm_M → mm_E → Prop} {F : (Unit) → mm_M → mm_O β} {M : mm_M} {q : (β ⊕ Nat) × mm_M} {o : mm_E} (h : mm_B (mf_58_L3 v3 v4 M) F = some q) (hA : mm_A K q o) (hx : ∀ (r : (Unit)) (M2 : mm_M), F r M2 = some q → (fun r M o => mp_58_23 L xs (d) M o) r M2 o) : mp_58_3 L xs d v3 v4 M o := by
  unfold mf_58_L3 at h
  exact mm_R_loop (step := (fun s M => mf_58_b3 v3 s M)) (s := v4) (M := M) (P := (fun s M o => mp_58_3 L xs (d) v3 s M o)) (X := (fun r M o => mp_58_23 L xs (d) M o)) h hA (fun s M q hq hA => ms_58_b3 (v3 := v3) (v4 := s) (M := M) (q := q) hd hq hA) hx
set_option maxRecDepth 8000 in
set_option maxHeartbeats 4000000 in
theorem ms_58 {L : Nat} {xs : Nat → Int32} {d : Nat} (hd : 1 ≤ d) {v2 : Int32} {v3 : Int32} {M : mm_M} {q : (Unit ⊕ Nat) × mm_M} {o : mm_E} (h : mf_58 v2 v3 M = some q) (hA : mm_A (mm_Kr mm_wv) q o) : mm_Runs L xs d 58 (0, mm_ent (mm_ml 58) [.ref 5, .ref 2, .int v2, .int v3], [], M) o := by
  unfold mf_58 at h
  obtain ⟨d, rfl⟩ := mm_d1 (n := 0) hd
  show mm_Runs L xs (d + 1) 58 (0, [some (.ref 5), some (.ref 2), some (.int v2), some (.int v3), none], [], M) o
  refine mm_Runs.seq (l := [(0, .iload_n 2, 1), (1, .istore 4, 2)]) (S2 := (3, [some (.ref 5), some (.ref 2), some (.int v2), some (.int v3), some (.int v2)], [], M)) (by decide +kernel) (hO := mm_own_58) rfl ?_
  have hp : mp_58_3 L xs (d + 1) v3 v2 M o := by
    refine ms_58_L3 hd h hA (fun r2 M1 h => ?_)
    intro y3 y4 y5 y6 y7
    show mm_Runs L xs (d + 1) 58 (23, [y3, y4, y5, y6, y7], [], M1) o
    cases h
    exact mm_R_retv rfl rfl hA
  exact hp (some (.int v2))
-- 127: PlainPacks$Pieces.writeRuns()V (depth 2)
theorem mm_own_127 : mm_own 127 = 9 := rfl
def mp_127_2 (L : Nat) (xs : Nat → Int32) (d : Nat) (v1 : Int32) (M : mm_M) (o : mm_E) : Prop := ∀ z2 z3 : Option Value, mm_Runs L xs d 127 (2, [some (.ref 41), some (.int v1), z2, z3], [], M) o
def mp_127_135 (L : Nat) (xs : Nat → Int32) (d : Nat) (M : mm_M) (o : mm_E) : Prop := ∀ z0 z1 z2 z3 : Option Value, mm_Runs L xs d 127 (135, [z0, z1, z2, z3], [], M) o
def mp_127_66 (L : Nat) (xs : Nat → Int32) (d : Nat) (v1 : Int32) (v3 : Int32) (M : mm_M) (o : mm_E) : Prop := ∀ z2 : Option Value, mm_Runs L xs d 127 (66, [some (.ref 41), some (.int v1), z2, some (.int v3)], [], M) o
def mp_127_102 (L : Nat) (xs : Nat → Int32) (d : Nat) (v1 : Int32) (v3 : Int32) (M : mm_M) (o : mm_E) : Prop := ∀ z2 : Option Value, mm_Runs L xs d 127 (102, [some (.ref 41), some (.int v1), z2, some (.int v3)], [], M) o
set_option maxRecDepth 8000 in
set_option maxHeartbeats 4000000 in
theorem ms_127_b66 {L : Nat} {xs : Nat → Int32} {d : Nat} (hd : 2 ≤ d) {v1 : Int32} {v3 : Int32} {M : mm_M} {q : (((Int32) ⊕ (Int32)) ⊕ Nat) × mm_M} {o : mm_E} (h : mf_127_b66 v1 v3 M = some q) (hA : mm_A (mm_K2 (fun s M o => mp_127_66 L xs (d) v1 s M o) (fun r M o => mp_127_102 L xs (d) v1 r M o)) q o) : mp_127_66 L xs d v1 v3 M o := by
  unfold mf_127_b66 at h
  obtain ⟨d, rfl⟩ := mm_d1 (n := 1) hd
  intro z2
  show mm_Runs L xs (d + 1) 127 (66, [some (.ref 41), some (.int v1), z2, some (.int v3)], [], M) o
  refine mm_Runs.seq (l := [(66, .iload_n 3, 1), (67, .aload_n 0, 1), (68, .getfield 9, 3), (71, .getfield 120, 3)]) (S2 := (74, [some (.ref 41), some (.int v1), z2, some (.int v3)], [.int (M.1 1 1), .int v3], M)) (by decide +kernel) (hO := mm_own_127) rfl ?_
  refine mm_R_ige (t := 102) rfl rfl rfl (fun hc => ?_) (fun hc => ?_)
  · replace h := mm_ip hc h
    refine mm_Runs.seq (l := [(77, .iload_n 3, 1), (78, .iload_n 1, 1), (79, .isub, 1), (80, .sipush 128, 3)]) (S2 := (83, [some (.ref 41), some (.int v1), z2, some (.int v3)], [.int (128 : Int32), .int (v3 - v1)], M)) (by decide +kernel) (hO := mm_own_127) rfl ?_
    refine mm_R_ige (t := 102) rfl rfl rfl (fun hc => ?_) (fun hc => ?_)
    · replace h := mm_ip hc h
      refine mm_Runs.seq (l := [(86, .aload_n 0, 1), (87, .iload_n 3, 1), (88, .iconst 3, 1)]) (S2 := (89, [some (.ref 41), some (.int v1), z2, some (.int v3)], [.int (3 : Int32), .int v3, .ref 41], M)) (by decide +kernel) (hO := mm_own_127) rfl ?_
      refine mm_R_call (v := mm_wi) h hA (k2 := 128) (as := [.ref 41, .int v3, .int (3 : Int32)]) (r := []) rfl (fun _ => rfl) (fun q hq o ho => ms_128 (by omega) hq ho) (fun r1 M2 h => ?_)
      show mm_Runs L xs (d + 1) 127 (92, [some (.ref 41), some (.int v1), z2, some (.int v3)], [.int r1], M2) o
      refine mm_Runs.seq (l := [(92, .iconst 3, 1)]) (S2 := (93, [some (.ref 41), some (.int v1), z2, some (.int v3)], [.int (3 : Int32), .int r1], M2)) (by decide +kernel) (hO := mm_own_127) rfl ?_
      refine mm_R_ige (t := 102) rfl rfl rfl (fun hc => ?_) (fun hc => ?_)
      · replace h := mm_ip hc h
        refine mm_Runs.seq (l := [(96, .iinc 3 1, 3), (99, .goto (-33), 3)]) (S2 := (66, [some (.ref 41), some (.int v1), (mm_no2 z2), some (.int (v3 + (1 : Int32)))], [], M2)) (by decide +kernel) (hO := mm_own_127) rfl ?_
        cases h
        exact (show mp_127_66 L xs (d + 1) v1 (v3 + (1 : Int32)) M2 o from hA) ((mm_no2 z2))
      · replace h := mm_iq hc h
        cases h
        exact (show mp_127_102 L xs (d + 1) v1 v3 M2 o from hA) z2
    · replace h := mm_iq hc h
      cases h
      exact (show mp_127_102 L xs (d + 1) v1 v3 M o from hA) z2
  · replace h := mm_iq hc h
    cases h
    exact (show mp_127_102 L xs (d + 1) v1 v3 M o from hA) z2
theorem ms_127_L66 {L : Nat} {xs : Nat → Int32} {d : Nat} (hd : 2 ≤ d) {v1 : Int32} {v3 : Int32} {β : Type} {K : β → mm_M → mm_E → Prop} {F : (Int32) → mm_M → mm_O β} {M : mm_M} {q : (β ⊕ Nat) × mm_M} {o : mm_E} (h : mm_B (mf_127_L66 v1 v3 M) F = some q) (hA : mm_A K q o) (hx : ∀ (r : (Int32)) (M2 : mm_M), F r M2 = some q → (fun r M o => mp_127_102 L xs (d) v1 r M o) r M2 o) : mp_127_66 L xs d v1 v3 M o := by
  unfold mf_127_L66 at h
  exact mm_R_loop (step := (fun s M => mf_127_b66 v1 s M)) (s := v3) (M := M) (P := (fun s M o => mp_127_66 L xs (d) v1 s M o)) (X := (fun r M o => mp_127_102 L xs (d) v1 r M o)) h hA (fun s M q hq hA => ms_127_b66 (v1 := v1) (v3 := s) (M := M) (q := q) hd hq hA) hx
set_option maxRecDepth 8000 in
set_option maxHeartbeats 4000000 in
theorem ms_127_j102 {L : Nat} {xs : Nat → Int32} {d : Nat} (hd : 2 ≤ d) {v1 : Int32} {v3 : Int32} {M : mm_M} {q : (((Int32) ⊕ (Unit)) ⊕ Nat) × mm_M} {o : mm_E} (h : mf_127_j102 v1 v3 M = some q) (hA : mm_A (mm_K2 (fun s M o => mp_127_2 L xs (d) s M o) (fun r M o => mp_127_135 L xs (d) M o)) q o) : mp_127_102 L xs d v1 v3 M o := by
  unfold mf_127_j102 at h
  obtain ⟨d, rfl⟩ := mm_d1 (n := 1) hd
  intro z2
  show mm_Runs L xs (d + 1) 127 (102, [some (.ref 41), some (.int v1), z2, some (.int v3)], [], M) o
  refine mm_Runs.seq (l := [(102, .aload_n 0, 1), (103, .getfield 19, 3), (106, .iload_n 3, 1), (107, .iload_n 1, 1), (108, .isub, 1), (109, .iconst 1, 1), (110, .isub, 1)]) (S2 := (111, [some (.ref 41), some (.int v1), z2, some (.int v3)], [.int ((v3 - v1) - (1 : Int32)), .ref 5], M)) (by decide +kernel) (hO := mm_own_127) rfl ?_
  refine mm_R_call (v := mm_wv) h hA (k2 := 57) (as := [.ref 5, .int ((v3 - v1) - (1 : Int32))]) (r := []) rfl (fun _ => rfl) (fun q hq o ho => ms_57 (by omega) hq ho) (fun _ M1 h => ?_)
  show mm_Runs L xs (d + 1) 127 (114, [some (.ref 41), some (.int v1), z2, some (.int v3)], [], M1) o
  refine mm_Runs.seq (l := [(114, .aload_n 0, 1), (115, .getfield 19, 3), (118, .aload_n 0, 1), (119, .getfield 9, 3), (122, .getfield 95, 3), (125, .iload_n 1, 1), (126, .iload_n 3, 1)]) (S2 := (127, [some (.ref 41), some (.int v1), z2, some (.int v3)], [.int v3, .int v1, .ref 2, .ref 5], M1)) (by decide +kernel) (hO := mm_own_127) rfl ?_
  refine mm_R_call (v := mm_wv) h hA (k2 := 58) (as := [.ref 5, .ref 2, .int v1, .int v3]) (r := []) rfl (fun _ => rfl) (fun q hq o ho => ms_58 (by omega) hq ho) (fun _ M2 h => ?_)
  show mm_Runs L xs (d + 1) 127 (130, [some (.ref 41), some (.int v1), z2, some (.int v3)], [], M2) o
  refine mm_Runs.seq (l := [(130, .iload_n 3, 1), (131, .istore_n 1, 1), (132, .goto (-130), 3)]) (S2 := (2, [some (.ref 41), some (.int v3), z2, some (.int v3)], [], M2)) (by decide +kernel) (hO := mm_own_127) rfl ?_
  cases h
  exact (show mp_127_2 L xs (d + 1) v3 M2 o from hA) z2 (some (.int v3))
set_option maxRecDepth 8000 in
set_option maxHeartbeats 4000000 in
theorem ms_127_b2 {L : Nat} {xs : Nat → Int32} {d : Nat} (hd : 2 ≤ d) {v1 : Int32} {M : mm_M} {q : (((Int32) ⊕ (Unit)) ⊕ Nat) × mm_M} {o : mm_E} (h : mf_127_b2 v1 M = some q) (hA : mm_A (mm_K2 (fun s M o => mp_127_2 L xs (d) s M o) (fun r M o => mp_127_135 L xs (d) M o)) q o) : mp_127_2 L xs d v1 M o := by
  unfold mf_127_b2 at h
  obtain ⟨d, rfl⟩ := mm_d1 (n := 1) hd
  intro z2 z3
  show mm_Runs L xs (d + 1) 127 (2, [some (.ref 41), some (.int v1), z2, z3], [], M) o
  refine mm_Runs.seq (l := [(2, .iload_n 1, 1), (3, .aload_n 0, 1), (4, .getfield 9, 3), (7, .getfield 120, 3)]) (S2 := (10, [some (.ref 41), some (.int v1), z2, z3], [.int (M.1 1 1), .int v1], M)) (by decide +kernel) (hO := mm_own_127) rfl ?_
  refine mm_R_ige (t := 135) rfl rfl rfl (fun hc => ?_) (fun hc => ?_)
  · replace h := mm_ip hc h
    refine mm_Runs.seq (l := [(13, .aload_n 0, 1), (14, .iload_n 1, 1), (15, .sipush 128, 3)]) (S2 := (18, [some (.ref 41), some (.int v1), z2, z3], [.int (128 : Int32), .int v1, .ref 41], M)) (by decide +kernel) (hO := mm_own_127) rfl ?_
    refine mm_R_call (v := mm_wi) h hA (k2 := 128) (as := [.ref 41, .int v1, .int (128 : Int32)]) (r := []) rfl (fun _ => rfl) (fun q hq o ho => ms_128 (by omega) hq ho) (fun r1 M2 h => ?_)
    show mm_Runs L xs (d + 1) 127 (21, [some (.ref 41), some (.int v1), z2, z3], [.int r1], M2) o
    refine mm_Runs.seq (l := [(21, .istore_n 2, 1), (22, .iload_n 2, 1), (23, .iconst 3, 1)]) (S2 := (24, [some (.ref 41), some (.int v1), some (.int r1), z3], [.int (3 : Int32), .int r1], M2)) (by decide +kernel) (hO := mm_own_127) rfl ?_
    refine mm_R_ilt (t := 62) rfl rfl rfl (fun hc => ?_) (fun hc => ?_)
    · replace h := mm_ip hc h
      refine mm_Runs.seq (l := [(62, .iload_n 1, 1), (63, .iconst 1, 1), (64, .iadd, 1), (65, .istore_n 3, 1)]) (S2 := (66, [some (.ref 41), some (.int v1), some (.int r1), some (.int (v1 + (1 : Int32)))], [], M2)) (by decide +kernel) (hO := mm_own_127) rfl ?_
      have hp : mp_127_66 L xs (d + 1) v1 (v1 + (1 : Int32)) M2 o := by
        refine ms_127_L66 hd h hA (fun r4 M3 h => ?_)
        intro y5
        show mm_Runs L xs (d + 1) 127 (102, [some (.ref 41), some (.int v1), y5, some (.int r4)], [], M3) o
        exact (ms_127_j102 hd h hA : mp_127_102 L xs (d + 1) v1 r4 M3 o) y5
      exact hp (some (.int r1))
    · replace h := mm_iq hc h
      refine mm_Runs.seq (l := [(27, .aload_n 0, 1), (28, .getfield 19, 3), (31, .sipush 257, 3), (34, .iload_n 2, 1), (35, .isub, 1)]) (S2 := (36, [some (.ref 41), some (.int v1), some (.int r1), z3], [.int ((257 : Int32) - r1), .ref 5], M2)) (by decide +kernel) (hO := mm_own_127) rfl ?_
      refine mm_R_call (v := mm_wv) h hA (k2 := 57) (as := [.ref 5, .int ((257 : Int32) - r1)]) (r := []) rfl (fun _ => rfl) (fun q hq o ho => ms_57 (by omega) hq ho) (fun _ M6 h => ?_)
      show mm_Runs L xs (d + 1) 127 (39, [some (.ref 41), some (.int v1), some (.int r1), z3], [], M6) o
      refine mm_Runs.seq (l := [(39, .aload_n 0, 1), (40, .getfield 19, 3), (43, .aload_n 0, 1), (44, .getfield 9, 3), (47, .getfield 95, 3), (50, .iload_n 1, 1)]) (S2 := (51, [some (.ref 41), some (.int v1), some (.int r1), z3], [.int v1, .ref 2, .ref 5], M6)) (by decide +kernel) (hO := mm_own_127) rfl ?_
      obtain ⟨hb, h⟩ := mm_gd h
      refine mm_R_iald rfl rfl hb ?_
      refine mm_R_call (v := mm_wv) h hA (k2 := 57) (as := [.ref 5, .int (M6.1 2 v1.toNatClampNeg)]) (r := []) rfl (fun _ => rfl) (fun q hq o ho => ms_57 (by omega) hq ho) (fun _ M7 h => ?_)
      show mm_Runs L xs (d + 1) 127 (55, [some (.ref 41), some (.int v1), some (.int r1), z3], [], M7) o
      refine mm_Runs.seq (l := [(55, .iload_n 1, 1), (56, .iload_n 2, 1), (57, .iadd, 1), (58, .istore_n 1, 1), (59, .goto 73, 3), (132, .goto (-130), 3)]) (S2 := (2, [some (.ref 41), some (.int (v1 + r1)), some (.int r1), z3], [], M7)) (by decide +kernel) (hO := mm_own_127) rfl ?_
      cases h
      exact (show mp_127_2 L xs (d + 1) (v1 + r1) M7 o from hA) (some (.int r1)) z3
  · replace h := mm_iq hc h
    cases h
    exact (show mp_127_135 L xs (d + 1) M o from hA) (some (.ref 41)) (some (.int v1)) z2 z3
theorem ms_127_L2 {L : Nat} {xs : Nat → Int32} {d : Nat} (hd : 2 ≤ d) {v1 : Int32} {β : Type} {K : β → mm_M → mm_E → Prop} {F : (Unit) → mm_M → mm_O β} {M : mm_M} {q : (β ⊕ Nat) × mm_M} {o : mm_E} (h : mm_B (mf_127_L2 v1 M) F = some q) (hA : mm_A K q o) (hx : ∀ (r : (Unit)) (M2 : mm_M), F r M2 = some q → (fun r M o => mp_127_135 L xs (d) M o) r M2 o) : mp_127_2 L xs d v1 M o := by
  unfold mf_127_L2 at h
  exact mm_R_loop (step := (fun s M => mf_127_b2 s M)) (s := v1) (M := M) (P := (fun s M o => mp_127_2 L xs (d) s M o)) (X := (fun r M o => mp_127_135 L xs (d) M o)) h hA (fun s M q hq hA => ms_127_b2 (v1 := s) (M := M) (q := q) hd hq hA) hx
set_option maxRecDepth 8000 in
set_option maxHeartbeats 4000000 in
theorem ms_127 {L : Nat} {xs : Nat → Int32} {d : Nat} (hd : 2 ≤ d) {M : mm_M} {q : (Unit ⊕ Nat) × mm_M} {o : mm_E} (h : mf_127 M = some q) (hA : mm_A (mm_Kr mm_wv) q o) : mm_Runs L xs d 127 (0, mm_ent (mm_ml 127) [.ref 41], [], M) o := by
  unfold mf_127 at h
  obtain ⟨d, rfl⟩ := mm_d1 (n := 1) hd
  show mm_Runs L xs (d + 1) 127 (0, [some (.ref 41), none, none, none], [], M) o
  refine mm_Runs.seq (l := [(0, .iconst 0, 1), (1, .istore_n 1, 1)]) (S2 := (2, [some (.ref 41), some (.int (0 : Int32)), none, none], [], M)) (by decide +kernel) (hO := mm_own_127) rfl ?_
  have hp : mp_127_2 L xs (d + 1) (0 : Int32) M o := by
    refine ms_127_L2 hd h hA (fun r2 M1 h => ?_)
    intro y3 y4 y5 y6
    show mm_Runs L xs (d + 1) 127 (135, [y3, y4, y5, y6], [], M1) o
    cases h
    exact mm_R_retv rfl rfl hA
  exact hp none none
