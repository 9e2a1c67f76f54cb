/-! MEANINGS ARE SOUND 6 -/
-- 104: PlainPacks$Words.begin(II)V (depth 2)
theorem mm_own_104 : mm_own 104 = 8 := rfl
set_option maxRecDepth 8000 in
set_option maxHeartbeats 4000000 in
theorem ms_104 {L : Nat} {xs : Nat → Int32} {d : Nat} (hd : 2 ≤ d) {v1 : Int32} {v2 : Int32} {M : mm_M} {q : (Unit ⊕ Nat) × mm_M} {o : mm_E} (h : mf_104 v1 v2 M = some q) (hA : mm_A (mm_Kr mm_wv) q o) : mm_Runs L xs d 104 (0, mm_ent (mm_ml 104) [.ref 35, .int v1, .int v2], [], M) o := by
  unfold mf_104 at h
  obtain ⟨d, rfl⟩ := mm_d1 (n := 1) hd
  show mm_Runs L xs (d + 1) 104 (0, [some (.ref 35), some (.int v1), some (.int v2)], [], M) o
  refine mm_Runs.seq (l := [(0, .aload_n 0, 1), (1, .iconst 1, 1), (2, .iload_n 1, 1), (3, .ishl, 1), (4, .putfield 39, 3), (7, .aload_n 0, 1), (8, .iload_n 2, 1), (9, .putfield 43, 3), (12, .aload_n 0, 1)]) (S2 := (13, [some (.ref 35), some (.int v1), some (.int v2)], [.ref 35], (mm_pi (mm_pi M 35 8 (mm_shl (1 : Int32) v1)) 35 11 v2))) (by decide +kernel) (hO := mm_own_104) rfl ?_
  refine mm_R_call (v := mm_wv) h hA (k2 := 105) (as := [.ref 35]) (r := []) rfl (fun _ => rfl) (fun q hq o ho => ms_105 (by omega) hq ho) (fun _ M1 h => ?_)
  show mm_Runs L xs (d + 1) 104 (16, [some (.ref 35), some (.int v1), some (.int v2)], [], M1) o
  cases h
  exact mm_R_retv rfl rfl hA
-- 110: PlainPacks$Words.tellWord()V (depth 0)
theorem mm_own_110 : mm_own 110 = 8 := rfl
set_option maxRecDepth 8000 in
set_option maxHeartbeats 4000000 in
theorem ms_110 {L : Nat} {xs : Nat → Int32} {d : Nat} (hd : 0 ≤ d) {M : mm_M} {q : (Unit ⊕ Nat) × mm_M} {o : mm_E} (h : mf_110 M = some q) (hA : mm_A (mm_Kr mm_wv) q o) : mm_Runs L xs d 110 (0, mm_ent (mm_ml 110) [.ref 35], [], M) o := by
  unfold mf_110 at h
  show mm_Runs L xs (d) 110 (0, [some (.ref 35)], [], M) o
  refine mm_Runs.seq (l := [(0, .aload_n 0, 1), (1, .getfield 59, 3)]) (S2 := (4, [some (.ref 35)], [.int (M.1 35 12)], M)) (by decide +kernel) (hO := mm_own_110) rfl ?_
  refine mm_R_zne (t := 55) rfl rfl rfl (fun hc => ?_) (fun hc => ?_)
  · replace h := mm_ip hc h
    refine mm_Runs.seq (l := [(7, .aload_n 0, 1), (8, .getfield 56, 3), (11, .sipush 4096, 3)]) (S2 := (14, [some (.ref 35)], [.int (4096 : Int32), .int (M.1 35 10)], M)) (by decide +kernel) (hO := mm_own_110) rfl ?_
    refine mm_R_ige (t := 55) rfl rfl rfl (fun hc => ?_) (fun hc => ?_)
    · replace h := mm_ip hc h
      refine mm_Runs.seq (l := [(17, .aload_n 0, 1), (18, .getfield 11, 3), (21, .aload_n 0, 1), (22, .getfield 56, 3), (25, .aload_n 0, 1), (26, .getfield 98, 3)]) (S2 := (29, [some (.ref 35)], [.int (M.1 35 13), .int (M.1 35 10), .ref 36], M)) (by decide +kernel) (hO := mm_own_110) rfl ?_
      obtain ⟨hb, h⟩ := mm_gd h
      refine mm_R_iast rfl rfl hb ?_
      refine mm_Runs.seq (l := [(30, .aload_n 0, 1), (31, .getfield 15, 3), (34, .aload_n 0, 1), (35, .getfield 56, 3), (38, .aload_n 0, 1), (39, .getfield 101, 3), (42, .iconst 1, 1), (43, .iadd, 1)]) (S2 := (44, [some (.ref 35)], [.int ((M.1 35 14) + (1 : Int32)), .int (M.1 35 10), .ref 37], (mm_pi M 36 (M.1 35 10).toNatClampNeg (M.1 35 13)))) (by decide +kernel) (hO := mm_own_110) rfl ?_
      obtain ⟨hb, h⟩ := mm_gd h
      refine mm_R_iast rfl rfl hb ?_
      refine mm_Runs.seq (l := [(45, .aload_n 0, 1), (46, .dup, 1), (47, .getfield 56, 3), (50, .iconst 1, 1), (51, .iadd, 1), (52, .putfield 56, 3), (55, .aload_n 0, 1), (56, .iconst 0, 1), (57, .putfield 59, 3)]) (S2 := (60, [some (.ref 35)], [], (mm_pi (mm_pi (mm_pi (mm_pi M 36 (M.1 35 10).toNatClampNeg (M.1 35 13)) 37 (M.1 35 10).toNatClampNeg ((M.1 35 14) + (1 : Int32))) 35 10 ((M.1 35 10) + (1 : Int32))) 35 12 (0 : Int32)))) (by decide +kernel) (hO := mm_own_110) rfl ?_
      cases h
      exact mm_R_retv rfl rfl hA
    · replace h := mm_iq hc h
      refine mm_Runs.seq (l := [(55, .aload_n 0, 1), (56, .iconst 0, 1), (57, .putfield 59, 3)]) (S2 := (60, [some (.ref 35)], [], (mm_pi M 35 12 (0 : Int32)))) (by decide +kernel) (hO := mm_own_110) rfl ?_
      cases h
      exact mm_R_retv rfl rfl hA
  · replace h := mm_iq hc h
    refine mm_Runs.seq (l := [(55, .aload_n 0, 1), (56, .iconst 0, 1), (57, .putfield 59, 3)]) (S2 := (60, [some (.ref 35)], [], (mm_pi M 35 12 (0 : Int32)))) (by decide +kernel) (hO := mm_own_110) rfl ?_
    cases h
    exact mm_R_retv rfl rfl hA
-- 111: PlainPacks$Words.putWord(I)V (depth 9)
theorem mm_own_111 : mm_own 111 = 8 := rfl
set_option maxRecDepth 8000 in
set_option maxHeartbeats 4000000 in
theorem ms_111 {L : Nat} {xs : Nat → Int32} {d : Nat} (hd : 9 ≤ d) {v1 : Int32} {M : mm_M} {q : (Unit ⊕ Nat) × mm_M} {o : mm_E} (h : mf_111 v1 M = some q) (hA : mm_A (mm_Kr mm_wv) q o) : mm_Runs L xs d 111 (0, mm_ent (mm_ml 111) [.ref 35, .int v1], [], M) o := by
  unfold mf_111 at h
  obtain ⟨d, rfl⟩ := mm_d1 (n := 8) hd
  show mm_Runs L xs (d + 1) 111 (0, [some (.ref 35), some (.int v1), none], [], M) o
  refine mm_Runs.seq (l := [(0, .aload_n 0, 1), (1, .getfield 31, 3), (4, .getfield 104, 3), (7, .istore_n 2, 1), (8, .iload_n 1, 1), (9, .aload_n 0, 1), (10, .getfield 39, 3)]) (S2 := (13, [some (.ref 35), some (.int v1), some (.int (M.1 3 1))], [.int (M.1 35 8), .int v1], M)) (by decide +kernel) (hO := mm_own_111) rfl ?_
  refine mm_R_ige (t := 32) rfl rfl rfl (fun hc => ?_) (fun hc => ?_)
  · replace h := mm_ip hc h
    refine mm_Runs.seq (l := [(16, .aload_n 0, 1), (17, .getfield 31, 3), (20, .iload_n 1, 1)]) (S2 := (21, [some (.ref 35), some (.int v1), some (.int (M.1 3 1))], [.int v1, .ref 3], M)) (by decide +kernel) (hO := mm_own_111) rfl ?_
    refine mm_R_call (v := mm_wv) h hA (k2 := 51) (as := [.ref 3, .int v1]) (r := []) rfl (fun _ => rfl) (fun q hq o ho => ms_51 (by omega) hq ho) (fun _ M1 h => ?_)
    show mm_Runs L xs (d + 1) 111 (24, [some (.ref 35), some (.int v1), some (.int (M.1 3 1))], [], M1) o
    refine mm_Runs.seq (l := [(24, .aload_n 0, 1), (25, .iconst 1, 1), (26, .putfield 101, 3), (29, .goto 32, 3), (61, .aload_n 0, 1), (62, .iload_n 2, 1), (63, .putfield 98, 3)]) (S2 := (66, [some (.ref 35), some (.int v1), some (.int (M.1 3 1))], [], (mm_pi (mm_pi M1 35 14 (1 : Int32)) 35 13 (M.1 3 1)))) (by decide +kernel) (hO := mm_own_111) rfl ?_
    cases h
    exact mm_R_retv rfl rfl hA
  · replace h := mm_iq hc h
    refine mm_Runs.seq (l := [(32, .aload_n 0, 1), (33, .getfield 31, 3), (36, .aload_n 0, 1), (37, .getfield 11, 3), (40, .iload_n 1, 1)]) (S2 := (41, [some (.ref 35), some (.int v1), some (.int (M.1 3 1))], [.int v1, .ref 36, .ref 3], M)) (by decide +kernel) (hO := mm_own_111) rfl ?_
    obtain ⟨hb, h⟩ := mm_gd h
    refine mm_R_iald rfl rfl hb ?_
    refine mm_Runs.seq (l := [(42, .aload_n 0, 1), (43, .getfield 15, 3), (46, .iload_n 1, 1)]) (S2 := (47, [some (.ref 35), some (.int v1), some (.int (M.1 3 1))], [.int v1, .ref 37, .int (M.1 36 v1.toNatClampNeg), .ref 3], M)) (by decide +kernel) (hO := mm_own_111) rfl ?_
    obtain ⟨hb, h⟩ := mm_gd h
    refine mm_R_iald rfl rfl hb ?_
    refine mm_R_call (v := mm_wv) h hA (k2 := 54) (as := [.ref 3, .int (M.1 36 v1.toNatClampNeg), .int (M.1 37 v1.toNatClampNeg)]) (r := []) rfl (fun _ => rfl) (fun q hq o ho => ms_54 (by omega) hq ho) (fun _ M2 h => ?_)
    show mm_Runs L xs (d + 1) 111 (51, [some (.ref 35), some (.int v1), some (.int (M.1 3 1))], [], M2) o
    refine mm_Runs.seq (l := [(51, .aload_n 0, 1), (52, .aload_n 0, 1), (53, .getfield 15, 3), (56, .iload_n 1, 1)]) (S2 := (57, [some (.ref 35), some (.int v1), some (.int (M.1 3 1))], [.int v1, .ref 37, .ref 35], M2)) (by decide +kernel) (hO := mm_own_111) rfl ?_
    obtain ⟨hb, h⟩ := mm_gd h
    refine mm_R_iald rfl rfl hb ?_
    refine mm_Runs.seq (l := [(58, .putfield 101, 3), (61, .aload_n 0, 1), (62, .iload_n 2, 1), (63, .putfield 98, 3)]) (S2 := (66, [some (.ref 35), some (.int v1), some (.int (M.1 3 1))], [], (mm_pi (mm_pi M2 35 14 (M2.1 37 v1.toNatClampNeg)) 35 13 (M.1 3 1)))) (by decide +kernel) (hO := mm_own_111) rfl ?_
    cases h
    exact mm_R_retv rfl rfl hA
-- 106: PlainPacks$Words.widen()V (depth 0)
theorem mm_own_106 : mm_own 106 = 8 := rfl
set_option maxRecDepth 8000 in
set_option maxHeartbeats 4000000 in
theorem ms_106 {L : Nat} {xs : Nat → Int32} {d : Nat} (hd : 0 ≤ d) {M : mm_M} {q : (Unit ⊕ Nat) × mm_M} {o : mm_E} (h : mf_106 M = some q) (hA : mm_A (mm_Kr mm_wv) q o) : mm_Runs L xs d 106 (0, mm_ent (mm_ml 106) [.ref 35], [], M) o := by
  unfold mf_106 at h
  show mm_Runs L xs (d) 106 (0, [some (.ref 35)], [], M) o
  refine mm_Runs.seq (l := [(0, .aload_n 0, 1), (1, .getfield 53, 3), (4, .bipush 12, 2)]) (S2 := (6, [some (.ref 35)], [.int (12 : Int32), .int (M.1 35 9)], M)) (by decide +kernel) (hO := mm_own_106) rfl ?_
  refine mm_R_ige (t := 37) rfl rfl rfl (fun hc => ?_) (fun hc => ?_)
  · replace h := mm_ip hc h
    refine mm_Runs.seq (l := [(9, .aload_n 0, 1), (10, .getfield 56, 3), (13, .aload_n 0, 1), (14, .getfield 43, 3), (17, .iadd, 1), (18, .iconst 1, 1), (19, .aload_n 0, 1), (20, .getfield 53, 3), (23, .ishl, 1)]) (S2 := (24, [some (.ref 35)], [.int (mm_shl (1 : Int32) (M.1 35 9)), .int ((M.1 35 10) + (M.1 35 11))], M)) (by decide +kernel) (hO := mm_own_106) rfl ?_
    refine mm_R_ilt (t := 37) rfl rfl rfl (fun hc => ?_) (fun hc => ?_)
    · replace h := mm_ip hc h
      cases h
      exact mm_R_retv rfl rfl hA
    · replace h := mm_iq hc h
      refine mm_Runs.seq (l := [(27, .aload_n 0, 1), (28, .dup, 1), (29, .getfield 53, 3), (32, .iconst 1, 1), (33, .iadd, 1), (34, .putfield 53, 3)]) (S2 := (37, [some (.ref 35)], [], (mm_pi M 35 9 ((M.1 35 9) + (1 : Int32))))) (by decide +kernel) (hO := mm_own_106) rfl ?_
      cases h
      exact mm_R_retv rfl rfl hA
  · replace h := mm_iq hc h
    cases h
    exact mm_R_retv rfl rfl hA
-- 109: PlainPacks$Words.readCodes()V (depth 10)
theorem mm_own_109 : mm_own 109 = 8 := rfl
def mp_109_2 (L : Nat) (xs : Nat → Int32) (d : Nat) (v1 : Int32) (M : mm_M) (o : mm_E) : Prop := ∀ z2 : Option Value, mm_Runs L xs d 109 (2, [some (.ref 35), some (.int v1), z2], [], M) o
def mp_109_31 (L : Nat) (xs : Nat → Int32) (d : Nat) (M : mm_M) (o : mm_E) : Prop := ∀ z0 z1 z2 : Option Value, mm_Runs L xs d 109 (31, [z0, z1, z2], [], M) o
def mp_109_82 (L : Nat) (xs : Nat → Int32) (d : Nat) (M : mm_M) (o : mm_E) : Prop := ∀ z0 z1 z2 : Option Value, mm_Runs L xs d 109 (82, [z0, z1, z2], [], M) o
def mp_109_64 (L : Nat) (xs : Nat → Int32) (d : Nat) (v1 : Int32) (v2 : Int32) (s0 : Int32) (M : mm_M) (o : mm_E) : Prop := mm_Runs L xs d 109 (64, [some (.ref 35), some (.int v1), some (.int v2)], [.int s0], M) o
set_option maxRecDepth 8000 in
set_option maxHeartbeats 4000000 in
theorem ms_109_j64 {L : Nat} {xs : Nat → Int32} {d : Nat} (hd : 10 ≤ d) {v1 : Int32} {v2 : Int32} {s0 : Int32} {M : mm_M} {q : (((Int32) ⊕ ((Unit) ⊕ (Unit))) ⊕ Nat) × mm_M} {o : mm_E} (h : mf_109_j64 v1 v2 s0 M = some q) (hA : mm_A (mm_K2 (fun s M o => mp_109_2 L xs (d) s M o) (fun r M o => mm_sm (fun r => mp_109_31 L xs (d) M o) (fun r => mp_109_82 L xs (d) M o) r)) q o) : mp_109_64 L xs d v1 v2 s0 M o := by
  unfold mf_109_j64 at h
  obtain ⟨d, rfl⟩ := mm_d1 (n := 9) hd
  show mm_Runs L xs (d + 1) 109 (64, [some (.ref 35), some (.int v1), some (.int v2)], [.int s0], M) o
  refine mm_R_call (v := mm_wv) h hA (k2 := 27) (as := [.int s0]) (r := []) rfl (fun _ => rfl) (fun q hq o ho => ms_27 (by omega) hq ho) (fun _ M1 h => ?_)
  show mm_Runs L xs (d + 1) 109 (67, [some (.ref 35), some (.int v1), some (.int v2)], [], M1) o
  refine mm_Runs.seq (l := [(67, .aload_n 0, 1), (68, .iload_n 2, 1)]) (S2 := (69, [some (.ref 35), some (.int v1), some (.int v2)], [.int v2, .ref 35], M1)) (by decide +kernel) (hO := mm_own_109) rfl ?_
  refine mm_R_call (v := mm_wv) h hA (k2 := 111) (as := [.ref 35, .int v2]) (r := []) rfl (fun _ => rfl) (fun q hq o ho => ms_111 (by omega) hq ho) (fun _ M2 h => ?_)
  show mm_Runs L xs (d + 1) 109 (72, [some (.ref 35), some (.int v1), some (.int v2)], [], M2) o
  refine mm_Runs.seq (l := [(72, .aload_n 0, 1)]) (S2 := (73, [some (.ref 35), some (.int v1), some (.int v2)], [.ref 35], M2)) (by decide +kernel) (hO := mm_own_109) rfl ?_
  refine mm_R_call (v := mm_wv) h hA (k2 := 106) (as := [.ref 35]) (r := []) rfl (fun _ => rfl) (fun q hq o ho => ms_106 (by omega) hq ho) (fun _ M3 h => ?_)
  show mm_Runs L xs (d + 1) 109 (76, [some (.ref 35), some (.int v1), some (.int v2)], [], M3) o
  refine mm_Runs.seq (l := [(76, .iinc 1 1, 3), (79, .goto (-77), 3)]) (S2 := (2, [some (.ref 35), some (.int (v1 + (1 : Int32))), some (.int v2)], [], M3)) (by decide +kernel) (hO := mm_own_109) rfl ?_
  cases h
  exact (show mp_109_2 L xs (d + 1) (v1 + (1 : Int32)) M3 o from hA) (some (.int v2))
set_option maxRecDepth 8000 in
set_option maxHeartbeats 4000000 in
theorem ms_109_b2 {L : Nat} {xs : Nat → Int32} {d : Nat} (hd : 10 ≤ d) {v1 : Int32} {M : mm_M} {q : (((Int32) ⊕ ((Unit) ⊕ (Unit))) ⊕ Nat) × mm_M} {o : mm_E} (h : mf_109_b2 v1 M = some q) (hA : mm_A (mm_K2 (fun s M o => mp_109_2 L xs (d) s M o) (fun r M o => mm_sm (fun r => mp_109_31 L xs (d) M o) (fun r => mp_109_82 L xs (d) M o) r)) q o) : mp_109_2 L xs d v1 M o := by
  unfold mf_109_b2 at h
  obtain ⟨d, rfl⟩ := mm_d1 (n := 9) hd
  intro z2
  show mm_Runs L xs (d + 1) 109 (2, [some (.ref 35), some (.int v1), z2], [], M) o
  refine mm_Runs.seq (l := [(2, .iload_n 1, 1), (3, .ldc 83, 2)]) (S2 := (5, [some (.ref 35), some (.int v1), z2], [.int (1000000 : Int32), .int v1], M)) (by decide +kernel) (hO := mm_own_109) rfl ?_
  refine mm_R_ige (t := 82) rfl rfl rfl (fun hc => ?_) (fun hc => ?_)
  · replace h := mm_ip hc h
    refine mm_Runs.seq (l := [(8, .aload_n 0, 1), (9, .getfield 27, 3), (12, .aload_n 0, 1), (13, .getfield 53, 3)]) (S2 := (16, [some (.ref 35), some (.int v1), z2], [.int (M.1 35 9), .ref 1], M)) (by decide +kernel) (hO := mm_own_109) rfl ?_
    refine mm_R_call (v := mm_wl) h hA (k2 := 46) (as := [.ref 1, .int (M.1 35 9)]) (r := []) rfl (fun _ => rfl) (fun q hq o ho => ms_46 (by omega) hq ho) (fun r1 M2 h => ?_)
    show mm_Runs L xs (d + 1) 109 (19, [some (.ref 35), some (.int v1), z2], [.long r1], M2) o
    refine mm_Runs.seq (l := [(19, .l2i, 1), (20, .istore_n 2, 1), (21, .iload_n 2, 1), (22, .aload_n 0, 1), (23, .getfield 39, 3), (26, .iconst 1, 1), (27, .iadd, 1)]) (S2 := (28, [some (.ref 35), some (.int v1), some (.int r1.toInt32)], [.int ((M2.1 35 8) + (1 : Int32)), .int r1.toInt32], M2)) (by decide +kernel) (hO := mm_own_109) rfl ?_
    refine mm_R_ine (t := 32) rfl rfl rfl (fun hc => ?_) (fun hc => ?_)
    · replace h := mm_ip hc h
      cases h
      exact (show mp_109_31 L xs (d + 1) M2 o from hA) (some (.ref 35)) (some (.int v1)) (some (.int r1.toInt32))
    · replace h := mm_iq hc h
      refine mm_Runs.seq (l := [(32, .iload_n 2, 1), (33, .aload_n 0, 1), (34, .getfield 39, 3)]) (S2 := (37, [some (.ref 35), some (.int v1), some (.int r1.toInt32)], [.int (M2.1 35 8), .int r1.toInt32], M2)) (by decide +kernel) (hO := mm_own_109) rfl ?_
      refine mm_R_ine (t := 47) rfl rfl rfl (fun hc => ?_) (fun hc => ?_)
      · replace h := mm_ip hc h
        refine mm_Runs.seq (l := [(40, .aload_n 0, 1)]) (S2 := (41, [some (.ref 35), some (.int v1), some (.int r1.toInt32)], [.ref 35], M2)) (by decide +kernel) (hO := mm_own_109) rfl ?_
        refine mm_R_call (v := mm_wv) h hA (k2 := 105) (as := [.ref 35]) (r := []) rfl (fun _ => rfl) (fun q hq o ho => ms_105 (by omega) hq ho) (fun _ M3 h => ?_)
        show mm_Runs L xs (d + 1) 109 (44, [some (.ref 35), some (.int v1), some (.int r1.toInt32)], [], M3) o
        refine mm_Runs.seq (l := [(44, .goto 32, 3), (76, .iinc 1 1, 3), (79, .goto (-77), 3)]) (S2 := (2, [some (.ref 35), some (.int (v1 + (1 : Int32))), some (.int r1.toInt32)], [], M3)) (by decide +kernel) (hO := mm_own_109) rfl ?_
        cases h
        exact (show mp_109_2 L xs (d + 1) (v1 + (1 : Int32)) M3 o from hA) (some (.int r1.toInt32))
      · replace h := mm_iq hc h
        refine mm_Runs.seq (l := [(47, .aload_n 0, 1)]) (S2 := (48, [some (.ref 35), some (.int v1), some (.int r1.toInt32)], [.ref 35], M2)) (by decide +kernel) (hO := mm_own_109) rfl ?_
        refine mm_R_call (v := mm_wv) h hA (k2 := 110) (as := [.ref 35]) (r := []) rfl (fun _ => rfl) (fun q hq o ho => ms_110 (by omega) hq ho) (fun _ M4 h => ?_)
        show mm_Runs L xs (d + 1) 109 (51, [some (.ref 35), some (.int v1), some (.int r1.toInt32)], [], M4) o
        refine mm_Runs.seq (l := [(51, .iload_n 2, 1), (52, .aload_n 0, 1), (53, .getfield 56, 3)]) (S2 := (56, [some (.ref 35), some (.int v1), some (.int r1.toInt32)], [.int (M4.1 35 10), .int r1.toInt32], M4)) (by decide +kernel) (hO := mm_own_109) rfl ?_
        refine mm_R_ilt (t := 63) rfl rfl rfl (fun hc => ?_) (fun hc => ?_)
        · replace h := mm_ip hc h
          refine mm_Runs.seq (l := [(63, .iconst 0, 1)]) (S2 := (64, [some (.ref 35), some (.int v1), some (.int r1.toInt32)], [.int (0 : Int32)], M4)) (by decide +kernel) (hO := mm_own_109) rfl ?_
          exact (ms_109_j64 hd h hA : mp_109_64 L xs (d + 1) v1 r1.toInt32 (0 : Int32) M4 o)
        · replace h := mm_iq hc h
          refine mm_Runs.seq (l := [(59, .iconst 1, 1), (60, .goto 4, 3)]) (S2 := (64, [some (.ref 35), some (.int v1), some (.int r1.toInt32)], [.int (1 : Int32)], M4)) (by decide +kernel) (hO := mm_own_109) rfl ?_
          exact (ms_109_j64 hd h hA : mp_109_64 L xs (d + 1) v1 r1.toInt32 (1 : Int32) M4 o)
  · replace h := mm_iq hc h
    cases h
    exact (show mp_109_82 L xs (d + 1) M o from hA) (some (.ref 35)) (some (.int v1)) z2
theorem ms_109_L2 {L : Nat} {xs : Nat → Int32} {d : Nat} (hd : 10 ≤ d) {v1 : Int32} {β : Type} {K : β → mm_M → mm_E → Prop} {F : ((Unit) ⊕ (Unit)) → mm_M → mm_O β} {M : mm_M} {q : (β ⊕ Nat) × mm_M} {o : mm_E} (h : mm_B (mf_109_L2 v1 M) F = some q) (hA : mm_A K q o) (hx : ∀ (r : ((Unit) ⊕ (Unit))) (M2 : mm_M), F r M2 = some q → (fun r M o => mm_sm (fun r => mp_109_31 L xs (d) M o) (fun r => mp_109_82 L xs (d) M o) r) r M2 o) : mp_109_2 L xs d v1 M o := by
  unfold mf_109_L2 at h
  exact mm_R_loop (step := (fun s M => mf_109_b2 s M)) (s := v1) (M := M) (P := (fun s M o => mp_109_2 L xs (d) s M o)) (X := (fun r M o => mm_sm (fun r => mp_109_31 L xs (d) M o) (fun r => mp_109_82 L xs (d) M o) r)) h hA (fun s M q hq hA => ms_109_b2 (v1 := s) (M := M) (q := q) hd hq hA) hx
set_option maxRecDepth 8000 in
set_option maxHeartbeats 4000000 in
theorem ms_109 {L : Nat} {xs : Nat → Int32} {d : Nat} (hd : 10 ≤ d) {M : mm_M} {q : (Unit ⊕ Nat) × mm_M} {o : mm_E} (h : mf_109 M = some q) (hA : mm_A (mm_Kr mm_wv) q o) : mm_Runs L xs d 109 (0, mm_ent (mm_ml 109) [.ref 35], [], M) o := by
  unfold mf_109 at h
  obtain ⟨d, rfl⟩ := mm_d1 (n := 9) hd
  show mm_Runs L xs (d + 1) 109 (0, [some (.ref 35), none, none], [], M) o
  refine mm_Runs.seq (l := [(0, .iconst 0, 1), (1, .istore_n 1, 1)]) (S2 := (2, [some (.ref 35), some (.int (0 : Int32)), none], [], M)) (by decide +kernel) (hO := mm_own_109) rfl ?_
  have hp : mp_109_2 L xs (d + 1) (0 : Int32) M o := by
    refine ms_109_L2 hd h hA (fun r2 M1 h => ?_)
    rcases r2 with r2 | r2
    · dsimp only [mm_sm] at h
      intro y3 y4 y5
      show mm_Runs L xs (d + 1) 109 (31, [y3, y4, y5], [], M1) o
      cases h
      exact mm_R_retv rfl rfl hA
    · dsimp only [mm_sm] at h
      intro y6 y7 y8
      show mm_Runs L xs (d + 1) 109 (82, [y6, y7, y8], [], M1) o
      cases h
      exact mm_R_retv rfl rfl hA
  exact hp none
-- 107: PlainPacks$Words.readLow()V (depth 11)
theorem mm_own_107 : mm_own 107 = 8 := rfl
def mp_107_24 (L : Nat) (xs : Nat → Int32) (d : Nat) (v1 : Int32) (s0 : Int32) (M : mm_M) (o : mm_E) : Prop := mm_Runs L xs d 107 (24, [some (.ref 35), some (.int v1)], [.int s0], M) o
set_option maxRecDepth 8000 in
set_option maxHeartbeats 4000000 in
theorem ms_107_j24 {L : Nat} {xs : Nat → Int32} {d : Nat} (hd : 11 ≤ d) {v1 : Int32} {s0 : Int32} {M : mm_M} {q : (Unit ⊕ Nat) × mm_M} {o : mm_E} (h : mf_107_j24 v1 s0 M = some q) (hA : mm_A (mm_Kr mm_wv) q o) : mp_107_24 L xs d v1 s0 M o := by
  unfold mf_107_j24 at h
  obtain ⟨d, rfl⟩ := mm_d1 (n := 10) hd
  show mm_Runs L xs (d + 1) 107 (24, [some (.ref 35), some (.int v1)], [.int s0], M) o
  refine mm_R_call (v := mm_wv) h hA (k2 := 27) (as := [.int s0]) (r := []) rfl (fun _ => rfl) (fun q hq o ho => ms_27 (by omega) hq ho) (fun _ M1 h => ?_)
  show mm_Runs L xs (d + 1) 107 (27, [some (.ref 35), some (.int v1)], [], M1) o
  refine mm_Runs.seq (l := [(27, .aload_n 0, 1), (28, .iload_n 1, 1), (29, .iconst 0, 1)]) (S2 := (30, [some (.ref 35), some (.int v1)], [.int (0 : Int32), .int v1, .ref 35], M1)) (by decide +kernel) (hO := mm_own_107) rfl ?_
  refine mm_R_call (v := mm_wv) h hA (k2 := 104) (as := [.ref 35, .int v1, .int (0 : Int32)]) (r := []) rfl (fun _ => rfl) (fun q hq o ho => ms_104 (by omega) hq ho) (fun _ M2 h => ?_)
  show mm_Runs L xs (d + 1) 107 (33, [some (.ref 35), some (.int v1)], [], M2) o
  refine mm_Runs.seq (l := [(33, .aload_n 0, 1)]) (S2 := (34, [some (.ref 35), some (.int v1)], [.ref 35], M2)) (by decide +kernel) (hO := mm_own_107) rfl ?_
  refine mm_R_call (v := mm_wv) h hA (k2 := 109) (as := [.ref 35]) (r := []) rfl (fun _ => rfl) (fun q hq o ho => ms_109 (by omega) hq ho) (fun _ M3 h => ?_)
  show mm_Runs L xs (d + 1) 107 (37, [some (.ref 35), some (.int v1)], [], M3) o
  cases h
  exact mm_R_retv rfl rfl hA
set_option maxRecDepth 8000 in
set_option maxHeartbeats 4000000 in
theorem ms_107 {L : Nat} {xs : Nat → Int32} {d : Nat} (hd : 11 ≤ d) {M : mm_M} {q : (Unit ⊕ Nat) × mm_M} {o : mm_E} (h : mf_107 M = some q) (hA : mm_A (mm_Kr mm_wv) q o) : mm_Runs L xs d 107 (0, mm_ent (mm_ml 107) [.ref 35], [], M) o := by
  unfold mf_107 at h
  obtain ⟨d, rfl⟩ := mm_d1 (n := 10) hd
  show mm_Runs L xs (d + 1) 107 (0, [some (.ref 35), none], [], M) o
  refine mm_Runs.seq (l := [(0, .aload_n 0, 1), (1, .getfield 27, 3)]) (S2 := (4, [some (.ref 35), none], [.ref 1], M)) (by decide +kernel) (hO := mm_own_107) rfl ?_
  refine mm_R_call (v := mm_wi) h hA (k2 := 44) (as := [.ref 1]) (r := []) rfl (fun _ => rfl) (fun q hq o ho => ms_44 (by omega) hq ho) (fun r1 M2 h => ?_)
  show mm_Runs L xs (d + 1) 107 (7, [some (.ref 35), none], [.int r1], M2) o
  refine mm_Runs.seq (l := [(7, .istore_n 1, 1), (8, .iload_n 1, 1), (9, .iconst 2, 1)]) (S2 := (10, [some (.ref 35), some (.int r1)], [.int (2 : Int32), .int r1], M2)) (by decide +kernel) (hO := mm_own_107) rfl ?_
  refine mm_R_ilt (t := 19) rfl rfl rfl (fun hc => ?_) (fun hc => ?_)
  · replace h := mm_ip hc h
    refine mm_Runs.seq (l := [(19, .iconst 1, 1), (20, .goto 4, 3)]) (S2 := (24, [some (.ref 35), some (.int r1)], [.int (1 : Int32)], M2)) (by decide +kernel) (hO := mm_own_107) rfl ?_
    exact (ms_107_j24 hd h hA : mp_107_24 L xs (d + 1) r1 (1 : Int32) M2 o)
  · replace h := mm_iq hc h
    refine mm_Runs.seq (l := [(13, .iload_n 1, 1), (14, .bipush 8, 2)]) (S2 := (16, [some (.ref 35), some (.int r1)], [.int (8 : Int32), .int r1], M2)) (by decide +kernel) (hO := mm_own_107) rfl ?_
    refine mm_R_ile (t := 23) rfl rfl rfl (fun hc => ?_) (fun hc => ?_)
    · replace h := mm_ip hc h
      refine mm_Runs.seq (l := [(19, .iconst 1, 1), (20, .goto 4, 3)]) (S2 := (24, [some (.ref 35), some (.int r1)], [.int (1 : Int32)], M2)) (by decide +kernel) (hO := mm_own_107) rfl ?_
      exact (ms_107_j24 hd h hA : mp_107_24 L xs (d + 1) r1 (1 : Int32) M2 o)
    · replace h := mm_iq hc h
      refine mm_Runs.seq (l := [(23, .iconst 0, 1)]) (S2 := (24, [some (.ref 35), some (.int r1)], [.int (0 : Int32)], M2)) (by decide +kernel) (hO := mm_own_107) rfl ?_
      exact (ms_107_j24 hd h hA : mp_107_24 L xs (d + 1) r1 (0 : Int32) M2 o)
-- 108: PlainPacks$Words.readHigh()V (depth 11)
theorem mm_own_108 : mm_own 108 = 8 := rfl
set_option maxRecDepth 8000 in
set_option maxHeartbeats 4000000 in
theorem ms_108 {L : Nat} {xs : Nat → Int32} {d : Nat} (hd : 11 ≤ d) {M : mm_M} {q : (Unit ⊕ Nat) × mm_M} {o : mm_E} (h : mf_108 M = some q) (hA : mm_A (mm_Kr mm_wv) q o) : mm_Runs L xs d 108 (0, mm_ent (mm_ml 108) [.ref 35], [], M) o := by
  unfold mf_108 at h
  obtain ⟨d, rfl⟩ := mm_d1 (n := 10) hd
  show mm_Runs L xs (d + 1) 108 (0, [some (.ref 35)], [], M) o
  refine mm_Runs.seq (l := [(0, .aload_n 0, 1), (1, .getfield 27, 3), (4, .iconst 1, 1), (5, .putfield 80, 3), (8, .aload_n 0, 1), (9, .bipush 8, 2), (11, .iconst 1, 1)]) (S2 := (12, [some (.ref 35)], [.int (1 : Int32), .int (8 : Int32), .ref 35], (mm_pi M 1 4 (1 : Int32)))) (by decide +kernel) (hO := mm_own_108) rfl ?_
  refine mm_R_call (v := mm_wv) h hA (k2 := 104) (as := [.ref 35, .int (8 : Int32), .int (1 : Int32)]) (r := []) rfl (fun _ => rfl) (fun q hq o ho => ms_104 (by omega) hq ho) (fun _ M1 h => ?_)
  show mm_Runs L xs (d + 1) 108 (15, [some (.ref 35)], [], M1) o
  refine mm_Runs.seq (l := [(15, .aload_n 0, 1)]) (S2 := (16, [some (.ref 35)], [.ref 35], M1)) (by decide +kernel) (hO := mm_own_108) rfl ?_
  refine mm_R_call (v := mm_wv) h hA (k2 := 109) (as := [.ref 35]) (r := []) rfl (fun _ => rfl) (fun q hq o ho => ms_109 (by omega) hq ho) (fun _ M2 h => ?_)
  show mm_Runs L xs (d + 1) 108 (19, [some (.ref 35)], [], M2) o
  cases h
  exact mm_R_retv rfl rfl hA
-- 119: PlainPacks$Pieces.readMore(I)I (depth 8)
theorem mm_own_119 : mm_own 119 = 9 := rfl
def mp_119_17 (L : Nat) (xs : Nat → Int32) (d : Nat) (v2 : Int32) (v3 : Int32) (v4 : Int32) (M : mm_M) (o : mm_E) : Prop := ∀ z1 z5 : Option Value, mm_Runs L xs d 119 (17, [some (.ref 41), z1, some (.int v2), some (.int v3), some (.int v4), z5], [], M) o
def mp_119_77 (L : Nat) (xs : Nat → Int32) (d : Nat) (v2 : Int32) (M : mm_M) (o : mm_E) : Prop := ∀ z0 z1 z3 z4 z5 : Option Value, mm_Runs L xs d 119 (77, [z0, z1, some (.int v2), z3, z4, z5], [], M) o
def mp_119_54 (L : Nat) (xs : Nat → Int32) (d : Nat) (v2 : Int32) (v4 : Int32) (v5 : Int32) (s0 : Int32) (M : mm_M) (o : mm_E) : Prop := ∀ z1 z3 : Option Value, mm_Runs L xs d 119 (54, [some (.ref 41), z1, some (.int v2), z3, some (.int v4), some (.int v5)], [.int s0], M) o
set_option maxRecDepth 8000 in
set_option maxHeartbeats 4000000 in
theorem ms_119_j54 {L : Nat} {xs : Nat → Int32} {d : Nat} (hd : 8 ≤ d) {v2 : Int32} {v4 : Int32} {v5 : Int32} {s0 : Int32} {M : mm_M} {q : (((Int32 × Int32 × Int32) ⊕ (Int32)) ⊕ Nat) × mm_M} {o : mm_E} (h : mf_119_j54 v2 v4 v5 s0 M = some q) (hA : mm_A (mm_K2 (fun s M o => mp_119_17 L xs (d) s.1 s.2.1 s.2.2 M o) (fun r M o => mp_119_77 L xs (d) r M o)) q o) : mp_119_54 L xs d v2 v4 v5 s0 M o := by
  unfold mf_119_j54 at h
  obtain ⟨d, rfl⟩ := mm_d1 (n := 7) hd
  intro z1 z3
  show mm_Runs L xs (d + 1) 119 (54, [some (.ref 41), z1, some (.int v2), z3, some (.int v4), some (.int v5)], [.int s0], M) o
  refine mm_R_call (v := mm_wv) h hA (k2 := 27) (as := [.int s0]) (r := []) rfl (fun _ => rfl) (fun q hq o ho => ms_27 (by omega) hq ho) (fun _ M1 h => ?_)
  show mm_Runs L xs (d + 1) 119 (57, [some (.ref 41), z1, some (.int v2), z3, some (.int v4), some (.int v5)], [], M1) o
  refine mm_Runs.seq (l := [(57, .iload 5, 2), (59, .sipush 255, 3)]) (S2 := (62, [some (.ref 41), z1, some (.int v2), z3, some (.int v4), some (.int v5)], [.int (255 : Int32), .int v5], M1)) (by decide +kernel) (hO := mm_own_119) rfl ?_
  refine mm_R_ine (t := 69) rfl rfl rfl (fun hc => ?_) (fun hc => ?_)
  · replace h := mm_ip hc h
    refine mm_Runs.seq (l := [(65, .iconst 1, 1), (66, .goto 4, 3), (70, .istore_n 3, 1), (71, .iinc 4 1, 3), (74, .goto (-57), 3)]) (S2 := (17, [some (.ref 41), z1, some (.int v2), some (.int (1 : Int32)), some (.int (v4 + (1 : Int32))), some (.int v5)], [], M1)) (by decide +kernel) (hO := mm_own_119) rfl ?_
    cases h
    exact (show mp_119_17 L xs (d + 1) v2 (1 : Int32) (v4 + (1 : Int32)) M1 o from hA) z1 (some (.int v5))
  · replace h := mm_iq hc h
    refine mm_Runs.seq (l := [(69, .iconst 0, 1), (70, .istore_n 3, 1), (71, .iinc 4 1, 3), (74, .goto (-57), 3)]) (S2 := (17, [some (.ref 41), z1, some (.int v2), some (.int (0 : Int32)), some (.int (v4 + (1 : Int32))), some (.int v5)], [], M1)) (by decide +kernel) (hO := mm_own_119) rfl ?_
    cases h
    exact (show mp_119_17 L xs (d + 1) v2 (0 : Int32) (v4 + (1 : Int32)) M1 o from hA) z1 (some (.int v5))
set_option maxRecDepth 8000 in
set_option maxHeartbeats 4000000 in
theorem ms_119_b17 {L : Nat} {xs : Nat → Int32} {d : Nat} (hd : 8 ≤ d) {v2 : Int32} {v3 : Int32} {v4 : Int32} {M : mm_M} {q : (((Int32 × Int32 × Int32) ⊕ (Int32)) ⊕ Nat) × mm_M} {o : mm_E} (h : mf_119_b17 v2 v3 v4 M = some q) (hA : mm_A (mm_K2 (fun s M o => mp_119_17 L xs (d) s.1 s.2.1 s.2.2 M o) (fun r M o => mp_119_77 L xs (d) r M o)) q o) : mp_119_17 L xs d v2 v3 v4 M o := by
  unfold mf_119_b17 at h
  obtain ⟨d, rfl⟩ := mm_d1 (n := 7) hd
  intro z1 z5
  show mm_Runs L xs (d + 1) 119 (17, [some (.ref 41), z1, some (.int v2), some (.int v3), some (.int v4), z5], [], M) o
  refine mm_Runs.seq (l := [(17, .iload 4, 2), (19, .ldc 27, 2)]) (S2 := (21, [some (.ref 41), z1, some (.int v2), some (.int v3), some (.int v4), z5], [.int (1000000 : Int32), .int v4], M)) (by decide +kernel) (hO := mm_own_119) rfl ?_
  refine mm_R_ige (t := 77) rfl rfl rfl (fun hc => ?_) (fun hc => ?_)
  · replace h := mm_ip hc h
    refine mm_Runs.seq (l := [(24, .iload_n 3, 1)]) (S2 := (25, [some (.ref 41), z1, some (.int v2), some (.int v3), some (.int v4), z5], [.int v3], M)) (by decide +kernel) (hO := mm_own_119) rfl ?_
    refine mm_R_zeq (t := 77) rfl rfl rfl (fun hc => ?_) (fun hc => ?_)
    · replace h := mm_ip hc h
      cases h
      exact (show mp_119_77 L xs (d + 1) v2 M o from hA) (some (.ref 41)) z1 (some (.int v3)) (some (.int v4)) z5
    · replace h := mm_iq hc h
      refine mm_Runs.seq (l := [(28, .aload_n 0, 1), (29, .getfield 9, 3)]) (S2 := (32, [some (.ref 41), z1, some (.int v2), some (.int v3), some (.int v4), z5], [.ref 1], M)) (by decide +kernel) (hO := mm_own_119) rfl ?_
      refine mm_R_call (v := mm_wi) h hA (k2 := 44) (as := [.ref 1]) (r := []) rfl (fun _ => rfl) (fun q hq o ho => ms_44 (by omega) hq ho) (fun r1 M2 h => ?_)
      show mm_Runs L xs (d + 1) 119 (35, [some (.ref 41), z1, some (.int v2), some (.int v3), some (.int v4), z5], [.int r1], M2) o
      refine mm_Runs.seq (l := [(35, .istore 5, 2), (37, .iload_n 2, 1), (38, .iload 5, 2), (40, .iadd, 1), (41, .istore_n 2, 1), (42, .iload_n 2, 1), (43, .sipush 16384, 3)]) (S2 := (46, [some (.ref 41), (mm_no2 z1), some (.int (v2 + r1)), some (.int v3), some (.int v4), some (.int r1)], [.int (16384 : Int32), .int (v2 + r1)], M2)) (by decide +kernel) (hO := mm_own_119) rfl ?_
      refine mm_R_ile (t := 53) rfl rfl rfl (fun hc => ?_) (fun hc => ?_)
      · replace h := mm_ip hc h
        refine mm_Runs.seq (l := [(49, .iconst 1, 1), (50, .goto 4, 3)]) (S2 := (54, [some (.ref 41), (mm_no2 z1), some (.int (v2 + r1)), some (.int v3), some (.int v4), some (.int r1)], [.int (1 : Int32)], M2)) (by decide +kernel) (hO := mm_own_119) rfl ?_
        exact (ms_119_j54 hd h hA : mp_119_54 L xs (d + 1) (v2 + r1) v4 r1 (1 : Int32) M2 o) ((mm_no2 z1)) (some (.int v3))
      · replace h := mm_iq hc h
        refine mm_Runs.seq (l := [(53, .iconst 0, 1)]) (S2 := (54, [some (.ref 41), (mm_no2 z1), some (.int (v2 + r1)), some (.int v3), some (.int v4), some (.int r1)], [.int (0 : Int32)], M2)) (by decide +kernel) (hO := mm_own_119) rfl ?_
        exact (ms_119_j54 hd h hA : mp_119_54 L xs (d + 1) (v2 + r1) v4 r1 (0 : Int32) M2 o) ((mm_no2 z1)) (some (.int v3))
  · replace h := mm_iq hc h
    cases h
    exact (show mp_119_77 L xs (d + 1) v2 M o from hA) (some (.ref 41)) z1 (some (.int v3)) (some (.int v4)) z5
theorem ms_119_L17 {L : Nat} {xs : Nat → Int32} {d : Nat} (hd : 8 ≤ d) {v2 : Int32} {v3 : Int32} {v4 : Int32} {β : Type} {K : β → mm_M → mm_E → Prop} {F : (Int32) → mm_M → mm_O β} {M : mm_M} {q : (β ⊕ Nat) × mm_M} {o : mm_E} (h : mm_B (mf_119_L17 (v2, v3, v4) M) F = some q) (hA : mm_A K q o) (hx : ∀ (r : (Int32)) (M2 : mm_M), F r M2 = some q → (fun r M o => mp_119_77 L xs (d) r M o) r M2 o) : mp_119_17 L xs d v2 v3 v4 M o := by
  unfold mf_119_L17 at h
  exact mm_R_loop (step := (fun s M => mf_119_b17 s.1 s.2.1 s.2.2 M)) (s := (v2, v3, v4)) (M := M) (P := (fun s M o => mp_119_17 L xs (d) s.1 s.2.1 s.2.2 M o)) (X := (fun r M o => mp_119_77 L xs (d) r M o)) h hA (fun s M q hq hA => ms_119_b17 (v2 := s.1) (v3 := s.2.1) (v4 := s.2.2) (M := M) (q := q) hd hq hA) hx
set_option maxRecDepth 8000 in
set_option maxHeartbeats 4000000 in
theorem ms_119 {L : Nat} {xs : Nat → Int32} {d : Nat} (hd : 8 ≤ d) {v1 : Int32} {M : mm_M} {q : (Int32 ⊕ Nat) × mm_M} {o : mm_E} (h : mf_119 v1 M = some q) (hA : mm_A (mm_Kr mm_wi) q o) : mm_Runs L xs d 119 (0, mm_ent (mm_ml 119) [.ref 41, .int v1], [], M) o := by
  unfold mf_119 at h
  obtain ⟨d, rfl⟩ := mm_d1 (n := 7) hd
  show mm_Runs L xs (d + 1) 119 (0, [some (.ref 41), some (.int v1), none, none, none, none], [], M) o
  refine mm_Runs.seq (l := [(0, .iload_n 1, 1), (1, .istore_n 2, 1), (2, .iload_n 1, 1), (3, .bipush 15, 2)]) (S2 := (5, [some (.ref 41), some (.int v1), some (.int v1), none, none, none], [.int (15 : Int32), .int v1], M)) (by decide +kernel) (hO := mm_own_119) rfl ?_
  refine mm_R_ine (t := 12) rfl rfl rfl (fun hc => ?_) (fun hc => ?_)
  · replace h := mm_ip hc h
    refine mm_Runs.seq (l := [(8, .iconst 1, 1), (9, .goto 4, 3), (13, .istore_n 3, 1), (14, .iconst 0, 1), (15, .istore 4, 2)]) (S2 := (17, [some (.ref 41), some (.int v1), some (.int v1), some (.int (1 : Int32)), some (.int (0 : Int32)), none], [], M)) (by decide +kernel) (hO := mm_own_119) rfl ?_
    have hp : mp_119_17 L xs (d + 1) v1 (1 : Int32) (0 : Int32) M o := by
      refine ms_119_L17 hd h hA (fun r2 M1 h => ?_)
      intro y3 y4 y5 y6 y7
      show mm_Runs L xs (d + 1) 119 (77, [y3, y4, some (.int r2), y5, y6, y7], [], M1) o
      refine mm_Runs.seq (l := [(77, .iload_n 2, 1)]) (S2 := (78, [y3, y4, some (.int r2), y5, y6, y7], [.int r2], M1)) (by decide +kernel) (hO := mm_own_119) rfl ?_
      cases h
      exact mm_R_reti rfl rfl hA
    exact hp (some (.int v1)) none
  · replace h := mm_iq hc h
    refine mm_Runs.seq (l := [(12, .iconst 0, 1), (13, .istore_n 3, 1), (14, .iconst 0, 1), (15, .istore 4, 2)]) (S2 := (17, [some (.ref 41), some (.int v1), some (.int v1), some (.int (0 : Int32)), some (.int (0 : Int32)), none], [], M)) (by decide +kernel) (hO := mm_own_119) rfl ?_
    have hp : mp_119_17 L xs (d + 1) v1 (0 : Int32) (0 : Int32) M o := by
      refine ms_119_L17 hd h hA (fun r9 M8 h => ?_)
      intro y10 y11 y12 y13 y14
      show mm_Runs L xs (d + 1) 119 (77, [y10, y11, some (.int r9), y12, y13, y14], [], M8) o
      refine mm_Runs.seq (l := [(77, .iload_n 2, 1)]) (S2 := (78, [y10, y11, some (.int r9), y12, y13, y14], [.int r9], M8)) (by decide +kernel) (hO := mm_own_119) rfl ?_
      cases h
      exact mm_R_reti rfl rfl hA
    exact hp (some (.int v1)) none
-- 120: PlainPacks$Pieces.putPlain(J)V (depth 9)
theorem mm_own_120 : mm_own 120 = 9 := rfl
def mp_120_2 (L : Nat) (xs : Nat → Int32) (d : Nat) (v1 : Int64) (v3 : Int64) (M : mm_M) (o : mm_E) : Prop := ∀ z2 z4 : Option Value, mm_Runs L xs d 120 (2, [some (.ref 41), some (.long v1), z2, some (.long v3), z4], [], M) o
def mp_120_29 (L : Nat) (xs : Nat → Int32) (d : Nat) (M : mm_M) (o : mm_E) : Prop := ∀ z0 z1 z2 z3 z4 : Option Value, mm_Runs L xs d 120 (29, [z0, z1, z2, z3, z4], [], M) o
set_option maxRecDepth 8000 in
set_option maxHeartbeats 4000000 in
theorem ms_120_b2 {L : Nat} {xs : Nat → Int32} {d : Nat} (hd : 9 ≤ d) {v1 : Int64} {v3 : Int64} {M : mm_M} {q : (((Int64) ⊕ (Unit)) ⊕ Nat) × mm_M} {o : mm_E} (h : mf_120_b2 v1 v3 M = some q) (hA : mm_A (mm_K2 (fun s M o => mp_120_2 L xs (d) v1 s M o) (fun r M o => mp_120_29 L xs (d) M o)) q o) : mp_120_2 L xs d v1 v3 M o := by
  unfold mf_120_b2 at h
  obtain ⟨d, rfl⟩ := mm_d1 (n := 8) hd
  intro z2 z4
  show mm_Runs L xs (d + 1) 120 (2, [some (.ref 41), some (.long v1), z2, some (.long v3), z4], [], M) o
  refine mm_Runs.seq (l := [(2, .lload_n 3, 1), (3, .lload_n 1, 1)]) (S2 := (4, [some (.ref 41), some (.long v1), z2, some (.long v3), z4], [.long v1, .long v3], M)) (by decide +kernel) (hO := mm_own_120) rfl ?_
  refine mm_R_lge (t := 29) rfl rfl rfl rfl (fun hc => ?_) (fun hc => ?_)
  · replace h := mm_ip hc h
    refine mm_Runs.seq (l := [(8, .aload_n 0, 1), (9, .getfield 15, 3), (12, .aload_n 0, 1), (13, .getfield 9, 3)]) (S2 := (16, [some (.ref 41), some (.long v1), z2, some (.long v3), z4], [.ref 1, .ref 3], M)) (by decide +kernel) (hO := mm_own_120) rfl ?_
    refine mm_R_call (v := mm_wi) h hA (k2 := 44) (as := [.ref 1]) (r := [.ref 3]) rfl (fun _ => rfl) (fun q hq o ho => ms_44 (by omega) hq ho) (fun r1 M2 h => ?_)
    show mm_Runs L xs (d + 1) 120 (19, [some (.ref 41), some (.long v1), z2, some (.long v3), z4], [.int r1, .ref 3], M2) o
    refine mm_R_call (v := mm_wv) h hA (k2 := 52) (as := [.ref 3, .int r1]) (r := []) rfl (fun _ => rfl) (fun q hq o ho => ms_52 (by omega) hq ho) (fun _ M3 h => ?_)
    show mm_Runs L xs (d + 1) 120 (22, [some (.ref 41), some (.long v1), z2, some (.long v3), z4], [], M3) o
    refine mm_Runs.seq (l := [(22, .lload_n 3, 1), (23, .lconst 1, 1), (24, .ladd, 1), (25, .lstore_n 3, 1), (26, .goto (-24), 3)]) (S2 := (2, [some (.ref 41), some (.long v1), (mm_no2 z2), some (.long (v3 + (1 : Int64))), none], [], M3)) (by decide +kernel) (hO := mm_own_120) rfl ?_
    cases h
    exact (show mp_120_2 L xs (d + 1) v1 (v3 + (1 : Int64)) M3 o from hA) ((mm_no2 z2)) none
  · replace h := mm_iq hc h
    cases h
    exact (show mp_120_29 L xs (d + 1) M o from hA) (some (.ref 41)) (some (.long v1)) z2 (some (.long v3)) z4
theorem ms_120_L2 {L : Nat} {xs : Nat → Int32} {d : Nat} (hd : 9 ≤ d) {v1 : Int64} {v3 : Int64} {β : Type} {K : β → mm_M → mm_E → Prop} {F : (Unit) → mm_M → mm_O β} {M : mm_M} {q : (β ⊕ Nat) × mm_M} {o : mm_E} (h : mm_B (mf_120_L2 v1 v3 M) F = some q) (hA : mm_A K q o) (hx : ∀ (r : (Unit)) (M2 : mm_M), F r M2 = some q → (fun r M o => mp_120_29 L xs (d) M o) r M2 o) : mp_120_2 L xs d v1 v3 M o := by
  unfold mf_120_L2 at h
  exact mm_R_loop (step := (fun s M => mf_120_b2 v1 s M)) (s := v3) (M := M) (P := (fun s M o => mp_120_2 L xs (d) v1 s M o)) (X := (fun r M o => mp_120_29 L xs (d) M o)) h hA (fun s M q hq hA => ms_120_b2 (v1 := v1) (v3 := s) (M := M) (q := q) hd hq hA) hx
set_option maxRecDepth 8000 in
set_option maxHeartbeats 4000000 in
theorem ms_120 {L : Nat} {xs : Nat → Int32} {d : Nat} (hd : 9 ≤ d) {v1 : Int64} {M : mm_M} {q : (Unit ⊕ Nat) × mm_M} {o : mm_E} (h : mf_120 v1 M = some q) (hA : mm_A (mm_Kr mm_wv) q o) : mm_Runs L xs d 120 (0, mm_ent (mm_ml 120) [.ref 41, .long v1], [], M) o := by
  unfold mf_120 at h
  obtain ⟨d, rfl⟩ := mm_d1 (n := 8) hd
  show mm_Runs L xs (d + 1) 120 (0, [some (.ref 41), some (.long v1), none, none, none], [], M) o
  refine mm_Runs.seq (l := [(0, .lconst 0, 1), (1, .lstore_n 3, 1)]) (S2 := (2, [some (.ref 41), some (.long v1), none, some (.long (0 : Int64)), none], [], M)) (by decide +kernel) (hO := mm_own_120) rfl ?_
  have hp : mp_120_2 L xs (d + 1) v1 (0 : Int64) M o := by
    refine ms_120_L2 hd h hA (fun r2 M1 h => ?_)
    intro y3 y4 y5 y6 y7
    show mm_Runs L xs (d + 1) 120 (29, [y3, y4, y5, y6, y7], [], M1) o
    cases h
    exact mm_R_retv rfl rfl hA
  exact hp none none
-- 118: PlainPacks$Pieces.readPieces(I)V (depth 10)
theorem mm_own_118 : mm_own 118 = 9 := rfl
def mp_118_2 (L : Nat) (xs : Nat → Int32) (d : Nat) (v1 : Int32) (v2 : Int32) (M : mm_M) (o : mm_E) : Prop := ∀ z3 z4 : Option Value, mm_Runs L xs d 118 (2, [some (.ref 41), some (.int v1), some (.int v2), z3, z4], [], M) o
def mp_118_38 (L : Nat) (xs : Nat → Int32) (d : Nat) (M : mm_M) (o : mm_E) : Prop := ∀ z0 z1 z2 z3 z4 : Option Value, mm_Runs L xs d 118 (38, [z0, z1, z2, z3, z4], [], M) o
def mp_118_103 (L : Nat) (xs : Nat → Int32) (d : Nat) (M : mm_M) (o : mm_E) : Prop := ∀ z0 z1 z2 z3 z4 : Option Value, mm_Runs L xs d 118 (103, [z0, z1, z2, z3, z4], [], M) o
def mp_118_74 (L : Nat) (xs : Nat → Int32) (d : Nat) (v1 : Int32) (v2 : Int32) (v3 : Int32) (v4 : Int32) (s0 : Int32) (M : mm_M) (o : mm_E) : Prop := mm_Runs L xs d 118 (74, [some (.ref 41), some (.int v1), some (.int v2), some (.int v3), some (.int v4)], [.int s0], M) o
set_option maxRecDepth 8000 in
set_option maxHeartbeats 4000000 in
theorem ms_118_j74 {L : Nat} {xs : Nat → Int32} {d : Nat} (hd : 10 ≤ d) {v1 : Int32} {v2 : Int32} {v3 : Int32} {v4 : Int32} {s0 : Int32} {M : mm_M} {q : (((Int32) ⊕ ((Unit) ⊕ (Unit))) ⊕ Nat) × mm_M} {o : mm_E} (h : mf_118_j74 v1 v2 v3 v4 s0 M = some q) (hA : mm_A (mm_K2 (fun s M o => mp_118_2 L xs (d) v1 s M o) (fun r M o => mm_sm (fun r => mp_118_38 L xs (d) M o) (fun r => mp_118_103 L xs (d) M o) r)) q o) : mp_118_74 L xs d v1 v2 v3 v4 s0 M o := by
  unfold mf_118_j74 at h
  obtain ⟨d, rfl⟩ := mm_d1 (n := 9) hd
  show mm_Runs L xs (d + 1) 118 (74, [some (.ref 41), some (.int v1), some (.int v2), some (.int v3), some (.int v4)], [.int s0], M) o
  refine mm_R_call (v := mm_wv) h hA (k2 := 27) (as := [.int s0]) (r := []) rfl (fun _ => rfl) (fun q hq o ho => ms_27 (by omega) hq ho) (fun _ M1 h => ?_)
  show mm_Runs L xs (d + 1) 118 (77, [some (.ref 41), some (.int v1), some (.int v2), some (.int v3), some (.int v4)], [], M1) o
  refine mm_Runs.seq (l := [(77, .aload_n 0, 1), (78, .getfield 15, 3), (81, .aload_n 0, 1), (82, .iload_n 3, 1), (83, .bipush 15, 2), (85, .iand, 1)]) (S2 := (86, [some (.ref 41), some (.int v1), some (.int v2), some (.int v3), some (.int v4)], [.int (v3 &&& (15 : Int32)), .ref 41, .ref 3], M1)) (by decide +kernel) (hO := mm_own_118) rfl ?_
  refine mm_R_call (v := mm_wi) h hA (k2 := 119) (as := [.ref 41, .int (v3 &&& (15 : Int32))]) (r := [.ref 3]) rfl (fun _ => rfl) (fun q hq o ho => ms_119 (by omega) hq ho) (fun r2 M3 h => ?_)
  show mm_Runs L xs (d + 1) 118 (89, [some (.ref 41), some (.int v1), some (.int v2), some (.int v3), some (.int v4)], [.int r2, .ref 3], M3) o
  refine mm_Runs.seq (l := [(89, .iconst 4, 1), (90, .iadd, 1), (91, .iload 4, 2), (93, .i2l, 1)]) (S2 := (94, [some (.ref 41), some (.int v1), some (.int v2), some (.int v3), some (.int v4)], [.long v4.toInt64, .int (r2 + (4 : Int32)), .ref 3], M3)) (by decide +kernel) (hO := mm_own_118) rfl ?_
  refine mm_R_call (v := mm_wv) h hA (k2 := 53) (as := [.ref 3, .int (r2 + (4 : Int32)), .long v4.toInt64]) (r := []) rfl (fun _ => rfl) (fun q hq o ho => ms_53 (by omega) hq ho) (fun _ M4 h => ?_)
  show mm_Runs L xs (d + 1) 118 (97, [some (.ref 41), some (.int v1), some (.int v2), some (.int v3), some (.int v4)], [], M4) o
  refine mm_Runs.seq (l := [(97, .iinc 2 1, 3), (100, .goto (-98), 3)]) (S2 := (2, [some (.ref 41), some (.int v1), some (.int (v2 + (1 : Int32))), some (.int v3), some (.int v4)], [], M4)) (by decide +kernel) (hO := mm_own_118) rfl ?_
  cases h
  exact (show mp_118_2 L xs (d + 1) v1 (v2 + (1 : Int32)) M4 o from hA) (some (.int v3)) (some (.int v4))
set_option maxRecDepth 8000 in
set_option maxHeartbeats 4000000 in
theorem ms_118_b2 {L : Nat} {xs : Nat → Int32} {d : Nat} (hd : 10 ≤ d) {v1 : Int32} {v2 : Int32} {M : mm_M} {q : (((Int32) ⊕ ((Unit) ⊕ (Unit))) ⊕ Nat) × mm_M} {o : mm_E} (h : mf_118_b2 v1 v2 M = some q) (hA : mm_A (mm_K2 (fun s M o => mp_118_2 L xs (d) v1 s M o) (fun r M o => mm_sm (fun r => mp_118_38 L xs (d) M o) (fun r => mp_118_103 L xs (d) M o) r)) q o) : mp_118_2 L xs d v1 v2 M o := by
  unfold mf_118_b2 at h
  obtain ⟨d, rfl⟩ := mm_d1 (n := 9) hd
  intro z3 z4
  show mm_Runs L xs (d + 1) 118 (2, [some (.ref 41), some (.int v1), some (.int v2), z3, z4], [], M) o
  refine mm_Runs.seq (l := [(2, .iload_n 2, 1), (3, .ldc 27, 2)]) (S2 := (5, [some (.ref 41), some (.int v1), some (.int v2), z3, z4], [.int (1000000 : Int32), .int v2], M)) (by decide +kernel) (hO := mm_own_118) rfl ?_
  refine mm_R_ige (t := 103) rfl rfl rfl (fun hc => ?_) (fun hc => ?_)
  · replace h := mm_ip hc h
    refine mm_Runs.seq (l := [(8, .aload_n 0, 1), (9, .getfield 9, 3)]) (S2 := (12, [some (.ref 41), some (.int v1), some (.int v2), z3, z4], [.ref 1], M)) (by decide +kernel) (hO := mm_own_118) rfl ?_
    refine mm_R_call (v := mm_wi) h hA (k2 := 44) (as := [.ref 1]) (r := []) rfl (fun _ => rfl) (fun q hq o ho => ms_44 (by omega) hq ho) (fun r1 M2 h => ?_)
    show mm_Runs L xs (d + 1) 118 (15, [some (.ref 41), some (.int v1), some (.int v2), z3, z4], [.int r1], M2) o
    refine mm_Runs.seq (l := [(15, .istore_n 3, 1), (16, .aload_n 0, 1), (17, .aload_n 0, 1), (18, .iload_n 3, 1), (19, .iconst 4, 1), (20, .ishr, 1)]) (S2 := (21, [some (.ref 41), some (.int v1), some (.int v2), some (.int r1), z4], [.int (mm_shr r1 (4 : Int32)), .ref 41, .ref 41], M2)) (by decide +kernel) (hO := mm_own_118) rfl ?_
    refine mm_R_call (v := mm_wi) h hA (k2 := 119) (as := [.ref 41, .int (mm_shr r1 (4 : Int32))]) (r := [.ref 41]) rfl (fun _ => rfl) (fun q hq o ho => ms_119 (by omega) hq ho) (fun r3 M4 h => ?_)
    show mm_Runs L xs (d + 1) 118 (24, [some (.ref 41), some (.int v1), some (.int v2), some (.int r1), z4], [.int r3, .ref 41], M4) o
    refine mm_Runs.seq (l := [(24, .i2l, 1)]) (S2 := (25, [some (.ref 41), some (.int v1), some (.int v2), some (.int r1), z4], [.long r3.toInt64, .ref 41], M4)) (by decide +kernel) (hO := mm_own_118) rfl ?_
    refine mm_R_call (v := mm_wv) h hA (k2 := 120) (as := [.ref 41, .long r3.toInt64]) (r := []) rfl (fun _ => rfl) (fun q hq o ho => ms_120 (by omega) hq ho) (fun _ M5 h => ?_)
    show mm_Runs L xs (d + 1) 118 (28, [some (.ref 41), some (.int v1), some (.int v2), some (.int r1), z4], [], M5) o
    refine mm_Runs.seq (l := [(28, .aload_n 0, 1), (29, .getfield 9, 3)]) (S2 := (32, [some (.ref 41), some (.int v1), some (.int v2), some (.int r1), z4], [.ref 1], M5)) (by decide +kernel) (hO := mm_own_118) rfl ?_
    refine mm_R_call (v := mm_wi) h hA (k2 := 43) (as := [.ref 1]) (r := []) rfl (fun _ => rfl) (fun q hq o ho => ms_43 (by omega) hq ho) (fun r6 M7 h => ?_)
    show mm_Runs L xs (d + 1) 118 (35, [some (.ref 41), some (.int v1), some (.int v2), some (.int r1), z4], [.int r6], M7) o
    refine mm_R_zeq (t := 39) rfl rfl rfl (fun hc => ?_) (fun hc => ?_)
    · replace h := mm_ip hc h
      refine mm_Runs.seq (l := [(39, .aload_n 0, 1), (40, .getfield 9, 3), (43, .iconst 2, 1)]) (S2 := (44, [some (.ref 41), some (.int v1), some (.int v2), some (.int r1), z4], [.int (2 : Int32), .ref 1], M7)) (by decide +kernel) (hO := mm_own_118) rfl ?_
      refine mm_R_call (v := mm_wl) h hA (k2 := 47) (as := [.ref 1, .int (2 : Int32)]) (r := []) rfl (fun _ => rfl) (fun q hq o ho => ms_47 (by omega) hq ho) (fun r8 M9 h => ?_)
      show mm_Runs L xs (d + 1) 118 (47, [some (.ref 41), some (.int v1), some (.int v2), some (.int r1), z4], [.long r8], M9) o
      refine mm_Runs.seq (l := [(47, .l2i, 1), (48, .istore 4, 2), (50, .iload 4, 2)]) (S2 := (52, [some (.ref 41), some (.int v1), some (.int v2), some (.int r1), some (.int r8.toInt32)], [.int r8.toInt32], M9)) (by decide +kernel) (hO := mm_own_118) rfl ?_
      refine mm_R_zeq (t := 69) rfl rfl rfl (fun hc => ?_) (fun hc => ?_)
      · replace h := mm_ip hc h
        refine mm_Runs.seq (l := [(69, .iconst 1, 1), (70, .goto 4, 3)]) (S2 := (74, [some (.ref 41), some (.int v1), some (.int v2), some (.int r1), some (.int r8.toInt32)], [.int (1 : Int32)], M9)) (by decide +kernel) (hO := mm_own_118) rfl ?_
        exact (ms_118_j74 hd h hA : mp_118_74 L xs (d + 1) v1 v2 r1 r8.toInt32 (1 : Int32) M9 o)
      · replace h := mm_iq hc h
        refine mm_Runs.seq (l := [(55, .iload 4, 2), (57, .aload_n 0, 1), (58, .getfield 15, 3), (61, .getfield 56, 3), (64, .iload_n 1, 1), (65, .isub, 1)]) (S2 := (66, [some (.ref 41), some (.int v1), some (.int v2), some (.int r1), some (.int r8.toInt32)], [.int ((M9.1 3 1) - v1), .int r8.toInt32], M9)) (by decide +kernel) (hO := mm_own_118) rfl ?_
        refine mm_R_ile (t := 73) rfl rfl rfl (fun hc => ?_) (fun hc => ?_)
        · replace h := mm_ip hc h
          refine mm_Runs.seq (l := [(69, .iconst 1, 1), (70, .goto 4, 3)]) (S2 := (74, [some (.ref 41), some (.int v1), some (.int v2), some (.int r1), some (.int r8.toInt32)], [.int (1 : Int32)], M9)) (by decide +kernel) (hO := mm_own_118) rfl ?_
          exact (ms_118_j74 hd h hA : mp_118_74 L xs (d + 1) v1 v2 r1 r8.toInt32 (1 : Int32) M9 o)
        · replace h := mm_iq hc h
          refine mm_Runs.seq (l := [(73, .iconst 0, 1)]) (S2 := (74, [some (.ref 41), some (.int v1), some (.int v2), some (.int r1), some (.int r8.toInt32)], [.int (0 : Int32)], M9)) (by decide +kernel) (hO := mm_own_118) rfl ?_
          exact (ms_118_j74 hd h hA : mp_118_74 L xs (d + 1) v1 v2 r1 r8.toInt32 (0 : Int32) M9 o)
    · replace h := mm_iq hc h
      cases h
      exact (show mp_118_38 L xs (d + 1) M7 o from hA) (some (.ref 41)) (some (.int v1)) (some (.int v2)) (some (.int r1)) z4
  · replace h := mm_iq hc h
    cases h
    exact (show mp_118_103 L xs (d + 1) M o from hA) (some (.ref 41)) (some (.int v1)) (some (.int v2)) z3 z4
theorem ms_118_L2 {L : Nat} {xs : Nat → Int32} {d : Nat} (hd : 10 ≤ d) {v1 : Int32} {v2 : Int32} {β : Type} {K : β → mm_M → mm_E → Prop} {F : ((Unit) ⊕ (Unit)) → mm_M → mm_O β} {M : mm_M} {q : (β ⊕ Nat) × mm_M} {o : mm_E} (h : mm_B (mf_118_L2 v1 v2 M) F = some q) (hA : mm_A K q o) (hx : ∀ (r : ((Unit) ⊕ (Unit))) (M2 : mm_M), F r M2 = some q → (fun r M o => mm_sm (fun r => mp_118_38 L xs (d) M o) (fun r => mp_118_103 L xs (d) M o) r) r M2 o) : mp_118_2 L xs d v1 v2 M o := by
  unfold mf_118_L2 at h
  exact mm_R_loop (step := (fun s M => mf_118_b2 v1 s M)) (s := v2) (M := M) (P := (fun s M o => mp_118_2 L xs (d) v1 s M o)) (X := (fun r M o => mm_sm (fun r => mp_118_38 L xs (d) M o) (fun r => mp_118_103 L xs (d) M o) r)) h hA (fun s M q hq hA => ms_118_b2 (v1 := v1) (v2 := s) (M := M) (q := q) hd hq hA) hx
set_option maxRecDepth 8000 in
set_option maxHeartbeats 4000000 in
theorem ms_118 {L : Nat} {xs : Nat → Int32} {d : Nat} (hd : 10 ≤ d) {v1 : Int32} {M : mm_M} {q : (Unit ⊕ Nat) × mm_M} {o : mm_E} (h : mf_118 v1 M = some q) (hA : mm_A (mm_Kr mm_wv) q o) : mm_Runs L xs d 118 (0, mm_ent (mm_ml 118) [.ref 41, .int v1], [], M) o := by
  unfold mf_118 at h
  obtain ⟨d, rfl⟩ := mm_d1 (n := 9) hd
  show mm_Runs L xs (d + 1) 118 (0, [some (.ref 41), some (.int v1), none, none, none], [], M) o
  refine mm_Runs.seq (l := [(0, .iconst 0, 1), (1, .istore_n 2, 1)]) (S2 := (2, [some (.ref 41), some (.int v1), some (.int (0 : Int32)), none, none], [], M)) (by decide +kernel) (hO := mm_own_118) rfl ?_
  have hp : mp_118_2 L xs (d + 1) v1 (0 : Int32) M o := by
    refine ms_118_L2 hd h hA (fun r2 M1 h => ?_)
    rcases r2 with r2 | r2
    · dsimp only [mm_sm] at h
      intro y3 y4 y5 y6 y7
      show mm_Runs L xs (d + 1) 118 (38, [y3, y4, y5, y6, y7], [], M1) o
      cases h
      exact mm_R_retv rfl rfl hA
    · dsimp only [mm_sm] at h
      intro y8 y9 y10 y11 y12
      show mm_Runs L xs (d + 1) 118 (103, [y8, y9, y10, y11, y12], [], M1) o
      cases h
      exact mm_R_retv rfl rfl hA
  exact hp none none
-- 33: PlainPacks.lowWord([II)I (depth 0)
theorem mm_own_33 : mm_own 33 = 0 := rfl
set_option maxRecDepth 8000 in
set_option maxHeartbeats 4000000 in
theorem ms_33 {L : Nat} {xs : Nat → Int32} {p : Nat} {n : Nat} {d : Nat} (ha : mm_aat 0 p = some n) (hd : 0 ≤ d) {v1 : Int32} {M : mm_M} {q : (Int32 ⊕ Nat) × mm_M} {o : mm_E} (h : mf_33 p n v1 M = some q) (hA : mm_A (mm_Kr mm_wi) q o) : mm_Runs L xs d 33 (0, mm_ent (mm_ml 33) [.ref p, .int v1], [], M) o := by
  unfold mf_33 at h
  show mm_Runs L xs (d) 33 (0, [some (.ref p), some (.int v1)], [], M) o
  refine mm_Runs.seq (l := [(0, .aload_n 0, 1), (1, .iload_n 1, 1)]) (S2 := (2, [some (.ref p), some (.int v1)], [.int v1, .ref p], M)) (by decide +kernel) (hO := mm_own_33) rfl ?_
  obtain ⟨hb, h⟩ := mm_gd h
  refine mm_R_iald rfl ha hb ?_
  refine mm_Runs.seq (l := [(3, .aload_n 0, 1), (4, .iload_n 1, 1), (5, .iconst 1, 1), (6, .iadd, 1)]) (S2 := (7, [some (.ref p), some (.int v1)], [.int (v1 + (1 : Int32)), .ref p, .int (M.1 p v1.toNatClampNeg)], M)) (by decide +kernel) (hO := mm_own_33) rfl ?_
  obtain ⟨hb, h⟩ := mm_gd h
  refine mm_R_iald rfl ha hb ?_
  refine mm_Runs.seq (l := [(8, .bipush 8, 2), (10, .ishl, 1), (11, .ior, 1), (12, .aload_n 0, 1), (13, .iload_n 1, 1), (14, .iconst 2, 1), (15, .iadd, 1)]) (S2 := (16, [some (.ref p), some (.int v1)], [.int (v1 + (2 : Int32)), .ref p, .int ((M.1 p v1.toNatClampNeg) ||| (mm_shl (M.1 p (v1 + (1 : Int32)).toNatClampNeg) (8 : Int32)))], M)) (by decide +kernel) (hO := mm_own_33) rfl ?_
  obtain ⟨hb, h⟩ := mm_gd h
  refine mm_R_iald rfl ha hb ?_
  refine mm_Runs.seq (l := [(17, .bipush 16, 2), (19, .ishl, 1), (20, .ior, 1), (21, .aload_n 0, 1), (22, .iload_n 1, 1), (23, .iconst 3, 1), (24, .iadd, 1)]) (S2 := (25, [some (.ref p), some (.int v1)], [.int (v1 + (3 : Int32)), .ref p, .int (((M.1 p v1.toNatClampNeg) ||| (mm_shl (M.1 p (v1 + (1 : Int32)).toNatClampNeg) (8 : Int32))) ||| (mm_shl (M.1 p (v1 + (2 : Int32)).toNatClampNeg) (16 : Int32)))], M)) (by decide +kernel) (hO := mm_own_33) rfl ?_
  obtain ⟨hb, h⟩ := mm_gd h
  refine mm_R_iald rfl ha hb ?_
  refine mm_Runs.seq (l := [(26, .bipush 24, 2), (28, .ishl, 1), (29, .ior, 1)]) (S2 := (30, [some (.ref p), some (.int v1)], [.int ((((M.1 p v1.toNatClampNeg) ||| (mm_shl (M.1 p (v1 + (1 : Int32)).toNatClampNeg) (8 : Int32))) ||| (mm_shl (M.1 p (v1 + (2 : Int32)).toNatClampNeg) (16 : Int32))) ||| (mm_shl (M.1 p (v1 + (3 : Int32)).toNatClampNeg) (24 : Int32)))], M)) (by decide +kernel) (hO := mm_own_33) rfl ?_
  cases h
  exact mm_R_reti rfl rfl hA
-- 32: PlainPacks.turnedLeft(II)I (depth 0)
theorem mm_own_32 : mm_own 32 = 0 := rfl
set_option maxRecDepth 8000 in
set_option maxHeartbeats 4000000 in
theorem ms_32 {L : Nat} {xs : Nat → Int32} {d : Nat} (hd : 0 ≤ d) {v0 : Int32} {v1 : Int32} {M : mm_M} {q : (Int32 ⊕ Nat) × mm_M} {o : mm_E} (h : mf_32 v0 v1 M = some q) (hA : mm_A (mm_Kr mm_wi) q o) : mm_Runs L xs d 32 (0, mm_ent (mm_ml 32) [.int v0, .int v1], [], M) o := by
  unfold mf_32 at h
  show mm_Runs L xs (d) 32 (0, [some (.int v0), some (.int v1)], [], M) o
  refine mm_Runs.seq (l := [(0, .iload_n 0, 1), (1, .iload_n 1, 1), (2, .ishl, 1), (3, .iload_n 0, 1), (4, .bipush 32, 2), (6, .iload_n 1, 1), (7, .isub, 1), (8, .iushr, 1), (9, .ior, 1)]) (S2 := (10, [some (.int v0), some (.int v1)], [.int ((mm_shl v0 v1) ||| (mm_ush v0 ((32 : Int32) - v1)))], M)) (by decide +kernel) (hO := mm_own_32) rfl ?_
  cases h
  exact mm_R_reti rfl rfl hA
-- 31: PlainPacks.xxOf([III)I (depth 1)
theorem mm_own_31 : mm_own 31 = 0 := rfl
def mp_31_187 (L : Nat) (xs : Nat → Int32) (p : Nat) (n : Nat) (d : Nat) (v2 : Int32) (v3 : Int32) (v4 : Int32) (M : mm_M) (o : mm_E) : Prop := ∀ z1 z5 z6 z7 z8 : Option Value, mm_Runs L xs d 31 (187, [some (.ref p), z1, some (.int v2), some (.int v3), some (.int v4), z5, z6, z7, z8], [], M) o
def mp_31_223 (L : Nat) (xs : Nat → Int32) (p : Nat) (n : Nat) (d : Nat) (v2 : Int32) (v3 : Int32) (v4 : Int32) (M : mm_M) (o : mm_E) : Prop := ∀ z1 z5 z6 z7 z8 : Option Value, mm_Runs L xs d 31 (223, [some (.ref p), z1, some (.int v2), some (.int v3), some (.int v4), z5, z6, z7, z8], [], M) o
set_option maxRecDepth 8000 in
set_option maxHeartbeats 4000000 in
theorem ms_31_b187 {L : Nat} {xs : Nat → Int32} {p : Nat} {n : Nat} {d : Nat} (ha : mm_aat 0 p = some n) (hd : 1 ≤ d) {v2 : Int32} {v3 : Int32} {v4 : Int32} {M : mm_M} {q : (((Int32 × Int32) ⊕ (Int32 × Int32)) ⊕ Nat) × mm_M} {o : mm_E} (h : mf_31_b187 p n v2 v3 v4 M = some q) (hA : mm_A (mm_K2 (fun s M o => mp_31_187 L xs p n (d) v2 s.1 s.2 M o) (fun r M o => mp_31_223 L xs p n (d) v2 r.1 r.2 M o)) q o) : mp_31_187 L xs p n d v2 v3 v4 M o := by
  unfold mf_31_b187 at h
  obtain ⟨d, rfl⟩ := mm_d1 (n := 0) hd
  intro z1 z5 z6 z7 z8
  show mm_Runs L xs (d + 1) 31 (187, [some (.ref p), z1, some (.int v2), some (.int v3), some (.int v4), z5, z6, z7, z8], [], M) o
  refine mm_Runs.seq (l := [(187, .iload_n 3, 1), (188, .iconst 4, 1), (189, .iadd, 1), (190, .iload_n 2, 1)]) (S2 := (191, [some (.ref p), z1, some (.int v2), some (.int v3), some (.int v4), z5, z6, z7, z8], [.int v2, .int (v3 + (4 : Int32))], M)) (by decide +kernel) (hO := mm_own_31) rfl ?_
  refine mm_R_igt (t := 223) rfl rfl rfl (fun hc => ?_) (fun hc => ?_)
  · replace h := mm_ip hc h
    cases h
    exact (show mp_31_223 L xs p n (d + 1) v2 v3 v4 M o from hA) z1 z5 z6 z7 z8
  · replace h := mm_iq hc h
    refine mm_Runs.seq (l := [(194, .iload 4, 2), (196, .aload_n 0, 1), (197, .iload_n 3, 1)]) (S2 := (198, [some (.ref p), z1, some (.int v2), some (.int v3), some (.int v4), z5, z6, z7, z8], [.int v3, .ref p, .int v4], M)) (by decide +kernel) (hO := mm_own_31) rfl ?_
    refine mm_R_call (v := mm_wi) h hA (k2 := 33) (as := [.ref p, .int v3]) (r := [.int v4]) rfl (fun _ => rfl) (fun q hq o ho => ms_33 ha (by omega) hq ho) (fun r1 M2 h => ?_)
    show mm_Runs L xs (d + 1) 31 (201, [some (.ref p), z1, some (.int v2), some (.int v3), some (.int v4), z5, z6, z7, z8], [.int r1, .int v4], M2) o
    refine mm_Runs.seq (l := [(201, .ldc_w 299, 3), (204, .imul, 1), (205, .iadd, 1), (206, .bipush 17, 2)]) (S2 := (208, [some (.ref p), z1, some (.int v2), some (.int v3), some (.int v4), z5, z6, z7, z8], [.int (17 : Int32), .int (v4 + (r1 * (-1028477379 : Int32)))], M2)) (by decide +kernel) (hO := mm_own_31) rfl ?_
    refine mm_R_call (v := mm_wi) h hA (k2 := 32) (as := [.int (v4 + (r1 * (-1028477379 : Int32))), .int (17 : Int32)]) (r := []) rfl (fun _ => rfl) (fun q hq o ho => ms_32 (by omega) hq ho) (fun r3 M4 h => ?_)
    show mm_Runs L xs (d + 1) 31 (211, [some (.ref p), z1, some (.int v2), some (.int v3), some (.int v4), z5, z6, z7, z8], [.int r3], M4) o
    refine mm_Runs.seq (l := [(211, .ldc_w 300, 3), (214, .imul, 1), (215, .istore 4, 2), (217, .iinc 3 4, 3), (220, .goto (-33), 3)]) (S2 := (187, [some (.ref p), z1, some (.int v2), some (.int (v3 + (4 : Int32))), some (.int (r3 * (668265263 : Int32))), z5, z6, z7, z8], [], M4)) (by decide +kernel) (hO := mm_own_31) rfl ?_
    cases h
    exact (show mp_31_187 L xs p n (d + 1) v2 (v3 + (4 : Int32)) (r3 * (668265263 : Int32)) M4 o from hA) z1 z5 z6 z7 z8
theorem ms_31_L187 {L : Nat} {xs : Nat → Int32} {p : Nat} {n : Nat} {d : Nat} (ha : mm_aat 0 p = some n) (hd : 1 ≤ d) {v2 : Int32} {v3 : Int32} {v4 : Int32} {β : Type} {K : β → mm_M → mm_E → Prop} {F : (Int32 × Int32) → mm_M → mm_O β} {M : mm_M} {q : (β ⊕ Nat) × mm_M} {o : mm_E} (h : mm_B (mf_31_L187 p n v2 (v3, v4) M) F = some q) (hA : mm_A K q o) (hx : ∀ (r : (Int32 × Int32)) (M2 : mm_M), F r M2 = some q → (fun r M o => mp_31_223 L xs p n (d) v2 r.1 r.2 M o) r M2 o) : mp_31_187 L xs p n d v2 v3 v4 M o := by
  unfold mf_31_L187 at h
  exact mm_R_loop (step := (fun s M => mf_31_b187 p n v2 s.1 s.2 M)) (s := (v3, v4)) (M := M) (P := (fun s M o => mp_31_187 L xs p n (d) v2 s.1 s.2 M o)) (X := (fun r M o => mp_31_223 L xs p n (d) v2 r.1 r.2 M o)) h hA (fun s M q hq hA => ms_31_b187 ha (v2 := v2) (v3 := s.1) (v4 := s.2) (M := M) (q := q) hd hq hA) hx
def mp_31_255 (L : Nat) (xs : Nat → Int32) (p : Nat) (n : Nat) (d : Nat) (v4 : Int32) (M : mm_M) (o : mm_E) : Prop := ∀ z0 z1 z2 z3 z5 z6 z7 z8 : Option Value, mm_Runs L xs d 31 (255, [z0, z1, z2, z3, some (.int v4), z5, z6, z7, z8], [], M) o
set_option maxRecDepth 8000 in
set_option maxHeartbeats 4000000 in
theorem ms_31_b223 {L : Nat} {xs : Nat → Int32} {p : Nat} {n : Nat} {d : Nat} (ha : mm_aat 0 p = some n) (hd : 1 ≤ d) {v2 : Int32} {v3 : Int32} {v4 : Int32} {M : mm_M} {q : (((Int32 × Int32) ⊕ (Int32)) ⊕ Nat) × mm_M} {o : mm_E} (h : mf_31_b223 p n v2 v3 v4 M = some q) (hA : mm_A (mm_K2 (fun s M o => mp_31_223 L xs p n (d) v2 s.1 s.2 M o) (fun r M o => mp_31_255 L xs p n (d) r M o)) q o) : mp_31_223 L xs p n d v2 v3 v4 M o := by
  unfold mf_31_b223 at h
  obtain ⟨d, rfl⟩ := mm_d1 (n := 0) hd
  intro z1 z5 z6 z7 z8
  show mm_Runs L xs (d + 1) 31 (223, [some (.ref p), z1, some (.int v2), some (.int v3), some (.int v4), z5, z6, z7, z8], [], M) o
  refine mm_Runs.seq (l := [(223, .iload_n 3, 1), (224, .iload_n 2, 1)]) (S2 := (225, [some (.ref p), z1, some (.int v2), some (.int v3), some (.int v4), z5, z6, z7, z8], [.int v2, .int v3], M)) (by decide +kernel) (hO := mm_own_31) rfl ?_
  refine mm_R_ige (t := 255) rfl rfl rfl (fun hc => ?_) (fun hc => ?_)
  · replace h := mm_ip hc h
    refine mm_Runs.seq (l := [(228, .iload 4, 2), (230, .aload_n 0, 1), (231, .iload_n 3, 1)]) (S2 := (232, [some (.ref p), z1, some (.int v2), some (.int v3), some (.int v4), z5, z6, z7, z8], [.int v3, .ref p, .int v4], M)) (by decide +kernel) (hO := mm_own_31) rfl ?_
    obtain ⟨hb, h⟩ := mm_gd h
    refine mm_R_iald rfl ha hb ?_
    refine mm_Runs.seq (l := [(233, .ldc_w 286, 3), (236, .imul, 1), (237, .iadd, 1), (238, .bipush 11, 2)]) (S2 := (240, [some (.ref p), z1, some (.int v2), some (.int v3), some (.int v4), z5, z6, z7, z8], [.int (11 : Int32), .int (v4 + ((M.1 p v3.toNatClampNeg) * (374761393 : Int32)))], M)) (by decide +kernel) (hO := mm_own_31) rfl ?_
    refine mm_R_call (v := mm_wi) h hA (k2 := 32) (as := [.int (v4 + ((M.1 p v3.toNatClampNeg) * (374761393 : Int32))), .int (11 : Int32)]) (r := []) rfl (fun _ => rfl) (fun q hq o ho => ms_32 (by omega) hq ho) (fun r1 M2 h => ?_)
    show mm_Runs L xs (d + 1) 31 (243, [some (.ref p), z1, some (.int v2), some (.int v3), some (.int v4), z5, z6, z7, z8], [.int r1], M2) o
    refine mm_Runs.seq (l := [(243, .ldc_w 298, 3), (246, .imul, 1), (247, .istore 4, 2), (249, .iinc 3 1, 3), (252, .goto (-29), 3)]) (S2 := (223, [some (.ref p), z1, some (.int v2), some (.int (v3 + (1 : Int32))), some (.int (r1 * (-1640531535 : Int32))), z5, z6, z7, z8], [], M2)) (by decide +kernel) (hO := mm_own_31) rfl ?_
    cases h
    exact (show mp_31_223 L xs p n (d + 1) v2 (v3 + (1 : Int32)) (r1 * (-1640531535 : Int32)) M2 o from hA) z1 z5 z6 z7 z8
  · replace h := mm_iq hc h
    cases h
    exact (show mp_31_255 L xs p n (d + 1) v4 M o from hA) (some (.ref p)) z1 (some (.int v2)) (some (.int v3)) z5 z6 z7 z8
theorem ms_31_L223 {L : Nat} {xs : Nat → Int32} {p : Nat} {n : Nat} {d : Nat} (ha : mm_aat 0 p = some n) (hd : 1 ≤ d) {v2 : Int32} {v3 : Int32} {v4 : Int32} {β : Type} {K : β → mm_M → mm_E → Prop} {F : (Int32) → mm_M → mm_O β} {M : mm_M} {q : (β ⊕ Nat) × mm_M} {o : mm_E} (h : mm_B (mf_31_L223 p n v2 (v3, v4) M) F = some q) (hA : mm_A K q o) (hx : ∀ (r : (Int32)) (M2 : mm_M), F r M2 = some q → (fun r M o => mp_31_255 L xs p n (d) r M o) r M2 o) : mp_31_223 L xs p n d v2 v3 v4 M o := by
  unfold mf_31_L223 at h
  exact mm_R_loop (step := (fun s M => mf_31_b223 p n v2 s.1 s.2 M)) (s := (v3, v4)) (M := M) (P := (fun s M o => mp_31_223 L xs p n (d) v2 s.1 s.2 M o)) (X := (fun r M o => mp_31_255 L xs p n (d) r M o)) h hA (fun s M q hq hA => ms_31_b223 ha (v2 := v2) (v3 := s.1) (v4 := s.2) (M := M) (q := q) hd hq hA) hx
set_option maxRecDepth 8000 in
set_option maxHeartbeats 4000000 in
theorem ms_31_j255 {L : Nat} {xs : Nat → Int32} {p : Nat} {n : Nat} {d : Nat} (ha : mm_aat 0 p = some n) (hd : 1 ≤ d) {v4 : Int32} {M : mm_M} {q : (Int32 ⊕ Nat) × mm_M} {o : mm_E} (h : mf_31_j255 p n v4 M = some q) (hA : mm_A (mm_Kr mm_wi) q o) : mp_31_255 L xs p n d v4 M o := by
  unfold mf_31_j255 at h
  obtain ⟨d, rfl⟩ := mm_d1 (n := 0) hd
  intro z0 z1 z2 z3 z5 z6 z7 z8
  show mm_Runs L xs (d + 1) 31 (255, [z0, z1, z2, z3, some (.int v4), z5, z6, z7, z8], [], M) o
  refine mm_Runs.seq (l := [(255, .iload 4, 2), (257, .iload 4, 2), (259, .bipush 15, 2), (261, .iushr, 1), (262, .ixor, 1), (263, .ldc_w 288, 3), (266, .imul, 1), (267, .istore 4, 2), (269, .iload 4, 2), (271, .iload 4, 2), (273, .bipush 13, 2), (275, .iushr, 1), (276, .ixor, 1), (277, .ldc_w 299, 3), (280, .imul, 1), (281, .istore 4, 2), (283, .iload 4, 2), (285, .iload 4, 2), (287, .bipush 16, 2), (289, .iushr, 1), (290, .ixor, 1)]) (S2 := (291, [z0, z1, z2, (mm_no2 (mm_no2 z3)), some (.int ((((v4 ^^^ (mm_ush v4 (15 : Int32))) * (-2048144777 : Int32)) ^^^ (mm_ush ((v4 ^^^ (mm_ush v4 (15 : Int32))) * (-2048144777 : Int32)) (13 : Int32))) * (-1028477379 : Int32))), z5, z6, z7, z8], [.int (((((v4 ^^^ (mm_ush v4 (15 : Int32))) * (-2048144777 : Int32)) ^^^ (mm_ush ((v4 ^^^ (mm_ush v4 (15 : Int32))) * (-2048144777 : Int32)) (13 : Int32))) * (-1028477379 : Int32)) ^^^ (mm_ush ((((v4 ^^^ (mm_ush v4 (15 : Int32))) * (-2048144777 : Int32)) ^^^ (mm_ush ((v4 ^^^ (mm_ush v4 (15 : Int32))) * (-2048144777 : Int32)) (13 : Int32))) * (-1028477379 : Int32)) (16 : Int32)))], M)) (by decide +kernel) (hO := mm_own_31) rfl ?_
  cases h
  exact mm_R_reti rfl rfl hA
def mp_31_33 (L : Nat) (xs : Nat → Int32) (p : Nat) (n : Nat) (d : Nat) (v1 : Int32) (v2 : Int32) (v3 : Int32) (v5 : Int32) (v6 : Int32) (v7 : Int32) (v8 : Int32) (M : mm_M) (o : mm_E) : Prop := ∀ z4 : Option Value, mm_Runs L xs d 31 (33, [some (.ref p), some (.int v1), some (.int v2), some (.int v3), z4, some (.int v5), some (.int v6), some (.int v7), some (.int v8)], [], M) o
def mp_31_147 (L : Nat) (xs : Nat → Int32) (p : Nat) (n : Nat) (d : Nat) (v1 : Int32) (v2 : Int32) (v3 : Int32) (v5 : Int32) (v6 : Int32) (v7 : Int32) (v8 : Int32) (M : mm_M) (o : mm_E) : Prop := ∀ z4 : Option Value, mm_Runs L xs d 31 (147, [some (.ref p), some (.int v1), some (.int v2), some (.int v3), z4, some (.int v5), some (.int v6), some (.int v7), some (.int v8)], [], M) o
set_option maxRecDepth 8000 in
set_option maxHeartbeats 4000000 in
theorem ms_31_b33 {L : Nat} {xs : Nat → Int32} {p : Nat} {n : Nat} {d : Nat} (ha : mm_aat 0 p = some n) (hd : 1 ≤ d) {v1 : Int32} {v2 : Int32} {v3 : Int32} {v5 : Int32} {v6 : Int32} {v7 : Int32} {v8 : Int32} {M : mm_M} {q : (((Int32 × Int32 × Int32 × Int32 × Int32) ⊕ (Int32 × Int32 × Int32 × Int32 × Int32)) ⊕ Nat) × mm_M} {o : mm_E} (h : mf_31_b33 p n v1 v2 v3 v5 v6 v7 v8 M = some q) (hA : mm_A (mm_K2 (fun s M o => mp_31_33 L xs p n (d) v1 v2 s.1 s.2.1 s.2.2.1 s.2.2.2.1 s.2.2.2.2 M o) (fun r M o => mp_31_147 L xs p n (d) v1 v2 r.1 r.2.1 r.2.2.1 r.2.2.2.1 r.2.2.2.2 M o)) q o) : mp_31_33 L xs p n d v1 v2 v3 v5 v6 v7 v8 M o := by
  unfold mf_31_b33 at h
  obtain ⟨d, rfl⟩ := mm_d1 (n := 0) hd
  intro z4
  show mm_Runs L xs (d + 1) 31 (33, [some (.ref p), some (.int v1), some (.int v2), some (.int v3), z4, some (.int v5), some (.int v6), some (.int v7), some (.int v8)], [], M) o
  refine mm_Runs.seq (l := [(33, .iload_n 3, 1), (34, .bipush 16, 2), (36, .iadd, 1), (37, .iload_n 2, 1)]) (S2 := (38, [some (.ref p), some (.int v1), some (.int v2), some (.int v3), z4, some (.int v5), some (.int v6), some (.int v7), some (.int v8)], [.int v2, .int (v3 + (16 : Int32))], M)) (by decide +kernel) (hO := mm_own_31) rfl ?_
  refine mm_R_igt (t := 147) rfl rfl rfl (fun hc => ?_) (fun hc => ?_)
  · replace h := mm_ip hc h
    cases h
    exact (show mp_31_147 L xs p n (d + 1) v1 v2 v3 v5 v6 v7 v8 M o from hA) z4
  · replace h := mm_iq hc h
    refine mm_Runs.seq (l := [(41, .iload 5, 2), (43, .aload_n 0, 1), (44, .iload_n 3, 1)]) (S2 := (45, [some (.ref p), some (.int v1), some (.int v2), some (.int v3), z4, some (.int v5), some (.int v6), some (.int v7), some (.int v8)], [.int v3, .ref p, .int v5], M)) (by decide +kernel) (hO := mm_own_31) rfl ?_
    refine mm_R_call (v := mm_wi) h hA (k2 := 33) (as := [.ref p, .int v3]) (r := [.int v5]) rfl (fun _ => rfl) (fun q hq o ho => ms_33 ha (by omega) hq ho) (fun r1 M2 h => ?_)
    show mm_Runs L xs (d + 1) 31 (48, [some (.ref p), some (.int v1), some (.int v2), some (.int v3), z4, some (.int v5), some (.int v6), some (.int v7), some (.int v8)], [.int r1, .int v5], M2) o
    refine mm_Runs.seq (l := [(48, .ldc_w 288, 3), (51, .imul, 1), (52, .iadd, 1), (53, .bipush 13, 2)]) (S2 := (55, [some (.ref p), some (.int v1), some (.int v2), some (.int v3), z4, some (.int v5), some (.int v6), some (.int v7), some (.int v8)], [.int (13 : Int32), .int (v5 + (r1 * (-2048144777 : Int32)))], M2)) (by decide +kernel) (hO := mm_own_31) rfl ?_
    refine mm_R_call (v := mm_wi) h hA (k2 := 32) (as := [.int (v5 + (r1 * (-2048144777 : Int32))), .int (13 : Int32)]) (r := []) rfl (fun _ => rfl) (fun q hq o ho => ms_32 (by omega) hq ho) (fun r3 M4 h => ?_)
    show mm_Runs L xs (d + 1) 31 (58, [some (.ref p), some (.int v1), some (.int v2), some (.int v3), z4, some (.int v5), some (.int v6), some (.int v7), some (.int v8)], [.int r3], M4) o
    refine mm_Runs.seq (l := [(58, .ldc_w 298, 3), (61, .imul, 1), (62, .istore 5, 2), (64, .iload 6, 2), (66, .aload_n 0, 1), (67, .iload_n 3, 1), (68, .iconst 4, 1), (69, .iadd, 1)]) (S2 := (70, [some (.ref p), some (.int v1), some (.int v2), some (.int v3), (mm_no2 z4), some (.int (r3 * (-1640531535 : Int32))), some (.int v6), some (.int v7), some (.int v8)], [.int (v3 + (4 : Int32)), .ref p, .int v6], M4)) (by decide +kernel) (hO := mm_own_31) rfl ?_
    refine mm_R_call (v := mm_wi) h hA (k2 := 33) (as := [.ref p, .int (v3 + (4 : Int32))]) (r := [.int v6]) rfl (fun _ => rfl) (fun q hq o ho => ms_33 ha (by omega) hq ho) (fun r5 M6 h => ?_)
    show mm_Runs L xs (d + 1) 31 (73, [some (.ref p), some (.int v1), some (.int v2), some (.int v3), (mm_no2 z4), some (.int (r3 * (-1640531535 : Int32))), some (.int v6), some (.int v7), some (.int v8)], [.int r5, .int v6], M6) o
    refine mm_Runs.seq (l := [(73, .ldc_w 288, 3), (76, .imul, 1), (77, .iadd, 1), (78, .bipush 13, 2)]) (S2 := (80, [some (.ref p), some (.int v1), some (.int v2), some (.int v3), (mm_no2 z4), some (.int (r3 * (-1640531535 : Int32))), some (.int v6), some (.int v7), some (.int v8)], [.int (13 : Int32), .int (v6 + (r5 * (-2048144777 : Int32)))], M6)) (by decide +kernel) (hO := mm_own_31) rfl ?_
    refine mm_R_call (v := mm_wi) h hA (k2 := 32) (as := [.int (v6 + (r5 * (-2048144777 : Int32))), .int (13 : Int32)]) (r := []) rfl (fun _ => rfl) (fun q hq o ho => ms_32 (by omega) hq ho) (fun r7 M8 h => ?_)
    show mm_Runs L xs (d + 1) 31 (83, [some (.ref p), some (.int v1), some (.int v2), some (.int v3), (mm_no2 z4), some (.int (r3 * (-1640531535 : Int32))), some (.int v6), some (.int v7), some (.int v8)], [.int r7], M8) o
    refine mm_Runs.seq (l := [(83, .ldc_w 298, 3), (86, .imul, 1), (87, .istore 6, 2), (89, .iload 7, 2), (91, .aload_n 0, 1), (92, .iload_n 3, 1), (93, .bipush 8, 2), (95, .iadd, 1)]) (S2 := (96, [some (.ref p), some (.int v1), some (.int v2), some (.int v3), (mm_no2 z4), some (.int (r3 * (-1640531535 : Int32))), some (.int (r7 * (-1640531535 : Int32))), some (.int v7), some (.int v8)], [.int (v3 + (8 : Int32)), .ref p, .int v7], M8)) (by decide +kernel) (hO := mm_own_31) rfl ?_
    refine mm_R_call (v := mm_wi) h hA (k2 := 33) (as := [.ref p, .int (v3 + (8 : Int32))]) (r := [.int v7]) rfl (fun _ => rfl) (fun q hq o ho => ms_33 ha (by omega) hq ho) (fun r9 M10 h => ?_)
    show mm_Runs L xs (d + 1) 31 (99, [some (.ref p), some (.int v1), some (.int v2), some (.int v3), (mm_no2 z4), some (.int (r3 * (-1640531535 : Int32))), some (.int (r7 * (-1640531535 : Int32))), some (.int v7), some (.int v8)], [.int r9, .int v7], M10) o
    refine mm_Runs.seq (l := [(99, .ldc_w 288, 3), (102, .imul, 1), (103, .iadd, 1), (104, .bipush 13, 2)]) (S2 := (106, [some (.ref p), some (.int v1), some (.int v2), some (.int v3), (mm_no2 z4), some (.int (r3 * (-1640531535 : Int32))), some (.int (r7 * (-1640531535 : Int32))), some (.int v7), some (.int v8)], [.int (13 : Int32), .int (v7 + (r9 * (-2048144777 : Int32)))], M10)) (by decide +kernel) (hO := mm_own_31) rfl ?_
    refine mm_R_call (v := mm_wi) h hA (k2 := 32) (as := [.int (v7 + (r9 * (-2048144777 : Int32))), .int (13 : Int32)]) (r := []) rfl (fun _ => rfl) (fun q hq o ho => ms_32 (by omega) hq ho) (fun r11 M12 h => ?_)
    show mm_Runs L xs (d + 1) 31 (109, [some (.ref p), some (.int v1), some (.int v2), some (.int v3), (mm_no2 z4), some (.int (r3 * (-1640531535 : Int32))), some (.int (r7 * (-1640531535 : Int32))), some (.int v7), some (.int v8)], [.int r11], M12) o
    refine mm_Runs.seq (l := [(109, .ldc_w 298, 3), (112, .imul, 1), (113, .istore 7, 2), (115, .iload 8, 2), (117, .aload_n 0, 1), (118, .iload_n 3, 1), (119, .bipush 12, 2), (121, .iadd, 1)]) (S2 := (122, [some (.ref p), some (.int v1), some (.int v2), some (.int v3), (mm_no2 z4), some (.int (r3 * (-1640531535 : Int32))), some (.int (r7 * (-1640531535 : Int32))), some (.int (r11 * (-1640531535 : Int32))), some (.int v8)], [.int (v3 + (12 : Int32)), .ref p, .int v8], M12)) (by decide +kernel) (hO := mm_own_31) rfl ?_
    refine mm_R_call (v := mm_wi) h hA (k2 := 33) (as := [.ref p, .int (v3 + (12 : Int32))]) (r := [.int v8]) rfl (fun _ => rfl) (fun q hq o ho => ms_33 ha (by omega) hq ho) (fun r13 M14 h => ?_)
    show mm_Runs L xs (d + 1) 31 (125, [some (.ref p), some (.int v1), some (.int v2), some (.int v3), (mm_no2 z4), some (.int (r3 * (-1640531535 : Int32))), some (.int (r7 * (-1640531535 : Int32))), some (.int (r11 * (-1640531535 : Int32))), some (.int v8)], [.int r13, .int v8], M14) o
    refine mm_Runs.seq (l := [(125, .ldc_w 288, 3), (128, .imul, 1), (129, .iadd, 1), (130, .bipush 13, 2)]) (S2 := (132, [some (.ref p), some (.int v1), some (.int v2), some (.int v3), (mm_no2 z4), some (.int (r3 * (-1640531535 : Int32))), some (.int (r7 * (-1640531535 : Int32))), some (.int (r11 * (-1640531535 : Int32))), some (.int v8)], [.int (13 : Int32), .int (v8 + (r13 * (-2048144777 : Int32)))], M14)) (by decide +kernel) (hO := mm_own_31) rfl ?_
    refine mm_R_call (v := mm_wi) h hA (k2 := 32) (as := [.int (v8 + (r13 * (-2048144777 : Int32))), .int (13 : Int32)]) (r := []) rfl (fun _ => rfl) (fun q hq o ho => ms_32 (by omega) hq ho) (fun r15 M16 h => ?_)
    show mm_Runs L xs (d + 1) 31 (135, [some (.ref p), some (.int v1), some (.int v2), some (.int v3), (mm_no2 z4), some (.int (r3 * (-1640531535 : Int32))), some (.int (r7 * (-1640531535 : Int32))), some (.int (r11 * (-1640531535 : Int32))), some (.int v8)], [.int r15], M16) o
    refine mm_Runs.seq (l := [(135, .ldc_w 298, 3), (138, .imul, 1), (139, .istore 8, 2), (141, .iinc 3 16, 3), (144, .goto (-111), 3)]) (S2 := (33, [some (.ref p), some (.int v1), some (.int v2), some (.int (v3 + (16 : Int32))), (mm_no2 z4), some (.int (r3 * (-1640531535 : Int32))), some (.int (r7 * (-1640531535 : Int32))), some (.int (r11 * (-1640531535 : Int32))), some (.int (r15 * (-1640531535 : Int32)))], [], M16)) (by decide +kernel) (hO := mm_own_31) rfl ?_
    cases h
    exact (show mp_31_33 L xs p n (d + 1) v1 v2 (v3 + (16 : Int32)) (r3 * (-1640531535 : Int32)) (r7 * (-1640531535 : Int32)) (r11 * (-1640531535 : Int32)) (r15 * (-1640531535 : Int32)) M16 o from hA) ((mm_no2 z4))
theorem ms_31_L33 {L : Nat} {xs : Nat → Int32} {p : Nat} {n : Nat} {d : Nat} (ha : mm_aat 0 p = some n) (hd : 1 ≤ d) {v1 : Int32} {v2 : Int32} {v3 : Int32} {v5 : Int32} {v6 : Int32} {v7 : Int32} {v8 : Int32} {β : Type} {K : β → mm_M → mm_E → Prop} {F : (Int32 × Int32 × Int32 × Int32 × Int32) → mm_M → mm_O β} {M : mm_M} {q : (β ⊕ Nat) × mm_M} {o : mm_E} (h : mm_B (mf_31_L33 p n v1 v2 (v3, v5, v6, v7, v8) M) F = some q) (hA : mm_A K q o) (hx : ∀ (r : (Int32 × Int32 × Int32 × Int32 × Int32)) (M2 : mm_M), F r M2 = some q → (fun r M o => mp_31_147 L xs p n (d) v1 v2 r.1 r.2.1 r.2.2.1 r.2.2.2.1 r.2.2.2.2 M o) r M2 o) : mp_31_33 L xs p n d v1 v2 v3 v5 v6 v7 v8 M o := by
  unfold mf_31_L33 at h
  exact mm_R_loop (step := (fun s M => mf_31_b33 p n v1 v2 s.1 s.2.1 s.2.2.1 s.2.2.2.1 s.2.2.2.2 M)) (s := (v3, v5, v6, v7, v8)) (M := M) (P := (fun s M o => mp_31_33 L xs p n (d) v1 v2 s.1 s.2.1 s.2.2.1 s.2.2.2.1 s.2.2.2.2 M o)) (X := (fun r M o => mp_31_147 L xs p n (d) v1 v2 r.1 r.2.1 r.2.2.1 r.2.2.2.1 r.2.2.2.2 M o)) h hA (fun s M q hq hA => ms_31_b33 ha (v1 := v1) (v2 := v2) (v3 := s.1) (v5 := s.2.1) (v6 := s.2.2.1) (v7 := s.2.2.2.1) (v8 := s.2.2.2.2) (M := M) (q := q) hd hq hA) hx
set_option maxRecDepth 8000 in
set_option maxHeartbeats 4000000 in
theorem ms_31_j147 {L : Nat} {xs : Nat → Int32} {p : Nat} {n : Nat} {d : Nat} (ha : mm_aat 0 p = some n) (hd : 1 ≤ d) {v1 : Int32} {v2 : Int32} {v3 : Int32} {v5 : Int32} {v6 : Int32} {v7 : Int32} {v8 : Int32} {M : mm_M} {q : (Int32 ⊕ Nat) × mm_M} {o : mm_E} (h : mf_31_j147 p n v1 v2 v3 v5 v6 v7 v8 M = some q) (hA : mm_A (mm_Kr mm_wi) q o) : mp_31_147 L xs p n d v1 v2 v3 v5 v6 v7 v8 M o := by
  unfold mf_31_j147 at h
  obtain ⟨d, rfl⟩ := mm_d1 (n := 0) hd
  intro z4
  show mm_Runs L xs (d + 1) 31 (147, [some (.ref p), some (.int v1), some (.int v2), some (.int v3), z4, some (.int v5), some (.int v6), some (.int v7), some (.int v8)], [], M) o
  refine mm_Runs.seq (l := [(147, .iload 5, 2), (149, .iconst 1, 1)]) (S2 := (150, [some (.ref p), some (.int v1), some (.int v2), some (.int v3), z4, some (.int v5), some (.int v6), some (.int v7), some (.int v8)], [.int (1 : Int32), .int v5], M)) (by decide +kernel) (hO := mm_own_31) rfl ?_
  refine mm_R_call (v := mm_wi) h hA (k2 := 32) (as := [.int v5, .int (1 : Int32)]) (r := []) rfl (fun _ => rfl) (fun q hq o ho => ms_32 (by omega) hq ho) (fun r1 M2 h => ?_)
  show mm_Runs L xs (d + 1) 31 (153, [some (.ref p), some (.int v1), some (.int v2), some (.int v3), z4, some (.int v5), some (.int v6), some (.int v7), some (.int v8)], [.int r1], M2) o
  refine mm_Runs.seq (l := [(153, .iload 6, 2), (155, .bipush 7, 2)]) (S2 := (157, [some (.ref p), some (.int v1), some (.int v2), some (.int v3), z4, some (.int v5), some (.int v6), some (.int v7), some (.int v8)], [.int (7 : Int32), .int v6, .int r1], M2)) (by decide +kernel) (hO := mm_own_31) rfl ?_
  refine mm_R_call (v := mm_wi) h hA (k2 := 32) (as := [.int v6, .int (7 : Int32)]) (r := [.int r1]) rfl (fun _ => rfl) (fun q hq o ho => ms_32 (by omega) hq ho) (fun r3 M4 h => ?_)
  show mm_Runs L xs (d + 1) 31 (160, [some (.ref p), some (.int v1), some (.int v2), some (.int v3), z4, some (.int v5), some (.int v6), some (.int v7), some (.int v8)], [.int r3, .int r1], M4) o
  refine mm_Runs.seq (l := [(160, .iadd, 1), (161, .iload 7, 2), (163, .bipush 12, 2)]) (S2 := (165, [some (.ref p), some (.int v1), some (.int v2), some (.int v3), z4, some (.int v5), some (.int v6), some (.int v7), some (.int v8)], [.int (12 : Int32), .int v7, .int (r1 + r3)], M4)) (by decide +kernel) (hO := mm_own_31) rfl ?_
  refine mm_R_call (v := mm_wi) h hA (k2 := 32) (as := [.int v7, .int (12 : Int32)]) (r := [.int (r1 + r3)]) rfl (fun _ => rfl) (fun q hq o ho => ms_32 (by omega) hq ho) (fun r5 M6 h => ?_)
  show mm_Runs L xs (d + 1) 31 (168, [some (.ref p), some (.int v1), some (.int v2), some (.int v3), z4, some (.int v5), some (.int v6), some (.int v7), some (.int v8)], [.int r5, .int (r1 + r3)], M6) o
  refine mm_Runs.seq (l := [(168, .iadd, 1), (169, .iload 8, 2), (171, .bipush 18, 2)]) (S2 := (173, [some (.ref p), some (.int v1), some (.int v2), some (.int v3), z4, some (.int v5), some (.int v6), some (.int v7), some (.int v8)], [.int (18 : Int32), .int v8, .int ((r1 + r3) + r5)], M6)) (by decide +kernel) (hO := mm_own_31) rfl ?_
  refine mm_R_call (v := mm_wi) h hA (k2 := 32) (as := [.int v8, .int (18 : Int32)]) (r := [.int ((r1 + r3) + r5)]) rfl (fun _ => rfl) (fun q hq o ho => ms_32 (by omega) hq ho) (fun r7 M8 h => ?_)
  show mm_Runs L xs (d + 1) 31 (176, [some (.ref p), some (.int v1), some (.int v2), some (.int v3), z4, some (.int v5), some (.int v6), some (.int v7), some (.int v8)], [.int r7, .int ((r1 + r3) + r5)], M8) o
  refine mm_Runs.seq (l := [(176, .iadd, 1), (177, .istore 4, 2), (179, .iload 4, 2), (181, .iload_n 2, 1), (182, .iload_n 1, 1), (183, .isub, 1), (184, .iadd, 1), (185, .istore 4, 2)]) (S2 := (187, [some (.ref p), some (.int v1), some (.int v2), some (.int v3), some (.int ((((r1 + r3) + r5) + r7) + (v2 - v1))), some (.int v5), some (.int v6), some (.int v7), some (.int v8)], [], M8)) (by decide +kernel) (hO := mm_own_31) rfl ?_
  have hp : mp_31_187 L xs p n (d + 1) v2 v3 ((((r1 + r3) + r5) + r7) + (v2 - v1)) M8 o := by
    refine ms_31_L187 ha hd h hA (fun r10 M9 h => ?_)
    intro y11 y12 y13 y14 y15
    show mm_Runs L xs (d + 1) 31 (223, [some (.ref p), y11, some (.int v2), some (.int r10.1), some (.int r10.2), y12, y13, y14, y15], [], M9) o
    have hp : mp_31_223 L xs p n (d + 1) v2 r10.1 r10.2 M9 o := by
      refine ms_31_L223 ha hd h hA (fun r17 M16 h => ?_)
      intro y18 y19 y20 y21 y22 y23 y24 y25
      show mm_Runs L xs (d + 1) 31 (255, [y18, y19, y20, y21, some (.int r17), y22, y23, y24, y25], [], M16) o
      exact (ms_31_j255 ha hd h hA : mp_31_255 L xs p n (d + 1) r17 M16 o) y18 y19 y20 y21 y22 y23 y24 y25
    exact hp y11 y12 y13 y14 y15
  exact hp (some (.int v1)) (some (.int v5)) (some (.int v6)) (some (.int v7)) (some (.int v8))
set_option maxRecDepth 8000 in
set_option maxHeartbeats 4000000 in
theorem ms_31 {L : Nat} {xs : Nat → Int32} {p : Nat} {n : Nat} {d : Nat} (ha : mm_aat 0 p = some n) (hd : 1 ≤ d) {v1 : Int32} {v2 : Int32} {M : mm_M} {q : (Int32 ⊕ Nat) × mm_M} {o : mm_E} (h : mf_31 p n v1 v2 M = some q) (hA : mm_A (mm_Kr mm_wi) q o) : mm_Runs L xs d 31 (0, mm_ent (mm_ml 31) [.ref p, .int v1, .int v2], [], M) o := by
  unfold mf_31 at h
  obtain ⟨d, rfl⟩ := mm_d1 (n := 0) hd
  show mm_Runs L xs (d + 1) 31 (0, [some (.ref p), some (.int v1), some (.int v2), none, none, none, none, none, none], [], M) o
  refine mm_Runs.seq (l := [(0, .iload_n 1, 1), (1, .istore_n 3, 1), (2, .ldc_w 286, 3), (5, .istore 4, 2), (7, .iload_n 2, 1), (8, .iload_n 1, 1), (9, .isub, 1), (10, .bipush 16, 2)]) (S2 := (12, [some (.ref p), some (.int v1), some (.int v2), some (.int v1), some (.int (374761393 : Int32)), none, none, none, none], [.int (16 : Int32), .int (v2 - v1)], M)) (by decide +kernel) (hO := mm_own_31) rfl ?_
  refine mm_R_ilt (t := 179) rfl rfl rfl (fun hc => ?_) (fun hc => ?_)
  · replace h := mm_ip hc h
    refine mm_Runs.seq (l := [(179, .iload 4, 2), (181, .iload_n 2, 1), (182, .iload_n 1, 1), (183, .isub, 1), (184, .iadd, 1), (185, .istore 4, 2)]) (S2 := (187, [some (.ref p), some (.int v1), some (.int v2), some (.int v1), some (.int ((374761393 : Int32) + (v2 - v1))), none, none, none, none], [], M)) (by decide +kernel) (hO := mm_own_31) rfl ?_
    have hp : mp_31_187 L xs p n (d + 1) v2 v1 ((374761393 : Int32) + (v2 - v1)) M o := by
      refine ms_31_L187 ha hd h hA (fun r2 M1 h => ?_)
      intro y3 y4 y5 y6 y7
      show mm_Runs L xs (d + 1) 31 (223, [some (.ref p), y3, some (.int v2), some (.int r2.1), some (.int r2.2), y4, y5, y6, y7], [], M1) o
      have hp : mp_31_223 L xs p n (d + 1) v2 r2.1 r2.2 M1 o := by
        refine ms_31_L223 ha hd h hA (fun r9 M8 h => ?_)
        intro y10 y11 y12 y13 y14 y15 y16 y17
        show mm_Runs L xs (d + 1) 31 (255, [y10, y11, y12, y13, some (.int r9), y14, y15, y16, y17], [], M8) o
        exact (ms_31_j255 ha hd h hA : mp_31_255 L xs p n (d + 1) r9 M8 o) y10 y11 y12 y13 y14 y15 y16 y17
      exact hp y3 y4 y5 y6 y7
    exact hp (some (.int v1)) none none none none
  · replace h := mm_iq hc h
    refine mm_Runs.seq (l := [(15, .ldc_w 287, 3), (18, .istore 5, 2), (20, .ldc_w 288, 3), (23, .istore 6, 2), (25, .iconst 0, 1), (26, .istore 7, 2), (28, .ldc_w 289, 3), (31, .istore 8, 2)]) (S2 := (33, [some (.ref p), some (.int v1), some (.int v2), some (.int v1), some (.int (374761393 : Int32)), some (.int (606290984 : Int32)), some (.int (-2048144777 : Int32)), some (.int (0 : Int32)), some (.int (1640531535 : Int32))], [], M)) (by decide +kernel) (hO := mm_own_31) rfl ?_
    have hp : mp_31_33 L xs p n (d + 1) v1 v2 v1 (606290984 : Int32) (-2048144777 : Int32) (0 : Int32) (1640531535 : Int32) M o := by
      refine ms_31_L33 ha hd h hA (fun r19 M18 h => ?_)
      intro y20
      show mm_Runs L xs (d + 1) 31 (147, [some (.ref p), some (.int v1), some (.int v2), some (.int r19.1), y20, some (.int r19.2.1), some (.int r19.2.2.1), some (.int r19.2.2.2.1), some (.int r19.2.2.2.2)], [], M18) o
      exact (ms_31_j147 ha hd h hA : mp_31_147 L xs p n (d + 1) v1 v2 r19.1 r19.2.1 r19.2.2.1 r19.2.2.2.1 r19.2.2.2.2 M18 o) y20
    exact hp (some (.int (374761393 : Int32)))
