/-! MEANINGS ARE SOUND 4 -/
-- 101: PlainPacks$Codes.isEmpty()Z (depth 0)
theorem mm_own_101 : mm_own 101 = 7 := rfl
set_option maxRecDepth 8000 in
set_option maxHeartbeats 4000000 in
theorem ms_101 {L : Nat} {xs : Nat → Int32} {p : Nat} {n : Nat} {d : Nat} (hC : mm_isC p n) (hd : 0 ≤ d) {M : mm_M} {q : (Int32 ⊕ Nat) × mm_M} {o : mm_E} (h : mf_101 p n M = some q) (hA : mm_A (mm_Kr mm_wi) q o) : mm_Runs L xs d 101 (0, mm_ent (mm_ml 101) [.ref p], [], M) o := by
  unfold mf_101 at h
  show mm_Runs L xs (d) 101 (0, [some (.ref p)], [], M) o
  refine mm_Runs.seq (l := [(0, .aload_n 0, 1)]) (S2 := (1, [some (.ref p)], [.ref p], M)) (by decide +kernel) (hO := mm_own_101) rfl ?_
  refine mm_R_getf (ci := 7) (j := 4) (f := .inr .int) rfl rfl (mm_isC_f4 hC) ?_
  show mm_Runs L xs (d) 101 (4, [some (.ref p)], [.int (M.1 p 4)], M) o
  refine mm_R_zne (t := 11) rfl rfl rfl (fun hc => ?_) (fun hc => ?_)
  · replace h := mm_ip hc h
    refine mm_Runs.seq (l := [(7, .iconst 1, 1), (8, .goto 4, 3)]) (S2 := (12, [some (.ref p)], [.int (1 : Int32)], M)) (by decide +kernel) (hO := mm_own_101) rfl ?_
    cases h
    exact mm_R_retb rfl rfl rfl hA
  · replace h := mm_iq hc h
    refine mm_Runs.seq (l := [(11, .iconst 0, 1)]) (S2 := (12, [some (.ref p)], [.int (0 : Int32)], M)) (by decide +kernel) (hO := mm_own_101) rfl ?_
    cases h
    exact mm_R_retb rfl rfl rfl hA
-- 85: PlainPacks$Blocks.setRowCodes()V (depth 8)
theorem mm_own_85 : mm_own 85 = 6 := rfl
def mp_85_84 (L : Nat) (xs : Nat → Int32) (d : Nat) (s0 : Int32) (M : mm_M) (o : mm_E) : Prop := mm_Runs L xs d 85 (84, [some (.ref 16)], [.int s0], M) o
def mp_85_102 (L : Nat) (xs : Nat → Int32) (d : Nat) (s0 : Int32) (M : mm_M) (o : mm_E) : Prop := mm_Runs L xs d 85 (102, [some (.ref 16)], [.int s0], M) o
def mp_85_130 (L : Nat) (xs : Nat → Int32) (d : Nat) (s0 : Int32) (M : mm_M) (o : mm_E) : Prop := ∀ z0 : Option Value, mm_Runs L xs d 85 (130, [z0], [.int s0], M) o
set_option maxRecDepth 8000 in
set_option maxHeartbeats 4000000 in
theorem ms_85_j130 {L : Nat} {xs : Nat → Int32} {d : Nat} (hd : 8 ≤ d) {s0 : Int32} {M : mm_M} {q : (Unit ⊕ Nat) × mm_M} {o : mm_E} (h : mf_85_j130 s0 M = some q) (hA : mm_A (mm_Kr mm_wv) q o) : mp_85_130 L xs d s0 M o := by
  unfold mf_85_j130 at h
  obtain ⟨d, rfl⟩ := mm_d1 (n := 7) hd
  intro z0
  show mm_Runs L xs (d + 1) 85 (130, [z0], [.int s0], M) o
  refine mm_R_call (v := mm_wv) h hA (k2 := 27) (as := [.int s0]) (r := []) rfl (fun _ => rfl) (fun q hq o ho => ms_27 (by omega) hq ho) (fun _ M1 h => ?_)
  show mm_Runs L xs (d + 1) 85 (133, [z0], [], M1) o
  cases h
  exact mm_R_retv rfl rfl hA
def mp_85_129 (L : Nat) (xs : Nat → Int32) (d : Nat) (M : mm_M) (o : mm_E) : Prop := ∀ z0 : Option Value, mm_Runs L xs d 85 (129, [z0], [], M) o
set_option maxRecDepth 8000 in
set_option maxHeartbeats 4000000 in
theorem ms_85_j129 {L : Nat} {xs : Nat → Int32} {d : Nat} (hd : 8 ≤ d) {M : mm_M} {q : (Unit ⊕ Nat) × mm_M} {o : mm_E} (h : mf_85_j129 M = some q) (hA : mm_A (mm_Kr mm_wv) q o) : mp_85_129 L xs d M o := by
  unfold mf_85_j129 at h
  obtain ⟨d, rfl⟩ := mm_d1 (n := 7) hd
  intro z0
  show mm_Runs L xs (d + 1) 85 (129, [z0], [], M) o
  refine mm_Runs.seq (l := [(129, .iconst 0, 1)]) (S2 := (130, [z0], [.int (0 : Int32)], M)) (by decide +kernel) (hO := mm_own_85) rfl ?_
  exact (ms_85_j130 hd h hA : mp_85_130 L xs (d + 1) (0 : Int32) M o) z0
set_option maxRecDepth 8000 in
set_option maxHeartbeats 4000000 in
theorem ms_85_j102 {L : Nat} {xs : Nat → Int32} {d : Nat} (hd : 8 ≤ d) {s0 : Int32} {M : mm_M} {q : (Unit ⊕ Nat) × mm_M} {o : mm_E} (h : mf_85_j102 s0 M = some q) (hA : mm_A (mm_Kr mm_wv) q o) : mp_85_102 L xs d s0 M o := by
  unfold mf_85_j102 at h
  obtain ⟨d, rfl⟩ := mm_d1 (n := 7) hd
  show mm_Runs L xs (d + 1) 85 (102, [some (.ref 16)], [.int s0], M) o
  refine mm_R_call (v := mm_wv) h hA (k2 := 27) (as := [.int s0]) (r := []) rfl (fun _ => rfl) (fun q hq o ho => ms_27 (by omega) hq ho) (fun _ M1 h => ?_)
  show mm_Runs L xs (d + 1) 85 (105, [some (.ref 16)], [], M1) o
  refine mm_Runs.seq (l := [(105, .aload_n 0, 1), (106, .getfield 20, 3)]) (S2 := (109, [some (.ref 16)], [.ref 22], M1)) (by decide +kernel) (hO := mm_own_85) rfl ?_
  refine mm_R_call (v := mm_wi) h hA (k2 := 102) (as := [.ref 22]) (r := []) rfl (fun _ => rfl) (fun q hq o ho => ms_102 ⟨rfl, rfl, rfl, rfl, rfl⟩ (by omega) hq ho) (fun r2 M3 h => ?_)
  show mm_Runs L xs (d + 1) 85 (112, [some (.ref 16)], [.int r2], M3) o
  refine mm_R_zne (t := 129) rfl rfl rfl (fun hc => ?_) (fun hc => ?_)
  · replace h := mm_ip hc h
    refine mm_Runs.seq (l := [(115, .aload_n 0, 1), (116, .getfield 20, 3)]) (S2 := (119, [some (.ref 16)], [.ref 22], M3)) (by decide +kernel) (hO := mm_own_85) rfl ?_
    refine mm_R_call (v := mm_wi) h hA (k2 := 101) (as := [.ref 22]) (r := []) rfl (fun _ => rfl) (fun q hq o ho => ms_101 ⟨rfl, rfl, rfl, rfl, rfl⟩ (by omega) hq ho) (fun r4 M5 h => ?_)
    show mm_Runs L xs (d + 1) 85 (122, [some (.ref 16)], [.int r4], M5) o
    refine mm_R_zne (t := 129) rfl rfl rfl (fun hc => ?_) (fun hc => ?_)
    · replace h := mm_ip hc h
      refine mm_Runs.seq (l := [(125, .iconst 1, 1), (126, .goto 4, 3)]) (S2 := (130, [some (.ref 16)], [.int (1 : Int32)], M5)) (by decide +kernel) (hO := mm_own_85) rfl ?_
      exact (ms_85_j130 hd h hA : mp_85_130 L xs (d + 1) (1 : Int32) M5 o) (some (.ref 16))
    · replace h := mm_iq hc h
      exact (ms_85_j129 hd h hA : mp_85_129 L xs (d + 1) M5 o) (some (.ref 16))
  · replace h := mm_iq hc h
    exact (ms_85_j129 hd h hA : mp_85_129 L xs (d + 1) M3 o) (some (.ref 16))
set_option maxRecDepth 8000 in
set_option maxHeartbeats 4000000 in
theorem ms_85_j84 {L : Nat} {xs : Nat → Int32} {d : Nat} (hd : 8 ≤ d) {s0 : Int32} {M : mm_M} {q : (Unit ⊕ Nat) × mm_M} {o : mm_E} (h : mf_85_j84 s0 M = some q) (hA : mm_A (mm_Kr mm_wv) q o) : mp_85_84 L xs d s0 M o := by
  unfold mf_85_j84 at h
  obtain ⟨d, rfl⟩ := mm_d1 (n := 7) hd
  show mm_Runs L xs (d + 1) 85 (84, [some (.ref 16)], [.int s0], M) o
  refine mm_R_call (v := mm_wv) h hA (k2 := 27) (as := [.int s0]) (r := []) rfl (fun _ => rfl) (fun q hq o ho => ms_27 (by omega) hq ho) (fun _ M1 h => ?_)
  show mm_Runs L xs (d + 1) 85 (87, [some (.ref 16)], [], M1) o
  refine mm_Runs.seq (l := [(87, .aload_n 0, 1), (88, .getfield 16, 3)]) (S2 := (91, [some (.ref 16)], [.ref 17], M1)) (by decide +kernel) (hO := mm_own_85) rfl ?_
  refine mm_R_call (v := mm_wi) h hA (k2 := 102) (as := [.ref 17]) (r := []) rfl (fun _ => rfl) (fun q hq o ho => ms_102 ⟨rfl, rfl, rfl, rfl, rfl⟩ (by omega) hq ho) (fun r2 M3 h => ?_)
  show mm_Runs L xs (d + 1) 85 (94, [some (.ref 16)], [.int r2], M3) o
  refine mm_R_zne (t := 101) rfl rfl rfl (fun hc => ?_) (fun hc => ?_)
  · replace h := mm_ip hc h
    refine mm_Runs.seq (l := [(97, .iconst 1, 1), (98, .goto 4, 3)]) (S2 := (102, [some (.ref 16)], [.int (1 : Int32)], M3)) (by decide +kernel) (hO := mm_own_85) rfl ?_
    exact (ms_85_j102 hd h hA : mp_85_102 L xs (d + 1) (1 : Int32) M3 o)
  · replace h := mm_iq hc h
    refine mm_Runs.seq (l := [(101, .iconst 0, 1)]) (S2 := (102, [some (.ref 16)], [.int (0 : Int32)], M3)) (by decide +kernel) (hO := mm_own_85) rfl ?_
    exact (ms_85_j102 hd h hA : mp_85_102 L xs (d + 1) (0 : Int32) M3 o)
set_option maxRecDepth 8000 in
set_option maxHeartbeats 4000000 in
theorem ms_85 {L : Nat} {xs : Nat → Int32} {d : Nat} (hd : 8 ≤ d) {M : mm_M} {q : (Unit ⊕ Nat) × mm_M} {o : mm_E} (h : mf_85 M = some q) (hA : mm_A (mm_Kr mm_wv) q o) : mm_Runs L xs d 85 (0, mm_ent (mm_ml 85) [.ref 16], [], M) o := by
  unfold mf_85 at h
  obtain ⟨d, rfl⟩ := mm_d1 (n := 7) hd
  show mm_Runs L xs (d + 1) 85 (0, [some (.ref 16)], [], M) o
  refine mm_Runs.seq (l := [(0, .aload_n 0, 1), (1, .getfield 30, 3), (4, .iconst 0, 1), (5, .aload_n 0, 1), (6, .getfield 16, 3), (9, .getfield 134, 3), (12, .iconst 0, 1), (13, .aload_n 0, 1), (14, .getfield 150, 3)]) (S2 := (17, [some (.ref 16)], [.int (M.1 16 8), .int (0 : Int32), .ref 18, .int (0 : Int32), .ref 32], M)) (by decide +kernel) (hO := mm_own_85) rfl ?_
  obtain ⟨hb, h⟩ := mm_gd h
  refine mm_R_cpy rfl rfl rfl rfl rfl hb (by omega) ?_
  refine mm_Runs.seq (l := [(20, .aload_n 0, 1), (21, .getfield 30, 3), (24, .aload_n 0, 1), (25, .getfield 150, 3), (28, .aload_n 0, 1), (29, .getfield 20, 3), (32, .getfield 134, 3), (35, .iconst 0, 1), (36, .aload_n 0, 1), (37, .getfield 153, 3)]) (S2 := (40, [some (.ref 16)], [.int ((mm_cpM M 32 (0 : Int32) 18 (0 : Int32) (M.1 16 8)).1 16 9), .int (0 : Int32), .ref 23, .int ((mm_cpM M 32 (0 : Int32) 18 (0 : Int32) (M.1 16 8)).1 16 8), .ref 32], (mm_cpM M 32 (0 : Int32) 18 (0 : Int32) (M.1 16 8)))) (by decide +kernel) (hO := mm_own_85) rfl ?_
  obtain ⟨hb, h⟩ := mm_gd h
  refine mm_R_cpy rfl rfl rfl rfl rfl hb (by omega) ?_
  refine mm_Runs.seq (l := [(43, .aload_n 0, 1), (44, .getfield 16, 3), (47, .aload_n 0, 1), (48, .getfield 150, 3)]) (S2 := (51, [some (.ref 16)], [.int ((mm_cpM (mm_cpM M 32 (0 : Int32) 18 (0 : Int32) (M.1 16 8)) 32 ((mm_cpM M 32 (0 : Int32) 18 (0 : Int32) (M.1 16 8)).1 16 8) 23 (0 : Int32) ((mm_cpM M 32 (0 : Int32) 18 (0 : Int32) (M.1 16 8)).1 16 9)).1 16 8), .ref 17], (mm_cpM (mm_cpM M 32 (0 : Int32) 18 (0 : Int32) (M.1 16 8)) 32 ((mm_cpM M 32 (0 : Int32) 18 (0 : Int32) (M.1 16 8)).1 16 8) 23 (0 : Int32) ((mm_cpM M 32 (0 : Int32) 18 (0 : Int32) (M.1 16 8)).1 16 9)))) (by decide +kernel) (hO := mm_own_85) rfl ?_
  refine mm_R_call (v := mm_wv) h hA (k2 := 99) (as := [.ref 17, .int ((mm_cpM (mm_cpM M 32 (0 : Int32) 18 (0 : Int32) (M.1 16 8)) 32 ((mm_cpM M 32 (0 : Int32) 18 (0 : Int32) (M.1 16 8)).1 16 8) 23 (0 : Int32) ((mm_cpM M 32 (0 : Int32) 18 (0 : Int32) (M.1 16 8)).1 16 9)).1 16 8)]) (r := []) rfl (fun _ => rfl) (fun q hq o ho => ms_99 ⟨rfl, rfl, rfl, rfl, rfl⟩ (by omega) hq ho) (fun _ M1 h => ?_)
  show mm_Runs L xs (d + 1) 85 (54, [some (.ref 16)], [], M1) o
  refine mm_Runs.seq (l := [(54, .aload_n 0, 1), (55, .getfield 20, 3), (58, .aload_n 0, 1), (59, .getfield 153, 3)]) (S2 := (62, [some (.ref 16)], [.int (M1.1 16 9), .ref 22], M1)) (by decide +kernel) (hO := mm_own_85) rfl ?_
  refine mm_R_call (v := mm_wv) h hA (k2 := 99) (as := [.ref 22, .int (M1.1 16 9)]) (r := []) rfl (fun _ => rfl) (fun q hq o ho => ms_99 ⟨rfl, rfl, rfl, rfl, rfl⟩ (by omega) hq ho) (fun _ M2 h => ?_)
  show mm_Runs L xs (d + 1) 85 (65, [some (.ref 16)], [], M2) o
  refine mm_Runs.seq (l := [(65, .aload_n 0, 1), (66, .getfield 16, 3), (69, .getfield 134, 3), (72, .sipush 256, 3)]) (S2 := (75, [some (.ref 16)], [.int (256 : Int32), .ref 18], M2)) (by decide +kernel) (hO := mm_own_85) rfl ?_
  obtain ⟨hb, h⟩ := mm_gd h
  refine mm_R_iald rfl rfl hb ?_
  refine mm_R_zne (t := 83) rfl rfl rfl (fun hc => ?_) (fun hc => ?_)
  · replace h := mm_ip hc h
    refine mm_Runs.seq (l := [(79, .iconst 1, 1), (80, .goto 4, 3)]) (S2 := (84, [some (.ref 16)], [.int (1 : Int32)], M2)) (by decide +kernel) (hO := mm_own_85) rfl ?_
    exact (ms_85_j84 hd h hA : mp_85_84 L xs (d + 1) (1 : Int32) M2 o)
  · replace h := mm_iq hc h
    refine mm_Runs.seq (l := [(83, .iconst 0, 1)]) (S2 := (84, [some (.ref 16)], [.int (0 : Int32)], M2)) (by decide +kernel) (hO := mm_own_85) rfl ?_
    exact (ms_85_j84 hd h hA : mp_85_84 L xs (d + 1) (0 : Int32) M2 o)
-- 87: PlainPacks$Blocks.readLength(I)I (depth 9)
theorem mm_own_87 : mm_own 87 = 6 := rfl
set_option maxRecDepth 8000 in
set_option maxHeartbeats 4000000 in
theorem ms_87 {L : Nat} {xs : Nat → Int32} {d : Nat} (hd : 9 ≤ d) {v1 : Int32} {M : mm_M} {q : (Int32 ⊕ Nat) × mm_M} {o : mm_E} (h : mf_87 v1 M = some q) (hA : mm_A (mm_Kr mm_wi) q o) : mm_Runs L xs d 87 (0, mm_ent (mm_ml 87) [.ref 16, .int v1], [], M) o := by
  unfold mf_87 at h
  obtain ⟨d, rfl⟩ := mm_d1 (n := 8) hd
  show mm_Runs L xs (d + 1) 87 (0, [some (.ref 16), some (.int v1), none], [], M) o
  refine mm_Runs.seq (l := [(0, .iload_n 1, 1), (1, .sipush 285, 3)]) (S2 := (4, [some (.ref 16), some (.int v1), none], [.int (285 : Int32), .int v1], M)) (by decide +kernel) (hO := mm_own_87) rfl ?_
  refine mm_R_ine (t := 11) rfl rfl rfl (fun hc => ?_) (fun hc => ?_)
  · replace h := mm_ip hc h
    refine mm_Runs.seq (l := [(7, .sipush 258, 3)]) (S2 := (10, [some (.ref 16), some (.int v1), none], [.int (258 : Int32)], M)) (by decide +kernel) (hO := mm_own_87) rfl ?_
    cases h
    exact mm_R_reti rfl rfl hA
  · replace h := mm_iq hc h
    refine mm_Runs.seq (l := [(11, .iload_n 1, 1), (12, .sipush 265, 3)]) (S2 := (15, [some (.ref 16), some (.int v1), none], [.int (265 : Int32), .int v1], M)) (by decide +kernel) (hO := mm_own_87) rfl ?_
    refine mm_R_ige (t := 24) rfl rfl rfl (fun hc => ?_) (fun hc => ?_)
    · replace h := mm_ip hc h
      refine mm_Runs.seq (l := [(18, .iload_n 1, 1), (19, .sipush 254, 3), (22, .isub, 1)]) (S2 := (23, [some (.ref 16), some (.int v1), none], [.int (v1 - (254 : Int32))], M)) (by decide +kernel) (hO := mm_own_87) rfl ?_
      cases h
      exact mm_R_reti rfl rfl hA
    · replace h := mm_iq hc h
      refine mm_Runs.seq (l := [(24, .iload_n 1, 1), (25, .sipush 261, 3), (28, .isub, 1), (29, .iconst 4, 1), (30, .idiv, 1), (31, .istore_n 2, 1), (32, .iconst 3, 1), (33, .iconst 4, 1), (34, .iload_n 1, 1), (35, .sipush 265, 3), (38, .isub, 1), (39, .iconst 4, 1), (40, .irem, 1), (41, .iadd, 1), (42, .iload_n 2, 1), (43, .ishl, 1), (44, .iadd, 1), (45, .aload_n 0, 1), (46, .getfield 39, 3), (49, .iload_n 2, 1)]) (S2 := (50, [some (.ref 16), some (.int v1), some (.int ((v1 - (261 : Int32)) / (4 : Int32)))], [.int ((v1 - (261 : Int32)) / (4 : Int32)), .ref 1, .int ((3 : Int32) + (mm_shl ((4 : Int32) + (mm_rem (v1 - (265 : Int32)) (4 : Int32))) ((v1 - (261 : Int32)) / (4 : Int32))))], M)) (by decide +kernel) (hO := mm_own_87) rfl ?_
      refine mm_R_call (v := mm_wl) h hA (k2 := 46) (as := [.ref 1, .int ((v1 - (261 : Int32)) / (4 : Int32))]) (r := [.int ((3 : Int32) + (mm_shl ((4 : Int32) + (mm_rem (v1 - (265 : Int32)) (4 : Int32))) ((v1 - (261 : Int32)) / (4 : Int32))))]) rfl (fun _ => rfl) (fun q hq o ho => ms_46 (by omega) hq ho) (fun r1 M2 h => ?_)
      show mm_Runs L xs (d + 1) 87 (53, [some (.ref 16), some (.int v1), some (.int ((v1 - (261 : Int32)) / (4 : Int32)))], [.long r1, .int ((3 : Int32) + (mm_shl ((4 : Int32) + (mm_rem (v1 - (265 : Int32)) (4 : Int32))) ((v1 - (261 : Int32)) / (4 : Int32))))], M2) o
      refine mm_Runs.seq (l := [(53, .l2i, 1), (54, .iadd, 1)]) (S2 := (55, [some (.ref 16), some (.int v1), some (.int ((v1 - (261 : Int32)) / (4 : Int32)))], [.int (((3 : Int32) + (mm_shl ((4 : Int32) + (mm_rem (v1 - (265 : Int32)) (4 : Int32))) ((v1 - (261 : Int32)) / (4 : Int32)))) + r1.toInt32)], M2)) (by decide +kernel) (hO := mm_own_87) rfl ?_
      cases h
      exact mm_R_reti rfl rfl hA
-- 88: PlainPacks$Blocks.readDistance()I (depth 9)
theorem mm_own_88 : mm_own 88 = 6 := rfl
def mp_88_23 (L : Nat) (xs : Nat → Int32) (d : Nat) (v1 : Int32) (s0 : Int32) (M : mm_M) (o : mm_E) : Prop := ∀ z2 : Option Value, mm_Runs L xs d 88 (23, [some (.ref 16), some (.int v1), z2], [.int s0], M) o
set_option maxRecDepth 8000 in
set_option maxHeartbeats 4000000 in
theorem ms_88_j23 {L : Nat} {xs : Nat → Int32} {d : Nat} (hd : 9 ≤ d) {v1 : Int32} {s0 : Int32} {M : mm_M} {q : (Int32 ⊕ Nat) × mm_M} {o : mm_E} (h : mf_88_j23 v1 s0 M = some q) (hA : mm_A (mm_Kr mm_wi) q o) : mp_88_23 L xs d v1 s0 M o := by
  unfold mf_88_j23 at h
  obtain ⟨d, rfl⟩ := mm_d1 (n := 8) hd
  intro z2
  show mm_Runs L xs (d + 1) 88 (23, [some (.ref 16), some (.int v1), z2], [.int s0], M) o
  refine mm_R_call (v := mm_wv) h hA (k2 := 27) (as := [.int s0]) (r := []) rfl (fun _ => rfl) (fun q hq o ho => ms_27 (by omega) hq ho) (fun _ M1 h => ?_)
  show mm_Runs L xs (d + 1) 88 (26, [some (.ref 16), some (.int v1), z2], [], M1) o
  refine mm_Runs.seq (l := [(26, .iload_n 1, 1), (27, .iconst 4, 1)]) (S2 := (28, [some (.ref 16), some (.int v1), z2], [.int (4 : Int32), .int v1], M1)) (by decide +kernel) (hO := mm_own_88) rfl ?_
  refine mm_R_ige (t := 35) rfl rfl rfl (fun hc => ?_) (fun hc => ?_)
  · replace h := mm_ip hc h
    refine mm_Runs.seq (l := [(31, .iload_n 1, 1), (32, .iconst 1, 1), (33, .iadd, 1)]) (S2 := (34, [some (.ref 16), some (.int v1), z2], [.int (v1 + (1 : Int32))], M1)) (by decide +kernel) (hO := mm_own_88) rfl ?_
    cases h
    exact mm_R_reti rfl rfl hA
  · replace h := mm_iq hc h
    refine mm_Runs.seq (l := [(35, .iload_n 1, 1), (36, .iconst 2, 1), (37, .idiv, 1), (38, .iconst 1, 1), (39, .isub, 1), (40, .istore_n 2, 1), (41, .iconst 1, 1), (42, .iconst 2, 1), (43, .iload_n 1, 1), (44, .iconst 2, 1), (45, .irem, 1), (46, .iadd, 1), (47, .iload_n 2, 1), (48, .ishl, 1), (49, .iadd, 1), (50, .aload_n 0, 1), (51, .getfield 39, 3), (54, .iload_n 2, 1)]) (S2 := (55, [some (.ref 16), some (.int v1), some (.int ((v1 / (2 : Int32)) - (1 : Int32)))], [.int ((v1 / (2 : Int32)) - (1 : Int32)), .ref 1, .int ((1 : Int32) + (mm_shl ((2 : Int32) + (mm_rem v1 (2 : Int32))) ((v1 / (2 : Int32)) - (1 : Int32))))], M1)) (by decide +kernel) (hO := mm_own_88) rfl ?_
    refine mm_R_call (v := mm_wl) h hA (k2 := 46) (as := [.ref 1, .int ((v1 / (2 : Int32)) - (1 : Int32))]) (r := [.int ((1 : Int32) + (mm_shl ((2 : Int32) + (mm_rem v1 (2 : Int32))) ((v1 / (2 : Int32)) - (1 : Int32))))]) rfl (fun _ => rfl) (fun q hq o ho => ms_46 (by omega) hq ho) (fun r2 M3 h => ?_)
    show mm_Runs L xs (d + 1) 88 (58, [some (.ref 16), some (.int v1), some (.int ((v1 / (2 : Int32)) - (1 : Int32)))], [.long r2, .int ((1 : Int32) + (mm_shl ((2 : Int32) + (mm_rem v1 (2 : Int32))) ((v1 / (2 : Int32)) - (1 : Int32))))], M3) o
    refine mm_Runs.seq (l := [(58, .l2i, 1), (59, .iadd, 1)]) (S2 := (60, [some (.ref 16), some (.int v1), some (.int ((v1 / (2 : Int32)) - (1 : Int32)))], [.int (((1 : Int32) + (mm_shl ((2 : Int32) + (mm_rem v1 (2 : Int32))) ((v1 / (2 : Int32)) - (1 : Int32)))) + r2.toInt32)], M3)) (by decide +kernel) (hO := mm_own_88) rfl ?_
    cases h
    exact mm_R_reti rfl rfl hA
set_option maxRecDepth 8000 in
set_option maxHeartbeats 4000000 in
theorem ms_88 {L : Nat} {xs : Nat → Int32} {d : Nat} (hd : 9 ≤ d) {M : mm_M} {q : (Int32 ⊕ Nat) × mm_M} {o : mm_E} (h : mf_88 M = some q) (hA : mm_A (mm_Kr mm_wi) q o) : mm_Runs L xs d 88 (0, mm_ent (mm_ml 88) [.ref 16], [], M) o := by
  unfold mf_88 at h
  obtain ⟨d, rfl⟩ := mm_d1 (n := 8) hd
  show mm_Runs L xs (d + 1) 88 (0, [some (.ref 16), none, none], [], M) o
  refine mm_Runs.seq (l := [(0, .aload_n 0, 1), (1, .getfield 20, 3), (4, .aload_n 0, 1), (5, .getfield 39, 3)]) (S2 := (8, [some (.ref 16), none, none], [.ref 1, .ref 22], M)) (by decide +kernel) (hO := mm_own_88) rfl ?_
  refine mm_R_call (v := mm_wi) h hA (k2 := 103) (as := [.ref 22, .ref 1]) (r := []) rfl (fun _ => rfl) (fun q hq o ho => ms_103 ⟨rfl, rfl, rfl, rfl, rfl⟩ (by omega) hq ho) (fun r1 M2 h => ?_)
  show mm_Runs L xs (d + 1) 88 (11, [some (.ref 16), none, none], [.int r1], M2) o
  refine mm_Runs.seq (l := [(11, .istore_n 1, 1), (12, .iload_n 1, 1), (13, .bipush 29, 2)]) (S2 := (15, [some (.ref 16), some (.int r1), none], [.int (29 : Int32), .int r1], M2)) (by decide +kernel) (hO := mm_own_88) rfl ?_
  refine mm_R_ile (t := 22) rfl rfl rfl (fun hc => ?_) (fun hc => ?_)
  · replace h := mm_ip hc h
    refine mm_Runs.seq (l := [(18, .iconst 1, 1), (19, .goto 4, 3)]) (S2 := (23, [some (.ref 16), some (.int r1), none], [.int (1 : Int32)], M2)) (by decide +kernel) (hO := mm_own_88) rfl ?_
    exact (ms_88_j23 hd h hA : mp_88_23 L xs (d + 1) r1 (1 : Int32) M2 o) none
  · replace h := mm_iq hc h
    refine mm_Runs.seq (l := [(22, .iconst 0, 1)]) (S2 := (23, [some (.ref 16), some (.int r1), none], [.int (0 : Int32)], M2)) (by decide +kernel) (hO := mm_own_88) rfl ?_
    exact (ms_88_j23 hd h hA : mp_88_23 L xs (d + 1) r1 (0 : Int32) M2 o) none
-- 54: PlainPacks$Sink.repeat(II)V (depth 8)
theorem mm_own_54 : mm_own 54 = 2 := rfl
def mp_54_17 (L : Nat) (xs : Nat → Int32) (d : Nat) (v1 : Int32) (v2 : Int32) (s0 : Int32) (M : mm_M) (o : mm_E) : Prop := ∀ z3 : Option Value, mm_Runs L xs d 54 (17, [some (.ref 3), some (.int v1), some (.int v2), z3], [.int s0], M) o
def mp_54_22 (L : Nat) (xs : Nat → Int32) (d : Nat) (v1 : Int32) (v2 : Int32) (v3 : Int32) (M : mm_M) (o : mm_E) : Prop := mm_Runs L xs d 54 (22, [some (.ref 3), some (.int v1), some (.int v2), some (.int v3)], [], M) o
def mp_54_45 (L : Nat) (xs : Nat → Int32) (d : Nat) (M : mm_M) (o : mm_E) : Prop := ∀ z0 z1 z2 z3 : Option Value, mm_Runs L xs d 54 (45, [z0, z1, z2, z3], [], M) o
set_option maxRecDepth 8000 in
set_option maxHeartbeats 4000000 in
theorem ms_54_b22 {L : Nat} {xs : Nat → Int32} {d : Nat} (hd : 8 ≤ d) {v1 : Int32} {v2 : Int32} {v3 : Int32} {M : mm_M} {q : (((Int32) ⊕ (Unit)) ⊕ Nat) × mm_M} {o : mm_E} (h : mf_54_b22 v1 v2 v3 M = some q) (hA : mm_A (mm_K2 (fun s M o => mp_54_22 L xs (d) v1 v2 s M o) (fun r M o => mp_54_45 L xs (d) M o)) q o) : mp_54_22 L xs d v1 v2 v3 M o := by
  unfold mf_54_b22 at h
  obtain ⟨d, rfl⟩ := mm_d1 (n := 7) hd
  show mm_Runs L xs (d + 1) 54 (22, [some (.ref 3), some (.int v1), some (.int v2), some (.int v3)], [], M) o
  refine mm_Runs.seq (l := [(22, .iload_n 3, 1), (23, .iload_n 2, 1)]) (S2 := (24, [some (.ref 3), some (.int v1), some (.int v2), some (.int v3)], [.int v2, .int v3], M)) (by decide +kernel) (hO := mm_own_54) rfl ?_
  refine mm_R_ige (t := 45) rfl rfl rfl (fun hc => ?_) (fun hc => ?_)
  · replace h := mm_ip hc h
    refine mm_Runs.seq (l := [(27, .aload_n 0, 1), (28, .aload_n 0, 1), (29, .getfield 9, 3), (32, .iload_n 1, 1), (33, .iload_n 3, 1), (34, .iadd, 1)]) (S2 := (35, [some (.ref 3), some (.int v1), some (.int v2), some (.int v3)], [.int (v1 + v3), .ref 4, .ref 3], M)) (by decide +kernel) (hO := mm_own_54) rfl ?_
    obtain ⟨hb, h⟩ := mm_gd h
    refine mm_R_iald rfl rfl hb ?_
    refine mm_R_call (v := mm_wv) h hA (k2 := 51) (as := [.ref 3, .int (M.1 4 (v1 + v3).toNatClampNeg)]) (r := []) rfl (fun _ => rfl) (fun q hq o ho => ms_51 (by omega) hq ho) (fun _ M1 h => ?_)
    show mm_Runs L xs (d + 1) 54 (39, [some (.ref 3), some (.int v1), some (.int v2), some (.int v3)], [], M1) o
    refine mm_Runs.seq (l := [(39, .iinc 3 1, 3), (42, .goto (-20), 3)]) (S2 := (22, [some (.ref 3), some (.int v1), some (.int v2), some (.int (v3 + (1 : Int32)))], [], M1)) (by decide +kernel) (hO := mm_own_54) rfl ?_
    cases h
    exact (show mp_54_22 L xs (d + 1) v1 v2 (v3 + (1 : Int32)) M1 o from hA)
  · replace h := mm_iq hc h
    cases h
    exact (show mp_54_45 L xs (d + 1) M o from hA) (some (.ref 3)) (some (.int v1)) (some (.int v2)) (some (.int v3))
theorem ms_54_L22 {L : Nat} {xs : Nat → Int32} {d : Nat} (hd : 8 ≤ d) {v1 : Int32} {v2 : Int32} {v3 : Int32} {β : Type} {K : β → mm_M → mm_E → Prop} {F : (Unit) → mm_M → mm_O β} {M : mm_M} {q : (β ⊕ Nat) × mm_M} {o : mm_E} (h : mm_B (mf_54_L22 v1 v2 v3 M) F = some q) (hA : mm_A K q o) (hx : ∀ (r : (Unit)) (M2 : mm_M), F r M2 = some q → (fun r M o => mp_54_45 L xs (d) M o) r M2 o) : mp_54_22 L xs d v1 v2 v3 M o := by
  unfold mf_54_L22 at h
  exact mm_R_loop (step := (fun s M => mf_54_b22 v1 v2 s M)) (s := v3) (M := M) (P := (fun s M o => mp_54_22 L xs (d) v1 v2 s M o)) (X := (fun r M o => mp_54_45 L xs (d) M o)) h hA (fun s M q hq hA => ms_54_b22 (v1 := v1) (v2 := v2) (v3 := s) (M := M) (q := q) hd hq hA) hx
set_option maxRecDepth 8000 in
set_option maxHeartbeats 4000000 in
theorem ms_54_j17 {L : Nat} {xs : Nat → Int32} {d : Nat} (hd : 8 ≤ d) {v1 : Int32} {v2 : Int32} {s0 : Int32} {M : mm_M} {q : (Unit ⊕ Nat) × mm_M} {o : mm_E} (h : mf_54_j17 v1 v2 s0 M = some q) (hA : mm_A (mm_Kr mm_wv) q o) : mp_54_17 L xs d v1 v2 s0 M o := by
  unfold mf_54_j17 at h
  obtain ⟨d, rfl⟩ := mm_d1 (n := 7) hd
  intro z3
  show mm_Runs L xs (d + 1) 54 (17, [some (.ref 3), some (.int v1), some (.int v2), z3], [.int s0], M) o
  refine mm_R_call (v := mm_wv) h hA (k2 := 27) (as := [.int s0]) (r := []) rfl (fun _ => rfl) (fun q hq o ho => ms_27 (by omega) hq ho) (fun _ M1 h => ?_)
  show mm_Runs L xs (d + 1) 54 (20, [some (.ref 3), some (.int v1), some (.int v2), z3], [], M1) o
  refine mm_Runs.seq (l := [(20, .iconst 0, 1), (21, .istore_n 3, 1)]) (S2 := (22, [some (.ref 3), some (.int v1), some (.int v2), some (.int (0 : Int32))], [], M1)) (by decide +kernel) (hO := mm_own_54) rfl ?_
  have hp : mp_54_22 L xs (d + 1) v1 v2 (0 : Int32) M1 o := by
    refine ms_54_L22 hd h hA (fun r3 M2 h => ?_)
    intro y4 y5 y6 y7
    show mm_Runs L xs (d + 1) 54 (45, [y4, y5, y6, y7], [], M2) o
    cases h
    exact mm_R_retv rfl rfl hA
  exact hp
set_option maxRecDepth 8000 in
set_option maxHeartbeats 4000000 in
theorem ms_54 {L : Nat} {xs : Nat → Int32} {d : Nat} (hd : 8 ≤ d) {v1 : Int32} {v2 : Int32} {M : mm_M} {q : (Unit ⊕ Nat) × mm_M} {o : mm_E} (h : mf_54 v1 v2 M = some q) (hA : mm_A (mm_Kr mm_wv) q o) : mm_Runs L xs d 54 (0, mm_ent (mm_ml 54) [.ref 3, .int v1, .int v2], [], M) o := by
  unfold mf_54 at h
  obtain ⟨d, rfl⟩ := mm_d1 (n := 7) hd
  show mm_Runs L xs (d + 1) 54 (0, [some (.ref 3), some (.int v1), some (.int v2), none], [], M) o
  refine mm_Runs.seq (l := [(0, .iload_n 1, 1)]) (S2 := (1, [some (.ref 3), some (.int v1), some (.int v2), none], [.int v1], M)) (by decide +kernel) (hO := mm_own_54) rfl ?_
  refine mm_R_zlt (t := 12) rfl rfl rfl (fun hc => ?_) (fun hc => ?_)
  · replace h := mm_ip hc h
    refine mm_Runs.seq (l := [(12, .iconst 1, 1), (13, .goto 4, 3)]) (S2 := (17, [some (.ref 3), some (.int v1), some (.int v2), none], [.int (1 : Int32)], M)) (by decide +kernel) (hO := mm_own_54) rfl ?_
    exact (ms_54_j17 hd h hA : mp_54_17 L xs (d + 1) v1 v2 (1 : Int32) M o) none
  · replace h := mm_iq hc h
    refine mm_Runs.seq (l := [(4, .iload_n 1, 1), (5, .aload_n 0, 1), (6, .getfield 15, 3)]) (S2 := (9, [some (.ref 3), some (.int v1), some (.int v2), none], [.int (M.1 3 1), .int v1], M)) (by decide +kernel) (hO := mm_own_54) rfl ?_
    refine mm_R_ilt (t := 16) rfl rfl rfl (fun hc => ?_) (fun hc => ?_)
    · replace h := mm_ip hc h
      refine mm_Runs.seq (l := [(16, .iconst 0, 1)]) (S2 := (17, [some (.ref 3), some (.int v1), some (.int v2), none], [.int (0 : Int32)], M)) (by decide +kernel) (hO := mm_own_54) rfl ?_
      exact (ms_54_j17 hd h hA : mp_54_17 L xs (d + 1) v1 v2 (0 : Int32) M o) none
    · replace h := mm_iq hc h
      refine mm_Runs.seq (l := [(12, .iconst 1, 1), (13, .goto 4, 3)]) (S2 := (17, [some (.ref 3), some (.int v1), some (.int v2), none], [.int (1 : Int32)], M)) (by decide +kernel) (hO := mm_own_54) rfl ?_
      exact (ms_54_j17 hd h hA : mp_54_17 L xs (d + 1) v1 v2 (1 : Int32) M o) none
-- 53: PlainPacks$Sink.copy(IJ)V (depth 9)
theorem mm_own_53 : mm_own 53 = 2 := rfl
def mp_53_21 (L : Nat) (xs : Nat → Int32) (d : Nat) (v1 : Int32) (v2 : Int64) (s0 : Int32) (M : mm_M) (o : mm_E) : Prop := ∀ z3 z4 : Option Value, mm_Runs L xs d 53 (21, [some (.ref 3), some (.int v1), some (.long v2), z3, z4], [.int s0], M) o
set_option maxRecDepth 8000 in
set_option maxHeartbeats 4000000 in
theorem ms_53_j21 {L : Nat} {xs : Nat → Int32} {d : Nat} (hd : 9 ≤ d) {v1 : Int32} {v2 : Int64} {s0 : Int32} {M : mm_M} {q : (Unit ⊕ Nat) × mm_M} {o : mm_E} (h : mf_53_j21 v1 v2 s0 M = some q) (hA : mm_A (mm_Kr mm_wv) q o) : mp_53_21 L xs d v1 v2 s0 M o := by
  unfold mf_53_j21 at h
  obtain ⟨d, rfl⟩ := mm_d1 (n := 8) hd
  intro z3 z4
  show mm_Runs L xs (d + 1) 53 (21, [some (.ref 3), some (.int v1), some (.long v2), z3, z4], [.int s0], M) o
  refine mm_R_call (v := mm_wv) h hA (k2 := 27) (as := [.int s0]) (r := []) rfl (fun _ => rfl) (fun q hq o ho => ms_27 (by omega) hq ho) (fun _ M1 h => ?_)
  show mm_Runs L xs (d + 1) 53 (24, [some (.ref 3), some (.int v1), some (.long v2), z3, z4], [], M1) o
  refine mm_Runs.seq (l := [(24, .lload_n 2, 1), (25, .l2i, 1), (26, .istore 4, 2), (28, .aload_n 0, 1), (29, .dup, 1), (30, .getfield 22, 3), (33, .iconst 1, 1), (34, .iadd, 1), (35, .putfield 22, 3), (38, .aload_n 0, 1), (39, .aload_n 0, 1), (40, .getfield 25, 3), (43, .iload_n 1, 1)]) (S2 := (44, [some (.ref 3), some (.int v1), some (.long v2), (mm_no2 z3), some (.int v2.toInt32)], [.int v1, .int (M1.1 3 4), .ref 3], (mm_pi M1 3 3 ((M1.1 3 3) + (1 : Int32))))) (by decide +kernel) (hO := mm_own_53) rfl ?_
  refine mm_R_intr (st2 := [.int (mm_max (M1.1 3 4) v1), .ref 3]) (M2 := (mm_pi M1 3 3 ((M1.1 3 3) + (1 : Int32)))) rfl rfl (by omega) ?_
  refine mm_Runs.seq (l := [(47, .putfield 25, 3), (50, .aload_n 0, 1), (51, .aload_n 0, 1), (52, .getfield 28, 3), (55, .iload 4, 2)]) (S2 := (57, [some (.ref 3), some (.int v1), some (.long v2), (mm_no2 z3), some (.int v2.toInt32)], [.int v2.toInt32, .int (M1.1 3 5), .ref 3], (mm_pi (mm_pi M1 3 3 ((M1.1 3 3) + (1 : Int32))) 3 4 (mm_max (M1.1 3 4) v1)))) (by decide +kernel) (hO := mm_own_53) rfl ?_
  refine mm_R_intr (st2 := [.int (mm_max (M1.1 3 5) v2.toInt32), .ref 3]) (M2 := (mm_pi (mm_pi M1 3 3 ((M1.1 3 3) + (1 : Int32))) 3 4 (mm_max (M1.1 3 4) v1))) rfl rfl (by omega) ?_
  refine mm_Runs.seq (l := [(60, .putfield 28, 3), (63, .aload_n 0, 1), (64, .aload_n 0, 1), (65, .getfield 15, 3), (68, .iload 4, 2), (70, .isub, 1), (71, .iload_n 1, 1)]) (S2 := (72, [some (.ref 3), some (.int v1), some (.long v2), (mm_no2 z3), some (.int v2.toInt32)], [.int v1, .int ((M1.1 3 1) - v2.toInt32), .ref 3], (mm_pi (mm_pi (mm_pi M1 3 3 ((M1.1 3 3) + (1 : Int32))) 3 4 (mm_max (M1.1 3 4) v1)) 3 5 (mm_max (M1.1 3 5) v2.toInt32)))) (by decide +kernel) (hO := mm_own_53) rfl ?_
  refine mm_R_call (v := mm_wv) h hA (k2 := 54) (as := [.ref 3, .int ((M1.1 3 1) - v2.toInt32), .int v1]) (r := []) rfl (fun _ => rfl) (fun q hq o ho => ms_54 (by omega) hq ho) (fun _ M2 h => ?_)
  show mm_Runs L xs (d + 1) 53 (75, [some (.ref 3), some (.int v1), some (.long v2), (mm_no2 z3), some (.int v2.toInt32)], [], M2) o
  cases h
  exact mm_R_retv rfl rfl hA
set_option maxRecDepth 8000 in
set_option maxHeartbeats 4000000 in
theorem ms_53 {L : Nat} {xs : Nat → Int32} {d : Nat} (hd : 9 ≤ d) {v1 : Int32} {v2 : Int64} {M : mm_M} {q : (Unit ⊕ Nat) × mm_M} {o : mm_E} (h : mf_53 v1 v2 M = some q) (hA : mm_A (mm_Kr mm_wv) q o) : mm_Runs L xs d 53 (0, mm_ent (mm_ml 53) [.ref 3, .int v1, .long v2], [], M) o := by
  unfold mf_53 at h
  obtain ⟨d, rfl⟩ := mm_d1 (n := 8) hd
  show mm_Runs L xs (d + 1) 53 (0, [some (.ref 3), some (.int v1), some (.long v2), none, none], [], M) o
  refine mm_Runs.seq (l := [(0, .lload_n 2, 1), (1, .lconst 0, 1)]) (S2 := (2, [some (.ref 3), some (.int v1), some (.long v2), none, none], [.long (0 : Int64), .long v2], M)) (by decide +kernel) (hO := mm_own_53) rfl ?_
  refine mm_R_lle (t := 16) rfl rfl rfl rfl (fun hc => ?_) (fun hc => ?_)
  · replace h := mm_ip hc h
    refine mm_Runs.seq (l := [(6, .lload_n 2, 1), (7, .aload_n 0, 1), (8, .getfield 15, 3), (11, .i2l, 1)]) (S2 := (12, [some (.ref 3), some (.int v1), some (.long v2), none, none], [.long (M.1 3 1).toInt64, .long v2], M)) (by decide +kernel) (hO := mm_own_53) rfl ?_
    refine mm_R_lle (t := 20) rfl rfl rfl rfl (fun hc => ?_) (fun hc => ?_)
    · replace h := mm_ip hc h
      refine mm_Runs.seq (l := [(16, .iconst 1, 1), (17, .goto 4, 3)]) (S2 := (21, [some (.ref 3), some (.int v1), some (.long v2), none, none], [.int (1 : Int32)], M)) (by decide +kernel) (hO := mm_own_53) rfl ?_
      exact (ms_53_j21 hd h hA : mp_53_21 L xs (d + 1) v1 v2 (1 : Int32) M o) none none
    · replace h := mm_iq hc h
      refine mm_Runs.seq (l := [(20, .iconst 0, 1)]) (S2 := (21, [some (.ref 3), some (.int v1), some (.long v2), none, none], [.int (0 : Int32)], M)) (by decide +kernel) (hO := mm_own_53) rfl ?_
      exact (ms_53_j21 hd h hA : mp_53_21 L xs (d + 1) v1 v2 (0 : Int32) M o) none none
  · replace h := mm_iq hc h
    refine mm_Runs.seq (l := [(16, .iconst 1, 1), (17, .goto 4, 3)]) (S2 := (21, [some (.ref 3), some (.int v1), some (.long v2), none, none], [.int (1 : Int32)], M)) (by decide +kernel) (hO := mm_own_53) rfl ?_
    exact (ms_53_j21 hd h hA : mp_53_21 L xs (d + 1) v1 v2 (1 : Int32) M o) none none
-- 86: PlainPacks$Blocks.readLetters(I)V (depth 10)
theorem mm_own_86 : mm_own 86 = 6 := rfl
def mp_86_2 (L : Nat) (xs : Nat → Int32) (d : Nat) (v1 : Int32) (v2 : Int32) (M : mm_M) (o : mm_E) : Prop := ∀ z3 z4 z5 : Option Value, mm_Runs L xs d 86 (2, [some (.ref 16), some (.int v1), some (.int v2), z3, z4, z5], [], M) o
def mp_86_27 (L : Nat) (xs : Nat → Int32) (d : Nat) (M : mm_M) (o : mm_E) : Prop := ∀ z0 z1 z2 z3 z4 z5 : Option Value, mm_Runs L xs d 86 (27, [z0, z1, z2, z3, z4, z5], [], M) o
def mp_86_106 (L : Nat) (xs : Nat → Int32) (d : Nat) (M : mm_M) (o : mm_E) : Prop := ∀ z0 z1 z2 z3 z4 z5 : Option Value, mm_Runs L xs d 86 (106, [z0, z1, z2, z3, z4, z5], [], M) o
def mp_86_58 (L : Nat) (xs : Nat → Int32) (d : Nat) (v1 : Int32) (v2 : Int32) (v3 : Int32) (s0 : Int32) (M : mm_M) (o : mm_E) : Prop := ∀ z4 z5 : Option Value, mm_Runs L xs d 86 (58, [some (.ref 16), some (.int v1), some (.int v2), some (.int v3), z4, z5], [.int s0], M) o
def mp_86_85 (L : Nat) (xs : Nat → Int32) (d : Nat) (v1 : Int32) (v2 : Int32) (v4 : Int32) (v5 : Int32) (s0 : Int32) (M : mm_M) (o : mm_E) : Prop := ∀ z3 : Option Value, mm_Runs L xs d 86 (85, [some (.ref 16), some (.int v1), some (.int v2), z3, some (.int v4), some (.int v5)], [.int s0], M) o
set_option maxRecDepth 8000 in
set_option maxHeartbeats 4000000 in
theorem ms_86_j85 {L : Nat} {xs : Nat → Int32} {d : Nat} (hd : 10 ≤ d) {v1 : Int32} {v2 : Int32} {v4 : Int32} {v5 : Int32} {s0 : Int32} {M : mm_M} {q : (((Int32) ⊕ ((Unit) ⊕ (Unit))) ⊕ Nat) × mm_M} {o : mm_E} (h : mf_86_j85 v1 v2 v4 v5 s0 M = some q) (hA : mm_A (mm_K2 (fun s M o => mp_86_2 L xs (d) v1 s M o) (fun r M o => mm_sm (fun r => mp_86_27 L xs (d) M o) (fun r => mp_86_106 L xs (d) M o) r)) q o) : mp_86_85 L xs d v1 v2 v4 v5 s0 M o := by
  unfold mf_86_j85 at h
  obtain ⟨d, rfl⟩ := mm_d1 (n := 9) hd
  intro z3
  show mm_Runs L xs (d + 1) 86 (85, [some (.ref 16), some (.int v1), some (.int v2), z3, some (.int v4), some (.int v5)], [.int s0], M) o
  refine mm_R_call (v := mm_wv) h hA (k2 := 27) (as := [.int s0]) (r := []) rfl (fun _ => rfl) (fun q hq o ho => ms_27 (by omega) hq ho) (fun _ M1 h => ?_)
  show mm_Runs L xs (d + 1) 86 (88, [some (.ref 16), some (.int v1), some (.int v2), z3, some (.int v4), some (.int v5)], [], M1) o
  refine mm_Runs.seq (l := [(88, .aload_n 0, 1), (89, .getfield 43, 3), (92, .iload 4, 2), (94, .iload 5, 2), (96, .i2l, 1)]) (S2 := (97, [some (.ref 16), some (.int v1), some (.int v2), z3, some (.int v4), some (.int v5)], [.long v5.toInt64, .int v4, .ref 3], M1)) (by decide +kernel) (hO := mm_own_86) rfl ?_
  refine mm_R_call (v := mm_wv) h hA (k2 := 53) (as := [.ref 3, .int v4, .long v5.toInt64]) (r := []) rfl (fun _ => rfl) (fun q hq o ho => ms_53 (by omega) hq ho) (fun _ M2 h => ?_)
  show mm_Runs L xs (d + 1) 86 (100, [some (.ref 16), some (.int v1), some (.int v2), z3, some (.int v4), some (.int v5)], [], M2) o
  refine mm_Runs.seq (l := [(100, .iinc 2 1, 3), (103, .goto (-101), 3)]) (S2 := (2, [some (.ref 16), some (.int v1), some (.int (v2 + (1 : Int32))), z3, some (.int v4), some (.int v5)], [], M2)) (by decide +kernel) (hO := mm_own_86) rfl ?_
  cases h
  exact (show mp_86_2 L xs (d + 1) v1 (v2 + (1 : Int32)) M2 o from hA) z3 (some (.int v4)) (some (.int v5))
set_option maxRecDepth 8000 in
set_option maxHeartbeats 4000000 in
theorem ms_86_j58 {L : Nat} {xs : Nat → Int32} {d : Nat} (hd : 10 ≤ d) {v1 : Int32} {v2 : Int32} {v3 : Int32} {s0 : Int32} {M : mm_M} {q : (((Int32) ⊕ ((Unit) ⊕ (Unit))) ⊕ Nat) × mm_M} {o : mm_E} (h : mf_86_j58 v1 v2 v3 s0 M = some q) (hA : mm_A (mm_K2 (fun s M o => mp_86_2 L xs (d) v1 s M o) (fun r M o => mm_sm (fun r => mp_86_27 L xs (d) M o) (fun r => mp_86_106 L xs (d) M o) r)) q o) : mp_86_58 L xs d v1 v2 v3 s0 M o := by
  unfold mf_86_j58 at h
  obtain ⟨d, rfl⟩ := mm_d1 (n := 9) hd
  intro z4 z5
  show mm_Runs L xs (d + 1) 86 (58, [some (.ref 16), some (.int v1), some (.int v2), some (.int v3), z4, z5], [.int s0], M) o
  refine mm_R_call (v := mm_wv) h hA (k2 := 27) (as := [.int s0]) (r := []) rfl (fun _ => rfl) (fun q hq o ho => ms_27 (by omega) hq ho) (fun _ M1 h => ?_)
  show mm_Runs L xs (d + 1) 86 (61, [some (.ref 16), some (.int v1), some (.int v2), some (.int v3), z4, z5], [], M1) o
  refine mm_Runs.seq (l := [(61, .aload_n 0, 1), (62, .iload_n 3, 1)]) (S2 := (63, [some (.ref 16), some (.int v1), some (.int v2), some (.int v3), z4, z5], [.int v3, .ref 16], M1)) (by decide +kernel) (hO := mm_own_86) rfl ?_
  refine mm_R_call (v := mm_wi) h hA (k2 := 87) (as := [.ref 16, .int v3]) (r := []) rfl (fun _ => rfl) (fun q hq o ho => ms_87 (by omega) hq ho) (fun r2 M3 h => ?_)
  show mm_Runs L xs (d + 1) 86 (66, [some (.ref 16), some (.int v1), some (.int v2), some (.int v3), z4, z5], [.int r2], M3) o
  refine mm_Runs.seq (l := [(66, .istore 4, 2), (68, .aload_n 0, 1)]) (S2 := (69, [some (.ref 16), some (.int v1), some (.int v2), some (.int v3), some (.int r2), z5], [.ref 16], M3)) (by decide +kernel) (hO := mm_own_86) rfl ?_
  refine mm_R_call (v := mm_wi) h hA (k2 := 88) (as := [.ref 16]) (r := []) rfl (fun _ => rfl) (fun q hq o ho => ms_88 (by omega) hq ho) (fun r4 M5 h => ?_)
  show mm_Runs L xs (d + 1) 86 (72, [some (.ref 16), some (.int v1), some (.int v2), some (.int v3), some (.int r2), z5], [.int r4], M5) o
  refine mm_Runs.seq (l := [(72, .istore 5, 2), (74, .iload 5, 2), (76, .iload_n 1, 1)]) (S2 := (77, [some (.ref 16), some (.int v1), some (.int v2), some (.int v3), some (.int r2), some (.int r4)], [.int v1, .int r4], M5)) (by decide +kernel) (hO := mm_own_86) rfl ?_
  refine mm_R_ile (t := 84) rfl rfl rfl (fun hc => ?_) (fun hc => ?_)
  · replace h := mm_ip hc h
    refine mm_Runs.seq (l := [(80, .iconst 1, 1), (81, .goto 4, 3)]) (S2 := (85, [some (.ref 16), some (.int v1), some (.int v2), some (.int v3), some (.int r2), some (.int r4)], [.int (1 : Int32)], M5)) (by decide +kernel) (hO := mm_own_86) rfl ?_
    exact (ms_86_j85 hd h hA : mp_86_85 L xs (d + 1) v1 v2 r2 r4 (1 : Int32) M5 o) (some (.int v3))
  · replace h := mm_iq hc h
    refine mm_Runs.seq (l := [(84, .iconst 0, 1)]) (S2 := (85, [some (.ref 16), some (.int v1), some (.int v2), some (.int v3), some (.int r2), some (.int r4)], [.int (0 : Int32)], M5)) (by decide +kernel) (hO := mm_own_86) rfl ?_
    exact (ms_86_j85 hd h hA : mp_86_85 L xs (d + 1) v1 v2 r2 r4 (0 : Int32) M5 o) (some (.int v3))
set_option maxRecDepth 8000 in
set_option maxHeartbeats 4000000 in
theorem ms_86_b2 {L : Nat} {xs : Nat → Int32} {d : Nat} (hd : 10 ≤ d) {v1 : Int32} {v2 : Int32} {M : mm_M} {q : (((Int32) ⊕ ((Unit) ⊕ (Unit))) ⊕ Nat) × mm_M} {o : mm_E} (h : mf_86_b2 v1 v2 M = some q) (hA : mm_A (mm_K2 (fun s M o => mp_86_2 L xs (d) v1 s M o) (fun r M o => mm_sm (fun r => mp_86_27 L xs (d) M o) (fun r => mp_86_106 L xs (d) M o) r)) q o) : mp_86_2 L xs d v1 v2 M o := by
  unfold mf_86_b2 at h
  obtain ⟨d, rfl⟩ := mm_d1 (n := 9) hd
  intro z3 z4 z5
  show mm_Runs L xs (d + 1) 86 (2, [some (.ref 16), some (.int v1), some (.int v2), z3, z4, z5], [], M) o
  refine mm_Runs.seq (l := [(2, .iload_n 2, 1), (3, .ldc 103, 2)]) (S2 := (5, [some (.ref 16), some (.int v1), some (.int v2), z3, z4, z5], [.int (1000000 : Int32), .int v2], M)) (by decide +kernel) (hO := mm_own_86) rfl ?_
  refine mm_R_ige (t := 106) rfl rfl rfl (fun hc => ?_) (fun hc => ?_)
  · replace h := mm_ip hc h
    refine mm_Runs.seq (l := [(8, .aload_n 0, 1), (9, .getfield 16, 3), (12, .aload_n 0, 1), (13, .getfield 39, 3)]) (S2 := (16, [some (.ref 16), some (.int v1), some (.int v2), z3, z4, z5], [.ref 1, .ref 17], M)) (by decide +kernel) (hO := mm_own_86) rfl ?_
    refine mm_R_call (v := mm_wi) h hA (k2 := 103) (as := [.ref 17, .ref 1]) (r := []) rfl (fun _ => rfl) (fun q hq o ho => ms_103 ⟨rfl, rfl, rfl, rfl, rfl⟩ (by omega) hq ho) (fun r1 M2 h => ?_)
    show mm_Runs L xs (d + 1) 86 (19, [some (.ref 16), some (.int v1), some (.int v2), z3, z4, z5], [.int r1], M2) o
    refine mm_Runs.seq (l := [(19, .istore_n 3, 1), (20, .iload_n 3, 1), (21, .sipush 256, 3)]) (S2 := (24, [some (.ref 16), some (.int v1), some (.int v2), some (.int r1), z4, z5], [.int (256 : Int32), .int r1], M2)) (by decide +kernel) (hO := mm_own_86) rfl ?_
    refine mm_R_ine (t := 28) rfl rfl rfl (fun hc => ?_) (fun hc => ?_)
    · replace h := mm_ip hc h
      cases h
      exact (show mp_86_27 L xs (d + 1) M2 o from hA) (some (.ref 16)) (some (.int v1)) (some (.int v2)) (some (.int r1)) z4 z5
    · replace h := mm_iq hc h
      refine mm_Runs.seq (l := [(28, .iload_n 3, 1), (29, .sipush 256, 3)]) (S2 := (32, [some (.ref 16), some (.int v1), some (.int v2), some (.int r1), z4, z5], [.int (256 : Int32), .int r1], M2)) (by decide +kernel) (hO := mm_own_86) rfl ?_
      refine mm_R_ige (t := 46) rfl rfl rfl (fun hc => ?_) (fun hc => ?_)
      · replace h := mm_ip hc h
        refine mm_Runs.seq (l := [(35, .aload_n 0, 1), (36, .getfield 43, 3), (39, .iload_n 3, 1)]) (S2 := (40, [some (.ref 16), some (.int v1), some (.int v2), some (.int r1), z4, z5], [.int r1, .ref 3], M2)) (by decide +kernel) (hO := mm_own_86) rfl ?_
        refine mm_R_call (v := mm_wv) h hA (k2 := 52) (as := [.ref 3, .int r1]) (r := []) rfl (fun _ => rfl) (fun q hq o ho => ms_52 (by omega) hq ho) (fun _ M3 h => ?_)
        show mm_Runs L xs (d + 1) 86 (43, [some (.ref 16), some (.int v1), some (.int v2), some (.int r1), z4, z5], [], M3) o
        refine mm_Runs.seq (l := [(43, .goto 57, 3), (100, .iinc 2 1, 3), (103, .goto (-101), 3)]) (S2 := (2, [some (.ref 16), some (.int v1), some (.int (v2 + (1 : Int32))), some (.int r1), z4, z5], [], M3)) (by decide +kernel) (hO := mm_own_86) rfl ?_
        cases h
        exact (show mp_86_2 L xs (d + 1) v1 (v2 + (1 : Int32)) M3 o from hA) (some (.int r1)) z4 z5
      · replace h := mm_iq hc h
        refine mm_Runs.seq (l := [(46, .iload_n 3, 1), (47, .sipush 285, 3)]) (S2 := (50, [some (.ref 16), some (.int v1), some (.int v2), some (.int r1), z4, z5], [.int (285 : Int32), .int r1], M2)) (by decide +kernel) (hO := mm_own_86) rfl ?_
        refine mm_R_ile (t := 57) rfl rfl rfl (fun hc => ?_) (fun hc => ?_)
        · replace h := mm_ip hc h
          refine mm_Runs.seq (l := [(53, .iconst 1, 1), (54, .goto 4, 3)]) (S2 := (58, [some (.ref 16), some (.int v1), some (.int v2), some (.int r1), z4, z5], [.int (1 : Int32)], M2)) (by decide +kernel) (hO := mm_own_86) rfl ?_
          exact (ms_86_j58 hd h hA : mp_86_58 L xs (d + 1) v1 v2 r1 (1 : Int32) M2 o) z4 z5
        · replace h := mm_iq hc h
          refine mm_Runs.seq (l := [(57, .iconst 0, 1)]) (S2 := (58, [some (.ref 16), some (.int v1), some (.int v2), some (.int r1), z4, z5], [.int (0 : Int32)], M2)) (by decide +kernel) (hO := mm_own_86) rfl ?_
          exact (ms_86_j58 hd h hA : mp_86_58 L xs (d + 1) v1 v2 r1 (0 : Int32) M2 o) z4 z5
  · replace h := mm_iq hc h
    cases h
    exact (show mp_86_106 L xs (d + 1) M o from hA) (some (.ref 16)) (some (.int v1)) (some (.int v2)) z3 z4 z5
theorem ms_86_L2 {L : Nat} {xs : Nat → Int32} {d : Nat} (hd : 10 ≤ d) {v1 : Int32} {v2 : Int32} {β : Type} {K : β → mm_M → mm_E → Prop} {F : ((Unit) ⊕ (Unit)) → mm_M → mm_O β} {M : mm_M} {q : (β ⊕ Nat) × mm_M} {o : mm_E} (h : mm_B (mf_86_L2 v1 v2 M) F = some q) (hA : mm_A K q o) (hx : ∀ (r : ((Unit) ⊕ (Unit))) (M2 : mm_M), F r M2 = some q → (fun r M o => mm_sm (fun r => mp_86_27 L xs (d) M o) (fun r => mp_86_106 L xs (d) M o) r) r M2 o) : mp_86_2 L xs d v1 v2 M o := by
  unfold mf_86_L2 at h
  exact mm_R_loop (step := (fun s M => mf_86_b2 v1 s M)) (s := v2) (M := M) (P := (fun s M o => mp_86_2 L xs (d) v1 s M o)) (X := (fun r M o => mm_sm (fun r => mp_86_27 L xs (d) M o) (fun r => mp_86_106 L xs (d) M o) r)) h hA (fun s M q hq hA => ms_86_b2 (v1 := v1) (v2 := s) (M := M) (q := q) hd hq hA) hx
set_option maxRecDepth 8000 in
set_option maxHeartbeats 4000000 in
theorem ms_86 {L : Nat} {xs : Nat → Int32} {d : Nat} (hd : 10 ≤ d) {v1 : Int32} {M : mm_M} {q : (Unit ⊕ Nat) × mm_M} {o : mm_E} (h : mf_86 v1 M = some q) (hA : mm_A (mm_Kr mm_wv) q o) : mm_Runs L xs d 86 (0, mm_ent (mm_ml 86) [.ref 16, .int v1], [], M) o := by
  unfold mf_86 at h
  obtain ⟨d, rfl⟩ := mm_d1 (n := 9) hd
  show mm_Runs L xs (d + 1) 86 (0, [some (.ref 16), some (.int v1), none, none, none, none], [], M) o
  refine mm_Runs.seq (l := [(0, .iconst 0, 1), (1, .istore_n 2, 1)]) (S2 := (2, [some (.ref 16), some (.int v1), some (.int (0 : Int32)), none, none, none], [], M)) (by decide +kernel) (hO := mm_own_86) rfl ?_
  have hp : mp_86_2 L xs (d + 1) v1 (0 : Int32) M o := by
    refine ms_86_L2 hd h hA (fun r2 M1 h => ?_)
    rcases r2 with r2 | r2
    · dsimp only [mm_sm] at h
      intro y3 y4 y5 y6 y7 y8
      show mm_Runs L xs (d + 1) 86 (27, [y3, y4, y5, y6, y7, y8], [], M1) o
      cases h
      exact mm_R_retv rfl rfl hA
    · dsimp only [mm_sm] at h
      intro y9 y10 y11 y12 y13 y14
      show mm_Runs L xs (d + 1) 86 (106, [y9, y10, y11, y12, y13, y14], [], M1) o
      cases h
      exact mm_R_retv rfl rfl hA
  exact hp none none none
-- 79: PlainPacks$Blocks.readBlocks(I)V (depth 11)
theorem mm_own_79 : mm_own 79 = 6 := rfl
def mp_79_4 (L : Nat) (xs : Nat → Int32) (d : Nat) (v1 : Int32) (v2 : Int32) (v3 : Int32) (M : mm_M) (o : mm_E) : Prop := ∀ z4 : Option Value, mm_Runs L xs d 79 (4, [some (.ref 16), some (.int v1), some (.int v2), some (.int v3), z4], [], M) o
def mp_79_117 (L : Nat) (xs : Nat → Int32) (d : Nat) (M : mm_M) (o : mm_E) : Prop := ∀ z0 z1 z2 z3 z4 : Option Value, mm_Runs L xs d 79 (117, [z0, z1, z2, z3, z4], [], M) o
def mp_79_30 (L : Nat) (xs : Nat → Int32) (d : Nat) (v1 : Int32) (v3 : Int32) (s0 : Int32) (M : mm_M) (o : mm_E) : Prop := ∀ z2 z4 : Option Value, mm_Runs L xs d 79 (30, [some (.ref 16), some (.int v1), z2, some (.int v3), z4], [.int s0], M) o
def mp_79_53 (L : Nat) (xs : Nat → Int32) (d : Nat) (v1 : Int32) (v2 : Int32) (v3 : Int32) (v4 : Int32) (s0 : Int32) (M : mm_M) (o : mm_E) : Prop := mm_Runs L xs d 79 (53, [some (.ref 16), some (.int v1), some (.int v2), some (.int v3), some (.int v4)], [.int s0], M) o
def mp_79_106 (L : Nat) (xs : Nat → Int32) (d : Nat) (v1 : Int32) (v2 : Int32) (v3 : Int32) (M : mm_M) (o : mm_E) : Prop := ∀ z4 : Option Value, mm_Runs L xs d 79 (106, [some (.ref 16), some (.int v1), some (.int v2), some (.int v3), z4], [], M) o
set_option maxRecDepth 8000 in
set_option maxHeartbeats 4000000 in
theorem ms_79_j106 {L : Nat} {xs : Nat → Int32} {d : Nat} (hd : 11 ≤ d) {v1 : Int32} {v2 : Int32} {v3 : Int32} {M : mm_M} {q : (((Int32 × Int32) ⊕ (Unit)) ⊕ Nat) × mm_M} {o : mm_E} (h : mf_79_j106 v1 v2 v3 M = some q) (hA : mm_A (mm_K2 (fun s M o => mp_79_4 L xs (d) v1 s.1 s.2 M o) (fun r M o => mp_79_117 L xs (d) M o)) q o) : mp_79_106 L xs d v1 v2 v3 M o := by
  unfold mf_79_j106 at h
  obtain ⟨d, rfl⟩ := mm_d1 (n := 10) hd
  intro z4
  show mm_Runs L xs (d + 1) 79 (106, [some (.ref 16), some (.int v1), some (.int v2), some (.int v3), z4], [], M) o
  refine mm_Runs.seq (l := [(106, .aload_n 0, 1), (107, .iload_n 1, 1)]) (S2 := (108, [some (.ref 16), some (.int v1), some (.int v2), some (.int v3), z4], [.int v1, .ref 16], M)) (by decide +kernel) (hO := mm_own_79) rfl ?_
  refine mm_R_call (v := mm_wv) h hA (k2 := 86) (as := [.ref 16, .int v1]) (r := []) rfl (fun _ => rfl) (fun q hq o ho => ms_86 (by omega) hq ho) (fun _ M1 h => ?_)
  show mm_Runs L xs (d + 1) 79 (111, [some (.ref 16), some (.int v1), some (.int v2), some (.int v3), z4], [], M1) o
  refine mm_Runs.seq (l := [(111, .iinc 3 1, 3), (114, .goto (-110), 3)]) (S2 := (4, [some (.ref 16), some (.int v1), some (.int v2), some (.int (v3 + (1 : Int32))), z4], [], M1)) (by decide +kernel) (hO := mm_own_79) rfl ?_
  cases h
  exact (show mp_79_4 L xs (d + 1) v1 v2 (v3 + (1 : Int32)) M1 o from hA) z4
set_option maxRecDepth 8000 in
set_option maxHeartbeats 4000000 in
theorem ms_79_j53 {L : Nat} {xs : Nat → Int32} {d : Nat} (hd : 11 ≤ d) {v1 : Int32} {v2 : Int32} {v3 : Int32} {v4 : Int32} {s0 : Int32} {M : mm_M} {q : (((Int32 × Int32) ⊕ (Unit)) ⊕ Nat) × mm_M} {o : mm_E} (h : mf_79_j53 v1 v2 v3 v4 s0 M = some q) (hA : mm_A (mm_K2 (fun s M o => mp_79_4 L xs (d) v1 s.1 s.2 M o) (fun r M o => mp_79_117 L xs (d) M o)) q o) : mp_79_53 L xs d v1 v2 v3 v4 s0 M o := by
  unfold mf_79_j53 at h
  obtain ⟨d, rfl⟩ := mm_d1 (n := 10) hd
  show mm_Runs L xs (d + 1) 79 (53, [some (.ref 16), some (.int v1), some (.int v2), some (.int v3), some (.int v4)], [.int s0], M) o
  refine mm_R_call (v := mm_wv) h hA (k2 := 27) (as := [.int s0]) (r := []) rfl (fun _ => rfl) (fun q hq o ho => ms_27 (by omega) hq ho) (fun _ M1 h => ?_)
  show mm_Runs L xs (d + 1) 79 (56, [some (.ref 16), some (.int v1), some (.int v2), some (.int v3), some (.int v4)], [], M1) o
  refine mm_Runs.seq (l := [(56, .aload_n 0, 1), (57, .getfield 43, 3), (60, .dup, 1), (61, .getfield 110, 3), (64, .iconst 1, 1), (65, .iadd, 1), (66, .putfield 110, 3), (69, .iload 4, 2)]) (S2 := (71, [some (.ref 16), some (.int v1), some (.int v2), some (.int v3), some (.int v4)], [.int v4], (mm_pi M1 3 6 ((M1.1 3 6) + (1 : Int32))))) (by decide +kernel) (hO := mm_own_79) rfl ?_
  refine mm_R_zne (t := 81) rfl rfl rfl (fun hc => ?_) (fun hc => ?_)
  · replace h := mm_ip hc h
    refine mm_Runs.seq (l := [(74, .aload_n 0, 1)]) (S2 := (75, [some (.ref 16), some (.int v1), some (.int v2), some (.int v3), some (.int v4)], [.ref 16], (mm_pi M1 3 6 ((M1.1 3 6) + (1 : Int32))))) (by decide +kernel) (hO := mm_own_79) rfl ?_
    refine mm_R_call (v := mm_wv) h hA (k2 := 80) (as := [.ref 16]) (r := []) rfl (fun _ => rfl) (fun q hq o ho => ms_80 (by omega) hq ho) (fun _ M2 h => ?_)
    show mm_Runs L xs (d + 1) 79 (78, [some (.ref 16), some (.int v1), some (.int v2), some (.int v3), some (.int v4)], [], M2) o
    refine mm_Runs.seq (l := [(78, .goto 33, 3), (111, .iinc 3 1, 3), (114, .goto (-110), 3)]) (S2 := (4, [some (.ref 16), some (.int v1), some (.int v2), some (.int (v3 + (1 : Int32))), some (.int v4)], [], M2)) (by decide +kernel) (hO := mm_own_79) rfl ?_
    cases h
    exact (show mp_79_4 L xs (d + 1) v1 v2 (v3 + (1 : Int32)) M2 o from hA) (some (.int v4))
  · replace h := mm_iq hc h
    refine mm_Runs.seq (l := [(81, .iload 4, 2), (83, .iconst 1, 1)]) (S2 := (84, [some (.ref 16), some (.int v1), some (.int v2), some (.int v3), some (.int v4)], [.int (1 : Int32), .int v4], (mm_pi M1 3 6 ((M1.1 3 6) + (1 : Int32))))) (by decide +kernel) (hO := mm_own_79) rfl ?_
    refine mm_R_ine (t := 94) rfl rfl rfl (fun hc => ?_) (fun hc => ?_)
    · replace h := mm_ip hc h
      refine mm_Runs.seq (l := [(87, .aload_n 0, 1)]) (S2 := (88, [some (.ref 16), some (.int v1), some (.int v2), some (.int v3), some (.int v4)], [.ref 16], (mm_pi M1 3 6 ((M1.1 3 6) + (1 : Int32))))) (by decide +kernel) (hO := mm_own_79) rfl ?_
      refine mm_R_call (v := mm_wv) h hA (k2 := 81) (as := [.ref 16]) (r := []) rfl (fun _ => rfl) (fun q hq o ho => ms_81 (by omega) hq ho) (fun _ M3 h => ?_)
      show mm_Runs L xs (d + 1) 79 (91, [some (.ref 16), some (.int v1), some (.int v2), some (.int v3), some (.int v4)], [], M3) o
      refine mm_Runs.seq (l := [(91, .goto 15, 3)]) (S2 := (106, [some (.ref 16), some (.int v1), some (.int v2), some (.int v3), some (.int v4)], [], M3)) (by decide +kernel) (hO := mm_own_79) rfl ?_
      exact (ms_79_j106 hd h hA : mp_79_106 L xs (d + 1) v1 v2 v3 M3 o) (some (.int v4))
    · replace h := mm_iq hc h
      refine mm_Runs.seq (l := [(94, .aload_n 0, 1)]) (S2 := (95, [some (.ref 16), some (.int v1), some (.int v2), some (.int v3), some (.int v4)], [.ref 16], (mm_pi M1 3 6 ((M1.1 3 6) + (1 : Int32))))) (by decide +kernel) (hO := mm_own_79) rfl ?_
      refine mm_R_call (v := mm_wv) h hA (k2 := 83) (as := [.ref 16]) (r := []) rfl (fun _ => rfl) (fun q hq o ho => ms_83 (by omega) hq ho) (fun _ M4 h => ?_)
      show mm_Runs L xs (d + 1) 79 (98, [some (.ref 16), some (.int v1), some (.int v2), some (.int v3), some (.int v4)], [], M4) o
      refine mm_Runs.seq (l := [(98, .aload_n 0, 1)]) (S2 := (99, [some (.ref 16), some (.int v1), some (.int v2), some (.int v3), some (.int v4)], [.ref 16], M4)) (by decide +kernel) (hO := mm_own_79) rfl ?_
      refine mm_R_call (v := mm_wv) h hA (k2 := 84) (as := [.ref 16]) (r := []) rfl (fun _ => rfl) (fun q hq o ho => ms_84 (by omega) hq ho) (fun _ M5 h => ?_)
      show mm_Runs L xs (d + 1) 79 (102, [some (.ref 16), some (.int v1), some (.int v2), some (.int v3), some (.int v4)], [], M5) o
      refine mm_Runs.seq (l := [(102, .aload_n 0, 1)]) (S2 := (103, [some (.ref 16), some (.int v1), some (.int v2), some (.int v3), some (.int v4)], [.ref 16], M5)) (by decide +kernel) (hO := mm_own_79) rfl ?_
      refine mm_R_call (v := mm_wv) h hA (k2 := 85) (as := [.ref 16]) (r := []) rfl (fun _ => rfl) (fun q hq o ho => ms_85 (by omega) hq ho) (fun _ M6 h => ?_)
      show mm_Runs L xs (d + 1) 79 (106, [some (.ref 16), some (.int v1), some (.int v2), some (.int v3), some (.int v4)], [], M6) o
      exact (ms_79_j106 hd h hA : mp_79_106 L xs (d + 1) v1 v2 v3 M6 o) (some (.int v4))
set_option maxRecDepth 8000 in
set_option maxHeartbeats 4000000 in
theorem ms_79_j30 {L : Nat} {xs : Nat → Int32} {d : Nat} (hd : 11 ≤ d) {v1 : Int32} {v3 : Int32} {s0 : Int32} {M : mm_M} {q : (((Int32 × Int32) ⊕ (Unit)) ⊕ Nat) × mm_M} {o : mm_E} (h : mf_79_j30 v1 v3 s0 M = some q) (hA : mm_A (mm_K2 (fun s M o => mp_79_4 L xs (d) v1 s.1 s.2 M o) (fun r M o => mp_79_117 L xs (d) M o)) q o) : mp_79_30 L xs d v1 v3 s0 M o := by
  unfold mf_79_j30 at h
  obtain ⟨d, rfl⟩ := mm_d1 (n := 10) hd
  intro z2 z4
  show mm_Runs L xs (d + 1) 79 (30, [some (.ref 16), some (.int v1), z2, some (.int v3), z4], [.int s0], M) o
  refine mm_Runs.seq (l := [(30, .istore_n 2, 1), (31, .aload_n 0, 1), (32, .getfield 39, 3), (35, .iconst 2, 1)]) (S2 := (36, [some (.ref 16), some (.int v1), some (.int s0), some (.int v3), z4], [.int (2 : Int32), .ref 1], M)) (by decide +kernel) (hO := mm_own_79) rfl ?_
  refine mm_R_call (v := mm_wl) h hA (k2 := 46) (as := [.ref 1, .int (2 : Int32)]) (r := []) rfl (fun _ => rfl) (fun q hq o ho => ms_46 (by omega) hq ho) (fun r1 M2 h => ?_)
  show mm_Runs L xs (d + 1) 79 (39, [some (.ref 16), some (.int v1), some (.int s0), some (.int v3), z4], [.long r1], M2) o
  refine mm_Runs.seq (l := [(39, .l2i, 1), (40, .istore 4, 2), (42, .iload 4, 2), (44, .iconst 3, 1)]) (S2 := (45, [some (.ref 16), some (.int v1), some (.int s0), some (.int v3), some (.int r1.toInt32)], [.int (3 : Int32), .int r1.toInt32], M2)) (by decide +kernel) (hO := mm_own_79) rfl ?_
  refine mm_R_ine (t := 52) rfl rfl rfl (fun hc => ?_) (fun hc => ?_)
  · replace h := mm_ip hc h
    refine mm_Runs.seq (l := [(48, .iconst 1, 1), (49, .goto 4, 3)]) (S2 := (53, [some (.ref 16), some (.int v1), some (.int s0), some (.int v3), some (.int r1.toInt32)], [.int (1 : Int32)], M2)) (by decide +kernel) (hO := mm_own_79) rfl ?_
    exact (ms_79_j53 hd h hA : mp_79_53 L xs (d + 1) v1 s0 v3 r1.toInt32 (1 : Int32) M2 o)
  · replace h := mm_iq hc h
    refine mm_Runs.seq (l := [(52, .iconst 0, 1)]) (S2 := (53, [some (.ref 16), some (.int v1), some (.int s0), some (.int v3), some (.int r1.toInt32)], [.int (0 : Int32)], M2)) (by decide +kernel) (hO := mm_own_79) rfl ?_
    exact (ms_79_j53 hd h hA : mp_79_53 L xs (d + 1) v1 s0 v3 r1.toInt32 (0 : Int32) M2 o)
set_option maxRecDepth 8000 in
set_option maxHeartbeats 4000000 in
theorem ms_79_b4 {L : Nat} {xs : Nat → Int32} {d : Nat} (hd : 11 ≤ d) {v1 : Int32} {v2 : Int32} {v3 : Int32} {M : mm_M} {q : (((Int32 × Int32) ⊕ (Unit)) ⊕ Nat) × mm_M} {o : mm_E} (h : mf_79_b4 v1 v2 v3 M = some q) (hA : mm_A (mm_K2 (fun s M o => mp_79_4 L xs (d) v1 s.1 s.2 M o) (fun r M o => mp_79_117 L xs (d) M o)) q o) : mp_79_4 L xs d v1 v2 v3 M o := by
  unfold mf_79_b4 at h
  obtain ⟨d, rfl⟩ := mm_d1 (n := 10) hd
  intro z4
  show mm_Runs L xs (d + 1) 79 (4, [some (.ref 16), some (.int v1), some (.int v2), some (.int v3), z4], [], M) o
  refine mm_Runs.seq (l := [(4, .iload_n 3, 1), (5, .ldc 103, 2)]) (S2 := (7, [some (.ref 16), some (.int v1), some (.int v2), some (.int v3), z4], [.int (1000000 : Int32), .int v3], M)) (by decide +kernel) (hO := mm_own_79) rfl ?_
  refine mm_R_ige (t := 117) rfl rfl rfl (fun hc => ?_) (fun hc => ?_)
  · replace h := mm_ip hc h
    refine mm_Runs.seq (l := [(10, .iload_n 2, 1)]) (S2 := (11, [some (.ref 16), some (.int v1), some (.int v2), some (.int v3), z4], [.int v2], M)) (by decide +kernel) (hO := mm_own_79) rfl ?_
    refine mm_R_zne (t := 117) rfl rfl rfl (fun hc => ?_) (fun hc => ?_)
    · replace h := mm_ip hc h
      refine mm_Runs.seq (l := [(14, .aload_n 0, 1), (15, .getfield 39, 3)]) (S2 := (18, [some (.ref 16), some (.int v1), some (.int v2), some (.int v3), z4], [.ref 1], M)) (by decide +kernel) (hO := mm_own_79) rfl ?_
      refine mm_R_call (v := mm_wi) h hA (k2 := 45) (as := [.ref 1]) (r := []) rfl (fun _ => rfl) (fun q hq o ho => ms_45 (by omega) hq ho) (fun r1 M2 h => ?_)
      show mm_Runs L xs (d + 1) 79 (21, [some (.ref 16), some (.int v1), some (.int v2), some (.int v3), z4], [.int r1], M2) o
      refine mm_Runs.seq (l := [(21, .iconst 1, 1)]) (S2 := (22, [some (.ref 16), some (.int v1), some (.int v2), some (.int v3), z4], [.int (1 : Int32), .int r1], M2)) (by decide +kernel) (hO := mm_own_79) rfl ?_
      refine mm_R_ine (t := 29) rfl rfl rfl (fun hc => ?_) (fun hc => ?_)
      · replace h := mm_ip hc h
        refine mm_Runs.seq (l := [(25, .iconst 1, 1), (26, .goto 4, 3)]) (S2 := (30, [some (.ref 16), some (.int v1), some (.int v2), some (.int v3), z4], [.int (1 : Int32)], M2)) (by decide +kernel) (hO := mm_own_79) rfl ?_
        exact (ms_79_j30 hd h hA : mp_79_30 L xs (d + 1) v1 v3 (1 : Int32) M2 o) (some (.int v2)) z4
      · replace h := mm_iq hc h
        refine mm_Runs.seq (l := [(29, .iconst 0, 1)]) (S2 := (30, [some (.ref 16), some (.int v1), some (.int v2), some (.int v3), z4], [.int (0 : Int32)], M2)) (by decide +kernel) (hO := mm_own_79) rfl ?_
        exact (ms_79_j30 hd h hA : mp_79_30 L xs (d + 1) v1 v3 (0 : Int32) M2 o) (some (.int v2)) z4
    · replace h := mm_iq hc h
      cases h
      exact (show mp_79_117 L xs (d + 1) M o from hA) (some (.ref 16)) (some (.int v1)) (some (.int v2)) (some (.int v3)) z4
  · replace h := mm_iq hc h
    cases h
    exact (show mp_79_117 L xs (d + 1) M o from hA) (some (.ref 16)) (some (.int v1)) (some (.int v2)) (some (.int v3)) z4
theorem ms_79_L4 {L : Nat} {xs : Nat → Int32} {d : Nat} (hd : 11 ≤ d) {v1 : Int32} {v2 : Int32} {v3 : Int32} {β : Type} {K : β → mm_M → mm_E → Prop} {F : (Unit) → mm_M → mm_O β} {M : mm_M} {q : (β ⊕ Nat) × mm_M} {o : mm_E} (h : mm_B (mf_79_L4 v1 (v2, v3) M) F = some q) (hA : mm_A K q o) (hx : ∀ (r : (Unit)) (M2 : mm_M), F r M2 = some q → (fun r M o => mp_79_117 L xs (d) M o) r M2 o) : mp_79_4 L xs d v1 v2 v3 M o := by
  unfold mf_79_L4 at h
  exact mm_R_loop (step := (fun s M => mf_79_b4 v1 s.1 s.2 M)) (s := (v2, v3)) (M := M) (P := (fun s M o => mp_79_4 L xs (d) v1 s.1 s.2 M o)) (X := (fun r M o => mp_79_117 L xs (d) M o)) h hA (fun s M q hq hA => ms_79_b4 (v1 := v1) (v2 := s.1) (v3 := s.2) (M := M) (q := q) hd hq hA) hx
set_option maxRecDepth 8000 in
set_option maxHeartbeats 4000000 in
theorem ms_79 {L : Nat} {xs : Nat → Int32} {d : Nat} (hd : 11 ≤ d) {v1 : Int32} {M : mm_M} {q : (Unit ⊕ Nat) × mm_M} {o : mm_E} (h : mf_79 v1 M = some q) (hA : mm_A (mm_Kr mm_wv) q o) : mm_Runs L xs d 79 (0, mm_ent (mm_ml 79) [.ref 16, .int v1], [], M) o := by
  unfold mf_79 at h
  obtain ⟨d, rfl⟩ := mm_d1 (n := 10) hd
  show mm_Runs L xs (d + 1) 79 (0, [some (.ref 16), some (.int v1), none, none, none], [], M) o
  refine mm_Runs.seq (l := [(0, .iconst 0, 1), (1, .istore_n 2, 1), (2, .iconst 0, 1), (3, .istore_n 3, 1)]) (S2 := (4, [some (.ref 16), some (.int v1), some (.int (0 : Int32)), some (.int (0 : Int32)), none], [], M)) (by decide +kernel) (hO := mm_own_79) rfl ?_
  have hp : mp_79_4 L xs (d + 1) v1 (0 : Int32) (0 : Int32) M o := by
    refine ms_79_L4 hd h hA (fun r2 M1 h => ?_)
    intro y3 y4 y5 y6 y7
    show mm_Runs L xs (d + 1) 79 (117, [y3, y4, y5, y6, y7], [], M1) o
    cases h
    exact mm_R_retv rfl rfl hA
  exact hp none
-- 48: PlainPacks$Source.high(I)J (depth 8)
theorem mm_own_48 : mm_own 48 = 1 := rfl
def mp_48_5 (L : Nat) (xs : Nat → Int32) (d : Nat) (v1 : Int32) (v2 : Int64) (v4 : Int32) (M : mm_M) (o : mm_E) : Prop := ∀ z3 : Option Value, mm_Runs L xs d 48 (5, [some (.ref 1), some (.int v1), some (.long v2), z3, some (.int v4)], [], M) o
def mp_48_28 (L : Nat) (xs : Nat → Int32) (d : Nat) (v2 : Int64) (M : mm_M) (o : mm_E) : Prop := ∀ z0 z1 z3 z4 : Option Value, mm_Runs L xs d 48 (28, [z0, z1, some (.long v2), z3, z4], [], M) o
set_option maxRecDepth 8000 in
set_option maxHeartbeats 4000000 in
theorem ms_48_b5 {L : Nat} {xs : Nat → Int32} {d : Nat} (hd : 8 ≤ d) {v1 : Int32} {v2 : Int64} {v4 : Int32} {M : mm_M} {q : (((Int64 × Int32) ⊕ (Int64)) ⊕ Nat) × mm_M} {o : mm_E} (h : mf_48_b5 v1 v2 v4 M = some q) (hA : mm_A (mm_K2 (fun s M o => mp_48_5 L xs (d) v1 s.1 s.2 M o) (fun r M o => mp_48_28 L xs (d) r M o)) q o) : mp_48_5 L xs d v1 v2 v4 M o := by
  unfold mf_48_b5 at h
  obtain ⟨d, rfl⟩ := mm_d1 (n := 7) hd
  intro z3
  show mm_Runs L xs (d + 1) 48 (5, [some (.ref 1), some (.int v1), some (.long v2), z3, some (.int v4)], [], M) o
  refine mm_Runs.seq (l := [(5, .iload 4, 2), (7, .iload_n 1, 1)]) (S2 := (8, [some (.ref 1), some (.int v1), some (.long v2), z3, some (.int v4)], [.int v1, .int v4], M)) (by decide +kernel) (hO := mm_own_48) rfl ?_
  refine mm_R_ige (t := 28) rfl rfl rfl (fun hc => ?_) (fun hc => ?_)
  · replace h := mm_ip hc h
    refine mm_Runs.seq (l := [(11, .lload_n 2, 1), (12, .bipush 8, 2), (14, .lshl, 1), (15, .aload_n 0, 1)]) (S2 := (16, [some (.ref 1), some (.int v1), some (.long v2), z3, some (.int v4)], [.ref 1, .long (mm_lshl v2 (8 : Int32))], M)) (by decide +kernel) (hO := mm_own_48) rfl ?_
    refine mm_R_call (v := mm_wi) h hA (k2 := 44) (as := [.ref 1]) (r := [.long (mm_lshl v2 (8 : Int32))]) rfl (fun _ => rfl) (fun q hq o ho => ms_44 (by omega) hq ho) (fun r1 M2 h => ?_)
    show mm_Runs L xs (d + 1) 48 (19, [some (.ref 1), some (.int v1), some (.long v2), z3, some (.int v4)], [.int r1, .long (mm_lshl v2 (8 : Int32))], M2) o
    refine mm_Runs.seq (l := [(19, .i2l, 1), (20, .lor, 1), (21, .lstore_n 2, 1), (22, .iinc 4 1, 3), (25, .goto (-20), 3)]) (S2 := (5, [some (.ref 1), some (.int v1), some (.long ((mm_lshl v2 (8 : Int32)) ||| r1.toInt64)), none, some (.int (v4 + (1 : Int32)))], [], M2)) (by decide +kernel) (hO := mm_own_48) rfl ?_
    cases h
    exact (show mp_48_5 L xs (d + 1) v1 ((mm_lshl v2 (8 : Int32)) ||| r1.toInt64) (v4 + (1 : Int32)) M2 o from hA) none
  · replace h := mm_iq hc h
    cases h
    exact (show mp_48_28 L xs (d + 1) v2 M o from hA) (some (.ref 1)) (some (.int v1)) z3 (some (.int v4))
theorem ms_48_L5 {L : Nat} {xs : Nat → Int32} {d : Nat} (hd : 8 ≤ d) {v1 : Int32} {v2 : Int64} {v4 : Int32} {β : Type} {K : β → mm_M → mm_E → Prop} {F : (Int64) → mm_M → mm_O β} {M : mm_M} {q : (β ⊕ Nat) × mm_M} {o : mm_E} (h : mm_B (mf_48_L5 v1 (v2, v4) M) F = some q) (hA : mm_A K q o) (hx : ∀ (r : (Int64)) (M2 : mm_M), F r M2 = some q → (fun r M o => mp_48_28 L xs (d) r M o) r M2 o) : mp_48_5 L xs d v1 v2 v4 M o := by
  unfold mf_48_L5 at h
  exact mm_R_loop (step := (fun s M => mf_48_b5 v1 s.1 s.2 M)) (s := (v2, v4)) (M := M) (P := (fun s M o => mp_48_5 L xs (d) v1 s.1 s.2 M o)) (X := (fun r M o => mp_48_28 L xs (d) r M o)) h hA (fun s M q hq hA => ms_48_b5 (v1 := v1) (v2 := s.1) (v4 := s.2) (M := M) (q := q) hd hq hA) hx
set_option maxRecDepth 8000 in
set_option maxHeartbeats 4000000 in
theorem ms_48 {L : Nat} {xs : Nat → Int32} {d : Nat} (hd : 8 ≤ d) {v1 : Int32} {M : mm_M} {q : (Int64 ⊕ Nat) × mm_M} {o : mm_E} (h : mf_48 v1 M = some q) (hA : mm_A (mm_Kr mm_wl) q o) : mm_Runs L xs d 48 (0, mm_ent (mm_ml 48) [.ref 1, .int v1], [], M) o := by
  unfold mf_48 at h
  obtain ⟨d, rfl⟩ := mm_d1 (n := 7) hd
  show mm_Runs L xs (d + 1) 48 (0, [some (.ref 1), some (.int v1), none, none, none], [], M) o
  refine mm_Runs.seq (l := [(0, .lconst 0, 1), (1, .lstore_n 2, 1), (2, .iconst 0, 1), (3, .istore 4, 2)]) (S2 := (5, [some (.ref 1), some (.int v1), some (.long (0 : Int64)), none, some (.int (0 : Int32))], [], M)) (by decide +kernel) (hO := mm_own_48) rfl ?_
  have hp : mp_48_5 L xs (d + 1) v1 (0 : Int64) (0 : Int32) M o := by
    refine ms_48_L5 hd h hA (fun r2 M1 h => ?_)
    intro y3 y4 y5 y6
    show mm_Runs L xs (d + 1) 48 (28, [y3, y4, some (.long r2), y5, y6], [], M1) o
    refine mm_Runs.seq (l := [(28, .lload_n 2, 1)]) (S2 := (29, [y3, y4, some (.long r2), y5, y6], [.long r2], M1)) (by decide +kernel) (hO := mm_own_48) rfl ?_
    cases h
    exact mm_R_retl rfl rfl hA
  exact hp none
