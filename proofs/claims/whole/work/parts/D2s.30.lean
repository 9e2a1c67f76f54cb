/-! MEANINGS ARE SOUND 30 -/
-- 171: PlainPacks$Chances.writeChances()V (depth 2)
theorem mm_own_171 : mm_own 171 = 11 := rfl
def mp_171_58 (L : Nat) (xs : Nat → Int32) (d : Nat) (v1 : Int32) (v2 : Int32) (M : mm_M) (o : mm_E) : Prop := ∀ z3 z4 z5 z6 : Option Value, mm_Runs L xs d 171 (58, [some (.ref 80), some (.int v1), some (.int v2), z3, z4, z5, z6], [], M) o
def mp_171_152 (L : Nat) (xs : Nat → Int32) (d : Nat) (M : mm_M) (o : mm_E) : Prop := ∀ z1 z2 z3 z4 z5 z6 : Option Value, mm_Runs L xs d 171 (152, [some (.ref 80), z1, z2, z3, z4, z5, z6], [], M) o
def mp_171_108 (L : Nat) (xs : Nat → Int32) (d : Nat) (v1 : Int32) (v2 : Int32) (v3 : Int32) (v4 : Int32) (v5 : Int32) (M : mm_M) (o : mm_E) : Prop := ∀ z6 : Option Value, mm_Runs L xs d 171 (108, [some (.ref 80), some (.int v1), some (.int v2), some (.int v3), some (.int v4), some (.int v5), z6], [], M) o
def mp_171_146 (L : Nat) (xs : Nat → Int32) (d : Nat) (v1 : Int32) (v2 : Int32) (M : mm_M) (o : mm_E) : Prop := ∀ z3 z4 z5 z6 : Option Value, mm_Runs L xs d 171 (146, [some (.ref 80), some (.int v1), some (.int v2), z3, z4, z5, z6], [], M) o
set_option maxRecDepth 8000 in
set_option maxHeartbeats 4000000 in
theorem ms_171_b108 {L : Nat} {xs : Nat → Int32} {d : Nat} (hd : 2 ≤ d) {v1 : Int32} {v2 : Int32} {v3 : Int32} {v4 : Int32} {v5 : Int32} {M : mm_M} {q : (((Int32 × Int32) ⊕ (Unit)) ⊕ Nat) × mm_M} {o : mm_E} (h : mf_171_b108 v1 v2 v3 v4 v5 M = some q) (hA : mm_A (mm_K2 (fun s M o => mp_171_108 L xs (d) v1 v2 v3 s.1 s.2 M o) (fun r M o => mp_171_146 L xs (d) v1 v2 M o)) q o) : mp_171_108 L xs d v1 v2 v3 v4 v5 M o := by
  unfold mf_171_b108 at h
  obtain ⟨d, rfl⟩ := mm_d1 (n := 1) hd
  intro z6
  show mm_Runs L xs (d + 1) 171 (108, [some (.ref 80), some (.int v1), some (.int v2), some (.int v3), some (.int v4), some (.int v5), z6], [], M) o
  refine mm_Runs.seq (l := [(108, .iload 5, 2)]) (S2 := (110, [some (.ref 80), some (.int v1), some (.int v2), some (.int v3), some (.int v4), some (.int v5), z6], [.int v5], M)) (by decide +kernel) (hO := mm_own_171) rfl ?_
  refine mm_R_zlt (t := 146) rfl rfl rfl (fun hc => ?_) (fun hc => ?_)
  · replace h := mm_ip hc h
    cases h
    exact (show mp_171_146 L xs (d + 1) v1 v2 M o from hA) (some (.int v3)) (some (.int v4)) (some (.int v5)) z6
  · replace h := mm_iq hc h
    refine mm_Runs.seq (l := [(113, .iload_n 1, 1), (114, .iload 5, 2), (116, .ishr, 1), (117, .iconst 1, 1), (118, .iand, 1), (119, .istore 6, 2), (121, .aload_n 0, 1), (122, .iload_n 3, 1), (123, .iload 4, 2), (125, .iadd, 1), (126, .iload 6, 2)]) (S2 := (128, [some (.ref 80), some (.int v1), some (.int v2), some (.int v3), some (.int v4), some (.int v5), some (.int ((mm_shr v1 v5) &&& (1 : Int32)))], [.int ((mm_shr v1 v5) &&& (1 : Int32)), .int (v3 + v4), .ref 80], M)) (by decide +kernel) (hO := mm_own_171) rfl ?_
    refine mm_R_call (v := mm_wv) h hA (k2 := 172) (as := [.ref 80, .int (v3 + v4), .int ((mm_shr v1 v5) &&& (1 : Int32))]) (r := []) rfl (fun _ => rfl) (fun q hq o ho => ms_172 (by omega) hq ho) (fun _ M1 h => ?_)
    show mm_Runs L xs (d + 1) 171 (131, [some (.ref 80), some (.int v1), some (.int v2), some (.int v3), some (.int v4), some (.int v5), some (.int ((mm_shr v1 v5) &&& (1 : Int32)))], [], M1) o
    refine mm_Runs.seq (l := [(131, .iconst 2, 1), (132, .iload 4, 2), (134, .imul, 1), (135, .iload 6, 2), (137, .iadd, 1), (138, .istore 4, 2), (140, .iinc 5 (-1), 3), (143, .goto (-35), 3)]) (S2 := (108, [some (.ref 80), some (.int v1), some (.int v2), some (.int v3), some (.int (((2 : Int32) * v4) + ((mm_shr v1 v5) &&& (1 : Int32)))), some (.int (v5 + (-1 : Int32))), some (.int ((mm_shr v1 v5) &&& (1 : Int32)))], [], M1)) (by decide +kernel) (hO := mm_own_171) rfl ?_
    cases h
    exact (show mp_171_108 L xs (d + 1) v1 v2 v3 (((2 : Int32) * v4) + ((mm_shr v1 v5) &&& (1 : Int32))) (v5 + (-1 : Int32)) M1 o from hA) (some (.int ((mm_shr v1 v5) &&& (1 : Int32))))
theorem ms_171_L108 {L : Nat} {xs : Nat → Int32} {d : Nat} (hd : 2 ≤ d) {v1 : Int32} {v2 : Int32} {v3 : Int32} {v4 : Int32} {v5 : Int32} {β : Type} {K : β → mm_M → mm_E → Prop} {F : (Unit) → mm_M → mm_O β} {M : mm_M} {q : (β ⊕ Nat) × mm_M} {o : mm_E} (h : mm_B (mf_171_L108 v1 v2 v3 (v4, v5) M) F = some q) (hA : mm_A K q o) (hx : ∀ (r : (Unit)) (M2 : mm_M), F r M2 = some q → (fun r M o => mp_171_146 L xs (d) v1 v2 M o) r M2 o) : mp_171_108 L xs d v1 v2 v3 v4 v5 M o := by
  unfold mf_171_L108 at h
  exact mm_R_loop (step := (fun s M => mf_171_b108 v1 v2 v3 s.1 s.2 M)) (s := (v4, v5)) (M := M) (P := (fun s M o => mp_171_108 L xs (d) v1 v2 v3 s.1 s.2 M o)) (X := (fun r M o => mp_171_146 L xs (d) v1 v2 M o)) h hA (fun s M q hq hA => ms_171_b108 (v1 := v1) (v2 := v2) (v3 := v3) (v4 := s.1) (v5 := s.2) (M := M) (q := q) hd hq hA) hx
set_option maxRecDepth 8000 in
set_option maxHeartbeats 4000000 in
theorem ms_171_b58 {L : Nat} {xs : Nat → Int32} {d : Nat} (hd : 2 ≤ d) {v1 : Int32} {v2 : Int32} {M : mm_M} {q : (((Int32 × Int32) ⊕ (Unit)) ⊕ Nat) × mm_M} {o : mm_E} (h : mf_171_b58 v1 v2 M = some q) (hA : mm_A (mm_K2 (fun s M o => mp_171_58 L xs (d) s.1 s.2 M o) (fun r M o => mp_171_152 L xs (d) M o)) q o) : mp_171_58 L xs d v1 v2 M o := by
  unfold mf_171_b58 at h
  obtain ⟨d, rfl⟩ := mm_d1 (n := 1) hd
  intro z3 z4 z5 z6
  show mm_Runs L xs (d + 1) 171 (58, [some (.ref 80), some (.int v1), some (.int v2), z3, z4, z5, z6], [], M) o
  refine mm_Runs.seq (l := [(58, .iload_n 2, 1), (59, .aload_n 0, 1), (60, .getfield 15, 3), (63, .getfield 171, 3)]) (S2 := (66, [some (.ref 80), some (.int v1), some (.int v2), z3, z4, z5, z6], [.int (M.1 1 1), .int v2], M)) (by decide +kernel) (hO := mm_own_171) rfl ?_
  refine mm_R_ige (t := 152) rfl rfl rfl (fun hc => ?_) (fun hc => ?_)
  · replace h := mm_ip hc h
    refine mm_Runs.seq (l := [(69, .aload_n 0, 1), (70, .iconst 0, 1), (71, .iload_n 2, 1), (72, .iconst 4, 1), (73, .irem, 1), (74, .iadd, 1), (75, .iconst 0, 1)]) (S2 := (76, [some (.ref 80), some (.int v1), some (.int v2), z3, z4, z5, z6], [.int (0 : Int32), .int ((0 : Int32) + (mm_rem v2 (4 : Int32))), .ref 80], M)) (by decide +kernel) (hO := mm_own_171) rfl ?_
    refine mm_R_call (v := mm_wv) h hA (k2 := 172) (as := [.ref 80, .int ((0 : Int32) + (mm_rem v2 (4 : Int32))), .int (0 : Int32)]) (r := []) rfl (fun _ => rfl) (fun q hq o ho => ms_172 (by omega) hq ho) (fun _ M1 h => ?_)
    show mm_Runs L xs (d + 1) 171 (79, [some (.ref 80), some (.int v1), some (.int v2), z3, z4, z5, z6], [], M1) o
    refine mm_Runs.seq (l := [(79, .sipush 2052, 3), (82, .sipush 768, 3), (85, .iload_n 1, 1), (86, .iconst 5, 1), (87, .ishr, 1), (88, .imul, 1), (89, .iadd, 1), (90, .istore_n 3, 1), (91, .aload_n 0, 1), (92, .getfield 15, 3), (95, .getfield 178, 3), (98, .iload_n 2, 1)]) (S2 := (99, [some (.ref 80), some (.int v1), some (.int v2), some (.int ((2052 : Int32) + ((768 : Int32) * (mm_shr v1 (5 : Int32))))), z4, z5, z6], [.int v2, .ref 2], M1)) (by decide +kernel) (hO := mm_own_171) rfl ?_
    obtain ⟨hb, h⟩ := mm_gd h
    refine mm_R_iald rfl rfl hb ?_
    refine mm_Runs.seq (l := [(100, .istore_n 1, 1), (101, .iconst 1, 1), (102, .istore 4, 2), (104, .bipush 7, 2), (106, .istore 5, 2)]) (S2 := (108, [some (.ref 80), some (.int (M1.1 2 v2.toNatClampNeg)), some (.int v2), some (.int ((2052 : Int32) + ((768 : Int32) * (mm_shr v1 (5 : Int32))))), some (.int (1 : Int32)), some (.int (7 : Int32)), z6], [], M1)) (by decide +kernel) (hO := mm_own_171) rfl ?_
    have hp : mp_171_108 L xs (d + 1) (M1.1 2 v2.toNatClampNeg) v2 ((2052 : Int32) + ((768 : Int32) * (mm_shr v1 (5 : Int32)))) (1 : Int32) (7 : Int32) M1 o := by
      refine ms_171_L108 hd h hA (fun r3 M2 h => ?_)
      intro y4 y5 y6 y7
      show mm_Runs L xs (d + 1) 171 (146, [some (.ref 80), some (.int (M1.1 2 v2.toNatClampNeg)), some (.int v2), y4, y5, y6, y7], [], M2) o
      refine mm_Runs.seq (l := [(146, .iinc 2 1, 3), (149, .goto (-91), 3)]) (S2 := (58, [some (.ref 80), some (.int (M1.1 2 v2.toNatClampNeg)), some (.int (v2 + (1 : Int32))), y4, y5, y6, y7], [], M2)) (by decide +kernel) (hO := mm_own_171) rfl ?_
      cases h
      exact (show mp_171_58 L xs (d + 1) (M1.1 2 v2.toNatClampNeg) (v2 + (1 : Int32)) M2 o from hA) y4 y5 y6 y7
    exact hp z6
  · replace h := mm_iq hc h
    cases h
    exact (show mp_171_152 L xs (d + 1) M o from hA) (some (.int v1)) (some (.int v2)) z3 z4 z5 z6
theorem ms_171_L58 {L : Nat} {xs : Nat → Int32} {d : Nat} (hd : 2 ≤ d) {v1 : Int32} {v2 : Int32} {β : Type} {K : β → mm_M → mm_E → Prop} {F : (Unit) → mm_M → mm_O β} {M : mm_M} {q : (β ⊕ Nat) × mm_M} {o : mm_E} (h : mm_B (mf_171_L58 (v1, v2) M) F = some q) (hA : mm_A K q o) (hx : ∀ (r : (Unit)) (M2 : mm_M), F r M2 = some q → (fun r M o => mp_171_152 L xs (d) M o) r M2 o) : mp_171_58 L xs d v1 v2 M o := by
  unfold mf_171_L58 at h
  exact mm_R_loop (step := (fun s M => mf_171_b58 s.1 s.2 M)) (s := (v1, v2)) (M := M) (P := (fun s M o => mp_171_58 L xs (d) s.1 s.2 M o)) (X := (fun r M o => mp_171_152 L xs (d) M o)) h hA (fun s M q hq hA => ms_171_b58 (v1 := s.1) (v2 := s.2) (M := M) (q := q) hd hq hA) hx
set_option maxRecDepth 8000 in
set_option maxHeartbeats 4000000 in
theorem ms_171_j152 {L : Nat} {xs : Nat → Int32} {d : Nat} (hd : 2 ≤ d) {M : mm_M} {q : (Unit ⊕ Nat) × mm_M} {o : mm_E} (h : mf_171_j152 M = some q) (hA : mm_A (mm_Kr mm_wv) q o) : mp_171_152 L xs d M o := by
  unfold mf_171_j152 at h
  obtain ⟨d, rfl⟩ := mm_d1 (n := 1) hd
  intro z1 z2 z3 z4 z5 z6
  show mm_Runs L xs (d + 1) 171 (152, [some (.ref 80), z1, z2, z3, z4, z5, z6], [], M) o
  refine mm_Runs.seq (l := [(152, .aload_n 0, 1), (153, .getfield 23, 3), (156, .aload_n 0, 1), (157, .getfield 172, 3), (160, .iconst 4, 1)]) (S2 := (161, [some (.ref 80), z1, z2, z3, z4, z5, z6], [.int (4 : Int32), .long (M.2.1 80 15), .ref 5], M)) (by decide +kernel) (hO := mm_own_171) rfl ?_
  refine mm_R_call (v := mm_wv) h hA (k2 := 60) (as := [.ref 5, .long (M.2.1 80 15), .int (4 : Int32)]) (r := []) rfl (fun _ => rfl) (fun q hq o ho => ms_60 (by omega) hq ho) (fun _ M1 h => ?_)
  show mm_Runs L xs (d + 1) 171 (164, [some (.ref 80), z1, z2, z3, z4, z5, z6], [], M1) o
  cases h
  exact mm_R_retv rfl rfl hA
set_option maxRecDepth 8000 in
set_option maxHeartbeats 4000000 in
theorem ms_171 {L : Nat} {xs : Nat → Int32} {d : Nat} (hd : 2 ≤ d) {M : mm_M} {q : (Unit ⊕ Nat) × mm_M} {o : mm_E} (h : mf_171 M = some q) (hA : mm_A (mm_Kr mm_wv) q o) : mm_Runs L xs d 171 (0, mm_ent (mm_ml 171) [.ref 80], [], M) o := by
  unfold mf_171 at h
  obtain ⟨d, rfl⟩ := mm_d1 (n := 1) hd
  show mm_Runs L xs (d + 1) 171 (0, [some (.ref 80), none, none, none, none, none, none], [], M) o
  refine mm_Runs.seq (l := [(0, .aload_n 0, 1), (1, .getfield 23, 3), (4, .bipush 93, 2)]) (S2 := (6, [some (.ref 80), none, none, none, none, none, none], [.int (93 : Int32), .ref 5], M)) (by decide +kernel) (hO := mm_own_171) rfl ?_
  refine mm_R_call (v := mm_wv) h hA (k2 := 57) (as := [.ref 5, .int (93 : Int32)]) (r := []) rfl (fun _ => rfl) (fun q hq o ho => ms_57 (by omega) hq ho) (fun _ M1 h => ?_)
  show mm_Runs L xs (d + 1) 171 (9, [some (.ref 80), none, none, none, none, none, none], [], M1) o
  refine mm_Runs.seq (l := [(9, .aload_n 0, 1), (10, .getfield 23, 3), (13, .ldc2_w 166, 3), (16, .iconst 4, 1)]) (S2 := (17, [some (.ref 80), none, none, none, none, none, none], [.int (4 : Int32), .long (65536 : Int64), .ref 5], M1)) (by decide +kernel) (hO := mm_own_171) rfl ?_
  refine mm_R_call (v := mm_wv) h hA (k2 := 59) (as := [.ref 5, .long (65536 : Int64), .int (4 : Int32)]) (r := []) rfl (fun _ => rfl) (fun q hq o ho => ms_59 (by omega) hq ho) (fun _ M2 h => ?_)
  show mm_Runs L xs (d + 1) 171 (20, [some (.ref 80), none, none, none, none, none, none], [], M2) o
  refine mm_Runs.seq (l := [(20, .aload_n 0, 1), (21, .getfield 23, 3), (24, .aload_n 0, 1), (25, .getfield 15, 3), (28, .getfield 171, 3), (31, .i2l, 1), (32, .bipush 8, 2)]) (S2 := (34, [some (.ref 80), none, none, none, none, none, none], [.int (8 : Int32), .long (M2.1 1 1).toInt64, .ref 5], M2)) (by decide +kernel) (hO := mm_own_171) rfl ?_
  refine mm_R_call (v := mm_wv) h hA (k2 := 59) (as := [.ref 5, .long (M2.1 1 1).toInt64, .int (8 : Int32)]) (r := []) rfl (fun _ => rfl) (fun q hq o ho => ms_59 (by omega) hq ho) (fun _ M3 h => ?_)
  show mm_Runs L xs (d + 1) 171 (37, [some (.ref 80), none, none, none, none, none, none], [], M3) o
  refine mm_Runs.seq (l := [(37, .aload_n 0, 1), (38, .getfield 23, 3), (41, .iconst 0, 1)]) (S2 := (42, [some (.ref 80), none, none, none, none, none, none], [.int (0 : Int32), .ref 5], M3)) (by decide +kernel) (hO := mm_own_171) rfl ?_
  refine mm_R_call (v := mm_wv) h hA (k2 := 57) (as := [.ref 5, .int (0 : Int32)]) (r := []) rfl (fun _ => rfl) (fun q hq o ho => ms_57 (by omega) hq ho) (fun _ M4 h => ?_)
  show mm_Runs L xs (d + 1) 171 (45, [some (.ref 80), none, none, none, none, none, none], [], M4) o
  refine mm_Runs.seq (l := [(45, .aload_n 0, 1)]) (S2 := (46, [some (.ref 80), none, none, none, none, none, none], [.ref 80], M4)) (by decide +kernel) (hO := mm_own_171) rfl ?_
  refine mm_R_call (v := mm_wv) h hA (k2 := 158) (as := [.ref 80]) (r := []) rfl (fun _ => rfl) (fun q hq o ho => ms_158 (by omega) hq ho) (fun _ M5 h => ?_)
  show mm_Runs L xs (d + 1) 171 (49, [some (.ref 80), none, none, none, none, none, none], [], M5) o
  refine mm_Runs.seq (l := [(49, .aload_n 0, 1), (50, .lconst 0, 1), (51, .putfield 172, 3), (54, .iconst 0, 1), (55, .istore_n 1, 1), (56, .iconst 0, 1), (57, .istore_n 2, 1)]) (S2 := (58, [some (.ref 80), some (.int (0 : Int32)), some (.int (0 : Int32)), none, none, none, none], [], (mm_pl M5 80 15 (0 : Int64)))) (by decide +kernel) (hO := mm_own_171) rfl ?_
  have hp : mp_171_58 L xs (d + 1) (0 : Int32) (0 : Int32) (mm_pl M5 80 15 (0 : Int64)) o := by
    refine ms_171_L58 hd h hA (fun r7 M6 h => ?_)
    intro y8 y9 y10 y11 y12 y13
    show mm_Runs L xs (d + 1) 171 (152, [some (.ref 80), y8, y9, y10, y11, y12, y13], [], M6) o
    exact (ms_171_j152 hd h hA : mp_171_152 L xs (d + 1) M6 o) y8 y9 y10 y11 y12 y13
  exact hp none none none none
-- 50: PlainPacks$Sink.become([II)V (depth 2)
theorem mm_own_50 : mm_own 50 = 2 := rfl
set_option maxRecDepth 8000 in
set_option maxHeartbeats 4000000 in
theorem ms_50 {L : Nat} {xs : Nat → Int32} {d : Nat} (hd : 2 ≤ d) {v2 : Int32} {M : mm_M} {q : (Unit ⊕ Nat) × mm_M} {o : mm_E} (h : mf_50 v2 M = some q) (hA : mm_A (mm_Kr mm_wv) q o) : mm_Runs L xs d 50 (0, mm_ent (mm_ml 50) [.ref 3, .ref 6, .int v2], [], M) o := by
  unfold mf_50 at h
  show mm_Runs L xs (d) 50 (0, [some (.ref 3), some (.ref 6), some (.int v2)], [], M) o
  refine mm_Runs.seq (l := [(0, .iload_n 2, 1)]) (S2 := (1, [some (.ref 3), some (.ref 6), some (.int v2)], [.int v2], M)) (by decide +kernel) (hO := mm_own_50) rfl ?_
  refine mm_R_zlt (t := 35) rfl rfl rfl (fun hc => ?_) (fun hc => ?_)
  · replace h := mm_ip hc h
    cases h
    exact mm_R_retv rfl rfl hA
  · replace h := mm_iq hc h
    refine mm_Runs.seq (l := [(4, .iload_n 2, 1), (5, .aload_n 0, 1), (6, .getfield 9, 3), (9, .arraylength, 1)]) (S2 := (10, [some (.ref 3), some (.ref 6), some (.int v2)], [.int (16384 : Int32), .int v2], M)) (by decide +kernel) (hO := mm_own_50) rfl ?_
    refine mm_R_igt (t := 35) rfl rfl rfl (fun hc => ?_) (fun hc => ?_)
    · replace h := mm_ip hc h
      cases h
      exact mm_R_retv rfl rfl hA
    · replace h := mm_iq hc h
      refine mm_Runs.seq (l := [(13, .iload_n 2, 1), (14, .aload_n 1, 1), (15, .arraylength, 1)]) (S2 := (16, [some (.ref 3), some (.ref 6), some (.int v2)], [.int (16384 : Int32), .int v2], M)) (by decide +kernel) (hO := mm_own_50) rfl ?_
      refine mm_R_igt (t := 35) rfl rfl rfl (fun hc => ?_) (fun hc => ?_)
      · replace h := mm_ip hc h
        cases h
        exact mm_R_retv rfl rfl hA
      · replace h := mm_iq hc h
        refine mm_Runs.seq (l := [(19, .aload_n 1, 1), (20, .iconst 0, 1), (21, .aload_n 0, 1), (22, .getfield 9, 3), (25, .iconst 0, 1), (26, .iload_n 2, 1)]) (S2 := (27, [some (.ref 3), some (.ref 6), some (.int v2)], [.int v2, .int (0 : Int32), .ref 4, .int (0 : Int32), .ref 6], M)) (by decide +kernel) (hO := mm_own_50) rfl ?_
        obtain ⟨hb, h⟩ := mm_gd h
        refine mm_R_cpy rfl rfl rfl rfl rfl hb (by omega) ?_
        refine mm_Runs.seq (l := [(30, .aload_n 0, 1), (31, .iload_n 2, 1), (32, .putfield 15, 3)]) (S2 := (35, [some (.ref 3), some (.ref 6), some (.int v2)], [], (mm_pi (mm_cpM M 6 (0 : Int32) 4 (0 : Int32) v2) 3 1 v2))) (by decide +kernel) (hO := mm_own_50) rfl ?_
        cases h
        exact mm_R_retv rfl rfl hA
-- 20: PlainPacks.pack(I)I (depth 8)
theorem mm_own_20 : mm_own 20 = 0 := rfl
def mp_20_175 (L : Nat) (xs : Nat → Int32) (d : Nat) (M : mm_M) (o : mm_E) : Prop := ∀ z1 : Option Value, mm_Runs L xs d 20 (175, [some (.ref 0), z1], [], M) o
set_option maxRecDepth 8000 in
set_option maxHeartbeats 4000000 in
theorem ms_20_j175 {L : Nat} {xs : Nat → Int32} {d : Nat} (hd : 8 ≤ d) {M : mm_M} {q : (Int32 ⊕ Nat) × mm_M} {o : mm_E} (h : mf_20_j175 M = some q) (hA : mm_A (mm_Kr mm_wi) q o) : mp_20_175 L xs d M o := by
  unfold mf_20_j175 at h
  obtain ⟨d, rfl⟩ := mm_d1 (n := 7) hd
  intro z1
  show mm_Runs L xs (d + 1) 20 (175, [some (.ref 0), z1], [], M) o
  refine mm_Runs.seq (l := [(175, .aload_n 0, 1), (176, .getfield 26, 3), (179, .getfield 226, 3)]) (S2 := (182, [some (.ref 0), z1], [.int (M.1 5 2)], M)) (by decide +kernel) (hO := mm_own_20) rfl ?_
  refine mm_R_zeq (t := 187) rfl rfl rfl (fun hc => ?_) (fun hc => ?_)
  · replace h := mm_ip hc h
    refine mm_Runs.seq (l := [(187, .aload_n 0, 1), (188, .getfield 19, 3), (191, .aload_n 0, 1), (192, .getfield 26, 3), (195, .getfield 230, 3), (198, .aload_n 0, 1), (199, .getfield 26, 3), (202, .getfield 231, 3)]) (S2 := (205, [some (.ref 0), z1], [.int (M.1 5 1), .ref 6, .ref 3], M)) (by decide +kernel) (hO := mm_own_20) rfl ?_
    refine mm_R_call (v := mm_wv) h hA (k2 := 50) (as := [.ref 3, .ref 6, .int (M.1 5 1)]) (r := []) rfl (fun _ => rfl) (fun q hq o ho => ms_50 (by omega) hq ho) (fun _ M1 h => ?_)
    show mm_Runs L xs (d + 1) 20 (208, [some (.ref 0), z1], [], M1) o
    refine mm_Runs.seq (l := [(208, .aload_n 0, 1), (209, .getfield 19, 3), (212, .getfield 118, 3)]) (S2 := (215, [some (.ref 0), z1], [.int (M1.1 3 1)], M1)) (by decide +kernel) (hO := mm_own_20) rfl ?_
    cases h
    exact mm_R_reti rfl rfl hA
  · replace h := mm_iq hc h
    refine mm_Runs.seq (l := [(185, .iconst (-1), 1)]) (S2 := (186, [some (.ref 0), z1], [.int (-1 : Int32)], M)) (by decide +kernel) (hO := mm_own_20) rfl ?_
    cases h
    exact mm_R_reti rfl rfl hA
set_option maxRecDepth 8000 in
set_option maxHeartbeats 4000000 in
theorem ms_20 {L : Nat} {xs : Nat → Int32} {d : Nat} (hd : 8 ≤ d) {v1 : Int32} {M : mm_M} {q : (Int32 ⊕ Nat) × mm_M} {o : mm_E} (h : mf_20 v1 M = some q) (hA : mm_A (mm_Kr mm_wi) q o) : mm_Runs L xs d 20 (0, mm_ent (mm_ml 20) [.ref 0, .int v1], [], M) o := by
  unfold mf_20 at h
  obtain ⟨d, rfl⟩ := mm_d1 (n := 7) hd
  show mm_Runs L xs (d + 1) 20 (0, [some (.ref 0), some (.int v1)], [], M) o
  refine mm_Runs.seq (l := [(0, .iload_n 1, 1)]) (S2 := (1, [some (.ref 0), some (.int v1)], [.int v1], M)) (by decide +kernel) (hO := mm_own_20) rfl ?_
  refine mm_R_call (v := mm_wv) h hA (k2 := 26) (as := [.int v1]) (r := []) rfl (fun _ => rfl) (fun q hq o ho => ms_26 (by omega) hq ho) (fun _ M1 h => ?_)
  show mm_Runs L xs (d + 1) 20 (4, [some (.ref 0), some (.int v1)], [], M1) o
  refine mm_Runs.seq (l := [(4, .aload_n 0, 1), (5, .getfield 26, 3)]) (S2 := (8, [some (.ref 0), some (.int v1)], [.ref 5], M1)) (by decide +kernel) (hO := mm_own_20) rfl ?_
  refine mm_R_call (v := mm_wv) h hA (k2 := 55) (as := [.ref 5]) (r := []) rfl (fun _ => rfl) (fun q hq o ho => ms_55 (by omega) hq ho) (fun _ M2 h => ?_)
  show mm_Runs L xs (d + 1) 20 (11, [some (.ref 0), some (.int v1)], [], M2) o
  refine mm_Runs.seq (l := [(11, .iload_n 1, 1)]) (S2 := (12, [some (.ref 0), some (.int v1)], [.int v1], M2)) (by decide +kernel) (hO := mm_own_20) rfl ?_
  by_cases hc0 : v1 = (0 : Int32)
  · replace h := mm_ip hc0 h
    refine mm_R_sw (t := 68) rfl rfl rfl (by rw [hc0]; rfl) ?_
    refine mm_Runs.seq (l := [(68, .aload_n 0, 1), (69, .getfield 63, 3)]) (S2 := (72, [some (.ref 0), some (.int v1)], [.ref 41], M2)) (by decide +kernel) (hO := mm_own_20) rfl ?_
    refine mm_R_call (v := mm_wv) h hA (k2 := 127) (as := [.ref 41]) (r := []) rfl (fun _ => rfl) (fun q hq o ho => ms_127 (by omega) hq ho) (fun _ M3 h => ?_)
    show mm_Runs L xs (d + 1) 20 (75, [some (.ref 0), some (.int v1)], [], M3) o
    refine mm_Runs.seq (l := [(75, .goto 100, 3)]) (S2 := (175, [some (.ref 0), some (.int v1)], [], M3)) (by decide +kernel) (hO := mm_own_20) rfl ?_
    exact (ms_20_j175 hd h hA : mp_20_175 L xs (d + 1) M3 o) (some (.int v1))
  replace h := mm_iq hc0 h
  by_cases hc1 : v1 = (1 : Int32)
  · replace h := mm_ip hc1 h
    refine mm_R_sw (t := 78) rfl rfl rfl (by rw [hc1]; rfl) ?_
    refine mm_Runs.seq (l := [(78, .aload_n 0, 1), (79, .getfield 47, 3)]) (S2 := (82, [some (.ref 0), some (.int v1)], [.ref 16], M2)) (by decide +kernel) (hO := mm_own_20) rfl ?_
    refine mm_R_call (v := mm_wv) h hA (k2 := 91) (as := [.ref 16]) (r := []) rfl (fun _ => rfl) (fun q hq o ho => ms_91 (by omega) hq ho) (fun _ M4 h => ?_)
    show mm_Runs L xs (d + 1) 20 (85, [some (.ref 0), some (.int v1)], [], M4) o
    refine mm_Runs.seq (l := [(85, .goto 90, 3)]) (S2 := (175, [some (.ref 0), some (.int v1)], [], M4)) (by decide +kernel) (hO := mm_own_20) rfl ?_
    exact (ms_20_j175 hd h hA : mp_20_175 L xs (d + 1) M4 o) (some (.int v1))
  replace h := mm_iq hc1 h
  by_cases hc2 : v1 = (2 : Int32)
  · replace h := mm_ip hc2 h
    refine mm_R_sw (t := 88) rfl rfl rfl (by rw [hc2]; rfl) ?_
    refine mm_Runs.seq (l := [(88, .aload_n 0, 1), (89, .getfield 47, 3)]) (S2 := (92, [some (.ref 0), some (.int v1)], [.ref 16], M2)) (by decide +kernel) (hO := mm_own_20) rfl ?_
    refine mm_R_call (v := mm_wv) h hA (k2 := 89) (as := [.ref 16]) (r := []) rfl (fun _ => rfl) (fun q hq o ho => ms_89 (by omega) hq ho) (fun _ M5 h => ?_)
    show mm_Runs L xs (d + 1) 20 (95, [some (.ref 0), some (.int v1)], [], M5) o
    refine mm_Runs.seq (l := [(95, .goto 80, 3)]) (S2 := (175, [some (.ref 0), some (.int v1)], [], M5)) (by decide +kernel) (hO := mm_own_20) rfl ?_
    exact (ms_20_j175 hd h hA : mp_20_175 L xs (d + 1) M5 o) (some (.int v1))
  replace h := mm_iq hc2 h
  by_cases hc3 : v1 = (3 : Int32)
  · replace h := mm_ip hc3 h
    refine mm_R_sw (t := 98) rfl rfl rfl (by rw [hc3]; rfl) ?_
    refine mm_Runs.seq (l := [(98, .aload_n 0, 1), (99, .getfield 47, 3)]) (S2 := (102, [some (.ref 0), some (.int v1)], [.ref 16], M2)) (by decide +kernel) (hO := mm_own_20) rfl ?_
    refine mm_R_call (v := mm_wv) h hA (k2 := 90) (as := [.ref 16]) (r := []) rfl (fun _ => rfl) (fun q hq o ho => ms_90 (by omega) hq ho) (fun _ M6 h => ?_)
    show mm_Runs L xs (d + 1) 20 (105, [some (.ref 0), some (.int v1)], [], M6) o
    refine mm_Runs.seq (l := [(105, .goto 70, 3)]) (S2 := (175, [some (.ref 0), some (.int v1)], [], M6)) (by decide +kernel) (hO := mm_own_20) rfl ?_
    exact (ms_20_j175 hd h hA : mp_20_175 L xs (d + 1) M6 o) (some (.int v1))
  replace h := mm_iq hc3 h
  by_cases hc4 : v1 = (4 : Int32)
  · replace h := mm_ip hc4 h
    refine mm_R_sw (t := 108) rfl rfl rfl (by rw [hc4]; rfl) ?_
    refine mm_Runs.seq (l := [(108, .aload_n 0, 1), (109, .getfield 56, 3)]) (S2 := (112, [some (.ref 0), some (.int v1)], [.ref 35], M2)) (by decide +kernel) (hO := mm_own_20) rfl ?_
    refine mm_R_call (v := mm_wv) h hA (k2 := 112) (as := [.ref 35]) (r := []) rfl (fun _ => rfl) (fun q hq o ho => ms_112 (by omega) hq ho) (fun _ M7 h => ?_)
    show mm_Runs L xs (d + 1) 20 (115, [some (.ref 0), some (.int v1)], [], M7) o
    refine mm_Runs.seq (l := [(115, .goto 60, 3)]) (S2 := (175, [some (.ref 0), some (.int v1)], [], M7)) (by decide +kernel) (hO := mm_own_20) rfl ?_
    exact (ms_20_j175 hd h hA : mp_20_175 L xs (d + 1) M7 o) (some (.int v1))
  replace h := mm_iq hc4 h
  by_cases hc5 : v1 = (5 : Int32)
  · replace h := mm_ip hc5 h
    refine mm_R_sw (t := 118) rfl rfl rfl (by rw [hc5]; rfl) ?_
    refine mm_Runs.seq (l := [(118, .aload_n 0, 1), (119, .getfield 56, 3)]) (S2 := (122, [some (.ref 0), some (.int v1)], [.ref 35], M2)) (by decide +kernel) (hO := mm_own_20) rfl ?_
    refine mm_R_call (v := mm_wv) h hA (k2 := 113) (as := [.ref 35]) (r := []) rfl (fun _ => rfl) (fun q hq o ho => ms_113 (by omega) hq ho) (fun _ M8 h => ?_)
    show mm_Runs L xs (d + 1) 20 (125, [some (.ref 0), some (.int v1)], [], M8) o
    refine mm_Runs.seq (l := [(125, .goto 50, 3)]) (S2 := (175, [some (.ref 0), some (.int v1)], [], M8)) (by decide +kernel) (hO := mm_own_20) rfl ?_
    exact (ms_20_j175 hd h hA : mp_20_175 L xs (d + 1) M8 o) (some (.int v1))
  replace h := mm_iq hc5 h
  by_cases hc6 : v1 = (6 : Int32)
  · replace h := mm_ip hc6 h
    refine mm_R_sw (t := 128) rfl rfl rfl (by rw [hc6]; rfl) ?_
    refine mm_Runs.seq (l := [(128, .aload_n 0, 1), (129, .getfield 63, 3)]) (S2 := (132, [some (.ref 0), some (.int v1)], [.ref 41], M2)) (by decide +kernel) (hO := mm_own_20) rfl ?_
    refine mm_R_call (v := mm_wv) h hA (k2 := 129) (as := [.ref 41]) (r := []) rfl (fun _ => rfl) (fun q hq o ho => ms_129 (by omega) hq ho) (fun _ M9 h => ?_)
    show mm_Runs L xs (d + 1) 20 (135, [some (.ref 0), some (.int v1)], [], M9) o
    refine mm_Runs.seq (l := [(135, .goto 40, 3)]) (S2 := (175, [some (.ref 0), some (.int v1)], [], M9)) (by decide +kernel) (hO := mm_own_20) rfl ?_
    exact (ms_20_j175 hd h hA : mp_20_175 L xs (d + 1) M9 o) (some (.int v1))
  replace h := mm_iq hc6 h
  by_cases hc7 : v1 = (7 : Int32)
  · replace h := mm_ip hc7 h
    refine mm_R_sw (t := 138) rfl rfl rfl (by rw [hc7]; rfl) ?_
    refine mm_Runs.seq (l := [(138, .aload_n 0, 1), (139, .getfield 63, 3)]) (S2 := (142, [some (.ref 0), some (.int v1)], [.ref 41], M2)) (by decide +kernel) (hO := mm_own_20) rfl ?_
    refine mm_R_call (v := mm_wv) h hA (k2 := 133) (as := [.ref 41]) (r := []) rfl (fun _ => rfl) (fun q hq o ho => ms_133 (by omega) hq ho) (fun _ M10 h => ?_)
    show mm_Runs L xs (d + 1) 20 (145, [some (.ref 0), some (.int v1)], [], M10) o
    refine mm_Runs.seq (l := [(145, .goto 30, 3)]) (S2 := (175, [some (.ref 0), some (.int v1)], [], M10)) (by decide +kernel) (hO := mm_own_20) rfl ?_
    exact (ms_20_j175 hd h hA : mp_20_175 L xs (d + 1) M10 o) (some (.int v1))
  replace h := mm_iq hc7 h
  by_cases hc8 : v1 = (8 : Int32)
  · replace h := mm_ip hc8 h
    refine mm_R_sw (t := 148) rfl rfl rfl (by rw [hc8]; rfl) ?_
    refine mm_Runs.seq (l := [(148, .aload_n 0, 1), (149, .getfield 63, 3)]) (S2 := (152, [some (.ref 0), some (.int v1)], [.ref 41], M2)) (by decide +kernel) (hO := mm_own_20) rfl ?_
    refine mm_R_call (v := mm_wv) h hA (k2 := 135) (as := [.ref 41]) (r := []) rfl (fun _ => rfl) (fun q hq o ho => ms_135 (by omega) hq ho) (fun _ M11 h => ?_)
    show mm_Runs L xs (d + 1) 20 (155, [some (.ref 0), some (.int v1)], [], M11) o
    refine mm_Runs.seq (l := [(155, .goto 20, 3)]) (S2 := (175, [some (.ref 0), some (.int v1)], [], M11)) (by decide +kernel) (hO := mm_own_20) rfl ?_
    exact (ms_20_j175 hd h hA : mp_20_175 L xs (d + 1) M11 o) (some (.int v1))
  replace h := mm_iq hc8 h
  by_cases hc9 : v1 = (9 : Int32)
  · replace h := mm_ip hc9 h
    refine mm_R_sw (t := 158) rfl rfl rfl (by rw [hc9]; rfl) ?_
    refine mm_Runs.seq (l := [(158, .aload_n 0, 1), (159, .getfield 72, 3)]) (S2 := (162, [some (.ref 0), some (.int v1)], [.ref 42], M2)) (by decide +kernel) (hO := mm_own_20) rfl ?_
    refine mm_R_call (v := mm_wv) h hA (k2 := 147) (as := [.ref 42]) (r := []) rfl (fun _ => rfl) (fun q hq o ho => ms_147 (by omega) hq ho) (fun _ M12 h => ?_)
    show mm_Runs L xs (d + 1) 20 (165, [some (.ref 0), some (.int v1)], [], M12) o
    refine mm_Runs.seq (l := [(165, .goto 10, 3)]) (S2 := (175, [some (.ref 0), some (.int v1)], [], M12)) (by decide +kernel) (hO := mm_own_20) rfl ?_
    exact (ms_20_j175 hd h hA : mp_20_175 L xs (d + 1) M12 o) (some (.int v1))
  replace h := mm_iq hc9 h
  have e0 := mm_i32 (n := 0) hc0 (by decide) (by decide)
  have e1 := mm_i32 (n := 1) hc1 (by decide) (by decide)
  have e2 := mm_i32 (n := 2) hc2 (by decide) (by decide)
  have e3 := mm_i32 (n := 3) hc3 (by decide) (by decide)
  have e4 := mm_i32 (n := 4) hc4 (by decide) (by decide)
  have e5 := mm_i32 (n := 5) hc5 (by decide) (by decide)
  have e6 := mm_i32 (n := 6) hc6 (by decide) (by decide)
  have e7 := mm_i32 (n := 7) hc7 (by decide) (by decide)
  have e8 := mm_i32 (n := 8) hc8 (by decide) (by decide)
  have e9 := mm_i32 (n := 9) hc9 (by decide) (by decide)
  refine mm_R_sw (t := 168) rfl rfl rfl (mm_tsd (by omega) rfl rfl) ?_
  refine mm_Runs.seq (l := [(168, .aload_n 0, 1), (169, .getfield 79, 3)]) (S2 := (172, [some (.ref 0), some (.int v1)], [.ref 80], M2)) (by decide +kernel) (hO := mm_own_20) rfl ?_
  refine mm_R_call (v := mm_wv) h hA (k2 := 171) (as := [.ref 80]) (r := []) rfl (fun _ => rfl) (fun q hq o ho => ms_171 (by omega) hq ho) (fun _ M13 h => ?_)
  show mm_Runs L xs (d + 1) 20 (175, [some (.ref 0), some (.int v1)], [], M13) o
  exact (ms_20_j175 hd h hA : mp_20_175 L xs (d + 1) M13 o) (some (.int v1))
-- 7: PlainPacksLaw.pack(LPlainPacks;I[J)I (depth 9)
theorem mm_own_7 : mm_own 7 = 13 := rfl
set_option maxRecDepth 8000 in
set_option maxHeartbeats 4000000 in
theorem ms_7 {L : Nat} {xs : Nat → Int32} {d : Nat} (hd : 9 ≤ d) {v1 : Int32} {M : mm_M} {q : (Int32 ⊕ Nat) × mm_M} {o : mm_E} (h : mf_7 v1 M = some q) (hA : mm_A (mm_Kr mm_wi) q o) : mm_Runs L xs d 7 (0, mm_ent (mm_ml 7) [.ref 0, .int v1, .ref 110], [], M) o := by
  unfold mf_7 at h
  obtain ⟨d, rfl⟩ := mm_d1 (n := 8) hd
  show mm_Runs L xs (d + 1) 7 (0, [some (.ref 0), some (.int v1), some (.ref 110), none], [], M) o
  refine mm_Runs.seq (l := [(0, .aload_n 2, 1), (1, .iconst 0, 1), (2, .aload_n 0, 1), (3, .iload_n 1, 1)]) (S2 := (4, [some (.ref 0), some (.int v1), some (.ref 110), none], [.int v1, .ref 0, .int (0 : Int32), .ref 110], M)) (by decide +kernel) (hO := mm_own_7) rfl ?_
  refine mm_R_callc (v := mm_wi) (X := 1) (hh := 13) (i := 3) h hA (k2 := 20) (as := [.ref 0, .int v1]) (r := [.int (0 : Int32), .ref 110]) rfl rfl rfl (fun q hq o ho => ms_20 (by omega) hq ho) (fun r1 M2 h => ?_) (fun M3 h => ?_)
  · show mm_Runs L xs (d + 1) 7 (7, [some (.ref 0), some (.int v1), some (.ref 110), none], [.int r1, .int (0 : Int32), .ref 110], M2) o
    refine mm_Runs.seq (l := [(7, .i2l, 1)]) (S2 := (8, [some (.ref 0), some (.int v1), some (.ref 110), none], [.long r1.toInt64, .int (0 : Int32), .ref 110], M2)) (by decide +kernel) (hO := mm_own_7) rfl ?_
    obtain ⟨hb, h⟩ := mm_gd h
    refine mm_R_last rfl rfl hb ?_
    refine mm_Runs.seq (l := [(9, .goto 6, 3), (15, .iconst 0, 1)]) (S2 := (16, [some (.ref 0), some (.int v1), some (.ref 110), none], [.int (0 : Int32)], (mm_pl M2 110 (0 : Int32).toNatClampNeg r1.toInt64))) (by decide +kernel) (hO := mm_own_7) rfl ?_
    cases h
    exact mm_R_reti rfl rfl hA
  · show mm_Runs L xs (d + 1) 7 (13, [some (.ref 0), some (.int v1), some (.ref 110), none], [], M3) o
    refine mm_Runs.seq (l := [(13, .iconst 1, 1)]) (S2 := (14, [some (.ref 0), some (.int v1), some (.ref 110), none], [.int (1 : Int32)], M3)) (by decide +kernel) (hO := mm_own_7) rfl ?_
    cases h
    exact mm_R_reti rfl rfl hA
-- 251: PlainPacksModel.alikeAt(II)I (depth 0)
theorem mm_own_251 : mm_own 251 = 12 := rfl
def mp_251_2 (L : Nat) (xs : Nat → Int32) (d : Nat) (v1 : Int32) (v2 : Int32) (v3 : Int32) (M : mm_M) (o : mm_E) : Prop := mm_Runs L xs d 251 (2, [some (.ref 84), some (.int v1), some (.int v2), some (.int v3)], [], M) o
def mp_251_40 (L : Nat) (xs : Nat → Int32) (d : Nat) (v3 : Int32) (M : mm_M) (o : mm_E) : Prop := ∀ z0 z1 z2 : Option Value, mm_Runs L xs d 251 (40, [z0, z1, z2, some (.int v3)], [], M) o
set_option maxRecDepth 8000 in
set_option maxHeartbeats 4000000 in
theorem ms_251_b2 {L : Nat} {xs : Nat → Int32} {d : Nat} (hd : 0 ≤ d) {v1 : Int32} {v2 : Int32} {v3 : Int32} {M : mm_M} {q : (((Int32) ⊕ (Int32)) ⊕ Nat) × mm_M} {o : mm_E} (h : mf_251_b2 v1 v2 v3 M = some q) (hA : mm_A (mm_K2 (fun s M o => mp_251_2 L xs (d) v1 v2 s M o) (fun r M o => mp_251_40 L xs (d) r M o)) q o) : mp_251_2 L xs d v1 v2 v3 M o := by
  unfold mf_251_b2 at h
  show mm_Runs L xs (d) 251 (2, [some (.ref 84), some (.int v1), some (.int v2), some (.int v3)], [], M) o
  refine mm_Runs.seq (l := [(2, .iload_n 3, 1), (3, .iload_n 2, 1)]) (S2 := (4, [some (.ref 84), some (.int v1), some (.int v2), some (.int v3)], [.int v2, .int v3], M)) (by decide +kernel) (hO := mm_own_251) rfl ?_
  refine mm_R_ige (t := 40) rfl rfl rfl (fun hc => ?_) (fun hc => ?_)
  · replace h := mm_ip hc h
    refine mm_Runs.seq (l := [(7, .iload_n 1, 1), (8, .iload_n 3, 1), (9, .iadd, 1), (10, .aload_n 0, 1), (11, .getfield 91, 3)]) (S2 := (14, [some (.ref 84), some (.int v1), some (.int v2), some (.int v3)], [.int (M.1 84 2), .int (v1 + v3)], M)) (by decide +kernel) (hO := mm_own_251) rfl ?_
    refine mm_R_ige (t := 40) rfl rfl rfl (fun hc => ?_) (fun hc => ?_)
    · replace h := mm_ip hc h
      refine mm_Runs.seq (l := [(17, .aload_n 0, 1), (18, .getfield 7, 3), (21, .iload_n 1, 1), (22, .iload_n 3, 1), (23, .iadd, 1)]) (S2 := (24, [some (.ref 84), some (.int v1), some (.int v2), some (.int v3)], [.int (v1 + v3), .ref 85], M)) (by decide +kernel) (hO := mm_own_251) rfl ?_
      obtain ⟨hb, h⟩ := mm_gd h
      refine mm_R_iald rfl rfl hb ?_
      refine mm_Runs.seq (l := [(25, .aload_n 0, 1), (26, .getfield 7, 3), (29, .iload_n 1, 1)]) (S2 := (30, [some (.ref 84), some (.int v1), some (.int v2), some (.int v3)], [.int v1, .ref 85, .int (M.1 85 (v1 + v3).toNatClampNeg)], M)) (by decide +kernel) (hO := mm_own_251) rfl ?_
      obtain ⟨hb, h⟩ := mm_gd h
      refine mm_R_iald rfl rfl hb ?_
      refine mm_R_ine (t := 40) rfl rfl rfl (fun hc => ?_) (fun hc => ?_)
      · replace h := mm_ip hc h
        refine mm_Runs.seq (l := [(34, .iinc 3 1, 3), (37, .goto (-35), 3)]) (S2 := (2, [some (.ref 84), some (.int v1), some (.int v2), some (.int (v3 + (1 : Int32)))], [], M)) (by decide +kernel) (hO := mm_own_251) rfl ?_
        cases h
        exact (show mp_251_2 L xs (d) v1 v2 (v3 + (1 : Int32)) M o from hA)
      · replace h := mm_iq hc h
        cases h
        exact (show mp_251_40 L xs (d) v3 M o from hA) (some (.ref 84)) (some (.int v1)) (some (.int v2))
    · replace h := mm_iq hc h
      cases h
      exact (show mp_251_40 L xs (d) v3 M o from hA) (some (.ref 84)) (some (.int v1)) (some (.int v2))
  · replace h := mm_iq hc h
    cases h
    exact (show mp_251_40 L xs (d) v3 M o from hA) (some (.ref 84)) (some (.int v1)) (some (.int v2))
theorem ms_251_L2 {L : Nat} {xs : Nat → Int32} {d : Nat} (hd : 0 ≤ d) {v1 : Int32} {v2 : Int32} {v3 : Int32} {β : Type} {K : β → mm_M → mm_E → Prop} {F : (Int32) → mm_M → mm_O β} {M : mm_M} {q : (β ⊕ Nat) × mm_M} {o : mm_E} (h : mm_B (mf_251_L2 v1 v2 v3 M) F = some q) (hA : mm_A K q o) (hx : ∀ (r : (Int32)) (M2 : mm_M), F r M2 = some q → (fun r M o => mp_251_40 L xs (d) r M o) r M2 o) : mp_251_2 L xs d v1 v2 v3 M o := by
  unfold mf_251_L2 at h
  exact mm_R_loop (step := (fun s M => mf_251_b2 v1 v2 s M)) (s := v3) (M := M) (P := (fun s M o => mp_251_2 L xs (d) v1 v2 s M o)) (X := (fun r M o => mp_251_40 L xs (d) r M o)) h hA (fun s M q hq hA => ms_251_b2 (v1 := v1) (v2 := v2) (v3 := s) (M := M) (q := q) hd hq hA) hx
set_option maxRecDepth 8000 in
set_option maxHeartbeats 4000000 in
theorem ms_251 {L : Nat} {xs : Nat → Int32} {d : Nat} (hd : 0 ≤ d) {v1 : Int32} {v2 : Int32} {M : mm_M} {q : (Int32 ⊕ Nat) × mm_M} {o : mm_E} (h : mf_251 v1 v2 M = some q) (hA : mm_A (mm_Kr mm_wi) q o) : mm_Runs L xs d 251 (0, mm_ent (mm_ml 251) [.ref 84, .int v1, .int v2], [], M) o := by
  unfold mf_251 at h
  show mm_Runs L xs (d) 251 (0, [some (.ref 84), some (.int v1), some (.int v2), none], [], M) o
  refine mm_Runs.seq (l := [(0, .iconst 1, 1), (1, .istore_n 3, 1)]) (S2 := (2, [some (.ref 84), some (.int v1), some (.int v2), some (.int (1 : Int32))], [], M)) (by decide +kernel) (hO := mm_own_251) rfl ?_
  have hp : mp_251_2 L xs (d) v1 v2 (1 : Int32) M o := by
    refine ms_251_L2 hd h hA (fun r2 M1 h => ?_)
    intro y3 y4 y5
    show mm_Runs L xs (d) 251 (40, [y3, y4, y5, some (.int r2)], [], M1) o
    refine mm_Runs.seq (l := [(40, .iload_n 3, 1)]) (S2 := (41, [y3, y4, y5, some (.int r2)], [.int r2], M1)) (by decide +kernel) (hO := mm_own_251) rfl ?_
    cases h
    exact mm_R_reti rfl rfl hA
  exact hp
-- 245: PlainPacksModel.write(I)V (depth 0)
theorem mm_own_245 : mm_own 245 = 12 := rfl
set_option maxRecDepth 8000 in
set_option maxHeartbeats 4000000 in
theorem ms_245 {L : Nat} {xs : Nat → Int32} {d : Nat} (hd : 0 ≤ d) {v1 : Int32} {M : mm_M} {q : (Unit ⊕ Nat) × mm_M} {o : mm_E} (h : mf_245 v1 M = some q) (hA : mm_A (mm_Kr mm_wv) q o) : mm_Runs L xs d 245 (0, mm_ent (mm_ml 245) [.ref 84, .int v1], [], M) o := by
  unfold mf_245 at h
  show mm_Runs L xs (d) 245 (0, [some (.ref 84), some (.int v1)], [], M) o
  refine mm_Runs.seq (l := [(0, .aload_n 0, 1), (1, .getfield 406, 3), (4, .sipush 16384, 3)]) (S2 := (7, [some (.ref 84), some (.int v1)], [.int (16384 : Int32), .int (M.1 84 41)], M)) (by decide +kernel) (hO := mm_own_245) rfl ?_
  refine mm_R_ige (t := 20) rfl rfl rfl (fun hc => ?_) (fun hc => ?_)
  · replace h := mm_ip hc h
    refine mm_Runs.seq (l := [(10, .aload_n 0, 1), (11, .getfield 57, 3), (14, .aload_n 0, 1), (15, .getfield 406, 3), (18, .iload_n 1, 1)]) (S2 := (19, [some (.ref 84), some (.int v1)], [.int v1, .int (M.1 84 41), .ref 100], M)) (by decide +kernel) (hO := mm_own_245) rfl ?_
    obtain ⟨hb, h⟩ := mm_gd h
    refine mm_R_iast rfl rfl hb ?_
    refine mm_Runs.seq (l := [(20, .aload_n 0, 1), (21, .dup, 1), (22, .getfield 406, 3), (25, .iconst 1, 1), (26, .iadd, 1), (27, .putfield 406, 3)]) (S2 := (30, [some (.ref 84), some (.int v1)], [], (mm_pi (mm_pi M 100 (M.1 84 41).toNatClampNeg v1) 84 41 ((M.1 84 41) + (1 : Int32))))) (by decide +kernel) (hO := mm_own_245) rfl ?_
    cases h
    exact mm_R_retv rfl rfl hA
  · replace h := mm_iq hc h
    refine mm_Runs.seq (l := [(20, .aload_n 0, 1), (21, .dup, 1), (22, .getfield 406, 3), (25, .iconst 1, 1), (26, .iadd, 1), (27, .putfield 406, 3)]) (S2 := (30, [some (.ref 84), some (.int v1)], [], (mm_pi M 84 41 ((M.1 84 41) + (1 : Int32))))) (by decide +kernel) (hO := mm_own_245) rfl ?_
    cases h
    exact mm_R_retv rfl rfl hA
-- 252: PlainPacksModel.packRuns()V (depth 1)
theorem mm_own_252 : mm_own 252 = 12 := rfl
def mp_252_2 (L : Nat) (xs : Nat → Int32) (d : Nat) (v1 : Int32) (M : mm_M) (o : mm_E) : Prop := ∀ z2 z3 : Option Value, mm_Runs L xs d 252 (2, [some (.ref 84), some (.int v1), z2, z3], [], M) o
def mp_252_118 (L : Nat) (xs : Nat → Int32) (d : Nat) (M : mm_M) (o : mm_E) : Prop := ∀ z0 z1 z2 z3 : Option Value, mm_Runs L xs d 252 (118, [z0, z1, z2, z3], [], M) o
def mp_252_52 (L : Nat) (xs : Nat → Int32) (d : Nat) (v1 : Int32) (v3 : Int32) (M : mm_M) (o : mm_E) : Prop := ∀ z2 : Option Value, mm_Runs L xs d 252 (52, [some (.ref 84), some (.int v1), z2, some (.int v3)], [], M) o
def mp_252_85 (L : Nat) (xs : Nat → Int32) (d : Nat) (v1 : Int32) (v3 : Int32) (M : mm_M) (o : mm_E) : Prop := ∀ z2 : Option Value, mm_Runs L xs d 252 (85, [some (.ref 84), some (.int v1), z2, some (.int v3)], [], M) o
set_option maxRecDepth 8000 in
set_option maxHeartbeats 4000000 in
theorem ms_252_b52 {L : Nat} {xs : Nat → Int32} {d : Nat} (hd : 1 ≤ d) {v1 : Int32} {v3 : Int32} {M : mm_M} {q : (((Int32) ⊕ (Int32)) ⊕ Nat) × mm_M} {o : mm_E} (h : mf_252_b52 v1 v3 M = some q) (hA : mm_A (mm_K2 (fun s M o => mp_252_52 L xs (d) v1 s M o) (fun r M o => mp_252_85 L xs (d) v1 r M o)) q o) : mp_252_52 L xs d v1 v3 M o := by
  unfold mf_252_b52 at h
  obtain ⟨d, rfl⟩ := mm_d1 (n := 0) hd
  intro z2
  show mm_Runs L xs (d + 1) 252 (52, [some (.ref 84), some (.int v1), z2, some (.int v3)], [], M) o
  refine mm_Runs.seq (l := [(52, .iload_n 3, 1), (53, .aload_n 0, 1), (54, .getfield 91, 3)]) (S2 := (57, [some (.ref 84), some (.int v1), z2, some (.int v3)], [.int (M.1 84 2), .int v3], M)) (by decide +kernel) (hO := mm_own_252) rfl ?_
  refine mm_R_ige (t := 85) rfl rfl rfl (fun hc => ?_) (fun hc => ?_)
  · replace h := mm_ip hc h
    refine mm_Runs.seq (l := [(60, .iload_n 3, 1), (61, .iload_n 1, 1), (62, .isub, 1), (63, .sipush 128, 3)]) (S2 := (66, [some (.ref 84), some (.int v1), z2, some (.int v3)], [.int (128 : Int32), .int (v3 - v1)], M)) (by decide +kernel) (hO := mm_own_252) rfl ?_
    refine mm_R_ige (t := 85) rfl rfl rfl (fun hc => ?_) (fun hc => ?_)
    · replace h := mm_ip hc h
      refine mm_Runs.seq (l := [(69, .aload_n 0, 1), (70, .iload_n 3, 1), (71, .iconst 3, 1)]) (S2 := (72, [some (.ref 84), some (.int v1), z2, some (.int v3)], [.int (3 : Int32), .int v3, .ref 84], M)) (by decide +kernel) (hO := mm_own_252) rfl ?_
      refine mm_R_call (v := mm_wi) h hA (k2 := 251) (as := [.ref 84, .int v3, .int (3 : Int32)]) (r := []) rfl (fun _ => rfl) (fun q hq o ho => ms_251 (by omega) hq ho) (fun r1 M2 h => ?_)
      show mm_Runs L xs (d + 1) 252 (75, [some (.ref 84), some (.int v1), z2, some (.int v3)], [.int r1], M2) o
      refine mm_Runs.seq (l := [(75, .iconst 3, 1)]) (S2 := (76, [some (.ref 84), some (.int v1), z2, some (.int v3)], [.int (3 : Int32), .int r1], M2)) (by decide +kernel) (hO := mm_own_252) rfl ?_
      refine mm_R_ige (t := 85) rfl rfl rfl (fun hc => ?_) (fun hc => ?_)
      · replace h := mm_ip hc h
        refine mm_Runs.seq (l := [(79, .iinc 3 1, 3), (82, .goto (-30), 3)]) (S2 := (52, [some (.ref 84), some (.int v1), (mm_no2 z2), some (.int (v3 + (1 : Int32)))], [], M2)) (by decide +kernel) (hO := mm_own_252) rfl ?_
        cases h
        exact (show mp_252_52 L xs (d + 1) v1 (v3 + (1 : Int32)) M2 o from hA) ((mm_no2 z2))
      · replace h := mm_iq hc h
        cases h
        exact (show mp_252_85 L xs (d + 1) v1 v3 M2 o from hA) z2
    · replace h := mm_iq hc h
      cases h
      exact (show mp_252_85 L xs (d + 1) v1 v3 M o from hA) z2
  · replace h := mm_iq hc h
    cases h
    exact (show mp_252_85 L xs (d + 1) v1 v3 M o from hA) z2
theorem ms_252_L52 {L : Nat} {xs : Nat → Int32} {d : Nat} (hd : 1 ≤ d) {v1 : Int32} {v3 : Int32} {β : Type} {K : β → mm_M → mm_E → Prop} {F : (Int32) → mm_M → mm_O β} {M : mm_M} {q : (β ⊕ Nat) × mm_M} {o : mm_E} (h : mm_B (mf_252_L52 v1 v3 M) F = some q) (hA : mm_A K q o) (hx : ∀ (r : (Int32)) (M2 : mm_M), F r M2 = some q → (fun r M o => mp_252_85 L xs (d) v1 r M o) r M2 o) : mp_252_52 L xs d v1 v3 M o := by
  unfold mf_252_L52 at h
  exact mm_R_loop (step := (fun s M => mf_252_b52 v1 s M)) (s := v3) (M := M) (P := (fun s M o => mp_252_52 L xs (d) v1 s M o)) (X := (fun r M o => mp_252_85 L xs (d) v1 r M o)) h hA (fun s M q hq hA => ms_252_b52 (v1 := v1) (v3 := s) (M := M) (q := q) hd hq hA) hx
def mp_252_94 (L : Nat) (xs : Nat → Int32) (d : Nat) (v1 : Int32) (v3 : Int32) (M : mm_M) (o : mm_E) : Prop := ∀ z2 : Option Value, mm_Runs L xs d 252 (94, [some (.ref 84), some (.int v1), z2, some (.int v3)], [], M) o
def mp_252_115 (L : Nat) (xs : Nat → Int32) (d : Nat) (v1 : Int32) (M : mm_M) (o : mm_E) : Prop := ∀ z2 z3 : Option Value, mm_Runs L xs d 252 (115, [some (.ref 84), some (.int v1), z2, z3], [], M) o
set_option maxRecDepth 8000 in
set_option maxHeartbeats 4000000 in
theorem ms_252_b94 {L : Nat} {xs : Nat → Int32} {d : Nat} (hd : 1 ≤ d) {v1 : Int32} {v3 : Int32} {M : mm_M} {q : (((Int32) ⊕ (Int32)) ⊕ Nat) × mm_M} {o : mm_E} (h : mf_252_b94 v1 v3 M = some q) (hA : mm_A (mm_K2 (fun s M o => mp_252_94 L xs (d) s v3 M o) (fun r M o => mp_252_115 L xs (d) r M o)) q o) : mp_252_94 L xs d v1 v3 M o := by
  unfold mf_252_b94 at h
  obtain ⟨d, rfl⟩ := mm_d1 (n := 0) hd
  intro z2
  show mm_Runs L xs (d + 1) 252 (94, [some (.ref 84), some (.int v1), z2, some (.int v3)], [], M) o
  refine mm_Runs.seq (l := [(94, .iload_n 1, 1), (95, .iload_n 3, 1)]) (S2 := (96, [some (.ref 84), some (.int v1), z2, some (.int v3)], [.int v3, .int v1], M)) (by decide +kernel) (hO := mm_own_252) rfl ?_
  refine mm_R_ige (t := 115) rfl rfl rfl (fun hc => ?_) (fun hc => ?_)
  · replace h := mm_ip hc h
    refine mm_Runs.seq (l := [(99, .aload_n 0, 1), (100, .aload_n 0, 1), (101, .getfield 7, 3), (104, .iload_n 1, 1)]) (S2 := (105, [some (.ref 84), some (.int v1), z2, some (.int v3)], [.int v1, .ref 85, .ref 84], M)) (by decide +kernel) (hO := mm_own_252) rfl ?_
    obtain ⟨hb, h⟩ := mm_gd h
    refine mm_R_iald rfl rfl hb ?_
    refine mm_R_call (v := mm_wv) h hA (k2 := 245) (as := [.ref 84, .int (M.1 85 v1.toNatClampNeg)]) (r := []) rfl (fun _ => rfl) (fun q hq o ho => ms_245 (by omega) hq ho) (fun _ M1 h => ?_)
    show mm_Runs L xs (d + 1) 252 (109, [some (.ref 84), some (.int v1), z2, some (.int v3)], [], M1) o
    refine mm_Runs.seq (l := [(109, .iinc 1 1, 3), (112, .goto (-18), 3)]) (S2 := (94, [some (.ref 84), some (.int (v1 + (1 : Int32))), z2, some (.int v3)], [], M1)) (by decide +kernel) (hO := mm_own_252) rfl ?_
    cases h
    exact (show mp_252_94 L xs (d + 1) (v1 + (1 : Int32)) v3 M1 o from hA) z2
  · replace h := mm_iq hc h
    cases h
    exact (show mp_252_115 L xs (d + 1) v1 M o from hA) z2 (some (.int v3))
theorem ms_252_L94 {L : Nat} {xs : Nat → Int32} {d : Nat} (hd : 1 ≤ d) {v1 : Int32} {v3 : Int32} {β : Type} {K : β → mm_M → mm_E → Prop} {F : (Int32) → mm_M → mm_O β} {M : mm_M} {q : (β ⊕ Nat) × mm_M} {o : mm_E} (h : mm_B (mf_252_L94 v3 v1 M) F = some q) (hA : mm_A K q o) (hx : ∀ (r : (Int32)) (M2 : mm_M), F r M2 = some q → (fun r M o => mp_252_115 L xs (d) r M o) r M2 o) : mp_252_94 L xs d v1 v3 M o := by
  unfold mf_252_L94 at h
  exact mm_R_loop (step := (fun s M => mf_252_b94 s v3 M)) (s := v1) (M := M) (P := (fun s M o => mp_252_94 L xs (d) s v3 M o)) (X := (fun r M o => mp_252_115 L xs (d) r M o)) h hA (fun s M q hq hA => ms_252_b94 (v1 := s) (v3 := v3) (M := M) (q := q) hd hq hA) hx
set_option maxRecDepth 8000 in
set_option maxHeartbeats 4000000 in
theorem ms_252_j85 {L : Nat} {xs : Nat → Int32} {d : Nat} (hd : 1 ≤ d) {v1 : Int32} {v3 : Int32} {M : mm_M} {q : (((Int32) ⊕ (Unit)) ⊕ Nat) × mm_M} {o : mm_E} (h : mf_252_j85 v1 v3 M = some q) (hA : mm_A (mm_K2 (fun s M o => mp_252_2 L xs (d) s M o) (fun r M o => mp_252_118 L xs (d) M o)) q o) : mp_252_85 L xs d v1 v3 M o := by
  unfold mf_252_j85 at h
  obtain ⟨d, rfl⟩ := mm_d1 (n := 0) hd
  intro z2
  show mm_Runs L xs (d + 1) 252 (85, [some (.ref 84), some (.int v1), z2, some (.int v3)], [], M) o
  refine mm_Runs.seq (l := [(85, .aload_n 0, 1), (86, .iload_n 3, 1), (87, .iload_n 1, 1), (88, .isub, 1), (89, .iconst 1, 1), (90, .isub, 1)]) (S2 := (91, [some (.ref 84), some (.int v1), z2, some (.int v3)], [.int ((v3 - v1) - (1 : Int32)), .ref 84], M)) (by decide +kernel) (hO := mm_own_252) rfl ?_
  refine mm_R_call (v := mm_wv) h hA (k2 := 245) (as := [.ref 84, .int ((v3 - v1) - (1 : Int32))]) (r := []) rfl (fun _ => rfl) (fun q hq o ho => ms_245 (by omega) hq ho) (fun _ M1 h => ?_)
  show mm_Runs L xs (d + 1) 252 (94, [some (.ref 84), some (.int v1), z2, some (.int v3)], [], M1) o
  have hp : mp_252_94 L xs (d + 1) v1 v3 M1 o := by
    refine ms_252_L94 hd h hA (fun r3 M2 h => ?_)
    intro y4 y5
    show mm_Runs L xs (d + 1) 252 (115, [some (.ref 84), some (.int r3), y4, y5], [], M2) o
    refine mm_Runs.seq (l := [(115, .goto (-113), 3)]) (S2 := (2, [some (.ref 84), some (.int r3), y4, y5], [], M2)) (by decide +kernel) (hO := mm_own_252) rfl ?_
    cases h
    exact (show mp_252_2 L xs (d + 1) r3 M2 o from hA) y4 y5
  exact hp z2
set_option maxRecDepth 8000 in
set_option maxHeartbeats 4000000 in
theorem ms_252_b2 {L : Nat} {xs : Nat → Int32} {d : Nat} (hd : 1 ≤ d) {v1 : Int32} {M : mm_M} {q : (((Int32) ⊕ (Unit)) ⊕ Nat) × mm_M} {o : mm_E} (h : mf_252_b2 v1 M = some q) (hA : mm_A (mm_K2 (fun s M o => mp_252_2 L xs (d) s M o) (fun r M o => mp_252_118 L xs (d) M o)) q o) : mp_252_2 L xs d v1 M o := by
  unfold mf_252_b2 at h
  obtain ⟨d, rfl⟩ := mm_d1 (n := 0) hd
  intro z2 z3
  show mm_Runs L xs (d + 1) 252 (2, [some (.ref 84), some (.int v1), z2, z3], [], M) o
  refine mm_Runs.seq (l := [(2, .iload_n 1, 1), (3, .aload_n 0, 1), (4, .getfield 91, 3)]) (S2 := (7, [some (.ref 84), some (.int v1), z2, z3], [.int (M.1 84 2), .int v1], M)) (by decide +kernel) (hO := mm_own_252) rfl ?_
  refine mm_R_ige (t := 118) rfl rfl rfl (fun hc => ?_) (fun hc => ?_)
  · replace h := mm_ip hc h
    refine mm_Runs.seq (l := [(10, .aload_n 0, 1), (11, .iload_n 1, 1), (12, .sipush 128, 3)]) (S2 := (15, [some (.ref 84), some (.int v1), z2, z3], [.int (128 : Int32), .int v1, .ref 84], M)) (by decide +kernel) (hO := mm_own_252) rfl ?_
    refine mm_R_call (v := mm_wi) h hA (k2 := 251) (as := [.ref 84, .int v1, .int (128 : Int32)]) (r := []) rfl (fun _ => rfl) (fun q hq o ho => ms_251 (by omega) hq ho) (fun r1 M2 h => ?_)
    show mm_Runs L xs (d + 1) 252 (18, [some (.ref 84), some (.int v1), z2, z3], [.int r1], M2) o
    refine mm_Runs.seq (l := [(18, .istore_n 2, 1), (19, .iload_n 2, 1), (20, .iconst 2, 1)]) (S2 := (21, [some (.ref 84), some (.int v1), some (.int r1), z3], [.int (2 : Int32), .int r1], M2)) (by decide +kernel) (hO := mm_own_252) rfl ?_
    refine mm_R_ile (t := 50) rfl rfl rfl (fun hc => ?_) (fun hc => ?_)
    · replace h := mm_ip hc h
      refine mm_Runs.seq (l := [(24, .aload_n 0, 1), (25, .sipush 257, 3), (28, .iload_n 2, 1), (29, .isub, 1)]) (S2 := (30, [some (.ref 84), some (.int v1), some (.int r1), z3], [.int ((257 : Int32) - r1), .ref 84], M2)) (by decide +kernel) (hO := mm_own_252) rfl ?_
      refine mm_R_call (v := mm_wv) h hA (k2 := 245) (as := [.ref 84, .int ((257 : Int32) - r1)]) (r := []) rfl (fun _ => rfl) (fun q hq o ho => ms_245 (by omega) hq ho) (fun _ M3 h => ?_)
      show mm_Runs L xs (d + 1) 252 (33, [some (.ref 84), some (.int v1), some (.int r1), z3], [], M3) o
      refine mm_Runs.seq (l := [(33, .aload_n 0, 1), (34, .aload_n 0, 1), (35, .getfield 7, 3), (38, .iload_n 1, 1)]) (S2 := (39, [some (.ref 84), some (.int v1), some (.int r1), z3], [.int v1, .ref 85, .ref 84], M3)) (by decide +kernel) (hO := mm_own_252) rfl ?_
      obtain ⟨hb, h⟩ := mm_gd h
      refine mm_R_iald rfl rfl hb ?_
      refine mm_R_call (v := mm_wv) h hA (k2 := 245) (as := [.ref 84, .int (M3.1 85 v1.toNatClampNeg)]) (r := []) rfl (fun _ => rfl) (fun q hq o ho => ms_245 (by omega) hq ho) (fun _ M4 h => ?_)
      show mm_Runs L xs (d + 1) 252 (43, [some (.ref 84), some (.int v1), some (.int r1), z3], [], M4) o
      refine mm_Runs.seq (l := [(43, .iload_n 1, 1), (44, .iload_n 2, 1), (45, .iadd, 1), (46, .istore_n 1, 1), (47, .goto 68, 3), (115, .goto (-113), 3)]) (S2 := (2, [some (.ref 84), some (.int (v1 + r1)), some (.int r1), z3], [], M4)) (by decide +kernel) (hO := mm_own_252) rfl ?_
      cases h
      exact (show mp_252_2 L xs (d + 1) (v1 + r1) M4 o from hA) (some (.int r1)) z3
    · replace h := mm_iq hc h
      refine mm_Runs.seq (l := [(50, .iload_n 1, 1), (51, .istore_n 3, 1)]) (S2 := (52, [some (.ref 84), some (.int v1), some (.int r1), some (.int v1)], [], M2)) (by decide +kernel) (hO := mm_own_252) rfl ?_
      have hp : mp_252_52 L xs (d + 1) v1 v1 M2 o := by
        refine ms_252_L52 hd h hA (fun r6 M5 h => ?_)
        intro y7
        show mm_Runs L xs (d + 1) 252 (85, [some (.ref 84), some (.int v1), y7, some (.int r6)], [], M5) o
        exact (ms_252_j85 hd h hA : mp_252_85 L xs (d + 1) v1 r6 M5 o) y7
      exact hp (some (.int r1))
  · replace h := mm_iq hc h
    cases h
    exact (show mp_252_118 L xs (d + 1) M o from hA) (some (.ref 84)) (some (.int v1)) z2 z3
theorem ms_252_L2 {L : Nat} {xs : Nat → Int32} {d : Nat} (hd : 1 ≤ d) {v1 : Int32} {β : Type} {K : β → mm_M → mm_E → Prop} {F : (Unit) → mm_M → mm_O β} {M : mm_M} {q : (β ⊕ Nat) × mm_M} {o : mm_E} (h : mm_B (mf_252_L2 v1 M) F = some q) (hA : mm_A K q o) (hx : ∀ (r : (Unit)) (M2 : mm_M), F r M2 = some q → (fun r M o => mp_252_118 L xs (d) M o) r M2 o) : mp_252_2 L xs d v1 M o := by
  unfold mf_252_L2 at h
  exact mm_R_loop (step := (fun s M => mf_252_b2 s M)) (s := v1) (M := M) (P := (fun s M o => mp_252_2 L xs (d) s M o)) (X := (fun r M o => mp_252_118 L xs (d) M o)) h hA (fun s M q hq hA => ms_252_b2 (v1 := s) (M := M) (q := q) hd hq hA) hx
set_option maxRecDepth 8000 in
set_option maxHeartbeats 4000000 in
theorem ms_252 {L : Nat} {xs : Nat → Int32} {d : Nat} (hd : 1 ≤ d) {M : mm_M} {q : (Unit ⊕ Nat) × mm_M} {o : mm_E} (h : mf_252 M = some q) (hA : mm_A (mm_Kr mm_wv) q o) : mm_Runs L xs d 252 (0, mm_ent (mm_ml 252) [.ref 84], [], M) o := by
  unfold mf_252 at h
  obtain ⟨d, rfl⟩ := mm_d1 (n := 0) hd
  show mm_Runs L xs (d + 1) 252 (0, [some (.ref 84), none, none, none], [], M) o
  refine mm_Runs.seq (l := [(0, .iconst 0, 1), (1, .istore_n 1, 1)]) (S2 := (2, [some (.ref 84), some (.int (0 : Int32)), none, none], [], M)) (by decide +kernel) (hO := mm_own_252) rfl ?_
  have hp : mp_252_2 L xs (d + 1) (0 : Int32) M o := by
    refine ms_252_L2 hd h hA (fun r2 M1 h => ?_)
    intro y3 y4 y5 y6
    show mm_Runs L xs (d + 1) 252 (118, [y3, y4, y5, y6], [], M1) o
    cases h
    exact mm_R_retv rfl rfl hA
  exact hp none none
-- 248: PlainPacksModel.writeRest()V (depth 1)
theorem mm_own_248 : mm_own 248 = 12 := rfl
set_option maxRecDepth 8000 in
set_option maxHeartbeats 4000000 in
theorem ms_248 {L : Nat} {xs : Nat → Int32} {d : Nat} (hd : 1 ≤ d) {M : mm_M} {q : (Unit ⊕ Nat) × mm_M} {o : mm_E} (h : mf_248 M = some q) (hA : mm_A (mm_Kr mm_wv) q o) : mm_Runs L xs d 248 (0, mm_ent (mm_ml 248) [.ref 84], [], M) o := by
  unfold mf_248 at h
  obtain ⟨d, rfl⟩ := mm_d1 (n := 0) hd
  show mm_Runs L xs (d + 1) 248 (0, [some (.ref 84)], [], M) o
  refine mm_Runs.seq (l := [(0, .aload_n 0, 1), (1, .getfield 415, 3)]) (S2 := (4, [some (.ref 84)], [.int (M.1 84 43)], M)) (by decide +kernel) (hO := mm_own_248) rfl ?_
  refine mm_R_zle (t := 15) rfl rfl rfl (fun hc => ?_) (fun hc => ?_)
  · replace h := mm_ip hc h
    refine mm_Runs.seq (l := [(7, .aload_n 0, 1), (8, .aload_n 0, 1), (9, .getfield 412, 3)]) (S2 := (12, [some (.ref 84)], [.int (M.1 84 42), .ref 84], M)) (by decide +kernel) (hO := mm_own_248) rfl ?_
    refine mm_R_call (v := mm_wv) h hA (k2 := 245) (as := [.ref 84, .int (M.1 84 42)]) (r := []) rfl (fun _ => rfl) (fun q hq o ho => ms_245 (by omega) hq ho) (fun _ M1 h => ?_)
    show mm_Runs L xs (d + 1) 248 (15, [some (.ref 84)], [], M1) o
    refine mm_Runs.seq (l := [(15, .aload_n 0, 1), (16, .iconst 0, 1), (17, .putfield 412, 3), (20, .aload_n 0, 1), (21, .iconst 0, 1), (22, .putfield 415, 3)]) (S2 := (25, [some (.ref 84)], [], (mm_pi (mm_pi M1 84 42 (0 : Int32)) 84 43 (0 : Int32)))) (by decide +kernel) (hO := mm_own_248) rfl ?_
    cases h
    exact mm_R_retv rfl rfl hA
  · replace h := mm_iq hc h
    refine mm_Runs.seq (l := [(15, .aload_n 0, 1), (16, .iconst 0, 1), (17, .putfield 412, 3), (20, .aload_n 0, 1), (21, .iconst 0, 1), (22, .putfield 415, 3)]) (S2 := (25, [some (.ref 84)], [], (mm_pi (mm_pi M 84 42 (0 : Int32)) 84 43 (0 : Int32)))) (by decide +kernel) (hO := mm_own_248) rfl ?_
    cases h
    exact mm_R_retv rfl rfl hA
-- 247: PlainPacksModel.writeBit(I)V (depth 2)
theorem mm_own_247 : mm_own 247 = 12 := rfl
def mp_247_30 (L : Nat) (xs : Nat → Int32) (d : Nat) (s1 : Int32) (s2 : Int32) (M : mm_M) (o : mm_E) : Prop := ∀ z1 : Option Value, mm_Runs L xs d 247 (30, [some (.ref 84), z1], [.int s2, .int s1, .ref 84], M) o
set_option maxRecDepth 8000 in
set_option maxHeartbeats 4000000 in
theorem ms_247_j30 {L : Nat} {xs : Nat → Int32} {d : Nat} (hd : 2 ≤ d) {s1 : Int32} {s2 : Int32} {M : mm_M} {q : (Unit ⊕ Nat) × mm_M} {o : mm_E} (h : mf_247_j30 s1 s2 M = some q) (hA : mm_A (mm_Kr mm_wv) q o) : mp_247_30 L xs d s1 s2 M o := by
  unfold mf_247_j30 at h
  obtain ⟨d, rfl⟩ := mm_d1 (n := 1) hd
  intro z1
  show mm_Runs L xs (d + 1) 247 (30, [some (.ref 84), z1], [.int s2, .int s1, .ref 84], M) o
  refine mm_Runs.seq (l := [(30, .ior, 1), (31, .putfield 412, 3), (34, .aload_n 0, 1), (35, .dup, 1), (36, .getfield 415, 3), (39, .iconst 1, 1), (40, .iadd, 1), (41, .putfield 415, 3), (44, .aload_n 0, 1), (45, .getfield 415, 3), (48, .bipush 8, 2)]) (S2 := (50, [some (.ref 84), z1], [.int (8 : Int32), .int ((M.1 84 43) + (1 : Int32))], (mm_pi (mm_pi M 84 42 (s1 ||| s2)) 84 43 ((M.1 84 43) + (1 : Int32))))) (by decide +kernel) (hO := mm_own_247) rfl ?_
  refine mm_R_ine (t := 57) rfl rfl rfl (fun hc => ?_) (fun hc => ?_)
  · replace h := mm_ip hc h
    refine mm_Runs.seq (l := [(53, .aload_n 0, 1)]) (S2 := (54, [some (.ref 84), z1], [.ref 84], (mm_pi (mm_pi M 84 42 (s1 ||| s2)) 84 43 ((M.1 84 43) + (1 : Int32))))) (by decide +kernel) (hO := mm_own_247) rfl ?_
    refine mm_R_call (v := mm_wv) h hA (k2 := 248) (as := [.ref 84]) (r := []) rfl (fun _ => rfl) (fun q hq o ho => ms_248 (by omega) hq ho) (fun _ M1 h => ?_)
    show mm_Runs L xs (d + 1) 247 (57, [some (.ref 84), z1], [], M1) o
    cases h
    exact mm_R_retv rfl rfl hA
  · replace h := mm_iq hc h
    cases h
    exact mm_R_retv rfl rfl hA
set_option maxRecDepth 8000 in
set_option maxHeartbeats 4000000 in
theorem ms_247 {L : Nat} {xs : Nat → Int32} {d : Nat} (hd : 2 ≤ d) {v1 : Int32} {M : mm_M} {q : (Unit ⊕ Nat) × mm_M} {o : mm_E} (h : mf_247 v1 M = some q) (hA : mm_A (mm_Kr mm_wv) q o) : mm_Runs L xs d 247 (0, mm_ent (mm_ml 247) [.ref 84, .int v1], [], M) o := by
  unfold mf_247 at h
  obtain ⟨d, rfl⟩ := mm_d1 (n := 1) hd
  show mm_Runs L xs (d + 1) 247 (0, [some (.ref 84), some (.int v1)], [], M) o
  refine mm_Runs.seq (l := [(0, .aload_n 0, 1), (1, .dup, 1), (2, .getfield 412, 3), (5, .aload_n 0, 1), (6, .getfield 178, 3)]) (S2 := (9, [some (.ref 84), some (.int v1)], [.int (M.1 84 13), .int (M.1 84 42), .ref 84], M)) (by decide +kernel) (hO := mm_own_247) rfl ?_
  refine mm_R_zeq (t := 24) rfl rfl rfl (fun hc => ?_) (fun hc => ?_)
  · replace h := mm_ip hc h
    refine mm_Runs.seq (l := [(24, .iload_n 1, 1), (25, .aload_n 0, 1), (26, .getfield 415, 3), (29, .ishl, 1)]) (S2 := (30, [some (.ref 84), some (.int v1)], [.int (mm_shl v1 (M.1 84 43)), .int (M.1 84 42), .ref 84], M)) (by decide +kernel) (hO := mm_own_247) rfl ?_
    exact (ms_247_j30 hd h hA : mp_247_30 L xs (d + 1) (M.1 84 42) (mm_shl v1 (M.1 84 43)) M o) (some (.int v1))
  · replace h := mm_iq hc h
    refine mm_Runs.seq (l := [(12, .iload_n 1, 1), (13, .bipush 7, 2), (15, .aload_n 0, 1), (16, .getfield 415, 3), (19, .isub, 1), (20, .ishl, 1), (21, .goto 9, 3)]) (S2 := (30, [some (.ref 84), some (.int v1)], [.int (mm_shl v1 ((7 : Int32) - (M.1 84 43))), .int (M.1 84 42), .ref 84], M)) (by decide +kernel) (hO := mm_own_247) rfl ?_
    exact (ms_247_j30 hd h hA : mp_247_30 L xs (d + 1) (M.1 84 42) (mm_shl v1 ((7 : Int32) - (M.1 84 43))) M o) (some (.int v1))
-- 249: PlainPacksModel.writeBits(JIZ)V (depth 3)
theorem mm_own_249 : mm_own 249 = 12 := rfl
def mp_249_3 (L : Nat) (xs : Nat → Int32) (d : Nat) (v1 : Int64) (v3 : Int32) (v4 : Int32) (v5 : Int32) (M : mm_M) (o : mm_E) : Prop := ∀ z2 : Option Value, mm_Runs L xs d 249 (3, [some (.ref 84), some (.long v1), z2, some (.int v3), some (.int v4), some (.int v5)], [], M) o
def mp_249_40 (L : Nat) (xs : Nat → Int32) (d : Nat) (M : mm_M) (o : mm_E) : Prop := ∀ z0 z1 z2 z3 z4 z5 : Option Value, mm_Runs L xs d 249 (40, [z0, z1, z2, z3, z4, z5], [], M) o
def mp_249_27 (L : Nat) (xs : Nat → Int32) (d : Nat) (v1 : Int64) (v3 : Int32) (v4 : Int32) (v5 : Int32) (s1 : Int64) (s2 : Int32) (M : mm_M) (o : mm_E) : Prop := ∀ z2 : Option Value, mm_Runs L xs d 249 (27, [some (.ref 84), some (.long v1), z2, some (.int v3), some (.int v4), some (.int v5)], [.int s2, .long s1, .ref 84], M) o
set_option maxRecDepth 8000 in
set_option maxHeartbeats 4000000 in
theorem ms_249_j27 {L : Nat} {xs : Nat → Int32} {d : Nat} (hd : 3 ≤ d) {v1 : Int64} {v3 : Int32} {v4 : Int32} {v5 : Int32} {s1 : Int64} {s2 : Int32} {M : mm_M} {q : (((Int32) ⊕ (Unit)) ⊕ Nat) × mm_M} {o : mm_E} (h : mf_249_j27 v1 v3 v4 v5 s1 s2 M = some q) (hA : mm_A (mm_K2 (fun s M o => mp_249_3 L xs (d) v1 v3 v4 s M o) (fun r M o => mp_249_40 L xs (d) M o)) q o) : mp_249_27 L xs d v1 v3 v4 v5 s1 s2 M o := by
  unfold mf_249_j27 at h
  obtain ⟨d, rfl⟩ := mm_d1 (n := 2) hd
  intro z2
  show mm_Runs L xs (d + 1) 249 (27, [some (.ref 84), some (.long v1), z2, some (.int v3), some (.int v4), some (.int v5)], [.int s2, .long s1, .ref 84], M) o
  refine mm_Runs.seq (l := [(27, .lshr, 1), (28, .l2i, 1), (29, .iconst 1, 1), (30, .iand, 1)]) (S2 := (31, [some (.ref 84), some (.long v1), z2, some (.int v3), some (.int v4), some (.int v5)], [.int ((mm_lshr s1 s2).toInt32 &&& (1 : Int32)), .ref 84], M)) (by decide +kernel) (hO := mm_own_249) rfl ?_
  refine mm_R_call (v := mm_wv) h hA (k2 := 247) (as := [.ref 84, .int ((mm_lshr s1 s2).toInt32 &&& (1 : Int32))]) (r := []) rfl (fun _ => rfl) (fun q hq o ho => ms_247 (by omega) hq ho) (fun _ M1 h => ?_)
  show mm_Runs L xs (d + 1) 249 (34, [some (.ref 84), some (.long v1), z2, some (.int v3), some (.int v4), some (.int v5)], [], M1) o
  refine mm_Runs.seq (l := [(34, .iinc 5 1, 3), (37, .goto (-34), 3)]) (S2 := (3, [some (.ref 84), some (.long v1), z2, some (.int v3), some (.int v4), some (.int (v5 + (1 : Int32)))], [], M1)) (by decide +kernel) (hO := mm_own_249) rfl ?_
  cases h
  exact (show mp_249_3 L xs (d + 1) v1 v3 v4 (v5 + (1 : Int32)) M1 o from hA) z2
set_option maxRecDepth 8000 in
set_option maxHeartbeats 4000000 in
theorem ms_249_b3 {L : Nat} {xs : Nat → Int32} {d : Nat} (hd : 3 ≤ d) {v1 : Int64} {v3 : Int32} {v4 : Int32} {v5 : Int32} {M : mm_M} {q : (((Int32) ⊕ (Unit)) ⊕ Nat) × mm_M} {o : mm_E} (h : mf_249_b3 v1 v3 v4 v5 M = some q) (hA : mm_A (mm_K2 (fun s M o => mp_249_3 L xs (d) v1 v3 v4 s M o) (fun r M o => mp_249_40 L xs (d) M o)) q o) : mp_249_3 L xs d v1 v3 v4 v5 M o := by
  unfold mf_249_b3 at h
  obtain ⟨d, rfl⟩ := mm_d1 (n := 2) hd
  intro z2
  show mm_Runs L xs (d + 1) 249 (3, [some (.ref 84), some (.long v1), z2, some (.int v3), some (.int v4), some (.int v5)], [], M) o
  refine mm_Runs.seq (l := [(3, .iload 5, 2), (5, .iload_n 3, 1)]) (S2 := (6, [some (.ref 84), some (.long v1), z2, some (.int v3), some (.int v4), some (.int v5)], [.int v3, .int v5], M)) (by decide +kernel) (hO := mm_own_249) rfl ?_
  refine mm_R_ige (t := 40) rfl rfl rfl (fun hc => ?_) (fun hc => ?_)
  · replace h := mm_ip hc h
    refine mm_Runs.seq (l := [(9, .aload_n 0, 1), (10, .lload_n 1, 1), (11, .iload 4, 2)]) (S2 := (13, [some (.ref 84), some (.long v1), z2, some (.int v3), some (.int v4), some (.int v5)], [.int v4, .long v1, .ref 84], M)) (by decide +kernel) (hO := mm_own_249) rfl ?_
    refine mm_R_zeq (t := 25) rfl rfl rfl (fun hc => ?_) (fun hc => ?_)
    · replace h := mm_ip hc h
      refine mm_Runs.seq (l := [(25, .iload 5, 2)]) (S2 := (27, [some (.ref 84), some (.long v1), z2, some (.int v3), some (.int v4), some (.int v5)], [.int v5, .long v1, .ref 84], M)) (by decide +kernel) (hO := mm_own_249) rfl ?_
      exact (ms_249_j27 hd h hA : mp_249_27 L xs (d + 1) v1 v3 v4 v5 v1 v5 M o) z2
    · replace h := mm_iq hc h
      refine mm_Runs.seq (l := [(16, .iload_n 3, 1), (17, .iconst 1, 1), (18, .isub, 1), (19, .iload 5, 2), (21, .isub, 1), (22, .goto 5, 3)]) (S2 := (27, [some (.ref 84), some (.long v1), z2, some (.int v3), some (.int v4), some (.int v5)], [.int ((v3 - (1 : Int32)) - v5), .long v1, .ref 84], M)) (by decide +kernel) (hO := mm_own_249) rfl ?_
      exact (ms_249_j27 hd h hA : mp_249_27 L xs (d + 1) v1 v3 v4 v5 v1 ((v3 - (1 : Int32)) - v5) M o) z2
  · replace h := mm_iq hc h
    cases h
    exact (show mp_249_40 L xs (d + 1) M o from hA) (some (.ref 84)) (some (.long v1)) z2 (some (.int v3)) (some (.int v4)) (some (.int v5))
theorem ms_249_L3 {L : Nat} {xs : Nat → Int32} {d : Nat} (hd : 3 ≤ d) {v1 : Int64} {v3 : Int32} {v4 : Int32} {v5 : Int32} {β : Type} {K : β → mm_M → mm_E → Prop} {F : (Unit) → mm_M → mm_O β} {M : mm_M} {q : (β ⊕ Nat) × mm_M} {o : mm_E} (h : mm_B (mf_249_L3 v1 v3 v4 v5 M) F = some q) (hA : mm_A K q o) (hx : ∀ (r : (Unit)) (M2 : mm_M), F r M2 = some q → (fun r M o => mp_249_40 L xs (d) M o) r M2 o) : mp_249_3 L xs d v1 v3 v4 v5 M o := by
  unfold mf_249_L3 at h
  exact mm_R_loop (step := (fun s M => mf_249_b3 v1 v3 v4 s M)) (s := v5) (M := M) (P := (fun s M o => mp_249_3 L xs (d) v1 v3 v4 s M o)) (X := (fun r M o => mp_249_40 L xs (d) M o)) h hA (fun s M q hq hA => ms_249_b3 (v1 := v1) (v3 := v3) (v4 := v4) (v5 := s) (M := M) (q := q) hd hq hA) hx
set_option maxRecDepth 8000 in
set_option maxHeartbeats 4000000 in
theorem ms_249 {L : Nat} {xs : Nat → Int32} {d : Nat} (hd : 3 ≤ d) {v1 : Int64} {v3 : Int32} {v4 : Int32} {M : mm_M} {q : (Unit ⊕ Nat) × mm_M} {o : mm_E} (h : mf_249 v1 v3 v4 M = some q) (hA : mm_A (mm_Kr mm_wv) q o) : mm_Runs L xs d 249 (0, mm_ent (mm_ml 249) [.ref 84, .long v1, .int v3, .int v4], [], M) o := by
  unfold mf_249 at h
  obtain ⟨d, rfl⟩ := mm_d1 (n := 2) hd
  show mm_Runs L xs (d + 1) 249 (0, [some (.ref 84), some (.long v1), none, some (.int v3), some (.int v4), none], [], M) o
  refine mm_Runs.seq (l := [(0, .iconst 0, 1), (1, .istore 5, 2)]) (S2 := (3, [some (.ref 84), some (.long v1), none, some (.int v3), some (.int v4), some (.int (0 : Int32))], [], M)) (by decide +kernel) (hO := mm_own_249) rfl ?_
  have hp : mp_249_3 L xs (d + 1) v1 v3 v4 (0 : Int32) M o := by
    refine ms_249_L3 hd h hA (fun r2 M1 h => ?_)
    intro y3 y4 y5 y6 y7 y8
    show mm_Runs L xs (d + 1) 249 (40, [y3, y4, y5, y6, y7, y8], [], M1) o
    cases h
    exact mm_R_retv rfl rfl hA
  exact hp none
