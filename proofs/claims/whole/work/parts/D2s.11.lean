/-! MEANINGS ARE SOUND 11 -/
-- 161: PlainPacks$Chances.bit(I)I (depth 8)
theorem mm_own_161 : mm_own 161 = 11 := rfl
def mp_161_90 (L : Nat) (xs : Nat → Int32) (d : Nat) (v5 : Int32) (M : mm_M) (o : mm_E) : Prop := ∀ z1 z2 z3 z4 : Option Value, mm_Runs L xs d 161 (90, [some (.ref 80), z1, z2, z3, z4, some (.int v5)], [], M) o
set_option maxRecDepth 8000 in
set_option maxHeartbeats 4000000 in
theorem ms_161_j90 {L : Nat} {xs : Nat → Int32} {d : Nat} (hd : 8 ≤ d) {v5 : Int32} {M : mm_M} {q : (Int32 ⊕ Nat) × mm_M} {o : mm_E} (h : mf_161_j90 v5 M = some q) (hA : mm_A (mm_Kr mm_wi) q o) : mp_161_90 L xs d v5 M o := by
  unfold mf_161_j90 at h
  obtain ⟨d, rfl⟩ := mm_d1 (n := 7) hd
  intro z1 z2 z3 z4
  show mm_Runs L xs (d + 1) 161 (90, [some (.ref 80), z1, z2, z3, z4, some (.int v5)], [], M) o
  refine mm_Runs.seq (l := [(90, .aload_n 0, 1), (91, .getfield 35, 3), (94, .ldc2_w 119, 3)]) (S2 := (97, [some (.ref 80), z1, z2, z3, z4, some (.int v5)], [.long (16777216 : Int64), .long (M.2.1 80 4)], M)) (by decide +kernel) (hO := mm_own_161) rfl ?_
  refine mm_R_lge (t := 138) rfl rfl rfl rfl (fun hc => ?_) (fun hc => ?_)
  · replace h := mm_ip hc h
    refine mm_Runs.seq (l := [(101, .aload_n 0, 1), (102, .dup, 1), (103, .getfield 35, 3), (106, .ldc2_w 121, 3), (109, .lmul, 1), (110, .putfield 35, 3), (113, .aload_n 0, 1), (114, .aload_n 0, 1), (115, .getfield 75, 3), (118, .ldc2_w 121, 3), (121, .lmul, 1), (122, .ldc2_w 33, 3), (125, .land, 1), (126, .aload_n 0, 1), (127, .getfield 15, 3)]) (S2 := (130, [some (.ref 80), z1, z2, z3, z4, some (.int v5)], [.ref 1, .long (((M.2.1 80 5) * (256 : Int64)) &&& (4294967295 : Int64)), .ref 80], (mm_pl M 80 4 ((M.2.1 80 4) * (256 : Int64))))) (by decide +kernel) (hO := mm_own_161) rfl ?_
    refine mm_R_call (v := mm_wi) h hA (k2 := 44) (as := [.ref 1]) (r := [.long (((M.2.1 80 5) * (256 : Int64)) &&& (4294967295 : Int64)), .ref 80]) rfl (fun _ => rfl) (fun q hq o ho => ms_44 (by omega) hq ho) (fun r1 M2 h => ?_)
    show mm_Runs L xs (d + 1) 161 (133, [some (.ref 80), z1, z2, z3, z4, some (.int v5)], [.int r1, .long (((M.2.1 80 5) * (256 : Int64)) &&& (4294967295 : Int64)), .ref 80], M2) o
    refine mm_Runs.seq (l := [(133, .i2l, 1), (134, .ladd, 1), (135, .putfield 75, 3), (138, .iload 5, 2)]) (S2 := (140, [some (.ref 80), z1, z2, z3, z4, some (.int v5)], [.int v5], (mm_pl M2 80 5 ((((M.2.1 80 5) * (256 : Int64)) &&& (4294967295 : Int64)) + r1.toInt64)))) (by decide +kernel) (hO := mm_own_161) rfl ?_
    cases h
    exact mm_R_reti rfl rfl hA
  · replace h := mm_iq hc h
    refine mm_Runs.seq (l := [(138, .iload 5, 2)]) (S2 := (140, [some (.ref 80), z1, z2, z3, z4, some (.int v5)], [.int v5], M)) (by decide +kernel) (hO := mm_own_161) rfl ?_
    cases h
    exact mm_R_reti rfl rfl hA
set_option maxRecDepth 8000 in
set_option maxHeartbeats 4000000 in
theorem ms_161 {L : Nat} {xs : Nat → Int32} {d : Nat} (hd : 8 ≤ d) {v1 : Int32} {M : mm_M} {q : (Int32 ⊕ Nat) × mm_M} {o : mm_E} (h : mf_161 v1 M = some q) (hA : mm_A (mm_Kr mm_wi) q o) : mm_Runs L xs d 161 (0, mm_ent (mm_ml 161) [.ref 80, .int v1], [], M) o := by
  unfold mf_161 at h
  obtain ⟨d, rfl⟩ := mm_d1 (n := 7) hd
  show mm_Runs L xs (d + 1) 161 (0, [some (.ref 80), some (.int v1), none, none, none, none], [], M) o
  refine mm_Runs.seq (l := [(0, .aload_n 0, 1), (1, .getfield 11, 3), (4, .iload_n 1, 1)]) (S2 := (5, [some (.ref 80), some (.int v1), none, none, none, none], [.int v1, .ref 81], M)) (by decide +kernel) (hO := mm_own_161) rfl ?_
  obtain ⟨hb, h⟩ := mm_gd h
  refine mm_R_iald rfl rfl hb ?_
  refine mm_Runs.seq (l := [(6, .istore_n 2, 1), (7, .aload_n 0, 1), (8, .getfield 35, 3), (11, .ldc2_w 117, 3), (14, .ldiv, 1), (15, .iload_n 2, 1), (16, .i2l, 1), (17, .lmul, 1), (18, .lstore_n 3, 1), (19, .iconst 0, 1), (20, .istore 5, 2), (22, .aload_n 0, 1), (23, .getfield 75, 3), (26, .lload_n 3, 1)]) (S2 := (27, [some (.ref 80), some (.int v1), some (.int (M.1 81 v1.toNatClampNeg)), some (.long (((M.2.1 80 4) / (2048 : Int64)) * (M.1 81 v1.toNatClampNeg).toInt64)), none, some (.int (0 : Int32))], [.long (((M.2.1 80 4) / (2048 : Int64)) * (M.1 81 v1.toNatClampNeg).toInt64), .long (M.2.1 80 5)], M)) (by decide +kernel) (hO := mm_own_161) rfl ?_
  refine mm_R_lge (t := 55) rfl rfl rfl rfl (fun hc => ?_) (fun hc => ?_)
  · replace h := mm_ip hc h
    refine mm_Runs.seq (l := [(31, .aload_n 0, 1), (32, .lload_n 3, 1), (33, .putfield 35, 3), (36, .aload_n 0, 1), (37, .getfield 11, 3), (40, .iload_n 1, 1), (41, .iload_n 2, 1), (42, .sipush 2048, 3), (45, .iload_n 2, 1), (46, .isub, 1), (47, .bipush 32, 2), (49, .idiv, 1), (50, .iadd, 1)]) (S2 := (51, [some (.ref 80), some (.int v1), some (.int (M.1 81 v1.toNatClampNeg)), some (.long (((M.2.1 80 4) / (2048 : Int64)) * (M.1 81 v1.toNatClampNeg).toInt64)), none, some (.int (0 : Int32))], [.int ((M.1 81 v1.toNatClampNeg) + (((2048 : Int32) - (M.1 81 v1.toNatClampNeg)) / (32 : Int32))), .int v1, .ref 81], (mm_pl M 80 4 (((M.2.1 80 4) / (2048 : Int64)) * (M.1 81 v1.toNatClampNeg).toInt64)))) (by decide +kernel) (hO := mm_own_161) rfl ?_
    obtain ⟨hb, h⟩ := mm_gd h
    refine mm_R_iast rfl rfl hb ?_
    refine mm_Runs.seq (l := [(52, .goto 38, 3)]) (S2 := (90, [some (.ref 80), some (.int v1), some (.int (M.1 81 v1.toNatClampNeg)), some (.long (((M.2.1 80 4) / (2048 : Int64)) * (M.1 81 v1.toNatClampNeg).toInt64)), none, some (.int (0 : Int32))], [], (mm_pi (mm_pl M 80 4 (((M.2.1 80 4) / (2048 : Int64)) * (M.1 81 v1.toNatClampNeg).toInt64)) 81 v1.toNatClampNeg ((M.1 81 v1.toNatClampNeg) + (((2048 : Int32) - (M.1 81 v1.toNatClampNeg)) / (32 : Int32)))))) (by decide +kernel) (hO := mm_own_161) rfl ?_
    exact (ms_161_j90 hd h hA : mp_161_90 L xs (d + 1) (0 : Int32) (mm_pi (mm_pl M 80 4 (((M.2.1 80 4) / (2048 : Int64)) * (M.1 81 v1.toNatClampNeg).toInt64)) 81 v1.toNatClampNeg ((M.1 81 v1.toNatClampNeg) + (((2048 : Int32) - (M.1 81 v1.toNatClampNeg)) / (32 : Int32)))) o) (some (.int v1)) (some (.int (M.1 81 v1.toNatClampNeg))) (some (.long (((M.2.1 80 4) / (2048 : Int64)) * (M.1 81 v1.toNatClampNeg).toInt64))) none
  · replace h := mm_iq hc h
    refine mm_Runs.seq (l := [(55, .iconst 1, 1), (56, .istore 5, 2), (58, .aload_n 0, 1), (59, .dup, 1), (60, .getfield 75, 3), (63, .lload_n 3, 1), (64, .lsub, 1), (65, .putfield 75, 3), (68, .aload_n 0, 1), (69, .dup, 1), (70, .getfield 35, 3), (73, .lload_n 3, 1), (74, .lsub, 1), (75, .putfield 35, 3), (78, .aload_n 0, 1), (79, .getfield 11, 3), (82, .iload_n 1, 1), (83, .iload_n 2, 1), (84, .iload_n 2, 1), (85, .bipush 32, 2), (87, .idiv, 1), (88, .isub, 1)]) (S2 := (89, [some (.ref 80), some (.int v1), some (.int (M.1 81 v1.toNatClampNeg)), some (.long (((M.2.1 80 4) / (2048 : Int64)) * (M.1 81 v1.toNatClampNeg).toInt64)), none, some (.int (1 : Int32))], [.int ((M.1 81 v1.toNatClampNeg) - ((M.1 81 v1.toNatClampNeg) / (32 : Int32))), .int v1, .ref 81], (mm_pl (mm_pl M 80 5 ((M.2.1 80 5) - (((M.2.1 80 4) / (2048 : Int64)) * (M.1 81 v1.toNatClampNeg).toInt64))) 80 4 ((M.2.1 80 4) - (((M.2.1 80 4) / (2048 : Int64)) * (M.1 81 v1.toNatClampNeg).toInt64))))) (by decide +kernel) (hO := mm_own_161) rfl ?_
    obtain ⟨hb, h⟩ := mm_gd h
    refine mm_R_iast rfl rfl hb ?_
    exact (ms_161_j90 hd h hA : mp_161_90 L xs (d + 1) (1 : Int32) (mm_pi (mm_pl (mm_pl M 80 5 ((M.2.1 80 5) - (((M.2.1 80 4) / (2048 : Int64)) * (M.1 81 v1.toNatClampNeg).toInt64))) 80 4 ((M.2.1 80 4) - (((M.2.1 80 4) / (2048 : Int64)) * (M.1 81 v1.toNatClampNeg).toInt64))) 81 v1.toNatClampNeg ((M.1 81 v1.toNatClampNeg) - ((M.1 81 v1.toNatClampNeg) / (32 : Int32)))) o) (some (.int v1)) (some (.int (M.1 81 v1.toNatClampNeg))) (some (.long (((M.2.1 80 4) / (2048 : Int64)) * (M.1 81 v1.toNatClampNeg).toInt64))) none
-- 165: PlainPacks$Chances.readByte()V (depth 9)
theorem mm_own_165 : mm_own 165 = 11 := rfl
def mp_165_27 (L : Nat) (xs : Nat → Int32) (d : Nat) (v1 : Int32) (s0 : Int32) (M : mm_M) (o : mm_E) : Prop := ∀ z2 z3 z4 z5 z6 z7 z8 z9 z10 : Option Value, mm_Runs L xs d 165 (27, [some (.ref 80), some (.int v1), z2, z3, z4, z5, z6, z7, z8, z9, z10], [.int s0], M) o
def mp_165_178 (L : Nat) (xs : Nat → Int32) (d : Nat) (v4 : Int32) (v5 : Int32) (M : mm_M) (o : mm_E) : Prop := ∀ z1 z2 z3 z6 z7 z8 z9 z10 : Option Value, mm_Runs L xs d 165 (178, [some (.ref 80), z1, z2, z3, some (.int v4), some (.int v5), z6, z7, z8, z9, z10], [], M) o
def mp_165_205 (L : Nat) (xs : Nat → Int32) (d : Nat) (v5 : Int32) (M : mm_M) (o : mm_E) : Prop := ∀ z1 z2 z3 z4 z6 z7 z8 z9 z10 : Option Value, mm_Runs L xs d 165 (205, [some (.ref 80), z1, z2, z3, z4, some (.int v5), z6, z7, z8, z9, z10], [], M) o
set_option maxRecDepth 8000 in
set_option maxHeartbeats 4000000 in
theorem ms_165_b178 {L : Nat} {xs : Nat → Int32} {d : Nat} (hd : 9 ≤ d) {v4 : Int32} {v5 : Int32} {M : mm_M} {q : (((Int32) ⊕ (Int32)) ⊕ Nat) × mm_M} {o : mm_E} (h : mf_165_b178 v4 v5 M = some q) (hA : mm_A (mm_K2 (fun s M o => mp_165_178 L xs (d) v4 s M o) (fun r M o => mp_165_205 L xs (d) r M o)) q o) : mp_165_178 L xs d v4 v5 M o := by
  unfold mf_165_b178 at h
  obtain ⟨d, rfl⟩ := mm_d1 (n := 8) hd
  intro z1 z2 z3 z6 z7 z8 z9 z10
  show mm_Runs L xs (d + 1) 165 (178, [some (.ref 80), z1, z2, z3, some (.int v4), some (.int v5), z6, z7, z8, z9, z10], [], M) o
  refine mm_Runs.seq (l := [(178, .iload 5, 2), (180, .sipush 256, 3)]) (S2 := (183, [some (.ref 80), z1, z2, z3, some (.int v4), some (.int v5), z6, z7, z8, z9, z10], [.int (256 : Int32), .int v5], M)) (by decide +kernel) (hO := mm_own_165) rfl ?_
  refine mm_R_ige (t := 205) rfl rfl rfl (fun hc => ?_) (fun hc => ?_)
  · replace h := mm_ip hc h
    refine mm_Runs.seq (l := [(186, .iconst 2, 1), (187, .iload 5, 2), (189, .imul, 1), (190, .aload_n 0, 1), (191, .iload 4, 2), (193, .iload 5, 2), (195, .iadd, 1)]) (S2 := (196, [some (.ref 80), z1, z2, z3, some (.int v4), some (.int v5), z6, z7, z8, z9, z10], [.int (v4 + v5), .ref 80, .int ((2 : Int32) * v5)], M)) (by decide +kernel) (hO := mm_own_165) rfl ?_
    refine mm_R_call (v := mm_wi) h hA (k2 := 161) (as := [.ref 80, .int (v4 + v5)]) (r := [.int ((2 : Int32) * v5)]) rfl (fun _ => rfl) (fun q hq o ho => ms_161 (by omega) hq ho) (fun r1 M2 h => ?_)
    show mm_Runs L xs (d + 1) 165 (199, [some (.ref 80), z1, z2, z3, some (.int v4), some (.int v5), z6, z7, z8, z9, z10], [.int r1, .int ((2 : Int32) * v5)], M2) o
    refine mm_Runs.seq (l := [(199, .iadd, 1), (200, .istore 5, 2), (202, .goto (-24), 3)]) (S2 := (178, [some (.ref 80), z1, z2, z3, some (.int v4), some (.int (((2 : Int32) * v5) + r1)), z6, z7, z8, z9, z10], [], M2)) (by decide +kernel) (hO := mm_own_165) rfl ?_
    cases h
    exact (show mp_165_178 L xs (d + 1) v4 (((2 : Int32) * v5) + r1) M2 o from hA) z1 z2 z3 z6 z7 z8 z9 z10
  · replace h := mm_iq hc h
    cases h
    exact (show mp_165_205 L xs (d + 1) v5 M o from hA) z1 z2 z3 (some (.int v4)) z6 z7 z8 z9 z10
theorem ms_165_L178 {L : Nat} {xs : Nat → Int32} {d : Nat} (hd : 9 ≤ d) {v4 : Int32} {v5 : Int32} {β : Type} {K : β → mm_M → mm_E → Prop} {F : (Int32) → mm_M → mm_O β} {M : mm_M} {q : (β ⊕ Nat) × mm_M} {o : mm_E} (h : mm_B (mf_165_L178 v4 v5 M) F = some q) (hA : mm_A K q o) (hx : ∀ (r : (Int32)) (M2 : mm_M), F r M2 = some q → (fun r M o => mp_165_205 L xs (d) r M o) r M2 o) : mp_165_178 L xs d v4 v5 M o := by
  unfold mf_165_L178 at h
  exact mm_R_loop (step := (fun s M => mf_165_b178 v4 s M)) (s := v5) (M := M) (P := (fun s M o => mp_165_178 L xs (d) v4 s M o)) (X := (fun r M o => mp_165_205 L xs (d) r M o)) h hA (fun s M q hq hA => ms_165_b178 (v4 := v4) (v5 := s) (M := M) (q := q) hd hq hA) hx
def mp_165_245 (L : Nat) (xs : Nat → Int32) (d : Nat) (v5 : Int32) (M : mm_M) (o : mm_E) : Prop := ∀ z1 z2 z3 z4 z6 z7 z8 z9 z10 : Option Value, mm_Runs L xs d 165 (245, [some (.ref 80), z1, z2, z3, z4, some (.int v5), z6, z7, z8, z9, z10], [], M) o
set_option maxRecDepth 8000 in
set_option maxHeartbeats 4000000 in
theorem ms_165_j245 {L : Nat} {xs : Nat → Int32} {d : Nat} (hd : 9 ≤ d) {v5 : Int32} {M : mm_M} {q : (Unit ⊕ Nat) × mm_M} {o : mm_E} (h : mf_165_j245 v5 M = some q) (hA : mm_A (mm_Kr mm_wv) q o) : mp_165_245 L xs d v5 M o := by
  unfold mf_165_j245 at h
  obtain ⟨d, rfl⟩ := mm_d1 (n := 8) hd
  intro z1 z2 z3 z4 z6 z7 z8 z9 z10
  show mm_Runs L xs (d + 1) 165 (245, [some (.ref 80), z1, z2, z3, z4, some (.int v5), z6, z7, z8, z9, z10], [], M) o
  refine mm_Runs.seq (l := [(245, .aload_n 0, 1), (246, .getfield 19, 3), (249, .iload 5, 2), (251, .sipush 256, 3), (254, .isub, 1)]) (S2 := (255, [some (.ref 80), z1, z2, z3, z4, some (.int v5), z6, z7, z8, z9, z10], [.int (v5 - (256 : Int32)), .ref 3], M)) (by decide +kernel) (hO := mm_own_165) rfl ?_
  refine mm_R_call (v := mm_wv) h hA (k2 := 52) (as := [.ref 3, .int (v5 - (256 : Int32))]) (r := []) rfl (fun _ => rfl) (fun q hq o ho => ms_52 (by omega) hq ho) (fun _ M1 h => ?_)
  show mm_Runs L xs (d + 1) 165 (258, [some (.ref 80), z1, z2, z3, z4, some (.int v5), z6, z7, z8, z9, z10], [], M1) o
  cases h
  exact mm_R_retv rfl rfl hA
def mp_165_241 (L : Nat) (xs : Nat → Int32) (d : Nat) (v5 : Int32) (s1 : Int32) (s2 : Int32) (M : mm_M) (o : mm_E) : Prop := ∀ z1 z2 z3 z4 z6 z7 z8 z9 z10 : Option Value, mm_Runs L xs d 165 (241, [some (.ref 80), z1, z2, z3, z4, some (.int v5), z6, z7, z8, z9, z10], [.int s2, .int s1, .ref 80], M) o
set_option maxRecDepth 8000 in
set_option maxHeartbeats 4000000 in
theorem ms_165_j241 {L : Nat} {xs : Nat → Int32} {d : Nat} (hd : 9 ≤ d) {v5 : Int32} {s1 : Int32} {s2 : Int32} {M : mm_M} {q : (Unit ⊕ Nat) × mm_M} {o : mm_E} (h : mf_165_j241 v5 s1 s2 M = some q) (hA : mm_A (mm_Kr mm_wv) q o) : mp_165_241 L xs d v5 s1 s2 M o := by
  unfold mf_165_j241 at h
  obtain ⟨d, rfl⟩ := mm_d1 (n := 8) hd
  intro z1 z2 z3 z4 z6 z7 z8 z9 z10
  show mm_Runs L xs (d + 1) 165 (241, [some (.ref 80), z1, z2, z3, z4, some (.int v5), z6, z7, z8, z9, z10], [.int s2, .int s1, .ref 80], M) o
  refine mm_Runs.seq (l := [(241, .isub, 1), (242, .putfield 39, 3)]) (S2 := (245, [some (.ref 80), z1, z2, z3, z4, some (.int v5), z6, z7, z8, z9, z10], [], (mm_pi M 80 9 (s1 - s2)))) (by decide +kernel) (hO := mm_own_165) rfl ?_
  exact (ms_165_j245 hd h hA : mp_165_245 L xs (d + 1) v5 (mm_pi M 80 9 (s1 - s2)) o) z1 z2 z3 z4 z6 z7 z8 z9 z10
set_option maxRecDepth 8000 in
set_option maxHeartbeats 4000000 in
theorem ms_165_j205 {L : Nat} {xs : Nat → Int32} {d : Nat} (hd : 9 ≤ d) {v5 : Int32} {M : mm_M} {q : (Unit ⊕ Nat) × mm_M} {o : mm_E} (h : mf_165_j205 v5 M = some q) (hA : mm_A (mm_Kr mm_wv) q o) : mp_165_205 L xs d v5 M o := by
  unfold mf_165_j205 at h
  obtain ⟨d, rfl⟩ := mm_d1 (n := 8) hd
  intro z1 z2 z3 z4 z6 z7 z8 z9 z10
  show mm_Runs L xs (d + 1) 165 (205, [some (.ref 80), z1, z2, z3, z4, some (.int v5), z6, z7, z8, z9, z10], [], M) o
  refine mm_Runs.seq (l := [(205, .aload_n 0, 1), (206, .getfield 39, 3), (209, .iconst 4, 1)]) (S2 := (210, [some (.ref 80), z1, z2, z3, z4, some (.int v5), z6, z7, z8, z9, z10], [.int (4 : Int32), .int (M.1 80 9)], M)) (by decide +kernel) (hO := mm_own_165) rfl ?_
  refine mm_R_ige (t := 221) rfl rfl rfl (fun hc => ?_) (fun hc => ?_)
  · replace h := mm_ip hc h
    refine mm_Runs.seq (l := [(213, .aload_n 0, 1), (214, .iconst 0, 1), (215, .putfield 39, 3), (218, .goto 27, 3)]) (S2 := (245, [some (.ref 80), z1, z2, z3, z4, some (.int v5), z6, z7, z8, z9, z10], [], (mm_pi M 80 9 (0 : Int32)))) (by decide +kernel) (hO := mm_own_165) rfl ?_
    exact (ms_165_j245 hd h hA : mp_165_245 L xs (d + 1) v5 (mm_pi M 80 9 (0 : Int32)) o) z1 z2 z3 z4 z6 z7 z8 z9 z10
  · replace h := mm_iq hc h
    refine mm_Runs.seq (l := [(221, .aload_n 0, 1), (222, .dup, 1), (223, .getfield 39, 3), (226, .aload_n 0, 1), (227, .getfield 39, 3), (230, .bipush 10, 2)]) (S2 := (232, [some (.ref 80), z1, z2, z3, z4, some (.int v5), z6, z7, z8, z9, z10], [.int (10 : Int32), .int (M.1 80 9), .int (M.1 80 9), .ref 80], M)) (by decide +kernel) (hO := mm_own_165) rfl ?_
    refine mm_R_ige (t := 239) rfl rfl rfl (fun hc => ?_) (fun hc => ?_)
    · replace h := mm_ip hc h
      refine mm_Runs.seq (l := [(235, .iconst 3, 1), (236, .goto 5, 3)]) (S2 := (241, [some (.ref 80), z1, z2, z3, z4, some (.int v5), z6, z7, z8, z9, z10], [.int (3 : Int32), .int (M.1 80 9), .ref 80], M)) (by decide +kernel) (hO := mm_own_165) rfl ?_
      exact (ms_165_j241 hd h hA : mp_165_241 L xs (d + 1) v5 (M.1 80 9) (3 : Int32) M o) z1 z2 z3 z4 z6 z7 z8 z9 z10
    · replace h := mm_iq hc h
      refine mm_Runs.seq (l := [(239, .bipush 6, 2)]) (S2 := (241, [some (.ref 80), z1, z2, z3, z4, some (.int v5), z6, z7, z8, z9, z10], [.int (6 : Int32), .int (M.1 80 9), .ref 80], M)) (by decide +kernel) (hO := mm_own_165) rfl ?_
      exact (ms_165_j241 hd h hA : mp_165_241 L xs (d + 1) v5 (M.1 80 9) (6 : Int32) M o) z1 z2 z3 z4 z6 z7 z8 z9 z10
def mp_165_108 (L : Nat) (xs : Nat → Int32) (d : Nat) (v4 : Int32) (v5 : Int32) (v6 : Int32) (v7 : Int32) (v8 : Int32) (M : mm_M) (o : mm_E) : Prop := ∀ z1 z2 z3 z9 z10 : Option Value, mm_Runs L xs d 165 (108, [some (.ref 80), z1, z2, z3, some (.int v4), some (.int v5), some (.int v6), some (.int v7), some (.int v8), z9, z10], [], M) o
set_option maxRecDepth 8000 in
set_option maxHeartbeats 4000000 in
theorem ms_165_b108 {L : Nat} {xs : Nat → Int32} {d : Nat} (hd : 9 ≤ d) {v4 : Int32} {v5 : Int32} {v6 : Int32} {v7 : Int32} {v8 : Int32} {M : mm_M} {q : (((Int32 × Int32 × Int32) ⊕ (Int32)) ⊕ Nat) × mm_M} {o : mm_E} (h : mf_165_b108 v4 v5 v6 v7 v8 M = some q) (hA : mm_A (mm_K2 (fun s M o => mp_165_108 L xs (d) v4 s.1 v6 s.2.1 s.2.2 M o) (fun r M o => mp_165_178 L xs (d) v4 r M o)) q o) : mp_165_108 L xs d v4 v5 v6 v7 v8 M o := by
  unfold mf_165_b108 at h
  obtain ⟨d, rfl⟩ := mm_d1 (n := 8) hd
  intro z1 z2 z3 z9 z10
  show mm_Runs L xs (d + 1) 165 (108, [some (.ref 80), z1, z2, z3, some (.int v4), some (.int v5), some (.int v6), some (.int v7), some (.int v8), z9, z10], [], M) o
  refine mm_Runs.seq (l := [(108, .iload 8, 2)]) (S2 := (110, [some (.ref 80), z1, z2, z3, some (.int v4), some (.int v5), some (.int v6), some (.int v7), some (.int v8), z9, z10], [.int v8], M)) (by decide +kernel) (hO := mm_own_165) rfl ?_
  refine mm_R_zlt (t := 178) rfl rfl rfl (fun hc => ?_) (fun hc => ?_)
  · replace h := mm_ip hc h
    cases h
    exact (show mp_165_178 L xs (d + 1) v4 v5 M o from hA) z1 z2 z3 (some (.int v6)) (some (.int v7)) (some (.int v8)) z9 z10
  · replace h := mm_iq hc h
    refine mm_Runs.seq (l := [(113, .iload 7, 2)]) (S2 := (115, [some (.ref 80), z1, z2, z3, some (.int v4), some (.int v5), some (.int v6), some (.int v7), some (.int v8), z9, z10], [.int v7], M)) (by decide +kernel) (hO := mm_own_165) rfl ?_
    refine mm_R_zeq (t := 178) rfl rfl rfl (fun hc => ?_) (fun hc => ?_)
    · replace h := mm_ip hc h
      cases h
      exact (show mp_165_178 L xs (d + 1) v4 v5 M o from hA) z1 z2 z3 (some (.int v6)) (some (.int v7)) (some (.int v8)) z9 z10
    · replace h := mm_iq hc h
      refine mm_Runs.seq (l := [(118, .iload 6, 2), (120, .iload 8, 2), (122, .ishr, 1), (123, .iconst 1, 1), (124, .iand, 1), (125, .istore 9, 2), (127, .aload_n 0, 1), (128, .iload 4, 2), (130, .sipush 256, 3), (133, .iadd, 1), (134, .sipush 256, 3), (137, .iload 9, 2), (139, .imul, 1), (140, .iadd, 1), (141, .iload 5, 2), (143, .iadd, 1)]) (S2 := (144, [some (.ref 80), z1, z2, z3, some (.int v4), some (.int v5), some (.int v6), some (.int v7), some (.int v8), some (.int ((mm_shr v6 v8) &&& (1 : Int32))), z10], [.int (((v4 + (256 : Int32)) + ((256 : Int32) * ((mm_shr v6 v8) &&& (1 : Int32)))) + v5), .ref 80], M)) (by decide +kernel) (hO := mm_own_165) rfl ?_
      refine mm_R_call (v := mm_wi) h hA (k2 := 161) (as := [.ref 80, .int (((v4 + (256 : Int32)) + ((256 : Int32) * ((mm_shr v6 v8) &&& (1 : Int32)))) + v5)]) (r := []) rfl (fun _ => rfl) (fun q hq o ho => ms_161 (by omega) hq ho) (fun r1 M2 h => ?_)
      show mm_Runs L xs (d + 1) 165 (147, [some (.ref 80), z1, z2, z3, some (.int v4), some (.int v5), some (.int v6), some (.int v7), some (.int v8), some (.int ((mm_shr v6 v8) &&& (1 : Int32))), z10], [.int r1], M2) o
      refine mm_Runs.seq (l := [(147, .istore 10, 2), (149, .iconst 2, 1), (150, .iload 5, 2), (152, .imul, 1), (153, .iload 10, 2), (155, .iadd, 1), (156, .istore 5, 2), (158, .iload 10, 2), (160, .iload 9, 2)]) (S2 := (162, [some (.ref 80), z1, z2, z3, some (.int v4), some (.int (((2 : Int32) * v5) + r1)), some (.int v6), some (.int v7), some (.int v8), some (.int ((mm_shr v6 v8) &&& (1 : Int32))), some (.int r1)], [.int ((mm_shr v6 v8) &&& (1 : Int32)), .int r1], M2)) (by decide +kernel) (hO := mm_own_165) rfl ?_
      refine mm_R_ine (t := 169) rfl rfl rfl (fun hc => ?_) (fun hc => ?_)
      · replace h := mm_ip hc h
        refine mm_Runs.seq (l := [(165, .iconst 1, 1), (166, .goto 4, 3), (170, .istore 7, 2), (172, .iinc 8 (-1), 3), (175, .goto (-67), 3)]) (S2 := (108, [some (.ref 80), z1, z2, z3, some (.int v4), some (.int (((2 : Int32) * v5) + r1)), some (.int v6), some (.int (1 : Int32)), some (.int (v8 + (-1 : Int32))), some (.int ((mm_shr v6 v8) &&& (1 : Int32))), some (.int r1)], [], M2)) (by decide +kernel) (hO := mm_own_165) rfl ?_
        cases h
        exact (show mp_165_108 L xs (d + 1) v4 (((2 : Int32) * v5) + r1) v6 (1 : Int32) (v8 + (-1 : Int32)) M2 o from hA) z1 z2 z3 (some (.int ((mm_shr v6 v8) &&& (1 : Int32)))) (some (.int r1))
      · replace h := mm_iq hc h
        refine mm_Runs.seq (l := [(169, .iconst 0, 1), (170, .istore 7, 2), (172, .iinc 8 (-1), 3), (175, .goto (-67), 3)]) (S2 := (108, [some (.ref 80), z1, z2, z3, some (.int v4), some (.int (((2 : Int32) * v5) + r1)), some (.int v6), some (.int (0 : Int32)), some (.int (v8 + (-1 : Int32))), some (.int ((mm_shr v6 v8) &&& (1 : Int32))), some (.int r1)], [], M2)) (by decide +kernel) (hO := mm_own_165) rfl ?_
        cases h
        exact (show mp_165_108 L xs (d + 1) v4 (((2 : Int32) * v5) + r1) v6 (0 : Int32) (v8 + (-1 : Int32)) M2 o from hA) z1 z2 z3 (some (.int ((mm_shr v6 v8) &&& (1 : Int32)))) (some (.int r1))
theorem ms_165_L108 {L : Nat} {xs : Nat → Int32} {d : Nat} (hd : 9 ≤ d) {v4 : Int32} {v5 : Int32} {v6 : Int32} {v7 : Int32} {v8 : Int32} {β : Type} {K : β → mm_M → mm_E → Prop} {F : (Int32) → mm_M → mm_O β} {M : mm_M} {q : (β ⊕ Nat) × mm_M} {o : mm_E} (h : mm_B (mf_165_L108 v4 v6 (v5, v7, v8) M) F = some q) (hA : mm_A K q o) (hx : ∀ (r : (Int32)) (M2 : mm_M), F r M2 = some q → (fun r M o => mp_165_178 L xs (d) v4 r M o) r M2 o) : mp_165_108 L xs d v4 v5 v6 v7 v8 M o := by
  unfold mf_165_L108 at h
  exact mm_R_loop (step := (fun s M => mf_165_b108 v4 s.1 v6 s.2.1 s.2.2 M)) (s := (v5, v7, v8)) (M := M) (P := (fun s M o => mp_165_108 L xs (d) v4 s.1 v6 s.2.1 s.2.2 M o)) (X := (fun r M o => mp_165_178 L xs (d) v4 r M o)) h hA (fun s M q hq hA => ms_165_b108 (v4 := v4) (v5 := s.1) (v6 := v6) (v7 := s.2.1) (v8 := s.2.2) (M := M) (q := q) hd hq hA) hx
set_option maxRecDepth 8000 in
set_option maxHeartbeats 4000000 in
theorem ms_165_j27 {L : Nat} {xs : Nat → Int32} {d : Nat} (hd : 9 ≤ d) {v1 : Int32} {s0 : Int32} {M : mm_M} {q : (Unit ⊕ Nat) × mm_M} {o : mm_E} (h : mf_165_j27 v1 s0 M = some q) (hA : mm_A (mm_Kr mm_wv) q o) : mp_165_27 L xs d v1 s0 M o := by
  unfold mf_165_j27 at h
  obtain ⟨d, rfl⟩ := mm_d1 (n := 8) hd
  intro z2 z3 z4 z5 z6 z7 z8 z9 z10
  show mm_Runs L xs (d + 1) 165 (27, [some (.ref 80), some (.int v1), z2, z3, z4, z5, z6, z7, z8, z9, z10], [.int s0], M) o
  refine mm_Runs.seq (l := [(27, .istore_n 2, 1), (28, .iload_n 1, 1), (29, .iconst 1, 1), (30, .aload_n 0, 1), (31, .getfield 107, 3), (34, .ishl, 1), (35, .iconst 1, 1), (36, .isub, 1), (37, .iand, 1), (38, .aload_n 0, 1), (39, .getfield 104, 3), (42, .ishl, 1), (43, .iload_n 2, 1), (44, .bipush 8, 2), (46, .aload_n 0, 1), (47, .getfield 104, 3), (50, .isub, 1), (51, .ishr, 1), (52, .iadd, 1), (53, .istore_n 3, 1), (54, .sipush 2052, 3), (57, .sipush 768, 3), (60, .iload_n 3, 1), (61, .imul, 1), (62, .iadd, 1), (63, .istore 4, 2), (65, .iconst 1, 1), (66, .istore 5, 2), (68, .aload_n 0, 1), (69, .getfield 39, 3), (72, .bipush 7, 2)]) (S2 := (74, [some (.ref 80), some (.int v1), some (.int s0), some (.int ((mm_shl (v1 &&& ((mm_shl (1 : Int32) (M.1 80 7)) - (1 : Int32))) (M.1 80 6)) + (mm_shr s0 ((8 : Int32) - (M.1 80 6))))), some (.int ((2052 : Int32) + ((768 : Int32) * ((mm_shl (v1 &&& ((mm_shl (1 : Int32) (M.1 80 7)) - (1 : Int32))) (M.1 80 6)) + (mm_shr s0 ((8 : Int32) - (M.1 80 6))))))), some (.int (1 : Int32)), z6, z7, z8, z9, z10], [.int (7 : Int32), .int (M.1 80 9)], M)) (by decide +kernel) (hO := mm_own_165) rfl ?_
  refine mm_R_ilt (t := 178) rfl rfl rfl (fun hc => ?_) (fun hc => ?_)
  · replace h := mm_ip hc h
    have hp : mp_165_178 L xs (d + 1) ((2052 : Int32) + ((768 : Int32) * ((mm_shl (v1 &&& ((mm_shl (1 : Int32) (M.1 80 7)) - (1 : Int32))) (M.1 80 6)) + (mm_shr s0 ((8 : Int32) - (M.1 80 6)))))) (1 : Int32) M o := by
      refine ms_165_L178 hd h hA (fun r2 M1 h => ?_)
      intro y3 y4 y5 y6 y7 y8 y9 y10 y11
      show mm_Runs L xs (d + 1) 165 (205, [some (.ref 80), y3, y4, y5, y6, some (.int r2), y7, y8, y9, y10, y11], [], M1) o
      exact (ms_165_j205 hd h hA : mp_165_205 L xs (d + 1) r2 M1 o) y3 y4 y5 y6 y7 y8 y9 y10 y11
    exact hp (some (.int v1)) (some (.int s0)) (some (.int ((mm_shl (v1 &&& ((mm_shl (1 : Int32) (M.1 80 7)) - (1 : Int32))) (M.1 80 6)) + (mm_shr s0 ((8 : Int32) - (M.1 80 6)))))) z6 z7 z8 z9 z10
  · replace h := mm_iq hc h
    refine mm_Runs.seq (l := [(77, .aload_n 0, 1), (78, .getfield 43, 3), (81, .iload_n 1, 1)]) (S2 := (82, [some (.ref 80), some (.int v1), some (.int s0), some (.int ((mm_shl (v1 &&& ((mm_shl (1 : Int32) (M.1 80 7)) - (1 : Int32))) (M.1 80 6)) + (mm_shr s0 ((8 : Int32) - (M.1 80 6))))), some (.int ((2052 : Int32) + ((768 : Int32) * ((mm_shl (v1 &&& ((mm_shl (1 : Int32) (M.1 80 7)) - (1 : Int32))) (M.1 80 6)) + (mm_shr s0 ((8 : Int32) - (M.1 80 6))))))), some (.int (1 : Int32)), z6, z7, z8, z9, z10], [.int v1, .int (M.1 80 10)], M)) (by decide +kernel) (hO := mm_own_165) rfl ?_
    refine mm_R_igt (t := 178) rfl rfl rfl (fun hc => ?_) (fun hc => ?_)
    · replace h := mm_ip hc h
      have hp : mp_165_178 L xs (d + 1) ((2052 : Int32) + ((768 : Int32) * ((mm_shl (v1 &&& ((mm_shl (1 : Int32) (M.1 80 7)) - (1 : Int32))) (M.1 80 6)) + (mm_shr s0 ((8 : Int32) - (M.1 80 6)))))) (1 : Int32) M o := by
        refine ms_165_L178 hd h hA (fun r13 M12 h => ?_)
        intro y14 y15 y16 y17 y18 y19 y20 y21 y22
        show mm_Runs L xs (d + 1) 165 (205, [some (.ref 80), y14, y15, y16, y17, some (.int r13), y18, y19, y20, y21, y22], [], M12) o
        exact (ms_165_j205 hd h hA : mp_165_205 L xs (d + 1) r13 M12 o) y14 y15 y16 y17 y18 y19 y20 y21 y22
      exact hp (some (.int v1)) (some (.int s0)) (some (.int ((mm_shl (v1 &&& ((mm_shl (1 : Int32) (M.1 80 7)) - (1 : Int32))) (M.1 80 6)) + (mm_shr s0 ((8 : Int32) - (M.1 80 6)))))) z6 z7 z8 z9 z10
    · replace h := mm_iq hc h
      refine mm_Runs.seq (l := [(85, .aload_n 0, 1), (86, .getfield 19, 3), (89, .getfield 125, 3), (92, .iload_n 1, 1), (93, .aload_n 0, 1), (94, .getfield 43, 3), (97, .isub, 1)]) (S2 := (98, [some (.ref 80), some (.int v1), some (.int s0), some (.int ((mm_shl (v1 &&& ((mm_shl (1 : Int32) (M.1 80 7)) - (1 : Int32))) (M.1 80 6)) + (mm_shr s0 ((8 : Int32) - (M.1 80 6))))), some (.int ((2052 : Int32) + ((768 : Int32) * ((mm_shl (v1 &&& ((mm_shl (1 : Int32) (M.1 80 7)) - (1 : Int32))) (M.1 80 6)) + (mm_shr s0 ((8 : Int32) - (M.1 80 6))))))), some (.int (1 : Int32)), z6, z7, z8, z9, z10], [.int (v1 - (M.1 80 10)), .ref 4], M)) (by decide +kernel) (hO := mm_own_165) rfl ?_
      obtain ⟨hb, h⟩ := mm_gd h
      refine mm_R_iald rfl rfl hb ?_
      refine mm_Runs.seq (l := [(99, .istore 6, 2), (101, .iconst 1, 1), (102, .istore 7, 2), (104, .bipush 7, 2), (106, .istore 8, 2)]) (S2 := (108, [some (.ref 80), some (.int v1), some (.int s0), some (.int ((mm_shl (v1 &&& ((mm_shl (1 : Int32) (M.1 80 7)) - (1 : Int32))) (M.1 80 6)) + (mm_shr s0 ((8 : Int32) - (M.1 80 6))))), some (.int ((2052 : Int32) + ((768 : Int32) * ((mm_shl (v1 &&& ((mm_shl (1 : Int32) (M.1 80 7)) - (1 : Int32))) (M.1 80 6)) + (mm_shr s0 ((8 : Int32) - (M.1 80 6))))))), some (.int (1 : Int32)), some (.int (M.1 4 (v1 - (M.1 80 10)).toNatClampNeg)), some (.int (1 : Int32)), some (.int (7 : Int32)), z9, z10], [], M)) (by decide +kernel) (hO := mm_own_165) rfl ?_
      have hp : mp_165_108 L xs (d + 1) ((2052 : Int32) + ((768 : Int32) * ((mm_shl (v1 &&& ((mm_shl (1 : Int32) (M.1 80 7)) - (1 : Int32))) (M.1 80 6)) + (mm_shr s0 ((8 : Int32) - (M.1 80 6)))))) (1 : Int32) (M.1 4 (v1 - (M.1 80 10)).toNatClampNeg) (1 : Int32) (7 : Int32) M o := by
        refine ms_165_L108 hd h hA (fun r24 M23 h => ?_)
        intro y25 y26 y27 y28 y29 y30 y31 y32
        show mm_Runs L xs (d + 1) 165 (178, [some (.ref 80), y25, y26, y27, some (.int ((2052 : Int32) + ((768 : Int32) * ((mm_shl (v1 &&& ((mm_shl (1 : Int32) (M.1 80 7)) - (1 : Int32))) (M.1 80 6)) + (mm_shr s0 ((8 : Int32) - (M.1 80 6))))))), some (.int r24), y28, y29, y30, y31, y32], [], M23) o
        have hp : mp_165_178 L xs (d + 1) ((2052 : Int32) + ((768 : Int32) * ((mm_shl (v1 &&& ((mm_shl (1 : Int32) (M.1 80 7)) - (1 : Int32))) (M.1 80 6)) + (mm_shr s0 ((8 : Int32) - (M.1 80 6)))))) r24 M23 o := by
          refine ms_165_L178 hd h hA (fun r34 M33 h => ?_)
          intro y35 y36 y37 y38 y39 y40 y41 y42 y43
          show mm_Runs L xs (d + 1) 165 (205, [some (.ref 80), y35, y36, y37, y38, some (.int r34), y39, y40, y41, y42, y43], [], M33) o
          exact (ms_165_j205 hd h hA : mp_165_205 L xs (d + 1) r34 M33 o) y35 y36 y37 y38 y39 y40 y41 y42 y43
        exact hp y25 y26 y27 y28 y29 y30 y31 y32
      exact hp (some (.int v1)) (some (.int s0)) (some (.int ((mm_shl (v1 &&& ((mm_shl (1 : Int32) (M.1 80 7)) - (1 : Int32))) (M.1 80 6)) + (mm_shr s0 ((8 : Int32) - (M.1 80 6)))))) z9 z10
set_option maxRecDepth 8000 in
set_option maxHeartbeats 4000000 in
theorem ms_165 {L : Nat} {xs : Nat → Int32} {d : Nat} (hd : 9 ≤ d) {M : mm_M} {q : (Unit ⊕ Nat) × mm_M} {o : mm_E} (h : mf_165 M = some q) (hA : mm_A (mm_Kr mm_wv) q o) : mm_Runs L xs d 165 (0, mm_ent (mm_ml 165) [.ref 80], [], M) o := by
  unfold mf_165 at h
  obtain ⟨d, rfl⟩ := mm_d1 (n := 8) hd
  show mm_Runs L xs (d + 1) 165 (0, [some (.ref 80), none, none, none, none, none, none, none, none, none, none], [], M) o
  refine mm_Runs.seq (l := [(0, .aload_n 0, 1), (1, .getfield 19, 3), (4, .getfield 78, 3), (7, .istore_n 1, 1), (8, .iload_n 1, 1)]) (S2 := (9, [some (.ref 80), some (.int (M.1 3 1)), none, none, none, none, none, none, none, none, none], [.int (M.1 3 1)], M)) (by decide +kernel) (hO := mm_own_165) rfl ?_
  refine mm_R_zle (t := 26) rfl rfl rfl (fun hc => ?_) (fun hc => ?_)
  · replace h := mm_ip hc h
    refine mm_Runs.seq (l := [(12, .aload_n 0, 1), (13, .getfield 19, 3), (16, .getfield 125, 3), (19, .iload_n 1, 1), (20, .iconst 1, 1), (21, .isub, 1)]) (S2 := (22, [some (.ref 80), some (.int (M.1 3 1)), none, none, none, none, none, none, none, none, none], [.int ((M.1 3 1) - (1 : Int32)), .ref 4], M)) (by decide +kernel) (hO := mm_own_165) rfl ?_
    obtain ⟨hb, h⟩ := mm_gd h
    refine mm_R_iald rfl rfl hb ?_
    refine mm_Runs.seq (l := [(23, .goto 4, 3)]) (S2 := (27, [some (.ref 80), some (.int (M.1 3 1)), none, none, none, none, none, none, none, none, none], [.int (M.1 4 ((M.1 3 1) - (1 : Int32)).toNatClampNeg)], M)) (by decide +kernel) (hO := mm_own_165) rfl ?_
    exact (ms_165_j27 hd h hA : mp_165_27 L xs (d + 1) (M.1 3 1) (M.1 4 ((M.1 3 1) - (1 : Int32)).toNatClampNeg) M o) none none none none none none none none none
  · replace h := mm_iq hc h
    refine mm_Runs.seq (l := [(26, .iconst 0, 1)]) (S2 := (27, [some (.ref 80), some (.int (M.1 3 1)), none, none, none, none, none, none, none, none, none], [.int (0 : Int32)], M)) (by decide +kernel) (hO := mm_own_165) rfl ?_
    exact (ms_165_j27 hd h hA : mp_165_27 L xs (d + 1) (M.1 3 1) (0 : Int32) M o) none none none none none none none none none
-- 163: PlainPacks$Chances.tree(II)I (depth 9)
theorem mm_own_163 : mm_own 163 = 11 := rfl
def mp_163_5 (L : Nat) (xs : Nat → Int32) (d : Nat) (v1 : Int32) (v2 : Int32) (v3 : Int32) (v4 : Int32) (M : mm_M) (o : mm_E) : Prop := mm_Runs L xs d 163 (5, [some (.ref 80), some (.int v1), some (.int v2), some (.int v3), some (.int v4)], [], M) o
def mp_163_29 (L : Nat) (xs : Nat → Int32) (d : Nat) (v2 : Int32) (v3 : Int32) (M : mm_M) (o : mm_E) : Prop := ∀ z0 z1 z4 : Option Value, mm_Runs L xs d 163 (29, [z0, z1, some (.int v2), some (.int v3), z4], [], M) o
set_option maxRecDepth 8000 in
set_option maxHeartbeats 4000000 in
theorem ms_163_b5 {L : Nat} {xs : Nat → Int32} {d : Nat} (hd : 9 ≤ d) {v1 : Int32} {v2 : Int32} {v3 : Int32} {v4 : Int32} {M : mm_M} {q : (((Int32 × Int32) ⊕ (Int32)) ⊕ Nat) × mm_M} {o : mm_E} (h : mf_163_b5 v1 v2 v3 v4 M = some q) (hA : mm_A (mm_K2 (fun s M o => mp_163_5 L xs (d) v1 v2 s.1 s.2 M o) (fun r M o => mp_163_29 L xs (d) v2 r M o)) q o) : mp_163_5 L xs d v1 v2 v3 v4 M o := by
  unfold mf_163_b5 at h
  obtain ⟨d, rfl⟩ := mm_d1 (n := 8) hd
  show mm_Runs L xs (d + 1) 163 (5, [some (.ref 80), some (.int v1), some (.int v2), some (.int v3), some (.int v4)], [], M) o
  refine mm_Runs.seq (l := [(5, .iload 4, 2), (7, .iload_n 2, 1)]) (S2 := (8, [some (.ref 80), some (.int v1), some (.int v2), some (.int v3), some (.int v4)], [.int v2, .int v4], M)) (by decide +kernel) (hO := mm_own_163) rfl ?_
  refine mm_R_ige (t := 29) rfl rfl rfl (fun hc => ?_) (fun hc => ?_)
  · replace h := mm_ip hc h
    refine mm_Runs.seq (l := [(11, .iconst 2, 1), (12, .iload_n 3, 1), (13, .imul, 1), (14, .aload_n 0, 1), (15, .iload_n 1, 1), (16, .iload_n 3, 1), (17, .iadd, 1)]) (S2 := (18, [some (.ref 80), some (.int v1), some (.int v2), some (.int v3), some (.int v4)], [.int (v1 + v3), .ref 80, .int ((2 : Int32) * v3)], M)) (by decide +kernel) (hO := mm_own_163) rfl ?_
    refine mm_R_call (v := mm_wi) h hA (k2 := 161) (as := [.ref 80, .int (v1 + v3)]) (r := [.int ((2 : Int32) * v3)]) rfl (fun _ => rfl) (fun q hq o ho => ms_161 (by omega) hq ho) (fun r1 M2 h => ?_)
    show mm_Runs L xs (d + 1) 163 (21, [some (.ref 80), some (.int v1), some (.int v2), some (.int v3), some (.int v4)], [.int r1, .int ((2 : Int32) * v3)], M2) o
    refine mm_Runs.seq (l := [(21, .iadd, 1), (22, .istore_n 3, 1), (23, .iinc 4 1, 3), (26, .goto (-21), 3)]) (S2 := (5, [some (.ref 80), some (.int v1), some (.int v2), some (.int (((2 : Int32) * v3) + r1)), some (.int (v4 + (1 : Int32)))], [], M2)) (by decide +kernel) (hO := mm_own_163) rfl ?_
    cases h
    exact (show mp_163_5 L xs (d + 1) v1 v2 (((2 : Int32) * v3) + r1) (v4 + (1 : Int32)) M2 o from hA)
  · replace h := mm_iq hc h
    cases h
    exact (show mp_163_29 L xs (d + 1) v2 v3 M o from hA) (some (.ref 80)) (some (.int v1)) (some (.int v4))
theorem ms_163_L5 {L : Nat} {xs : Nat → Int32} {d : Nat} (hd : 9 ≤ d) {v1 : Int32} {v2 : Int32} {v3 : Int32} {v4 : Int32} {β : Type} {K : β → mm_M → mm_E → Prop} {F : (Int32) → mm_M → mm_O β} {M : mm_M} {q : (β ⊕ Nat) × mm_M} {o : mm_E} (h : mm_B (mf_163_L5 v1 v2 (v3, v4) M) F = some q) (hA : mm_A K q o) (hx : ∀ (r : (Int32)) (M2 : mm_M), F r M2 = some q → (fun r M o => mp_163_29 L xs (d) v2 r M o) r M2 o) : mp_163_5 L xs d v1 v2 v3 v4 M o := by
  unfold mf_163_L5 at h
  exact mm_R_loop (step := (fun s M => mf_163_b5 v1 v2 s.1 s.2 M)) (s := (v3, v4)) (M := M) (P := (fun s M o => mp_163_5 L xs (d) v1 v2 s.1 s.2 M o)) (X := (fun r M o => mp_163_29 L xs (d) v2 r M o)) h hA (fun s M q hq hA => ms_163_b5 (v1 := v1) (v2 := v2) (v3 := s.1) (v4 := s.2) (M := M) (q := q) hd hq hA) hx
set_option maxRecDepth 8000 in
set_option maxHeartbeats 4000000 in
theorem ms_163 {L : Nat} {xs : Nat → Int32} {d : Nat} (hd : 9 ≤ d) {v1 : Int32} {v2 : Int32} {M : mm_M} {q : (Int32 ⊕ Nat) × mm_M} {o : mm_E} (h : mf_163 v1 v2 M = some q) (hA : mm_A (mm_Kr mm_wi) q o) : mm_Runs L xs d 163 (0, mm_ent (mm_ml 163) [.ref 80, .int v1, .int v2], [], M) o := by
  unfold mf_163 at h
  obtain ⟨d, rfl⟩ := mm_d1 (n := 8) hd
  show mm_Runs L xs (d + 1) 163 (0, [some (.ref 80), some (.int v1), some (.int v2), none, none], [], M) o
  refine mm_Runs.seq (l := [(0, .iconst 1, 1), (1, .istore_n 3, 1), (2, .iconst 0, 1), (3, .istore 4, 2)]) (S2 := (5, [some (.ref 80), some (.int v1), some (.int v2), some (.int (1 : Int32)), some (.int (0 : Int32))], [], M)) (by decide +kernel) (hO := mm_own_163) rfl ?_
  have hp : mp_163_5 L xs (d + 1) v1 v2 (1 : Int32) (0 : Int32) M o := by
    refine ms_163_L5 hd h hA (fun r2 M1 h => ?_)
    intro y3 y4 y5
    show mm_Runs L xs (d + 1) 163 (29, [y3, y4, some (.int v2), some (.int r2), y5], [], M1) o
    refine mm_Runs.seq (l := [(29, .iload_n 3, 1), (30, .iconst 1, 1), (31, .iload_n 2, 1), (32, .ishl, 1), (33, .isub, 1)]) (S2 := (34, [y3, y4, some (.int v2), some (.int r2), y5], [.int (r2 - (mm_shl (1 : Int32) v2))], M1)) (by decide +kernel) (hO := mm_own_163) rfl ?_
    cases h
    exact mm_R_reti rfl rfl hA
  exact hp
-- 169: PlainPacks$Chances.readLength(II)I (depth 10)
theorem mm_own_169 : mm_own 169 = 11 := rfl
def mp_169_74 (L : Nat) (xs : Nat → Int32) (d : Nat) (v3 : Int32) (M : mm_M) (o : mm_E) : Prop := ∀ z1 z2 : Option Value, mm_Runs L xs d 169 (74, [some (.ref 80), z1, z2, some (.int v3)], [], M) o
def mp_169_105 (L : Nat) (xs : Nat → Int32) (d : Nat) (v3 : Int32) (M : mm_M) (o : mm_E) : Prop := ∀ z0 z1 z2 : Option Value, mm_Runs L xs d 169 (105, [z0, z1, z2, some (.int v3)], [], M) o
def mp_169_106 (L : Nat) (xs : Nat → Int32) (d : Nat) (v3 : Int32) (s0 : Int32) (M : mm_M) (o : mm_E) : Prop := ∀ z0 z1 z2 : Option Value, mm_Runs L xs d 169 (106, [z0, z1, z2, some (.int v3)], [.int s0], M) o
set_option maxRecDepth 8000 in
set_option maxHeartbeats 4000000 in
theorem ms_169_j106 {L : Nat} {xs : Nat → Int32} {d : Nat} (hd : 10 ≤ d) {v3 : Int32} {s0 : Int32} {M : mm_M} {q : (Int32 ⊕ Nat) × mm_M} {o : mm_E} (h : mf_169_j106 v3 s0 M = some q) (hA : mm_A (mm_Kr mm_wi) q o) : mp_169_106 L xs d v3 s0 M o := by
  unfold mf_169_j106 at h
  obtain ⟨d, rfl⟩ := mm_d1 (n := 9) hd
  intro z0 z1 z2
  show mm_Runs L xs (d + 1) 169 (106, [z0, z1, z2, some (.int v3)], [.int s0], M) o
  refine mm_R_call (v := mm_wv) h hA (k2 := 27) (as := [.int s0]) (r := []) rfl (fun _ => rfl) (fun q hq o ho => ms_27 (by omega) hq ho) (fun _ M1 h => ?_)
  show mm_Runs L xs (d + 1) 169 (109, [z0, z1, z2, some (.int v3)], [], M1) o
  refine mm_Runs.seq (l := [(109, .iload_n 3, 1)]) (S2 := (110, [z0, z1, z2, some (.int v3)], [.int v3], M1)) (by decide +kernel) (hO := mm_own_169) rfl ?_
  cases h
  exact mm_R_reti rfl rfl hA
set_option maxRecDepth 8000 in
set_option maxHeartbeats 4000000 in
theorem ms_169_j105 {L : Nat} {xs : Nat → Int32} {d : Nat} (hd : 10 ≤ d) {v3 : Int32} {M : mm_M} {q : (Int32 ⊕ Nat) × mm_M} {o : mm_E} (h : mf_169_j105 v3 M = some q) (hA : mm_A (mm_Kr mm_wi) q o) : mp_169_105 L xs d v3 M o := by
  unfold mf_169_j105 at h
  obtain ⟨d, rfl⟩ := mm_d1 (n := 9) hd
  intro z0 z1 z2
  show mm_Runs L xs (d + 1) 169 (105, [z0, z1, z2, some (.int v3)], [], M) o
  refine mm_Runs.seq (l := [(105, .iconst 0, 1)]) (S2 := (106, [z0, z1, z2, some (.int v3)], [.int (0 : Int32)], M)) (by decide +kernel) (hO := mm_own_169) rfl ?_
  exact (ms_169_j106 hd h hA : mp_169_106 L xs (d + 1) v3 (0 : Int32) M o) z0 z1 z2
set_option maxRecDepth 8000 in
set_option maxHeartbeats 4000000 in
theorem ms_169_j74 {L : Nat} {xs : Nat → Int32} {d : Nat} (hd : 10 ≤ d) {v3 : Int32} {M : mm_M} {q : (Int32 ⊕ Nat) × mm_M} {o : mm_E} (h : mf_169_j74 v3 M = some q) (hA : mm_A (mm_Kr mm_wi) q o) : mp_169_74 L xs d v3 M o := by
  unfold mf_169_j74 at h
  obtain ⟨d, rfl⟩ := mm_d1 (n := 9) hd
  intro z1 z2
  show mm_Runs L xs (d + 1) 169 (74, [some (.ref 80), z1, z2, some (.int v3)], [], M) o
  refine mm_Runs.seq (l := [(74, .aload_n 0, 1), (75, .getfield 83, 3), (78, .lconst 0, 1)]) (S2 := (79, [some (.ref 80), z1, z2, some (.int v3)], [.long (0 : Int64), .long (M.2.1 80 14)], M)) (by decide +kernel) (hO := mm_own_169) rfl ?_
  refine mm_R_llt (t := 105) rfl rfl rfl rfl (fun hc => ?_) (fun hc => ?_)
  · replace h := mm_ip hc h
    exact (ms_169_j105 hd h hA : mp_169_105 L xs (d + 1) v3 M o) (some (.ref 80)) z1 z2
  · replace h := mm_iq hc h
    refine mm_Runs.seq (l := [(83, .aload_n 0, 1), (84, .getfield 19, 3), (87, .getfield 78, 3), (90, .iload_n 3, 1), (91, .iadd, 1), (92, .i2l, 1), (93, .aload_n 0, 1), (94, .getfield 83, 3)]) (S2 := (97, [some (.ref 80), z1, z2, some (.int v3)], [.long (M.2.1 80 14), .long ((M.1 3 1) + v3).toInt64], M)) (by decide +kernel) (hO := mm_own_169) rfl ?_
    refine mm_R_lle (t := 105) rfl rfl rfl rfl (fun hc => ?_) (fun hc => ?_)
    · replace h := mm_ip hc h
      refine mm_Runs.seq (l := [(101, .iconst 1, 1), (102, .goto 4, 3)]) (S2 := (106, [some (.ref 80), z1, z2, some (.int v3)], [.int (1 : Int32)], M)) (by decide +kernel) (hO := mm_own_169) rfl ?_
      exact (ms_169_j106 hd h hA : mp_169_106 L xs (d + 1) v3 (1 : Int32) M o) (some (.ref 80)) z1 z2
    · replace h := mm_iq hc h
      exact (ms_169_j105 hd h hA : mp_169_105 L xs (d + 1) v3 M o) (some (.ref 80)) z1 z2
set_option maxRecDepth 8000 in
set_option maxHeartbeats 4000000 in
theorem ms_169 {L : Nat} {xs : Nat → Int32} {d : Nat} (hd : 10 ≤ d) {v1 : Int32} {v2 : Int32} {M : mm_M} {q : (Int32 ⊕ Nat) × mm_M} {o : mm_E} (h : mf_169 v1 v2 M = some q) (hA : mm_A (mm_Kr mm_wi) q o) : mm_Runs L xs d 169 (0, mm_ent (mm_ml 169) [.ref 80, .int v1, .int v2], [], M) o := by
  unfold mf_169 at h
  obtain ⟨d, rfl⟩ := mm_d1 (n := 9) hd
  show mm_Runs L xs (d + 1) 169 (0, [some (.ref 80), some (.int v1), some (.int v2), none], [], M) o
  refine mm_Runs.seq (l := [(0, .aload_n 0, 1), (1, .iload_n 1, 1)]) (S2 := (2, [some (.ref 80), some (.int v1), some (.int v2), none], [.int v1, .ref 80], M)) (by decide +kernel) (hO := mm_own_169) rfl ?_
  refine mm_R_call (v := mm_wi) h hA (k2 := 161) (as := [.ref 80, .int v1]) (r := []) rfl (fun _ => rfl) (fun q hq o ho => ms_161 (by omega) hq ho) (fun r1 M2 h => ?_)
  show mm_Runs L xs (d + 1) 169 (5, [some (.ref 80), some (.int v1), some (.int v2), none], [.int r1], M2) o
  refine mm_R_zne (t := 27) rfl rfl rfl (fun hc => ?_) (fun hc => ?_)
  · replace h := mm_ip hc h
    refine mm_Runs.seq (l := [(8, .iconst 2, 1), (9, .aload_n 0, 1), (10, .iload_n 1, 1), (11, .iconst 2, 1), (12, .iadd, 1), (13, .bipush 8, 2), (15, .iload_n 2, 1), (16, .imul, 1), (17, .iadd, 1), (18, .iconst 3, 1)]) (S2 := (19, [some (.ref 80), some (.int v1), some (.int v2), none], [.int (3 : Int32), .int ((v1 + (2 : Int32)) + ((8 : Int32) * v2)), .ref 80, .int (2 : Int32)], M2)) (by decide +kernel) (hO := mm_own_169) rfl ?_
    refine mm_R_call (v := mm_wi) h hA (k2 := 163) (as := [.ref 80, .int ((v1 + (2 : Int32)) + ((8 : Int32) * v2)), .int (3 : Int32)]) (r := [.int (2 : Int32)]) rfl (fun _ => rfl) (fun q hq o ho => ms_163 (by omega) hq ho) (fun r3 M4 h => ?_)
    show mm_Runs L xs (d + 1) 169 (22, [some (.ref 80), some (.int v1), some (.int v2), none], [.int r3, .int (2 : Int32)], M4) o
    refine mm_Runs.seq (l := [(22, .iadd, 1), (23, .istore_n 3, 1), (24, .goto 50, 3)]) (S2 := (74, [some (.ref 80), some (.int v1), some (.int v2), some (.int ((2 : Int32) + r3))], [], M4)) (by decide +kernel) (hO := mm_own_169) rfl ?_
    exact (ms_169_j74 hd h hA : mp_169_74 L xs (d + 1) ((2 : Int32) + r3) M4 o) (some (.int v1)) (some (.int v2))
  · replace h := mm_iq hc h
    refine mm_Runs.seq (l := [(27, .aload_n 0, 1), (28, .iload_n 1, 1), (29, .iconst 1, 1), (30, .iadd, 1)]) (S2 := (31, [some (.ref 80), some (.int v1), some (.int v2), none], [.int (v1 + (1 : Int32)), .ref 80], M2)) (by decide +kernel) (hO := mm_own_169) rfl ?_
    refine mm_R_call (v := mm_wi) h hA (k2 := 161) (as := [.ref 80, .int (v1 + (1 : Int32))]) (r := []) rfl (fun _ => rfl) (fun q hq o ho => ms_161 (by omega) hq ho) (fun r5 M6 h => ?_)
    show mm_Runs L xs (d + 1) 169 (34, [some (.ref 80), some (.int v1), some (.int v2), none], [.int r5], M6) o
    refine mm_R_zne (t := 59) rfl rfl rfl (fun hc => ?_) (fun hc => ?_)
    · replace h := mm_ip hc h
      refine mm_Runs.seq (l := [(37, .bipush 10, 2), (39, .aload_n 0, 1), (40, .iload_n 1, 1), (41, .sipush 130, 3), (44, .iadd, 1), (45, .bipush 8, 2), (47, .iload_n 2, 1), (48, .imul, 1), (49, .iadd, 1), (50, .iconst 3, 1)]) (S2 := (51, [some (.ref 80), some (.int v1), some (.int v2), none], [.int (3 : Int32), .int ((v1 + (130 : Int32)) + ((8 : Int32) * v2)), .ref 80, .int (10 : Int32)], M6)) (by decide +kernel) (hO := mm_own_169) rfl ?_
      refine mm_R_call (v := mm_wi) h hA (k2 := 163) (as := [.ref 80, .int ((v1 + (130 : Int32)) + ((8 : Int32) * v2)), .int (3 : Int32)]) (r := [.int (10 : Int32)]) rfl (fun _ => rfl) (fun q hq o ho => ms_163 (by omega) hq ho) (fun r7 M8 h => ?_)
      show mm_Runs L xs (d + 1) 169 (54, [some (.ref 80), some (.int v1), some (.int v2), none], [.int r7, .int (10 : Int32)], M8) o
      refine mm_Runs.seq (l := [(54, .iadd, 1), (55, .istore_n 3, 1), (56, .goto 18, 3)]) (S2 := (74, [some (.ref 80), some (.int v1), some (.int v2), some (.int ((10 : Int32) + r7))], [], M8)) (by decide +kernel) (hO := mm_own_169) rfl ?_
      exact (ms_169_j74 hd h hA : mp_169_74 L xs (d + 1) ((10 : Int32) + r7) M8 o) (some (.int v1)) (some (.int v2))
    · replace h := mm_iq hc h
      refine mm_Runs.seq (l := [(59, .bipush 18, 2), (61, .aload_n 0, 1), (62, .iload_n 1, 1), (63, .sipush 258, 3), (66, .iadd, 1), (67, .bipush 8, 2)]) (S2 := (69, [some (.ref 80), some (.int v1), some (.int v2), none], [.int (8 : Int32), .int (v1 + (258 : Int32)), .ref 80, .int (18 : Int32)], M6)) (by decide +kernel) (hO := mm_own_169) rfl ?_
      refine mm_R_call (v := mm_wi) h hA (k2 := 163) (as := [.ref 80, .int (v1 + (258 : Int32)), .int (8 : Int32)]) (r := [.int (18 : Int32)]) rfl (fun _ => rfl) (fun q hq o ho => ms_163 (by omega) hq ho) (fun r9 M10 h => ?_)
      show mm_Runs L xs (d + 1) 169 (72, [some (.ref 80), some (.int v1), some (.int v2), none], [.int r9, .int (18 : Int32)], M10) o
      refine mm_Runs.seq (l := [(72, .iadd, 1), (73, .istore_n 3, 1)]) (S2 := (74, [some (.ref 80), some (.int v1), some (.int v2), some (.int ((18 : Int32) + r9))], [], M10)) (by decide +kernel) (hO := mm_own_169) rfl ?_
      exact (ms_169_j74 hd h hA : mp_169_74 L xs (d + 1) ((18 : Int32) + r9) M10 o) (some (.int v1)) (some (.int v2))
-- 164: PlainPacks$Chances.turnedTree(II)I (depth 9)
theorem mm_own_164 : mm_own 164 = 11 := rfl
def mp_164_8 (L : Nat) (xs : Nat → Int32) (d : Nat) (v1 : Int32) (v2 : Int32) (v3 : Int32) (v4 : Int32) (v5 : Int32) (M : mm_M) (o : mm_E) : Prop := ∀ z6 : Option Value, mm_Runs L xs d 164 (8, [some (.ref 80), some (.int v1), some (.int v2), some (.int v3), some (.int v4), some (.int v5), z6], [], M) o
def mp_164_46 (L : Nat) (xs : Nat → Int32) (d : Nat) (v4 : Int32) (M : mm_M) (o : mm_E) : Prop := ∀ z0 z1 z2 z3 z5 z6 : Option Value, mm_Runs L xs d 164 (46, [z0, z1, z2, z3, some (.int v4), z5, z6], [], M) o
set_option maxRecDepth 8000 in
set_option maxHeartbeats 4000000 in
theorem ms_164_b8 {L : Nat} {xs : Nat → Int32} {d : Nat} (hd : 9 ≤ d) {v1 : Int32} {v2 : Int32} {v3 : Int32} {v4 : Int32} {v5 : Int32} {M : mm_M} {q : (((Int32 × Int32 × Int32) ⊕ (Int32)) ⊕ Nat) × mm_M} {o : mm_E} (h : mf_164_b8 v1 v2 v3 v4 v5 M = some q) (hA : mm_A (mm_K2 (fun s M o => mp_164_8 L xs (d) v1 v2 s.1 s.2.1 s.2.2 M o) (fun r M o => mp_164_46 L xs (d) r M o)) q o) : mp_164_8 L xs d v1 v2 v3 v4 v5 M o := by
  unfold mf_164_b8 at h
  obtain ⟨d, rfl⟩ := mm_d1 (n := 8) hd
  intro z6
  show mm_Runs L xs (d + 1) 164 (8, [some (.ref 80), some (.int v1), some (.int v2), some (.int v3), some (.int v4), some (.int v5), z6], [], M) o
  refine mm_Runs.seq (l := [(8, .iload 5, 2), (10, .iload_n 2, 1)]) (S2 := (11, [some (.ref 80), some (.int v1), some (.int v2), some (.int v3), some (.int v4), some (.int v5), z6], [.int v2, .int v5], M)) (by decide +kernel) (hO := mm_own_164) rfl ?_
  refine mm_R_ige (t := 46) rfl rfl rfl (fun hc => ?_) (fun hc => ?_)
  · replace h := mm_ip hc h
    refine mm_Runs.seq (l := [(14, .aload_n 0, 1), (15, .iload_n 1, 1), (16, .iload_n 3, 1), (17, .iadd, 1)]) (S2 := (18, [some (.ref 80), some (.int v1), some (.int v2), some (.int v3), some (.int v4), some (.int v5), z6], [.int (v1 + v3), .ref 80], M)) (by decide +kernel) (hO := mm_own_164) rfl ?_
    refine mm_R_call (v := mm_wi) h hA (k2 := 161) (as := [.ref 80, .int (v1 + v3)]) (r := []) rfl (fun _ => rfl) (fun q hq o ho => ms_161 (by omega) hq ho) (fun r1 M2 h => ?_)
    show mm_Runs L xs (d + 1) 164 (21, [some (.ref 80), some (.int v1), some (.int v2), some (.int v3), some (.int v4), some (.int v5), z6], [.int r1], M2) o
    refine mm_Runs.seq (l := [(21, .istore 6, 2), (23, .iconst 2, 1), (24, .iload_n 3, 1), (25, .imul, 1), (26, .iload 6, 2), (28, .iadd, 1), (29, .istore_n 3, 1), (30, .iload 4, 2), (32, .iload 6, 2), (34, .iload 5, 2), (36, .ishl, 1), (37, .ior, 1), (38, .istore 4, 2), (40, .iinc 5 1, 3), (43, .goto (-35), 3)]) (S2 := (8, [some (.ref 80), some (.int v1), some (.int v2), some (.int (((2 : Int32) * v3) + r1)), some (.int (v4 ||| (mm_shl r1 v5))), some (.int (v5 + (1 : Int32))), some (.int r1)], [], M2)) (by decide +kernel) (hO := mm_own_164) rfl ?_
    cases h
    exact (show mp_164_8 L xs (d + 1) v1 v2 (((2 : Int32) * v3) + r1) (v4 ||| (mm_shl r1 v5)) (v5 + (1 : Int32)) M2 o from hA) (some (.int r1))
  · replace h := mm_iq hc h
    cases h
    exact (show mp_164_46 L xs (d + 1) v4 M o from hA) (some (.ref 80)) (some (.int v1)) (some (.int v2)) (some (.int v3)) (some (.int v5)) z6
theorem ms_164_L8 {L : Nat} {xs : Nat → Int32} {d : Nat} (hd : 9 ≤ d) {v1 : Int32} {v2 : Int32} {v3 : Int32} {v4 : Int32} {v5 : Int32} {β : Type} {K : β → mm_M → mm_E → Prop} {F : (Int32) → mm_M → mm_O β} {M : mm_M} {q : (β ⊕ Nat) × mm_M} {o : mm_E} (h : mm_B (mf_164_L8 v1 v2 (v3, v4, v5) M) F = some q) (hA : mm_A K q o) (hx : ∀ (r : (Int32)) (M2 : mm_M), F r M2 = some q → (fun r M o => mp_164_46 L xs (d) r M o) r M2 o) : mp_164_8 L xs d v1 v2 v3 v4 v5 M o := by
  unfold mf_164_L8 at h
  exact mm_R_loop (step := (fun s M => mf_164_b8 v1 v2 s.1 s.2.1 s.2.2 M)) (s := (v3, v4, v5)) (M := M) (P := (fun s M o => mp_164_8 L xs (d) v1 v2 s.1 s.2.1 s.2.2 M o)) (X := (fun r M o => mp_164_46 L xs (d) r M o)) h hA (fun s M q hq hA => ms_164_b8 (v1 := v1) (v2 := v2) (v3 := s.1) (v4 := s.2.1) (v5 := s.2.2) (M := M) (q := q) hd hq hA) hx
set_option maxRecDepth 8000 in
set_option maxHeartbeats 4000000 in
theorem ms_164 {L : Nat} {xs : Nat → Int32} {d : Nat} (hd : 9 ≤ d) {v1 : Int32} {v2 : Int32} {M : mm_M} {q : (Int32 ⊕ Nat) × mm_M} {o : mm_E} (h : mf_164 v1 v2 M = some q) (hA : mm_A (mm_Kr mm_wi) q o) : mm_Runs L xs d 164 (0, mm_ent (mm_ml 164) [.ref 80, .int v1, .int v2], [], M) o := by
  unfold mf_164 at h
  obtain ⟨d, rfl⟩ := mm_d1 (n := 8) hd
  show mm_Runs L xs (d + 1) 164 (0, [some (.ref 80), some (.int v1), some (.int v2), none, none, none, none], [], M) o
  refine mm_Runs.seq (l := [(0, .iconst 1, 1), (1, .istore_n 3, 1), (2, .iconst 0, 1), (3, .istore 4, 2), (5, .iconst 0, 1), (6, .istore 5, 2)]) (S2 := (8, [some (.ref 80), some (.int v1), some (.int v2), some (.int (1 : Int32)), some (.int (0 : Int32)), some (.int (0 : Int32)), none], [], M)) (by decide +kernel) (hO := mm_own_164) rfl ?_
  have hp : mp_164_8 L xs (d + 1) v1 v2 (1 : Int32) (0 : Int32) (0 : Int32) M o := by
    refine ms_164_L8 hd h hA (fun r2 M1 h => ?_)
    intro y3 y4 y5 y6 y7 y8
    show mm_Runs L xs (d + 1) 164 (46, [y3, y4, y5, y6, some (.int r2), y7, y8], [], M1) o
    refine mm_Runs.seq (l := [(46, .iload 4, 2)]) (S2 := (48, [y3, y4, y5, y6, some (.int r2), y7, y8], [.int r2], M1)) (by decide +kernel) (hO := mm_own_164) rfl ?_
    cases h
    exact mm_R_reti rfl rfl hA
  exact hp none
-- 162: PlainPacks$Chances.plainBit()I (depth 8)
theorem mm_own_162 : mm_own 162 = 11 := rfl
def mp_162_41 (L : Nat) (xs : Nat → Int32) (d : Nat) (v1 : Int32) (M : mm_M) (o : mm_E) : Prop := mm_Runs L xs d 162 (41, [some (.ref 80), some (.int v1)], [], M) o
set_option maxRecDepth 8000 in
set_option maxHeartbeats 4000000 in
theorem ms_162_j41 {L : Nat} {xs : Nat → Int32} {d : Nat} (hd : 8 ≤ d) {v1 : Int32} {M : mm_M} {q : (Int32 ⊕ Nat) × mm_M} {o : mm_E} (h : mf_162_j41 v1 M = some q) (hA : mm_A (mm_Kr mm_wi) q o) : mp_162_41 L xs d v1 M o := by
  unfold mf_162_j41 at h
  obtain ⟨d, rfl⟩ := mm_d1 (n := 7) hd
  show mm_Runs L xs (d + 1) 162 (41, [some (.ref 80), some (.int v1)], [], M) o
  refine mm_Runs.seq (l := [(41, .aload_n 0, 1), (42, .getfield 35, 3), (45, .ldc2_w 119, 3)]) (S2 := (48, [some (.ref 80), some (.int v1)], [.long (16777216 : Int64), .long (M.2.1 80 4)], M)) (by decide +kernel) (hO := mm_own_162) rfl ?_
  refine mm_R_lge (t := 89) rfl rfl rfl rfl (fun hc => ?_) (fun hc => ?_)
  · replace h := mm_ip hc h
    refine mm_Runs.seq (l := [(52, .aload_n 0, 1), (53, .dup, 1), (54, .getfield 35, 3), (57, .ldc2_w 121, 3), (60, .lmul, 1), (61, .putfield 35, 3), (64, .aload_n 0, 1), (65, .aload_n 0, 1), (66, .getfield 75, 3), (69, .ldc2_w 121, 3), (72, .lmul, 1), (73, .ldc2_w 33, 3), (76, .land, 1), (77, .aload_n 0, 1), (78, .getfield 15, 3)]) (S2 := (81, [some (.ref 80), some (.int v1)], [.ref 1, .long (((M.2.1 80 5) * (256 : Int64)) &&& (4294967295 : Int64)), .ref 80], (mm_pl M 80 4 ((M.2.1 80 4) * (256 : Int64))))) (by decide +kernel) (hO := mm_own_162) rfl ?_
    refine mm_R_call (v := mm_wi) h hA (k2 := 44) (as := [.ref 1]) (r := [.long (((M.2.1 80 5) * (256 : Int64)) &&& (4294967295 : Int64)), .ref 80]) rfl (fun _ => rfl) (fun q hq o ho => ms_44 (by omega) hq ho) (fun r1 M2 h => ?_)
    show mm_Runs L xs (d + 1) 162 (84, [some (.ref 80), some (.int v1)], [.int r1, .long (((M.2.1 80 5) * (256 : Int64)) &&& (4294967295 : Int64)), .ref 80], M2) o
    refine mm_Runs.seq (l := [(84, .i2l, 1), (85, .ladd, 1), (86, .putfield 75, 3), (89, .iload_n 1, 1)]) (S2 := (90, [some (.ref 80), some (.int v1)], [.int v1], (mm_pl M2 80 5 ((((M.2.1 80 5) * (256 : Int64)) &&& (4294967295 : Int64)) + r1.toInt64)))) (by decide +kernel) (hO := mm_own_162) rfl ?_
    cases h
    exact mm_R_reti rfl rfl hA
  · replace h := mm_iq hc h
    refine mm_Runs.seq (l := [(89, .iload_n 1, 1)]) (S2 := (90, [some (.ref 80), some (.int v1)], [.int v1], M)) (by decide +kernel) (hO := mm_own_162) rfl ?_
    cases h
    exact mm_R_reti rfl rfl hA
set_option maxRecDepth 8000 in
set_option maxHeartbeats 4000000 in
theorem ms_162 {L : Nat} {xs : Nat → Int32} {d : Nat} (hd : 8 ≤ d) {M : mm_M} {q : (Int32 ⊕ Nat) × mm_M} {o : mm_E} (h : mf_162 M = some q) (hA : mm_A (mm_Kr mm_wi) q o) : mm_Runs L xs d 162 (0, mm_ent (mm_ml 162) [.ref 80], [], M) o := by
  unfold mf_162 at h
  obtain ⟨d, rfl⟩ := mm_d1 (n := 7) hd
  show mm_Runs L xs (d + 1) 162 (0, [some (.ref 80), none], [], M) o
  refine mm_Runs.seq (l := [(0, .iconst 0, 1), (1, .istore_n 1, 1), (2, .aload_n 0, 1), (3, .dup, 1), (4, .getfield 35, 3), (7, .ldc2_w 123, 3), (10, .ldiv, 1), (11, .putfield 35, 3), (14, .aload_n 0, 1), (15, .getfield 75, 3), (18, .aload_n 0, 1), (19, .getfield 35, 3)]) (S2 := (22, [some (.ref 80), some (.int (0 : Int32))], [.long ((M.2.1 80 4) / (2 : Int64)), .long (M.2.1 80 5)], (mm_pl M 80 4 ((M.2.1 80 4) / (2 : Int64))))) (by decide +kernel) (hO := mm_own_162) rfl ?_
  refine mm_R_llt (t := 41) rfl rfl rfl rfl (fun hc => ?_) (fun hc => ?_)
  · replace h := mm_ip hc h
    exact (ms_162_j41 hd h hA : mp_162_41 L xs (d + 1) (0 : Int32) (mm_pl M 80 4 ((M.2.1 80 4) / (2 : Int64))) o)
  · replace h := mm_iq hc h
    refine mm_Runs.seq (l := [(26, .iconst 1, 1), (27, .istore_n 1, 1), (28, .aload_n 0, 1), (29, .dup, 1), (30, .getfield 75, 3), (33, .aload_n 0, 1), (34, .getfield 35, 3), (37, .lsub, 1), (38, .putfield 75, 3)]) (S2 := (41, [some (.ref 80), some (.int (1 : Int32))], [], (mm_pl (mm_pl M 80 4 ((M.2.1 80 4) / (2 : Int64))) 80 5 ((M.2.1 80 5) - ((M.2.1 80 4) / (2 : Int64)))))) (by decide +kernel) (hO := mm_own_162) rfl ?_
    exact (ms_162_j41 hd h hA : mp_162_41 L xs (d + 1) (1 : Int32) (mm_pl (mm_pl M 80 4 ((M.2.1 80 4) / (2 : Int64))) 80 5 ((M.2.1 80 5) - ((M.2.1 80 4) / (2 : Int64)))) o)
-- 170: PlainPacks$Chances.readDistance(I)J (depth 10)
theorem mm_own_170 : mm_own 170 = 11 := rfl
def mp_170_82 (L : Nat) (xs : Nat → Int32) (d : Nat) (v4 : Int64) (v6 : Int32) (M : mm_M) (o : mm_E) : Prop := ∀ z1 z2 z3 z5 : Option Value, mm_Runs L xs d 170 (82, [some (.ref 80), z1, z2, z3, some (.long v4), z5, some (.int v6)], [], M) o
def mp_170_107 (L : Nat) (xs : Nat → Int32) (d : Nat) (v4 : Int64) (M : mm_M) (o : mm_E) : Prop := ∀ z1 z2 z3 z5 z6 : Option Value, mm_Runs L xs d 170 (107, [some (.ref 80), z1, z2, z3, some (.long v4), z5, z6], [], M) o
set_option maxRecDepth 8000 in
set_option maxHeartbeats 4000000 in
theorem ms_170_b82 {L : Nat} {xs : Nat → Int32} {d : Nat} (hd : 10 ≤ d) {v4 : Int64} {v6 : Int32} {M : mm_M} {q : (((Int64 × Int32) ⊕ (Int64)) ⊕ Nat) × mm_M} {o : mm_E} (h : mf_170_b82 v4 v6 M = some q) (hA : mm_A (mm_K2 (fun s M o => mp_170_82 L xs (d) s.1 s.2 M o) (fun r M o => mp_170_107 L xs (d) r M o)) q o) : mp_170_82 L xs d v4 v6 M o := by
  unfold mf_170_b82 at h
  obtain ⟨d, rfl⟩ := mm_d1 (n := 9) hd
  intro z1 z2 z3 z5
  show mm_Runs L xs (d + 1) 170 (82, [some (.ref 80), z1, z2, z3, some (.long v4), z5, some (.int v6)], [], M) o
  refine mm_Runs.seq (l := [(82, .iload 6, 2), (84, .iconst 4, 1)]) (S2 := (85, [some (.ref 80), z1, z2, z3, some (.long v4), z5, some (.int v6)], [.int (4 : Int32), .int v6], M)) (by decide +kernel) (hO := mm_own_170) rfl ?_
  refine mm_R_ilt (t := 107) rfl rfl rfl (fun hc => ?_) (fun hc => ?_)
  · replace h := mm_ip hc h
    cases h
    exact (show mp_170_107 L xs (d + 1) v4 M o from hA) z1 z2 z3 z5 (some (.int v6))
  · replace h := mm_iq hc h
    refine mm_Runs.seq (l := [(88, .lload 4, 2), (90, .aload_n 0, 1)]) (S2 := (91, [some (.ref 80), z1, z2, z3, some (.long v4), z5, some (.int v6)], [.ref 80, .long v4], M)) (by decide +kernel) (hO := mm_own_170) rfl ?_
    refine mm_R_call (v := mm_wi) h hA (k2 := 162) (as := [.ref 80]) (r := [.long v4]) rfl (fun _ => rfl) (fun q hq o ho => ms_162 (by omega) hq ho) (fun r1 M2 h => ?_)
    show mm_Runs L xs (d + 1) 170 (94, [some (.ref 80), z1, z2, z3, some (.long v4), z5, some (.int v6)], [.int r1, .long v4], M2) o
    refine mm_Runs.seq (l := [(94, .i2l, 1), (95, .iload 6, 2), (97, .lshl, 1), (98, .ladd, 1), (99, .lstore 4, 2), (101, .iinc 6 (-1), 3), (104, .goto (-22), 3)]) (S2 := (82, [some (.ref 80), z1, z2, (mm_no2 z3), some (.long (v4 + (mm_lshl r1.toInt64 v6))), none, some (.int (v6 + (-1 : Int32)))], [], M2)) (by decide +kernel) (hO := mm_own_170) rfl ?_
    cases h
    exact (show mp_170_82 L xs (d + 1) (v4 + (mm_lshl r1.toInt64 v6)) (v6 + (-1 : Int32)) M2 o from hA) z1 z2 ((mm_no2 z3)) none
theorem ms_170_L82 {L : Nat} {xs : Nat → Int32} {d : Nat} (hd : 10 ≤ d) {v4 : Int64} {v6 : Int32} {β : Type} {K : β → mm_M → mm_E → Prop} {F : (Int64) → mm_M → mm_O β} {M : mm_M} {q : (β ⊕ Nat) × mm_M} {o : mm_E} (h : mm_B (mf_170_L82 (v4, v6) M) F = some q) (hA : mm_A K q o) (hx : ∀ (r : (Int64)) (M2 : mm_M), F r M2 = some q → (fun r M o => mp_170_107 L xs (d) r M o) r M2 o) : mp_170_82 L xs d v4 v6 M o := by
  unfold mf_170_L82 at h
  exact mm_R_loop (step := (fun s M => mf_170_b82 s.1 s.2 M)) (s := (v4, v6)) (M := M) (P := (fun s M o => mp_170_82 L xs (d) s.1 s.2 M o)) (X := (fun r M o => mp_170_107 L xs (d) r M o)) h hA (fun s M q hq hA => ms_170_b82 (v4 := s.1) (v6 := s.2) (M := M) (q := q) hd hq hA) hx
set_option maxRecDepth 8000 in
set_option maxHeartbeats 4000000 in
theorem ms_170_j107 {L : Nat} {xs : Nat → Int32} {d : Nat} (hd : 10 ≤ d) {v4 : Int64} {M : mm_M} {q : (Int64 ⊕ Nat) × mm_M} {o : mm_E} (h : mf_170_j107 v4 M = some q) (hA : mm_A (mm_Kr mm_wl) q o) : mp_170_107 L xs d v4 M o := by
  unfold mf_170_j107 at h
  obtain ⟨d, rfl⟩ := mm_d1 (n := 9) hd
  intro z1 z2 z3 z5 z6
  show mm_Runs L xs (d + 1) 170 (107, [some (.ref 80), z1, z2, z3, some (.long v4), z5, z6], [], M) o
  refine mm_Runs.seq (l := [(107, .lload 4, 2), (109, .aload_n 0, 1), (110, .sipush 2036, 3), (113, .iconst 4, 1)]) (S2 := (114, [some (.ref 80), z1, z2, z3, some (.long v4), z5, z6], [.int (4 : Int32), .int (2036 : Int32), .ref 80, .long v4], M)) (by decide +kernel) (hO := mm_own_170) rfl ?_
  refine mm_R_call (v := mm_wi) h hA (k2 := 164) (as := [.ref 80, .int (2036 : Int32), .int (4 : Int32)]) (r := [.long v4]) rfl (fun _ => rfl) (fun q hq o ho => ms_164 (by omega) hq ho) (fun r1 M2 h => ?_)
  show mm_Runs L xs (d + 1) 170 (117, [some (.ref 80), z1, z2, z3, some (.long v4), z5, z6], [.int r1, .long v4], M2) o
  refine mm_Runs.seq (l := [(117, .i2l, 1), (118, .ladd, 1)]) (S2 := (119, [some (.ref 80), z1, z2, z3, some (.long v4), z5, z6], [.long (v4 + r1.toInt64)], M2)) (by decide +kernel) (hO := mm_own_170) rfl ?_
  cases h
  exact mm_R_retl rfl rfl hA
set_option maxRecDepth 8000 in
set_option maxHeartbeats 4000000 in
theorem ms_170 {L : Nat} {xs : Nat → Int32} {d : Nat} (hd : 10 ≤ d) {v1 : Int32} {M : mm_M} {q : (Int64 ⊕ Nat) × mm_M} {o : mm_E} (h : mf_170 v1 M = some q) (hA : mm_A (mm_Kr mm_wl) q o) : mm_Runs L xs d 170 (0, mm_ent (mm_ml 170) [.ref 80, .int v1], [], M) o := by
  unfold mf_170 at h
  obtain ⟨d, rfl⟩ := mm_d1 (n := 9) hd
  show mm_Runs L xs (d + 1) 170 (0, [some (.ref 80), some (.int v1), none, none, none, none, none], [], M) o
  refine mm_Runs.seq (l := [(0, .aload_n 0, 1), (1, .sipush 1460, 3), (4, .bipush 64, 2), (6, .iload_n 1, 1), (7, .iconst 2, 1), (8, .isub, 1), (9, .iconst 3, 1)]) (S2 := (10, [some (.ref 80), some (.int v1), none, none, none, none, none], [.int (3 : Int32), .int (v1 - (2 : Int32)), .int (64 : Int32), .int (1460 : Int32), .ref 80], M)) (by decide +kernel) (hO := mm_own_170) rfl ?_
  refine mm_R_intr (st2 := [.int (mm_min (v1 - (2 : Int32)) (3 : Int32)), .int (64 : Int32), .int (1460 : Int32), .ref 80]) (M2 := M) rfl rfl (by omega) ?_
  refine mm_Runs.seq (l := [(13, .imul, 1), (14, .iadd, 1), (15, .bipush 6, 2)]) (S2 := (17, [some (.ref 80), some (.int v1), none, none, none, none, none], [.int (6 : Int32), .int ((1460 : Int32) + ((64 : Int32) * (mm_min (v1 - (2 : Int32)) (3 : Int32)))), .ref 80], M)) (by decide +kernel) (hO := mm_own_170) rfl ?_
  refine mm_R_call (v := mm_wi) h hA (k2 := 163) (as := [.ref 80, .int ((1460 : Int32) + ((64 : Int32) * (mm_min (v1 - (2 : Int32)) (3 : Int32)))), .int (6 : Int32)]) (r := []) rfl (fun _ => rfl) (fun q hq o ho => ms_163 (by omega) hq ho) (fun r1 M2 h => ?_)
  show mm_Runs L xs (d + 1) 170 (20, [some (.ref 80), some (.int v1), none, none, none, none, none], [.int r1], M2) o
  refine mm_Runs.seq (l := [(20, .istore_n 2, 1), (21, .iload_n 2, 1), (22, .iconst 4, 1)]) (S2 := (23, [some (.ref 80), some (.int v1), some (.int r1), none, none, none, none], [.int (4 : Int32), .int r1], M2)) (by decide +kernel) (hO := mm_own_170) rfl ?_
  refine mm_R_ige (t := 31) rfl rfl rfl (fun hc => ?_) (fun hc => ?_)
  · replace h := mm_ip hc h
    refine mm_Runs.seq (l := [(26, .iload_n 2, 1), (27, .iconst 1, 1), (28, .iadd, 1), (29, .i2l, 1)]) (S2 := (30, [some (.ref 80), some (.int v1), some (.int r1), none, none, none, none], [.long (r1 + (1 : Int32)).toInt64], M2)) (by decide +kernel) (hO := mm_own_170) rfl ?_
    cases h
    exact mm_R_retl rfl rfl hA
  · replace h := mm_iq hc h
    refine mm_Runs.seq (l := [(31, .iload_n 2, 1), (32, .iconst 2, 1), (33, .idiv, 1), (34, .iconst 1, 1), (35, .isub, 1), (36, .istore_n 3, 1), (37, .ldc2_w 123, 3), (40, .iload_n 2, 1), (41, .iconst 2, 1), (42, .irem, 1), (43, .i2l, 1), (44, .ladd, 1), (45, .iload_n 3, 1), (46, .lshl, 1), (47, .lconst 1, 1), (48, .ladd, 1), (49, .lstore 4, 2), (51, .iload_n 2, 1), (52, .bipush 14, 2)]) (S2 := (54, [some (.ref 80), some (.int v1), some (.int r1), some (.int ((r1 / (2 : Int32)) - (1 : Int32))), some (.long ((mm_lshl ((2 : Int64) + (mm_rem r1 (2 : Int32)).toInt64) ((r1 / (2 : Int32)) - (1 : Int32))) + (1 : Int64))), none, none], [.int (14 : Int32), .int r1], M2)) (by decide +kernel) (hO := mm_own_170) rfl ?_
    refine mm_R_ige (t := 77) rfl rfl rfl (fun hc => ?_) (fun hc => ?_)
    · replace h := mm_ip hc h
      refine mm_Runs.seq (l := [(57, .lload 4, 2), (59, .aload_n 0, 1), (60, .sipush 1716, 3), (63, .bipush 32, 2), (65, .iload_n 2, 1), (66, .iconst 4, 1), (67, .isub, 1), (68, .imul, 1), (69, .iadd, 1), (70, .iload_n 3, 1)]) (S2 := (71, [some (.ref 80), some (.int v1), some (.int r1), some (.int ((r1 / (2 : Int32)) - (1 : Int32))), some (.long ((mm_lshl ((2 : Int64) + (mm_rem r1 (2 : Int32)).toInt64) ((r1 / (2 : Int32)) - (1 : Int32))) + (1 : Int64))), none, none], [.int ((r1 / (2 : Int32)) - (1 : Int32)), .int ((1716 : Int32) + ((32 : Int32) * (r1 - (4 : Int32)))), .ref 80, .long ((mm_lshl ((2 : Int64) + (mm_rem r1 (2 : Int32)).toInt64) ((r1 / (2 : Int32)) - (1 : Int32))) + (1 : Int64))], M2)) (by decide +kernel) (hO := mm_own_170) rfl ?_
      refine mm_R_call (v := mm_wi) h hA (k2 := 164) (as := [.ref 80, .int ((1716 : Int32) + ((32 : Int32) * (r1 - (4 : Int32)))), .int ((r1 / (2 : Int32)) - (1 : Int32))]) (r := [.long ((mm_lshl ((2 : Int64) + (mm_rem r1 (2 : Int32)).toInt64) ((r1 / (2 : Int32)) - (1 : Int32))) + (1 : Int64))]) rfl (fun _ => rfl) (fun q hq o ho => ms_164 (by omega) hq ho) (fun r3 M4 h => ?_)
      show mm_Runs L xs (d + 1) 170 (74, [some (.ref 80), some (.int v1), some (.int r1), some (.int ((r1 / (2 : Int32)) - (1 : Int32))), some (.long ((mm_lshl ((2 : Int64) + (mm_rem r1 (2 : Int32)).toInt64) ((r1 / (2 : Int32)) - (1 : Int32))) + (1 : Int64))), none, none], [.int r3, .long ((mm_lshl ((2 : Int64) + (mm_rem r1 (2 : Int32)).toInt64) ((r1 / (2 : Int32)) - (1 : Int32))) + (1 : Int64))], M4) o
      refine mm_Runs.seq (l := [(74, .i2l, 1), (75, .ladd, 1)]) (S2 := (76, [some (.ref 80), some (.int v1), some (.int r1), some (.int ((r1 / (2 : Int32)) - (1 : Int32))), some (.long ((mm_lshl ((2 : Int64) + (mm_rem r1 (2 : Int32)).toInt64) ((r1 / (2 : Int32)) - (1 : Int32))) + (1 : Int64))), none, none], [.long (((mm_lshl ((2 : Int64) + (mm_rem r1 (2 : Int32)).toInt64) ((r1 / (2 : Int32)) - (1 : Int32))) + (1 : Int64)) + r3.toInt64)], M4)) (by decide +kernel) (hO := mm_own_170) rfl ?_
      cases h
      exact mm_R_retl rfl rfl hA
    · replace h := mm_iq hc h
      refine mm_Runs.seq (l := [(77, .iload_n 3, 1), (78, .iconst 1, 1), (79, .isub, 1), (80, .istore 6, 2)]) (S2 := (82, [some (.ref 80), some (.int v1), some (.int r1), some (.int ((r1 / (2 : Int32)) - (1 : Int32))), some (.long ((mm_lshl ((2 : Int64) + (mm_rem r1 (2 : Int32)).toInt64) ((r1 / (2 : Int32)) - (1 : Int32))) + (1 : Int64))), none, some (.int (((r1 / (2 : Int32)) - (1 : Int32)) - (1 : Int32)))], [], M2)) (by decide +kernel) (hO := mm_own_170) rfl ?_
      have hp : mp_170_82 L xs (d + 1) ((mm_lshl ((2 : Int64) + (mm_rem r1 (2 : Int32)).toInt64) ((r1 / (2 : Int32)) - (1 : Int32))) + (1 : Int64)) (((r1 / (2 : Int32)) - (1 : Int32)) - (1 : Int32)) M2 o := by
        refine ms_170_L82 hd h hA (fun r6 M5 h => ?_)
        intro y7 y8 y9 y10 y11
        show mm_Runs L xs (d + 1) 170 (107, [some (.ref 80), y7, y8, y9, some (.long r6), y10, y11], [], M5) o
        exact (ms_170_j107 hd h hA : mp_170_107 L xs (d + 1) r6 M5 o) y7 y8 y9 y10 y11
      exact hp (some (.int v1)) (some (.int r1)) (some (.int ((r1 / (2 : Int32)) - (1 : Int32)))) none
