/-! MEANINGS ARE SOUND 36 -/
-- 282: PlainPacksModel.tell(II)V (depth 1)
theorem mm_own_282 : mm_own 282 = 12 := rfl
def mp_282_93 (L : Nat) (xs : Nat → Int32) (d : Nat) (M : mm_M) (o : mm_E) : Prop := ∀ z1 z2 z3 z4 : Option Value, mm_Runs L xs d 282 (93, [some (.ref 84), z1, z2, z3, z4], [], M) o
set_option maxRecDepth 8000 in
set_option maxHeartbeats 4000000 in
theorem ms_282_j93 {L : Nat} {xs : Nat → Int32} {d : Nat} (hd : 1 ≤ d) {M : mm_M} {q : (Unit ⊕ Nat) × mm_M} {o : mm_E} (h : mf_282_j93 M = some q) (hA : mm_A (mm_Kr mm_wv) q o) : mp_282_93 L xs d M o := by
  unfold mf_282_j93 at h
  obtain ⟨d, rfl⟩ := mm_d1 (n := 0) hd
  intro z1 z2 z3 z4
  show mm_Runs L xs (d + 1) 282 (93, [some (.ref 84), z1, z2, z3, z4], [], M) o
  refine mm_Runs.seq (l := [(93, .aload_n 0, 1), (94, .getfield 319, 3), (97, .ldc2_w 323, 3)]) (S2 := (100, [some (.ref 84), z1, z2, z3, z4], [.long (16777216 : Int64), .long (M.2.1 84 33)], M)) (by decide +kernel) (hO := mm_own_282) rfl ?_
  refine mm_R_lge (t := 157) rfl rfl rfl rfl (fun hc => ?_) (fun hc => ?_)
  · replace h := mm_ip hc h
    refine mm_Runs.seq (l := [(104, .aload_n 0, 1), (105, .dup, 1), (106, .getfield 319, 3), (109, .bipush 8, 2), (111, .lshl, 1), (112, .putfield 319, 3), (115, .aload_n 0, 1), (116, .getfield 63, 3), (119, .aload_n 0, 1), (120, .getfield 522, 3), (123, .aload_n 0, 1), (124, .getfield 519, 3), (127, .bipush 24, 2), (129, .lushr, 1), (130, .l2i, 1)]) (S2 := (131, [some (.ref 84), z1, z2, z3, z4], [.int (mm_lush (M.2.1 84 53) (24 : Int32)).toInt32, .int (M.1 84 54), .ref 102], (mm_pl M 84 33 (mm_lshl (M.2.1 84 33) (8 : Int32))))) (by decide +kernel) (hO := mm_own_282) rfl ?_
    obtain ⟨hb, h⟩ := mm_gd h
    refine mm_R_iast rfl rfl hb ?_
    refine mm_Runs.seq (l := [(132, .aload_n 0, 1), (133, .dup, 1), (134, .getfield 522, 3), (137, .iconst 1, 1), (138, .iadd, 1), (139, .putfield 522, 3), (142, .aload_n 0, 1), (143, .aload_n 0, 1), (144, .getfield 519, 3), (147, .bipush 8, 2), (149, .lshl, 1), (150, .ldc2_w 272, 3), (153, .land, 1), (154, .putfield 519, 3)]) (S2 := (157, [some (.ref 84), z1, z2, z3, z4], [], (mm_pl (mm_pi (mm_pi (mm_pl M 84 33 (mm_lshl (M.2.1 84 33) (8 : Int32))) 102 (M.1 84 54).toNatClampNeg (mm_lush (M.2.1 84 53) (24 : Int32)).toInt32) 84 54 ((M.1 84 54) + (1 : Int32))) 84 53 ((mm_lshl (M.2.1 84 53) (8 : Int32)) &&& (4294967295 : Int64))))) (by decide +kernel) (hO := mm_own_282) rfl ?_
    cases h
    exact mm_R_retv rfl rfl hA
  · replace h := mm_iq hc h
    cases h
    exact mm_R_retv rfl rfl hA
set_option maxRecDepth 8000 in
set_option maxHeartbeats 4000000 in
theorem ms_282 {L : Nat} {xs : Nat → Int32} {d : Nat} (hd : 1 ≤ d) {v1 : Int32} {v2 : Int32} {M : mm_M} {q : (Unit ⊕ Nat) × mm_M} {o : mm_E} (h : mf_282 v1 v2 M = some q) (hA : mm_A (mm_Kr mm_wv) q o) : mm_Runs L xs d 282 (0, mm_ent (mm_ml 282) [.ref 84, .int v1, .int v2], [], M) o := by
  unfold mf_282 at h
  obtain ⟨d, rfl⟩ := mm_d1 (n := 0) hd
  show mm_Runs L xs (d + 1) 282 (0, [some (.ref 84), some (.int v1), some (.int v2), none, none], [], M) o
  refine mm_Runs.seq (l := [(0, .aload_n 0, 1), (1, .getfield 319, 3), (4, .ldc2_w 328, 3), (7, .ldiv, 1), (8, .aload_n 0, 1), (9, .getfield 50, 3), (12, .iload_n 1, 1)]) (S2 := (13, [some (.ref 84), some (.int v1), some (.int v2), none, none], [.int v1, .ref 98, .long ((M.2.1 84 33) / (2048 : Int64))], M)) (by decide +kernel) (hO := mm_own_282) rfl ?_
  obtain ⟨hb, h⟩ := mm_gd h
  refine mm_R_iald rfl rfl hb ?_
  refine mm_Runs.seq (l := [(14, .i2l, 1), (15, .lmul, 1), (16, .lstore_n 3, 1), (17, .iload_n 2, 1)]) (S2 := (18, [some (.ref 84), some (.int v1), some (.int v2), some (.long (((M.2.1 84 33) / (2048 : Int64)) * (M.1 98 v1.toNatClampNeg).toInt64)), none], [.int v2], M)) (by decide +kernel) (hO := mm_own_282) rfl ?_
  refine mm_R_zne (t := 51) rfl rfl rfl (fun hc => ?_) (fun hc => ?_)
  · replace h := mm_ip hc h
    refine mm_Runs.seq (l := [(21, .aload_n 0, 1), (22, .lload_n 3, 1), (23, .putfield 319, 3), (26, .aload_n 0, 1), (27, .getfield 50, 3), (30, .iload_n 1, 1), (31, .dup2, 1)]) (S2 := (32, [some (.ref 84), some (.int v1), some (.int v2), some (.long (((M.2.1 84 33) / (2048 : Int64)) * (M.1 98 v1.toNatClampNeg).toInt64)), none], [.int v1, .ref 98, .int v1, .ref 98], (mm_pl M 84 33 (((M.2.1 84 33) / (2048 : Int64)) * (M.1 98 v1.toNatClampNeg).toInt64)))) (by decide +kernel) (hO := mm_own_282) rfl ?_
    obtain ⟨hb, h⟩ := mm_gd h
    refine mm_R_iald rfl rfl hb ?_
    refine mm_Runs.seq (l := [(33, .sipush 2048, 3), (36, .aload_n 0, 1), (37, .getfield 50, 3), (40, .iload_n 1, 1)]) (S2 := (41, [some (.ref 84), some (.int v1), some (.int v2), some (.long (((M.2.1 84 33) / (2048 : Int64)) * (M.1 98 v1.toNatClampNeg).toInt64)), none], [.int v1, .ref 98, .int (2048 : Int32), .int (M.1 98 v1.toNatClampNeg), .int v1, .ref 98], (mm_pl M 84 33 (((M.2.1 84 33) / (2048 : Int64)) * (M.1 98 v1.toNatClampNeg).toInt64)))) (by decide +kernel) (hO := mm_own_282) rfl ?_
    obtain ⟨hb, h⟩ := mm_gd h
    refine mm_R_iald rfl rfl hb ?_
    refine mm_Runs.seq (l := [(42, .isub, 1), (43, .bipush 32, 2), (45, .idiv, 1), (46, .iadd, 1)]) (S2 := (47, [some (.ref 84), some (.int v1), some (.int v2), some (.long (((M.2.1 84 33) / (2048 : Int64)) * (M.1 98 v1.toNatClampNeg).toInt64)), none], [.int ((M.1 98 v1.toNatClampNeg) + (((2048 : Int32) - (M.1 98 v1.toNatClampNeg)) / (32 : Int32))), .int v1, .ref 98], (mm_pl M 84 33 (((M.2.1 84 33) / (2048 : Int64)) * (M.1 98 v1.toNatClampNeg).toInt64)))) (by decide +kernel) (hO := mm_own_282) rfl ?_
    obtain ⟨hb, h⟩ := mm_gd h
    refine mm_R_iast rfl rfl hb ?_
    refine mm_Runs.seq (l := [(48, .goto 45, 3)]) (S2 := (93, [some (.ref 84), some (.int v1), some (.int v2), some (.long (((M.2.1 84 33) / (2048 : Int64)) * (M.1 98 v1.toNatClampNeg).toInt64)), none], [], (mm_pi (mm_pl M 84 33 (((M.2.1 84 33) / (2048 : Int64)) * (M.1 98 v1.toNatClampNeg).toInt64)) 98 v1.toNatClampNeg ((M.1 98 v1.toNatClampNeg) + (((2048 : Int32) - (M.1 98 v1.toNatClampNeg)) / (32 : Int32)))))) (by decide +kernel) (hO := mm_own_282) rfl ?_
    exact (ms_282_j93 hd h hA : mp_282_93 L xs (d + 1) (mm_pi (mm_pl M 84 33 (((M.2.1 84 33) / (2048 : Int64)) * (M.1 98 v1.toNatClampNeg).toInt64)) 98 v1.toNatClampNeg ((M.1 98 v1.toNatClampNeg) + (((2048 : Int32) - (M.1 98 v1.toNatClampNeg)) / (32 : Int32)))) o) (some (.int v1)) (some (.int v2)) (some (.long (((M.2.1 84 33) / (2048 : Int64)) * (M.1 98 v1.toNatClampNeg).toInt64))) none
  · replace h := mm_iq hc h
    refine mm_Runs.seq (l := [(51, .aload_n 0, 1), (52, .dup, 1), (53, .getfield 519, 3), (56, .lload_n 3, 1), (57, .ladd, 1), (58, .putfield 519, 3), (61, .aload_n 0, 1), (62, .dup, 1), (63, .getfield 319, 3), (66, .lload_n 3, 1), (67, .lsub, 1), (68, .putfield 319, 3), (71, .aload_n 0, 1), (72, .getfield 50, 3), (75, .iload_n 1, 1), (76, .dup2, 1)]) (S2 := (77, [some (.ref 84), some (.int v1), some (.int v2), some (.long (((M.2.1 84 33) / (2048 : Int64)) * (M.1 98 v1.toNatClampNeg).toInt64)), none], [.int v1, .ref 98, .int v1, .ref 98], (mm_pl (mm_pl M 84 53 ((M.2.1 84 53) + (((M.2.1 84 33) / (2048 : Int64)) * (M.1 98 v1.toNatClampNeg).toInt64))) 84 33 ((M.2.1 84 33) - (((M.2.1 84 33) / (2048 : Int64)) * (M.1 98 v1.toNatClampNeg).toInt64))))) (by decide +kernel) (hO := mm_own_282) rfl ?_
    obtain ⟨hb, h⟩ := mm_gd h
    refine mm_R_iald rfl rfl hb ?_
    refine mm_Runs.seq (l := [(78, .aload_n 0, 1), (79, .getfield 50, 3), (82, .iload_n 1, 1)]) (S2 := (83, [some (.ref 84), some (.int v1), some (.int v2), some (.long (((M.2.1 84 33) / (2048 : Int64)) * (M.1 98 v1.toNatClampNeg).toInt64)), none], [.int v1, .ref 98, .int (M.1 98 v1.toNatClampNeg), .int v1, .ref 98], (mm_pl (mm_pl M 84 53 ((M.2.1 84 53) + (((M.2.1 84 33) / (2048 : Int64)) * (M.1 98 v1.toNatClampNeg).toInt64))) 84 33 ((M.2.1 84 33) - (((M.2.1 84 33) / (2048 : Int64)) * (M.1 98 v1.toNatClampNeg).toInt64))))) (by decide +kernel) (hO := mm_own_282) rfl ?_
    obtain ⟨hb, h⟩ := mm_gd h
    refine mm_R_iald rfl rfl hb ?_
    refine mm_Runs.seq (l := [(84, .bipush 32, 2), (86, .idiv, 1), (87, .isub, 1)]) (S2 := (88, [some (.ref 84), some (.int v1), some (.int v2), some (.long (((M.2.1 84 33) / (2048 : Int64)) * (M.1 98 v1.toNatClampNeg).toInt64)), none], [.int ((M.1 98 v1.toNatClampNeg) - ((M.1 98 v1.toNatClampNeg) / (32 : Int32))), .int v1, .ref 98], (mm_pl (mm_pl M 84 53 ((M.2.1 84 53) + (((M.2.1 84 33) / (2048 : Int64)) * (M.1 98 v1.toNatClampNeg).toInt64))) 84 33 ((M.2.1 84 33) - (((M.2.1 84 33) / (2048 : Int64)) * (M.1 98 v1.toNatClampNeg).toInt64))))) (by decide +kernel) (hO := mm_own_282) rfl ?_
    obtain ⟨hb, h⟩ := mm_gd h
    refine mm_R_iast rfl rfl hb ?_
    refine mm_Runs.seq (l := [(89, .aload_n 0, 1)]) (S2 := (90, [some (.ref 84), some (.int v1), some (.int v2), some (.long (((M.2.1 84 33) / (2048 : Int64)) * (M.1 98 v1.toNatClampNeg).toInt64)), none], [.ref 84], (mm_pi (mm_pl (mm_pl M 84 53 ((M.2.1 84 53) + (((M.2.1 84 33) / (2048 : Int64)) * (M.1 98 v1.toNatClampNeg).toInt64))) 84 33 ((M.2.1 84 33) - (((M.2.1 84 33) / (2048 : Int64)) * (M.1 98 v1.toNatClampNeg).toInt64))) 98 v1.toNatClampNeg ((M.1 98 v1.toNatClampNeg) - ((M.1 98 v1.toNatClampNeg) / (32 : Int32)))))) (by decide +kernel) (hO := mm_own_282) rfl ?_
    refine mm_R_call (v := mm_wv) h hA (k2 := 281) (as := [.ref 84]) (r := []) rfl (fun _ => rfl) (fun q hq o ho => ms_281 (by omega) hq ho) (fun _ M1 h => ?_)
    show mm_Runs L xs (d + 1) 282 (93, [some (.ref 84), some (.int v1), some (.int v2), some (.long (((M.2.1 84 33) / (2048 : Int64)) * (M.1 98 v1.toNatClampNeg).toInt64)), none], [], M1) o
    exact (ms_282_j93 hd h hA : mp_282_93 L xs (d + 1) M1 o) (some (.int v1)) (some (.int v2)) (some (.long (((M.2.1 84 33) / (2048 : Int64)) * (M.1 98 v1.toNatClampNeg).toInt64))) none
-- 283: PlainPacksModel.packChances()V (depth 2)
theorem mm_own_283 : mm_own 283 = 12 := rfl
def mp_283_27 (L : Nat) (xs : Nat → Int32) (d : Nat) (v1 : Int32) (M : mm_M) (o : mm_E) : Prop := ∀ z2 z3 z4 z5 z6 : Option Value, mm_Runs L xs d 283 (27, [some (.ref 84), some (.int v1), z2, z3, z4, z5, z6], [], M) o
def mp_283_49 (L : Nat) (xs : Nat → Int32) (d : Nat) (M : mm_M) (o : mm_E) : Prop := ∀ z1 z2 z3 z4 z5 z6 : Option Value, mm_Runs L xs d 283 (49, [some (.ref 84), z1, z2, z3, z4, z5, z6], [], M) o
set_option maxRecDepth 8000 in
set_option maxHeartbeats 4000000 in
theorem ms_283_b27 {L : Nat} {xs : Nat → Int32} {d : Nat} (hd : 2 ≤ d) {v1 : Int32} {M : mm_M} {q : (((Int32) ⊕ (Unit)) ⊕ Nat) × mm_M} {o : mm_E} (h : mf_283_b27 v1 M = some q) (hA : mm_A (mm_K2 (fun s M o => mp_283_27 L xs (d) s M o) (fun r M o => mp_283_49 L xs (d) M o)) q o) : mp_283_27 L xs d v1 M o := by
  unfold mf_283_b27 at h
  obtain ⟨d, rfl⟩ := mm_d1 (n := 1) hd
  intro z2 z3 z4 z5 z6
  show mm_Runs L xs (d + 1) 283 (27, [some (.ref 84), some (.int v1), z2, z3, z4, z5, z6], [], M) o
  refine mm_Runs.seq (l := [(27, .iload_n 1, 1), (28, .sipush 14540, 3)]) (S2 := (31, [some (.ref 84), some (.int v1), z2, z3, z4, z5, z6], [.int (14540 : Int32), .int v1], M)) (by decide +kernel) (hO := mm_own_283) rfl ?_
  refine mm_R_ige (t := 49) rfl rfl rfl (fun hc => ?_) (fun hc => ?_)
  · replace h := mm_ip hc h
    refine mm_Runs.seq (l := [(34, .aload_n 0, 1), (35, .getfield 50, 3), (38, .iload_n 1, 1), (39, .sipush 1024, 3)]) (S2 := (42, [some (.ref 84), some (.int v1), z2, z3, z4, z5, z6], [.int (1024 : Int32), .int v1, .ref 98], M)) (by decide +kernel) (hO := mm_own_283) rfl ?_
    obtain ⟨hb, h⟩ := mm_gd h
    refine mm_R_iast rfl rfl hb ?_
    refine mm_Runs.seq (l := [(43, .iinc 1 1, 3), (46, .goto (-19), 3)]) (S2 := (27, [some (.ref 84), some (.int (v1 + (1 : Int32))), z2, z3, z4, z5, z6], [], (mm_pi M 98 v1.toNatClampNeg (1024 : Int32)))) (by decide +kernel) (hO := mm_own_283) rfl ?_
    cases h
    exact (show mp_283_27 L xs (d + 1) (v1 + (1 : Int32)) (mm_pi M 98 v1.toNatClampNeg (1024 : Int32)) o from hA) z2 z3 z4 z5 z6
  · replace h := mm_iq hc h
    cases h
    exact (show mp_283_49 L xs (d + 1) M o from hA) (some (.int v1)) z2 z3 z4 z5 z6
theorem ms_283_L27 {L : Nat} {xs : Nat → Int32} {d : Nat} (hd : 2 ≤ d) {v1 : Int32} {β : Type} {K : β → mm_M → mm_E → Prop} {F : (Unit) → mm_M → mm_O β} {M : mm_M} {q : (β ⊕ Nat) × mm_M} {o : mm_E} (h : mm_B (mf_283_L27 v1 M) F = some q) (hA : mm_A K q o) (hx : ∀ (r : (Unit)) (M2 : mm_M), F r M2 = some q → (fun r M o => mp_283_49 L xs (d) M o) r M2 o) : mp_283_27 L xs d v1 M o := by
  unfold mf_283_L27 at h
  exact mm_R_loop (step := (fun s M => mf_283_b27 s M)) (s := v1) (M := M) (P := (fun s M o => mp_283_27 L xs (d) s M o)) (X := (fun r M o => mp_283_49 L xs (d) M o)) h hA (fun s M q hq hA => ms_283_b27 (v1 := s) (M := M) (q := q) hd hq hA) hx
def mp_283_77 (L : Nat) (xs : Nat → Int32) (d : Nat) (v1 : Int32) (v2 : Int32) (M : mm_M) (o : mm_E) : Prop := ∀ z3 z4 z5 z6 : Option Value, mm_Runs L xs d 283 (77, [some (.ref 84), some (.int v1), some (.int v2), z3, z4, z5, z6], [], M) o
def mp_283_170 (L : Nat) (xs : Nat → Int32) (d : Nat) (M : mm_M) (o : mm_E) : Prop := ∀ z1 z2 z3 z4 z5 z6 : Option Value, mm_Runs L xs d 283 (170, [some (.ref 84), z1, z2, z3, z4, z5, z6], [], M) o
def mp_283_114 (L : Nat) (xs : Nat → Int32) (d : Nat) (v2 : Int32) (v3 : Int32) (v4 : Int32) (v5 : Int32) (M : mm_M) (o : mm_E) : Prop := ∀ z1 z6 : Option Value, mm_Runs L xs d 283 (114, [some (.ref 84), z1, some (.int v2), some (.int v3), some (.int v4), some (.int v5), z6], [], M) o
def mp_283_157 (L : Nat) (xs : Nat → Int32) (d : Nat) (v2 : Int32) (M : mm_M) (o : mm_E) : Prop := ∀ z1 z3 z4 z5 z6 : Option Value, mm_Runs L xs d 283 (157, [some (.ref 84), z1, some (.int v2), z3, z4, z5, z6], [], M) o
set_option maxRecDepth 8000 in
set_option maxHeartbeats 4000000 in
theorem ms_283_b114 {L : Nat} {xs : Nat → Int32} {d : Nat} (hd : 2 ≤ d) {v2 : Int32} {v3 : Int32} {v4 : Int32} {v5 : Int32} {M : mm_M} {q : (((Int32 × Int32) ⊕ (Unit)) ⊕ Nat) × mm_M} {o : mm_E} (h : mf_283_b114 v2 v3 v4 v5 M = some q) (hA : mm_A (mm_K2 (fun s M o => mp_283_114 L xs (d) v2 v3 s.1 s.2 M o) (fun r M o => mp_283_157 L xs (d) v2 M o)) q o) : mp_283_114 L xs d v2 v3 v4 v5 M o := by
  unfold mf_283_b114 at h
  obtain ⟨d, rfl⟩ := mm_d1 (n := 1) hd
  intro z1 z6
  show mm_Runs L xs (d + 1) 283 (114, [some (.ref 84), z1, some (.int v2), some (.int v3), some (.int v4), some (.int v5), z6], [], M) o
  refine mm_Runs.seq (l := [(114, .iload 5, 2)]) (S2 := (116, [some (.ref 84), z1, some (.int v2), some (.int v3), some (.int v4), some (.int v5), z6], [.int v5], M)) (by decide +kernel) (hO := mm_own_283) rfl ?_
  refine mm_R_zlt (t := 157) rfl rfl rfl (fun hc => ?_) (fun hc => ?_)
  · replace h := mm_ip hc h
    cases h
    exact (show mp_283_157 L xs (d + 1) v2 M o from hA) z1 (some (.int v3)) (some (.int v4)) (some (.int v5)) z6
  · replace h := mm_iq hc h
    refine mm_Runs.seq (l := [(119, .aload_n 0, 1), (120, .getfield 7, 3), (123, .iload_n 2, 1)]) (S2 := (124, [some (.ref 84), z1, some (.int v2), some (.int v3), some (.int v4), some (.int v5), z6], [.int v2, .ref 85], M)) (by decide +kernel) (hO := mm_own_283) rfl ?_
    obtain ⟨hb, h⟩ := mm_gd h
    refine mm_R_iald rfl rfl hb ?_
    refine mm_Runs.seq (l := [(125, .iload 5, 2), (127, .ishr, 1), (128, .iconst 1, 1), (129, .iand, 1), (130, .istore 6, 2), (132, .aload_n 0, 1), (133, .iload_n 3, 1), (134, .iload 4, 2), (136, .iadd, 1), (137, .iload 6, 2)]) (S2 := (139, [some (.ref 84), z1, some (.int v2), some (.int v3), some (.int v4), some (.int v5), some (.int ((mm_shr (M.1 85 v2.toNatClampNeg) v5) &&& (1 : Int32)))], [.int ((mm_shr (M.1 85 v2.toNatClampNeg) v5) &&& (1 : Int32)), .int (v3 + v4), .ref 84], M)) (by decide +kernel) (hO := mm_own_283) rfl ?_
    refine mm_R_call (v := mm_wv) h hA (k2 := 282) (as := [.ref 84, .int (v3 + v4), .int ((mm_shr (M.1 85 v2.toNatClampNeg) v5) &&& (1 : Int32))]) (r := []) rfl (fun _ => rfl) (fun q hq o ho => ms_282 (by omega) hq ho) (fun _ M1 h => ?_)
    show mm_Runs L xs (d + 1) 283 (142, [some (.ref 84), z1, some (.int v2), some (.int v3), some (.int v4), some (.int v5), some (.int ((mm_shr (M.1 85 v2.toNatClampNeg) v5) &&& (1 : Int32)))], [], M1) o
    refine mm_Runs.seq (l := [(142, .iconst 2, 1), (143, .iload 4, 2), (145, .imul, 1), (146, .iload 6, 2), (148, .iadd, 1), (149, .istore 4, 2), (151, .iinc 5 (-1), 3), (154, .goto (-40), 3)]) (S2 := (114, [some (.ref 84), z1, some (.int v2), some (.int v3), some (.int (((2 : Int32) * v4) + ((mm_shr (M.1 85 v2.toNatClampNeg) v5) &&& (1 : Int32)))), some (.int (v5 + (-1 : Int32))), some (.int ((mm_shr (M.1 85 v2.toNatClampNeg) v5) &&& (1 : Int32)))], [], M1)) (by decide +kernel) (hO := mm_own_283) rfl ?_
    cases h
    exact (show mp_283_114 L xs (d + 1) v2 v3 (((2 : Int32) * v4) + ((mm_shr (M.1 85 v2.toNatClampNeg) v5) &&& (1 : Int32))) (v5 + (-1 : Int32)) M1 o from hA) z1 (some (.int ((mm_shr (M.1 85 v2.toNatClampNeg) v5) &&& (1 : Int32))))
theorem ms_283_L114 {L : Nat} {xs : Nat → Int32} {d : Nat} (hd : 2 ≤ d) {v2 : Int32} {v3 : Int32} {v4 : Int32} {v5 : Int32} {β : Type} {K : β → mm_M → mm_E → Prop} {F : (Unit) → mm_M → mm_O β} {M : mm_M} {q : (β ⊕ Nat) × mm_M} {o : mm_E} (h : mm_B (mf_283_L114 v2 v3 (v4, v5) M) F = some q) (hA : mm_A K q o) (hx : ∀ (r : (Unit)) (M2 : mm_M), F r M2 = some q → (fun r M o => mp_283_157 L xs (d) v2 M o) r M2 o) : mp_283_114 L xs d v2 v3 v4 v5 M o := by
  unfold mf_283_L114 at h
  exact mm_R_loop (step := (fun s M => mf_283_b114 v2 v3 s.1 s.2 M)) (s := (v4, v5)) (M := M) (P := (fun s M o => mp_283_114 L xs (d) v2 v3 s.1 s.2 M o)) (X := (fun r M o => mp_283_157 L xs (d) v2 M o)) h hA (fun s M q hq hA => ms_283_b114 (v2 := v2) (v3 := v3) (v4 := s.1) (v5 := s.2) (M := M) (q := q) hd hq hA) hx
set_option maxRecDepth 8000 in
set_option maxHeartbeats 4000000 in
theorem ms_283_j157 {L : Nat} {xs : Nat → Int32} {d : Nat} (hd : 2 ≤ d) {v2 : Int32} {M : mm_M} {q : (((Int32 × Int32) ⊕ (Unit)) ⊕ Nat) × mm_M} {o : mm_E} (h : mf_283_j157 v2 M = some q) (hA : mm_A (mm_K2 (fun s M o => mp_283_77 L xs (d) s.1 s.2 M o) (fun r M o => mp_283_170 L xs (d) M o)) q o) : mp_283_157 L xs d v2 M o := by
  unfold mf_283_j157 at h
  obtain ⟨d, rfl⟩ := mm_d1 (n := 1) hd
  intro z1 z3 z4 z5 z6
  show mm_Runs L xs (d + 1) 283 (157, [some (.ref 84), z1, some (.int v2), z3, z4, z5, z6], [], M) o
  refine mm_Runs.seq (l := [(157, .aload_n 0, 1), (158, .getfield 7, 3), (161, .iload_n 2, 1)]) (S2 := (162, [some (.ref 84), z1, some (.int v2), z3, z4, z5, z6], [.int v2, .ref 85], M)) (by decide +kernel) (hO := mm_own_283) rfl ?_
  obtain ⟨hb, h⟩ := mm_gd h
  refine mm_R_iald rfl rfl hb ?_
  refine mm_Runs.seq (l := [(163, .istore_n 1, 1), (164, .iinc 2 1, 3), (167, .goto (-90), 3)]) (S2 := (77, [some (.ref 84), some (.int (M.1 85 v2.toNatClampNeg)), some (.int (v2 + (1 : Int32))), z3, z4, z5, z6], [], M)) (by decide +kernel) (hO := mm_own_283) rfl ?_
  cases h
  exact (show mp_283_77 L xs (d + 1) (M.1 85 v2.toNatClampNeg) (v2 + (1 : Int32)) M o from hA) z3 z4 z5 z6
set_option maxRecDepth 8000 in
set_option maxHeartbeats 4000000 in
theorem ms_283_b77 {L : Nat} {xs : Nat → Int32} {d : Nat} (hd : 2 ≤ d) {v1 : Int32} {v2 : Int32} {M : mm_M} {q : (((Int32 × Int32) ⊕ (Unit)) ⊕ Nat) × mm_M} {o : mm_E} (h : mf_283_b77 v1 v2 M = some q) (hA : mm_A (mm_K2 (fun s M o => mp_283_77 L xs (d) s.1 s.2 M o) (fun r M o => mp_283_170 L xs (d) M o)) q o) : mp_283_77 L xs d v1 v2 M o := by
  unfold mf_283_b77 at h
  obtain ⟨d, rfl⟩ := mm_d1 (n := 1) hd
  intro z3 z4 z5 z6
  show mm_Runs L xs (d + 1) 283 (77, [some (.ref 84), some (.int v1), some (.int v2), z3, z4, z5, z6], [], M) o
  refine mm_Runs.seq (l := [(77, .iload_n 2, 1), (78, .aload_n 0, 1), (79, .getfield 91, 3)]) (S2 := (82, [some (.ref 84), some (.int v1), some (.int v2), z3, z4, z5, z6], [.int (M.1 84 2), .int v2], M)) (by decide +kernel) (hO := mm_own_283) rfl ?_
  refine mm_R_ige (t := 170) rfl rfl rfl (fun hc => ?_) (fun hc => ?_)
  · replace h := mm_ip hc h
    refine mm_Runs.seq (l := [(85, .aload_n 0, 1), (86, .iconst 0, 1), (87, .iload_n 2, 1), (88, .iconst 4, 1), (89, .irem, 1), (90, .iadd, 1), (91, .iconst 0, 1)]) (S2 := (92, [some (.ref 84), some (.int v1), some (.int v2), z3, z4, z5, z6], [.int (0 : Int32), .int ((0 : Int32) + (mm_rem v2 (4 : Int32))), .ref 84], M)) (by decide +kernel) (hO := mm_own_283) rfl ?_
    refine mm_R_call (v := mm_wv) h hA (k2 := 282) (as := [.ref 84, .int ((0 : Int32) + (mm_rem v2 (4 : Int32))), .int (0 : Int32)]) (r := []) rfl (fun _ => rfl) (fun q hq o ho => ms_282 (by omega) hq ho) (fun _ M1 h => ?_)
    show mm_Runs L xs (d + 1) 283 (95, [some (.ref 84), some (.int v1), some (.int v2), z3, z4, z5, z6], [], M1) o
    refine mm_Runs.seq (l := [(95, .sipush 2244, 3), (98, .sipush 768, 3), (101, .iload_n 1, 1), (102, .iconst 5, 1), (103, .ishr, 1), (104, .imul, 1), (105, .iadd, 1), (106, .istore_n 3, 1), (107, .iconst 1, 1), (108, .istore 4, 2), (110, .bipush 7, 2), (112, .istore 5, 2)]) (S2 := (114, [some (.ref 84), some (.int v1), some (.int v2), some (.int ((2244 : Int32) + ((768 : Int32) * (mm_shr v1 (5 : Int32))))), some (.int (1 : Int32)), some (.int (7 : Int32)), z6], [], M1)) (by decide +kernel) (hO := mm_own_283) rfl ?_
    have hp : mp_283_114 L xs (d + 1) v2 ((2244 : Int32) + ((768 : Int32) * (mm_shr v1 (5 : Int32)))) (1 : Int32) (7 : Int32) M1 o := by
      refine ms_283_L114 hd h hA (fun r3 M2 h => ?_)
      intro y4 y5 y6 y7 y8
      show mm_Runs L xs (d + 1) 283 (157, [some (.ref 84), y4, some (.int v2), y5, y6, y7, y8], [], M2) o
      exact (ms_283_j157 hd h hA : mp_283_157 L xs (d + 1) v2 M2 o) y4 y5 y6 y7 y8
    exact hp (some (.int v1)) z6
  · replace h := mm_iq hc h
    cases h
    exact (show mp_283_170 L xs (d + 1) M o from hA) (some (.int v1)) (some (.int v2)) z3 z4 z5 z6
theorem ms_283_L77 {L : Nat} {xs : Nat → Int32} {d : Nat} (hd : 2 ≤ d) {v1 : Int32} {v2 : Int32} {β : Type} {K : β → mm_M → mm_E → Prop} {F : (Unit) → mm_M → mm_O β} {M : mm_M} {q : (β ⊕ Nat) × mm_M} {o : mm_E} (h : mm_B (mf_283_L77 (v1, v2) M) F = some q) (hA : mm_A K q o) (hx : ∀ (r : (Unit)) (M2 : mm_M), F r M2 = some q → (fun r M o => mp_283_170 L xs (d) M o) r M2 o) : mp_283_77 L xs d v1 v2 M o := by
  unfold mf_283_L77 at h
  exact mm_R_loop (step := (fun s M => mf_283_b77 s.1 s.2 M)) (s := (v1, v2)) (M := M) (P := (fun s M o => mp_283_77 L xs (d) s.1 s.2 M o)) (X := (fun r M o => mp_283_170 L xs (d) M o)) h hA (fun s M q hq hA => ms_283_b77 (v1 := s.1) (v2 := s.2) (M := M) (q := q) hd hq hA) hx
def mp_283_172 (L : Nat) (xs : Nat → Int32) (d : Nat) (v2 : Int32) (M : mm_M) (o : mm_E) : Prop := ∀ z1 z3 z4 z5 z6 : Option Value, mm_Runs L xs d 283 (172, [some (.ref 84), z1, some (.int v2), z3, z4, z5, z6], [], M) o
def mp_283_196 (L : Nat) (xs : Nat → Int32) (d : Nat) (M : mm_M) (o : mm_E) : Prop := ∀ z1 z2 z3 z4 z5 z6 : Option Value, mm_Runs L xs d 283 (196, [some (.ref 84), z1, z2, z3, z4, z5, z6], [], M) o
set_option maxRecDepth 8000 in
set_option maxHeartbeats 4000000 in
theorem ms_283_b172 {L : Nat} {xs : Nat → Int32} {d : Nat} (hd : 2 ≤ d) {v2 : Int32} {M : mm_M} {q : (((Int32) ⊕ (Unit)) ⊕ Nat) × mm_M} {o : mm_E} (h : mf_283_b172 v2 M = some q) (hA : mm_A (mm_K2 (fun s M o => mp_283_172 L xs (d) s M o) (fun r M o => mp_283_196 L xs (d) M o)) q o) : mp_283_172 L xs d v2 M o := by
  unfold mf_283_b172 at h
  obtain ⟨d, rfl⟩ := mm_d1 (n := 1) hd
  intro z1 z3 z4 z5 z6
  show mm_Runs L xs (d + 1) 283 (172, [some (.ref 84), z1, some (.int v2), z3, z4, z5, z6], [], M) o
  refine mm_Runs.seq (l := [(172, .iload_n 2, 1), (173, .aload_n 0, 1), (174, .getfield 522, 3)]) (S2 := (177, [some (.ref 84), z1, some (.int v2), z3, z4, z5, z6], [.int (M.1 84 54), .int v2], M)) (by decide +kernel) (hO := mm_own_283) rfl ?_
  refine mm_R_ige (t := 196) rfl rfl rfl (fun hc => ?_) (fun hc => ?_)
  · replace h := mm_ip hc h
    refine mm_Runs.seq (l := [(180, .aload_n 0, 1), (181, .aload_n 0, 1), (182, .getfield 63, 3), (185, .iload_n 2, 1)]) (S2 := (186, [some (.ref 84), z1, some (.int v2), z3, z4, z5, z6], [.int v2, .ref 102, .ref 84], M)) (by decide +kernel) (hO := mm_own_283) rfl ?_
    obtain ⟨hb, h⟩ := mm_gd h
    refine mm_R_iald rfl rfl hb ?_
    refine mm_R_call (v := mm_wv) h hA (k2 := 245) (as := [.ref 84, .int (M.1 102 v2.toNatClampNeg)]) (r := []) rfl (fun _ => rfl) (fun q hq o ho => ms_245 (by omega) hq ho) (fun _ M1 h => ?_)
    show mm_Runs L xs (d + 1) 283 (190, [some (.ref 84), z1, some (.int v2), z3, z4, z5, z6], [], M1) o
    refine mm_Runs.seq (l := [(190, .iinc 2 1, 3), (193, .goto (-21), 3)]) (S2 := (172, [some (.ref 84), (mm_no2 z1), some (.int (v2 + (1 : Int32))), z3, z4, z5, z6], [], M1)) (by decide +kernel) (hO := mm_own_283) rfl ?_
    cases h
    exact (show mp_283_172 L xs (d + 1) (v2 + (1 : Int32)) M1 o from hA) ((mm_no2 z1)) z3 z4 z5 z6
  · replace h := mm_iq hc h
    cases h
    exact (show mp_283_196 L xs (d + 1) M o from hA) z1 (some (.int v2)) z3 z4 z5 z6
theorem ms_283_L172 {L : Nat} {xs : Nat → Int32} {d : Nat} (hd : 2 ≤ d) {v2 : Int32} {β : Type} {K : β → mm_M → mm_E → Prop} {F : (Unit) → mm_M → mm_O β} {M : mm_M} {q : (β ⊕ Nat) × mm_M} {o : mm_E} (h : mm_B (mf_283_L172 v2 M) F = some q) (hA : mm_A K q o) (hx : ∀ (r : (Unit)) (M2 : mm_M), F r M2 = some q → (fun r M o => mp_283_196 L xs (d) M o) r M2 o) : mp_283_172 L xs d v2 M o := by
  unfold mf_283_L172 at h
  exact mm_R_loop (step := (fun s M => mf_283_b172 s M)) (s := v2) (M := M) (P := (fun s M o => mp_283_172 L xs (d) s M o)) (X := (fun r M o => mp_283_196 L xs (d) M o)) h hA (fun s M q hq hA => ms_283_b172 (v2 := s) (M := M) (q := q) hd hq hA) hx
def mp_283_198 (L : Nat) (xs : Nat → Int32) (d : Nat) (v2 : Int32) (M : mm_M) (o : mm_E) : Prop := ∀ z1 z3 z4 z5 z6 : Option Value, mm_Runs L xs d 283 (198, [some (.ref 84), z1, some (.int v2), z3, z4, z5, z6], [], M) o
def mp_283_226 (L : Nat) (xs : Nat → Int32) (d : Nat) (M : mm_M) (o : mm_E) : Prop := ∀ z0 z1 z2 z3 z4 z5 z6 : Option Value, mm_Runs L xs d 283 (226, [z0, z1, z2, z3, z4, z5, z6], [], M) o
set_option maxRecDepth 8000 in
set_option maxHeartbeats 4000000 in
theorem ms_283_b198 {L : Nat} {xs : Nat → Int32} {d : Nat} (hd : 2 ≤ d) {v2 : Int32} {M : mm_M} {q : (((Int32) ⊕ (Unit)) ⊕ Nat) × mm_M} {o : mm_E} (h : mf_283_b198 v2 M = some q) (hA : mm_A (mm_K2 (fun s M o => mp_283_198 L xs (d) s M o) (fun r M o => mp_283_226 L xs (d) M o)) q o) : mp_283_198 L xs d v2 M o := by
  unfold mf_283_b198 at h
  obtain ⟨d, rfl⟩ := mm_d1 (n := 1) hd
  intro z1 z3 z4 z5 z6
  show mm_Runs L xs (d + 1) 283 (198, [some (.ref 84), z1, some (.int v2), z3, z4, z5, z6], [], M) o
  refine mm_Runs.seq (l := [(198, .iload_n 2, 1)]) (S2 := (199, [some (.ref 84), z1, some (.int v2), z3, z4, z5, z6], [.int v2], M)) (by decide +kernel) (hO := mm_own_283) rfl ?_
  refine mm_R_zlt (t := 226) rfl rfl rfl (fun hc => ?_) (fun hc => ?_)
  · replace h := mm_ip hc h
    cases h
    exact (show mp_283_226 L xs (d + 1) M o from hA) (some (.ref 84)) z1 (some (.int v2)) z3 z4 z5 z6
  · replace h := mm_iq hc h
    refine mm_Runs.seq (l := [(202, .aload_n 0, 1), (203, .aload_n 0, 1), (204, .getfield 519, 3), (207, .bipush 8, 2), (209, .iload_n 2, 1), (210, .imul, 1), (211, .lushr, 1), (212, .l2i, 1), (213, .sipush 255, 3), (216, .iand, 1)]) (S2 := (217, [some (.ref 84), z1, some (.int v2), z3, z4, z5, z6], [.int ((mm_lush (M.2.1 84 53) ((8 : Int32) * v2)).toInt32 &&& (255 : Int32)), .ref 84], M)) (by decide +kernel) (hO := mm_own_283) rfl ?_
    refine mm_R_call (v := mm_wv) h hA (k2 := 245) (as := [.ref 84, .int ((mm_lush (M.2.1 84 53) ((8 : Int32) * v2)).toInt32 &&& (255 : Int32))]) (r := []) rfl (fun _ => rfl) (fun q hq o ho => ms_245 (by omega) hq ho) (fun _ M1 h => ?_)
    show mm_Runs L xs (d + 1) 283 (220, [some (.ref 84), z1, some (.int v2), z3, z4, z5, z6], [], M1) o
    refine mm_Runs.seq (l := [(220, .iinc 2 (-1), 3), (223, .goto (-25), 3)]) (S2 := (198, [some (.ref 84), (mm_no2 z1), some (.int (v2 + (-1 : Int32))), z3, z4, z5, z6], [], M1)) (by decide +kernel) (hO := mm_own_283) rfl ?_
    cases h
    exact (show mp_283_198 L xs (d + 1) (v2 + (-1 : Int32)) M1 o from hA) ((mm_no2 z1)) z3 z4 z5 z6
theorem ms_283_L198 {L : Nat} {xs : Nat → Int32} {d : Nat} (hd : 2 ≤ d) {v2 : Int32} {β : Type} {K : β → mm_M → mm_E → Prop} {F : (Unit) → mm_M → mm_O β} {M : mm_M} {q : (β ⊕ Nat) × mm_M} {o : mm_E} (h : mm_B (mf_283_L198 v2 M) F = some q) (hA : mm_A K q o) (hx : ∀ (r : (Unit)) (M2 : mm_M), F r M2 = some q → (fun r M o => mp_283_226 L xs (d) M o) r M2 o) : mp_283_198 L xs d v2 M o := by
  unfold mf_283_L198 at h
  exact mm_R_loop (step := (fun s M => mf_283_b198 s M)) (s := v2) (M := M) (P := (fun s M o => mp_283_198 L xs (d) s M o)) (X := (fun r M o => mp_283_226 L xs (d) M o)) h hA (fun s M q hq hA => ms_283_b198 (v2 := s) (M := M) (q := q) hd hq hA) hx
set_option maxRecDepth 8000 in
set_option maxHeartbeats 4000000 in
theorem ms_283_j49 {L : Nat} {xs : Nat → Int32} {d : Nat} (hd : 2 ≤ d) {M : mm_M} {q : (Unit ⊕ Nat) × mm_M} {o : mm_E} (h : mf_283_j49 M = some q) (hA : mm_A (mm_Kr mm_wv) q o) : mp_283_49 L xs d M o := by
  unfold mf_283_j49 at h
  obtain ⟨d, rfl⟩ := mm_d1 (n := 1) hd
  intro z1 z2 z3 z4 z5 z6
  show mm_Runs L xs (d + 1) 283 (49, [some (.ref 84), z1, z2, z3, z4, z5, z6], [], M) o
  refine mm_Runs.seq (l := [(49, .aload_n 0, 1), (50, .ldc2_w 272, 3), (53, .putfield 319, 3), (56, .aload_n 0, 1), (57, .lconst 0, 1), (58, .putfield 519, 3), (61, .aload_n 0, 1), (62, .getfield 63, 3), (65, .iconst 0, 1), (66, .iconst 0, 1)]) (S2 := (67, [some (.ref 84), z1, z2, z3, z4, z5, z6], [.int (0 : Int32), .int (0 : Int32), .ref 102], (mm_pl (mm_pl M 84 33 (4294967295 : Int64)) 84 53 (0 : Int64)))) (by decide +kernel) (hO := mm_own_283) rfl ?_
  obtain ⟨hb, h⟩ := mm_gd h
  refine mm_R_iast rfl rfl hb ?_
  refine mm_Runs.seq (l := [(68, .aload_n 0, 1), (69, .iconst 1, 1), (70, .putfield 522, 3), (73, .iconst 0, 1), (74, .istore_n 1, 1), (75, .iconst 0, 1), (76, .istore_n 2, 1)]) (S2 := (77, [some (.ref 84), some (.int (0 : Int32)), some (.int (0 : Int32)), z3, z4, z5, z6], [], (mm_pi (mm_pi (mm_pl (mm_pl M 84 33 (4294967295 : Int64)) 84 53 (0 : Int64)) 102 (0 : Int32).toNatClampNeg (0 : Int32)) 84 54 (1 : Int32)))) (by decide +kernel) (hO := mm_own_283) rfl ?_
  have hp : mp_283_77 L xs (d + 1) (0 : Int32) (0 : Int32) (mm_pi (mm_pi (mm_pl (mm_pl M 84 33 (4294967295 : Int64)) 84 53 (0 : Int64)) 102 (0 : Int32).toNatClampNeg (0 : Int32)) 84 54 (1 : Int32)) o := by
    refine ms_283_L77 hd h hA (fun r2 M1 h => ?_)
    intro y3 y4 y5 y6 y7 y8
    show mm_Runs L xs (d + 1) 283 (170, [some (.ref 84), y3, y4, y5, y6, y7, y8], [], M1) o
    refine mm_Runs.seq (l := [(170, .iconst 0, 1), (171, .istore_n 2, 1)]) (S2 := (172, [some (.ref 84), (mm_no2 y3), some (.int (0 : Int32)), y5, y6, y7, y8], [], M1)) (by decide +kernel) (hO := mm_own_283) rfl ?_
    have hp : mp_283_172 L xs (d + 1) (0 : Int32) M1 o := by
      refine ms_283_L172 hd h hA (fun r10 M9 h => ?_)
      intro y11 y12 y13 y14 y15 y16
      show mm_Runs L xs (d + 1) 283 (196, [some (.ref 84), y11, y12, y13, y14, y15, y16], [], M9) o
      refine mm_Runs.seq (l := [(196, .iconst 3, 1), (197, .istore_n 2, 1)]) (S2 := (198, [some (.ref 84), (mm_no2 y11), some (.int (3 : Int32)), y13, y14, y15, y16], [], M9)) (by decide +kernel) (hO := mm_own_283) rfl ?_
      have hp : mp_283_198 L xs (d + 1) (3 : Int32) M9 o := by
        refine ms_283_L198 hd h hA (fun r18 M17 h => ?_)
        intro y19 y20 y21 y22 y23 y24 y25
        show mm_Runs L xs (d + 1) 283 (226, [y19, y20, y21, y22, y23, y24, y25], [], M17) o
        cases h
        exact mm_R_retv rfl rfl hA
      exact hp ((mm_no2 y11)) y13 y14 y15 y16
    exact hp ((mm_no2 y3)) y5 y6 y7 y8
  exact hp z3 z4 z5 z6
set_option maxRecDepth 8000 in
set_option maxHeartbeats 4000000 in
theorem ms_283 {L : Nat} {xs : Nat → Int32} {d : Nat} (hd : 2 ≤ d) {M : mm_M} {q : (Unit ⊕ Nat) × mm_M} {o : mm_E} (h : mf_283 M = some q) (hA : mm_A (mm_Kr mm_wv) q o) : mm_Runs L xs d 283 (0, mm_ent (mm_ml 283) [.ref 84], [], M) o := by
  unfold mf_283 at h
  obtain ⟨d, rfl⟩ := mm_d1 (n := 1) hd
  show mm_Runs L xs (d + 1) 283 (0, [some (.ref 84), none, none, none, none, none, none], [], M) o
  refine mm_Runs.seq (l := [(0, .aload_n 0, 1), (1, .bipush 93, 2)]) (S2 := (3, [some (.ref 84), none, none, none, none, none, none], [.int (93 : Int32), .ref 84], M)) (by decide +kernel) (hO := mm_own_283) rfl ?_
  refine mm_R_call (v := mm_wv) h hA (k2 := 245) (as := [.ref 84, .int (93 : Int32)]) (r := []) rfl (fun _ => rfl) (fun q hq o ho => ms_245 (by omega) hq ho) (fun _ M1 h => ?_)
  show mm_Runs L xs (d + 1) 283 (6, [some (.ref 84), none, none, none, none, none, none], [], M1) o
  refine mm_Runs.seq (l := [(6, .aload_n 0, 1), (7, .ldc2_w 528, 3), (10, .iconst 4, 1)]) (S2 := (11, [some (.ref 84), none, none, none, none, none, none], [.int (4 : Int32), .long (65536 : Int64), .ref 84], M1)) (by decide +kernel) (hO := mm_own_283) rfl ?_
  refine mm_R_call (v := mm_wv) h hA (k2 := 246) (as := [.ref 84, .long (65536 : Int64), .int (4 : Int32)]) (r := []) rfl (fun _ => rfl) (fun q hq o ho => ms_246 (by omega) hq ho) (fun _ M2 h => ?_)
  show mm_Runs L xs (d + 1) 283 (14, [some (.ref 84), none, none, none, none, none, none], [], M2) o
  refine mm_Runs.seq (l := [(14, .aload_n 0, 1), (15, .aload_n 0, 1), (16, .getfield 91, 3), (19, .i2l, 1), (20, .bipush 8, 2)]) (S2 := (22, [some (.ref 84), none, none, none, none, none, none], [.int (8 : Int32), .long (M2.1 84 2).toInt64, .ref 84], M2)) (by decide +kernel) (hO := mm_own_283) rfl ?_
  refine mm_R_call (v := mm_wv) h hA (k2 := 246) (as := [.ref 84, .long (M2.1 84 2).toInt64, .int (8 : Int32)]) (r := []) rfl (fun _ => rfl) (fun q hq o ho => ms_246 (by omega) hq ho) (fun _ M3 h => ?_)
  show mm_Runs L xs (d + 1) 283 (25, [some (.ref 84), none, none, none, none, none, none], [], M3) o
  refine mm_Runs.seq (l := [(25, .iconst 0, 1), (26, .istore_n 1, 1)]) (S2 := (27, [some (.ref 84), some (.int (0 : Int32)), none, none, none, none, none], [], M3)) (by decide +kernel) (hO := mm_own_283) rfl ?_
  have hp : mp_283_27 L xs (d + 1) (0 : Int32) M3 o := by
    refine ms_283_L27 hd h hA (fun r5 M4 h => ?_)
    intro y6 y7 y8 y9 y10 y11
    show mm_Runs L xs (d + 1) 283 (49, [some (.ref 84), y6, y7, y8, y9, y10, y11], [], M4) o
    exact (ms_283_j49 hd h hA : mp_283_49 L xs (d + 1) M4 o) y6 y7 y8 y9 y10 y11
  exact hp none none none none none
-- 284: PlainPacksModel.pack(I)I (depth 7)
theorem mm_own_284 : mm_own 284 = 12 := rfl
def mp_284_15 (L : Nat) (xs : Nat → Int32) (d : Nat) (v1 : Int32) (M : mm_M) (o : mm_E) : Prop := ∀ z2 : Option Value, mm_Runs L xs d 284 (15, [some (.ref 84), some (.int v1), z2], [.ref 84], M) o
def mp_284_16 (L : Nat) (xs : Nat → Int32) (d : Nat) (v1 : Int32) (s1 : Int32) (M : mm_M) (o : mm_E) : Prop := ∀ z2 : Option Value, mm_Runs L xs d 284 (16, [some (.ref 84), some (.int v1), z2], [.int s1, .ref 84], M) o
def mp_284_179 (L : Nat) (xs : Nat → Int32) (d : Nat) (M : mm_M) (o : mm_E) : Prop := ∀ z1 z2 : Option Value, mm_Runs L xs d 284 (179, [some (.ref 84), z1, z2], [], M) o
def mp_284_193 (L : Nat) (xs : Nat → Int32) (d : Nat) (v2 : Int32) (M : mm_M) (o : mm_E) : Prop := ∀ z1 : Option Value, mm_Runs L xs d 284 (193, [some (.ref 84), z1, some (.int v2)], [], M) o
def mp_284_219 (L : Nat) (xs : Nat → Int32) (d : Nat) (M : mm_M) (o : mm_E) : Prop := ∀ z1 z2 : Option Value, mm_Runs L xs d 284 (219, [some (.ref 84), z1, z2], [], M) o
set_option maxRecDepth 8000 in
set_option maxHeartbeats 4000000 in
theorem ms_284_b193 {L : Nat} {xs : Nat → Int32} {d : Nat} (hd : 7 ≤ d) {v2 : Int32} {M : mm_M} {q : (((Int32) ⊕ (Unit)) ⊕ Nat) × mm_M} {o : mm_E} (h : mf_284_b193 v2 M = some q) (hA : mm_A (mm_K2 (fun s M o => mp_284_193 L xs (d) s M o) (fun r M o => mp_284_219 L xs (d) M o)) q o) : mp_284_193 L xs d v2 M o := by
  unfold mf_284_b193 at h
  obtain ⟨d, rfl⟩ := mm_d1 (n := 6) hd
  intro z1
  show mm_Runs L xs (d + 1) 284 (193, [some (.ref 84), z1, some (.int v2)], [], M) o
  refine mm_Runs.seq (l := [(193, .iload_n 2, 1), (194, .aload_n 0, 1), (195, .getfield 406, 3)]) (S2 := (198, [some (.ref 84), z1, some (.int v2)], [.int (M.1 84 41), .int v2], M)) (by decide +kernel) (hO := mm_own_284) rfl ?_
  refine mm_R_ige (t := 219) rfl rfl rfl (fun hc => ?_) (fun hc => ?_)
  · replace h := mm_ip hc h
    refine mm_Runs.seq (l := [(201, .aload_n 0, 1), (202, .getfield 13, 3), (205, .iload_n 2, 1), (206, .aload_n 0, 1), (207, .getfield 57, 3), (210, .iload_n 2, 1)]) (S2 := (211, [some (.ref 84), z1, some (.int v2)], [.int v2, .ref 100, .int v2, .ref 86], M)) (by decide +kernel) (hO := mm_own_284) rfl ?_
    obtain ⟨hb, h⟩ := mm_gd h
    refine mm_R_iald rfl rfl hb ?_
    obtain ⟨hb, h⟩ := mm_gd h
    refine mm_R_iast rfl rfl hb ?_
    refine mm_Runs.seq (l := [(213, .iinc 2 1, 3), (216, .goto (-23), 3)]) (S2 := (193, [some (.ref 84), (mm_no2 z1), some (.int (v2 + (1 : Int32)))], [], (mm_pi M 86 v2.toNatClampNeg (M.1 100 v2.toNatClampNeg)))) (by decide +kernel) (hO := mm_own_284) rfl ?_
    cases h
    exact (show mp_284_193 L xs (d + 1) (v2 + (1 : Int32)) (mm_pi M 86 v2.toNatClampNeg (M.1 100 v2.toNatClampNeg)) o from hA) ((mm_no2 z1))
  · replace h := mm_iq hc h
    cases h
    exact (show mp_284_219 L xs (d + 1) M o from hA) z1 (some (.int v2))
theorem ms_284_L193 {L : Nat} {xs : Nat → Int32} {d : Nat} (hd : 7 ≤ d) {v2 : Int32} {β : Type} {K : β → mm_M → mm_E → Prop} {F : (Unit) → mm_M → mm_O β} {M : mm_M} {q : (β ⊕ Nat) × mm_M} {o : mm_E} (h : mm_B (mf_284_L193 v2 M) F = some q) (hA : mm_A K q o) (hx : ∀ (r : (Unit)) (M2 : mm_M), F r M2 = some q → (fun r M o => mp_284_219 L xs (d) M o) r M2 o) : mp_284_193 L xs d v2 M o := by
  unfold mf_284_L193 at h
  exact mm_R_loop (step := (fun s M => mf_284_b193 s M)) (s := v2) (M := M) (P := (fun s M o => mp_284_193 L xs (d) s M o)) (X := (fun r M o => mp_284_219 L xs (d) M o)) h hA (fun s M q hq hA => ms_284_b193 (v2 := s) (M := M) (q := q) hd hq hA) hx
set_option maxRecDepth 8000 in
set_option maxHeartbeats 4000000 in
theorem ms_284_j179 {L : Nat} {xs : Nat → Int32} {d : Nat} (hd : 7 ≤ d) {M : mm_M} {q : (Int32 ⊕ Nat) × mm_M} {o : mm_E} (h : mf_284_j179 M = some q) (hA : mm_A (mm_Kr mm_wi) q o) : mp_284_179 L xs d M o := by
  unfold mf_284_j179 at h
  obtain ⟨d, rfl⟩ := mm_d1 (n := 6) hd
  intro z1 z2
  show mm_Runs L xs (d + 1) 284 (179, [some (.ref 84), z1, z2], [], M) o
  refine mm_Runs.seq (l := [(179, .aload_n 0, 1), (180, .getfield 406, 3), (183, .sipush 16384, 3)]) (S2 := (186, [some (.ref 84), z1, z2], [.int (16384 : Int32), .int (M.1 84 41)], M)) (by decide +kernel) (hO := mm_own_284) rfl ?_
  refine mm_R_ile (t := 191) rfl rfl rfl (fun hc => ?_) (fun hc => ?_)
  · replace h := mm_ip hc h
    refine mm_Runs.seq (l := [(189, .iconst (-1), 1)]) (S2 := (190, [some (.ref 84), z1, z2], [.int (-1 : Int32)], M)) (by decide +kernel) (hO := mm_own_284) rfl ?_
    cases h
    exact mm_R_reti rfl rfl hA
  · replace h := mm_iq hc h
    refine mm_Runs.seq (l := [(191, .iconst 0, 1), (192, .istore_n 2, 1)]) (S2 := (193, [some (.ref 84), (mm_no2 z1), some (.int (0 : Int32))], [], M)) (by decide +kernel) (hO := mm_own_284) rfl ?_
    have hp : mp_284_193 L xs (d + 1) (0 : Int32) M o := by
      refine ms_284_L193 hd h hA (fun r2 M1 h => ?_)
      intro y3 y4
      show mm_Runs L xs (d + 1) 284 (219, [some (.ref 84), y3, y4], [], M1) o
      refine mm_Runs.seq (l := [(219, .aload_n 0, 1), (220, .aload_n 0, 1), (221, .getfield 406, 3), (224, .putfield 98, 3), (227, .aload_n 0, 1), (228, .getfield 98, 3)]) (S2 := (231, [some (.ref 84), y3, y4], [.int (M1.1 84 41)], (mm_pi M1 84 4 (M1.1 84 41)))) (by decide +kernel) (hO := mm_own_284) rfl ?_
      cases h
      exact mm_R_reti rfl rfl hA
    exact hp ((mm_no2 z1))
set_option maxRecDepth 8000 in
set_option maxHeartbeats 4000000 in
theorem ms_284_j16 {L : Nat} {xs : Nat → Int32} {d : Nat} (hd : 7 ≤ d) {v1 : Int32} {s1 : Int32} {M : mm_M} {q : (Int32 ⊕ Nat) × mm_M} {o : mm_E} (h : mf_284_j16 v1 s1 M = some q) (hA : mm_A (mm_Kr mm_wi) q o) : mp_284_16 L xs d v1 s1 M o := by
  unfold mf_284_j16 at h
  obtain ⟨d, rfl⟩ := mm_d1 (n := 6) hd
  intro z2
  show mm_Runs L xs (d + 1) 284 (16, [some (.ref 84), some (.int v1), z2], [.int s1, .ref 84], M) o
  refine mm_R_call (v := mm_wi) h hA (k2 := 174) (as := [.ref 84, .int s1]) (r := []) rfl (fun _ => rfl) (fun q hq o ho => ms_174 (by omega) hq ho) (fun r1 M2 h => ?_)
  show mm_Runs L xs (d + 1) 284 (19, [some (.ref 84), some (.int v1), z2], [.int r1], M2) o
  refine mm_R_zne (t := 24) rfl rfl rfl (fun hc => ?_) (fun hc => ?_)
  · replace h := mm_ip hc h
    refine mm_Runs.seq (l := [(22, .iconst 0, 1)]) (S2 := (23, [some (.ref 84), some (.int v1), z2], [.int (0 : Int32)], M2)) (by decide +kernel) (hO := mm_own_284) rfl ?_
    cases h
    exact mm_R_reti rfl rfl hA
  · replace h := mm_iq hc h
    refine mm_Runs.seq (l := [(24, .aload_n 0, 1), (25, .iconst 0, 1), (26, .putfield 406, 3), (29, .aload_n 0, 1), (30, .iconst 0, 1), (31, .putfield 412, 3), (34, .aload_n 0, 1), (35, .iconst 0, 1), (36, .putfield 415, 3), (39, .iload_n 1, 1)]) (S2 := (40, [some (.ref 84), some (.int v1), z2], [.int v1], (mm_pi (mm_pi (mm_pi M2 84 41 (0 : Int32)) 84 42 (0 : Int32)) 84 43 (0 : Int32)))) (by decide +kernel) (hO := mm_own_284) rfl ?_
    by_cases hc0 : v1 = (0 : Int32)
    · replace h := mm_ip hc0 h
      refine mm_R_sw (t := 96) rfl rfl rfl (by rw [hc0]; rfl) ?_
      refine mm_Runs.seq (l := [(96, .aload_n 0, 1)]) (S2 := (97, [some (.ref 84), some (.int v1), z2], [.ref 84], (mm_pi (mm_pi (mm_pi M2 84 41 (0 : Int32)) 84 42 (0 : Int32)) 84 43 (0 : Int32)))) (by decide +kernel) (hO := mm_own_284) rfl ?_
      refine mm_R_call (v := mm_wv) h hA (k2 := 252) (as := [.ref 84]) (r := []) rfl (fun _ => rfl) (fun q hq o ho => ms_252 (by omega) hq ho) (fun _ M3 h => ?_)
      show mm_Runs L xs (d + 1) 284 (100, [some (.ref 84), some (.int v1), z2], [], M3) o
      refine mm_Runs.seq (l := [(100, .goto 79, 3)]) (S2 := (179, [some (.ref 84), some (.int v1), z2], [], M3)) (by decide +kernel) (hO := mm_own_284) rfl ?_
      exact (ms_284_j179 hd h hA : mp_284_179 L xs (d + 1) M3 o) (some (.int v1)) z2
    replace h := mm_iq hc0 h
    by_cases hc1 : v1 = (1 : Int32)
    · replace h := mm_ip hc1 h
      refine mm_R_sw (t := 103) rfl rfl rfl (by rw [hc1]; rfl) ?_
      refine mm_Runs.seq (l := [(103, .aload_n 0, 1), (104, .iload_n 1, 1)]) (S2 := (105, [some (.ref 84), some (.int v1), z2], [.int v1, .ref 84], (mm_pi (mm_pi (mm_pi M2 84 41 (0 : Int32)) 84 42 (0 : Int32)) 84 43 (0 : Int32)))) (by decide +kernel) (hO := mm_own_284) rfl ?_
      refine mm_R_call (v := mm_wv) h hA (k2 := 285) (as := [.ref 84, .int v1]) (r := []) rfl (fun _ => rfl) (fun q hq o ho => ms_285 (by omega) hq ho) (fun _ M4 h => ?_)
      show mm_Runs L xs (d + 1) 284 (108, [some (.ref 84), some (.int v1), z2], [], M4) o
      refine mm_Runs.seq (l := [(108, .goto 71, 3)]) (S2 := (179, [some (.ref 84), some (.int v1), z2], [], M4)) (by decide +kernel) (hO := mm_own_284) rfl ?_
      exact (ms_284_j179 hd h hA : mp_284_179 L xs (d + 1) M4 o) (some (.int v1)) z2
    replace h := mm_iq hc1 h
    by_cases hc2 : v1 = (2 : Int32)
    · replace h := mm_ip hc2 h
      refine mm_R_sw (t := 103) rfl rfl rfl (by rw [hc2]; rfl) ?_
      refine mm_Runs.seq (l := [(103, .aload_n 0, 1), (104, .iload_n 1, 1)]) (S2 := (105, [some (.ref 84), some (.int v1), z2], [.int v1, .ref 84], (mm_pi (mm_pi (mm_pi M2 84 41 (0 : Int32)) 84 42 (0 : Int32)) 84 43 (0 : Int32)))) (by decide +kernel) (hO := mm_own_284) rfl ?_
      refine mm_R_call (v := mm_wv) h hA (k2 := 285) (as := [.ref 84, .int v1]) (r := []) rfl (fun _ => rfl) (fun q hq o ho => ms_285 (by omega) hq ho) (fun _ M5 h => ?_)
      show mm_Runs L xs (d + 1) 284 (108, [some (.ref 84), some (.int v1), z2], [], M5) o
      refine mm_Runs.seq (l := [(108, .goto 71, 3)]) (S2 := (179, [some (.ref 84), some (.int v1), z2], [], M5)) (by decide +kernel) (hO := mm_own_284) rfl ?_
      exact (ms_284_j179 hd h hA : mp_284_179 L xs (d + 1) M5 o) (some (.int v1)) z2
    replace h := mm_iq hc2 h
    by_cases hc3 : v1 = (3 : Int32)
    · replace h := mm_ip hc3 h
      refine mm_R_sw (t := 103) rfl rfl rfl (by rw [hc3]; rfl) ?_
      refine mm_Runs.seq (l := [(103, .aload_n 0, 1), (104, .iload_n 1, 1)]) (S2 := (105, [some (.ref 84), some (.int v1), z2], [.int v1, .ref 84], (mm_pi (mm_pi (mm_pi M2 84 41 (0 : Int32)) 84 42 (0 : Int32)) 84 43 (0 : Int32)))) (by decide +kernel) (hO := mm_own_284) rfl ?_
      refine mm_R_call (v := mm_wv) h hA (k2 := 285) (as := [.ref 84, .int v1]) (r := []) rfl (fun _ => rfl) (fun q hq o ho => ms_285 (by omega) hq ho) (fun _ M6 h => ?_)
      show mm_Runs L xs (d + 1) 284 (108, [some (.ref 84), some (.int v1), z2], [], M6) o
      refine mm_Runs.seq (l := [(108, .goto 71, 3)]) (S2 := (179, [some (.ref 84), some (.int v1), z2], [], M6)) (by decide +kernel) (hO := mm_own_284) rfl ?_
      exact (ms_284_j179 hd h hA : mp_284_179 L xs (d + 1) M6 o) (some (.int v1)) z2
    replace h := mm_iq hc3 h
    by_cases hc4 : v1 = (4 : Int32)
    · replace h := mm_ip hc4 h
      refine mm_R_sw (t := 111) rfl rfl rfl (by rw [hc4]; rfl) ?_
      refine mm_Runs.seq (l := [(111, .aload_n 0, 1), (112, .iconst 0, 1), (113, .putfield 178, 3), (116, .aload_n 0, 1), (117, .bipush 8, 2)]) (S2 := (119, [some (.ref 84), some (.int v1), z2], [.int (8 : Int32), .ref 84], (mm_pi (mm_pi (mm_pi (mm_pi M2 84 41 (0 : Int32)) 84 42 (0 : Int32)) 84 43 (0 : Int32)) 84 13 (0 : Int32)))) (by decide +kernel) (hO := mm_own_284) rfl ?_
      refine mm_R_call (v := mm_wv) h hA (k2 := 245) (as := [.ref 84, .int (8 : Int32)]) (r := []) rfl (fun _ => rfl) (fun q hq o ho => ms_245 (by omega) hq ho) (fun _ M7 h => ?_)
      show mm_Runs L xs (d + 1) 284 (122, [some (.ref 84), some (.int v1), z2], [], M7) o
      refine mm_Runs.seq (l := [(122, .aload_n 0, 1), (123, .bipush 8, 2), (125, .iconst 0, 1)]) (S2 := (126, [some (.ref 84), some (.int v1), z2], [.int (0 : Int32), .int (8 : Int32), .ref 84], M7)) (by decide +kernel) (hO := mm_own_284) rfl ?_
      refine mm_R_call (v := mm_wv) h hA (k2 := 261) (as := [.ref 84, .int (8 : Int32), .int (0 : Int32)]) (r := []) rfl (fun _ => rfl) (fun q hq o ho => ms_261 (by omega) hq ho) (fun _ M8 h => ?_)
      show mm_Runs L xs (d + 1) 284 (129, [some (.ref 84), some (.int v1), z2], [], M8) o
      refine mm_Runs.seq (l := [(129, .goto 50, 3)]) (S2 := (179, [some (.ref 84), some (.int v1), z2], [], M8)) (by decide +kernel) (hO := mm_own_284) rfl ?_
      exact (ms_284_j179 hd h hA : mp_284_179 L xs (d + 1) M8 o) (some (.int v1)) z2
    replace h := mm_iq hc4 h
    by_cases hc5 : v1 = (5 : Int32)
    · replace h := mm_ip hc5 h
      refine mm_R_sw (t := 132) rfl rfl rfl (by rw [hc5]; rfl) ?_
      refine mm_Runs.seq (l := [(132, .aload_n 0, 1), (133, .iconst 1, 1), (134, .putfield 178, 3), (137, .aload_n 0, 1), (138, .bipush 8, 2), (140, .iconst 1, 1)]) (S2 := (141, [some (.ref 84), some (.int v1), z2], [.int (1 : Int32), .int (8 : Int32), .ref 84], (mm_pi (mm_pi (mm_pi (mm_pi M2 84 41 (0 : Int32)) 84 42 (0 : Int32)) 84 43 (0 : Int32)) 84 13 (1 : Int32)))) (by decide +kernel) (hO := mm_own_284) rfl ?_
      refine mm_R_call (v := mm_wv) h hA (k2 := 261) (as := [.ref 84, .int (8 : Int32), .int (1 : Int32)]) (r := []) rfl (fun _ => rfl) (fun q hq o ho => ms_261 (by omega) hq ho) (fun _ M9 h => ?_)
      show mm_Runs L xs (d + 1) 284 (144, [some (.ref 84), some (.int v1), z2], [], M9) o
      refine mm_Runs.seq (l := [(144, .goto 35, 3)]) (S2 := (179, [some (.ref 84), some (.int v1), z2], [], M9)) (by decide +kernel) (hO := mm_own_284) rfl ?_
      exact (ms_284_j179 hd h hA : mp_284_179 L xs (d + 1) M9 o) (some (.int v1)) z2
    replace h := mm_iq hc5 h
    by_cases hc6 : v1 = (6 : Int32)
    · replace h := mm_ip hc6 h
      refine mm_R_sw (t := 147) rfl rfl rfl (by rw [hc6]; rfl) ?_
      refine mm_Runs.seq (l := [(147, .aload_n 0, 1)]) (S2 := (148, [some (.ref 84), some (.int v1), z2], [.ref 84], (mm_pi (mm_pi (mm_pi M2 84 41 (0 : Int32)) 84 42 (0 : Int32)) 84 43 (0 : Int32)))) (by decide +kernel) (hO := mm_own_284) rfl ?_
      refine mm_R_call (v := mm_wv) h hA (k2 := 265) (as := [.ref 84]) (r := []) rfl (fun _ => rfl) (fun q hq o ho => ms_265 (by omega) hq ho) (fun _ M10 h => ?_)
      show mm_Runs L xs (d + 1) 284 (151, [some (.ref 84), some (.int v1), z2], [], M10) o
      refine mm_Runs.seq (l := [(151, .goto 28, 3)]) (S2 := (179, [some (.ref 84), some (.int v1), z2], [], M10)) (by decide +kernel) (hO := mm_own_284) rfl ?_
      exact (ms_284_j179 hd h hA : mp_284_179 L xs (d + 1) M10 o) (some (.int v1)) z2
    replace h := mm_iq hc6 h
    by_cases hc7 : v1 = (7 : Int32)
    · replace h := mm_ip hc7 h
      refine mm_R_sw (t := 154) rfl rfl rfl (by rw [hc7]; rfl) ?_
      refine mm_Runs.seq (l := [(154, .aload_n 0, 1)]) (S2 := (155, [some (.ref 84), some (.int v1), z2], [.ref 84], (mm_pi (mm_pi (mm_pi M2 84 41 (0 : Int32)) 84 42 (0 : Int32)) 84 43 (0 : Int32)))) (by decide +kernel) (hO := mm_own_284) rfl ?_
      refine mm_R_call (v := mm_wv) h hA (k2 := 266) (as := [.ref 84]) (r := []) rfl (fun _ => rfl) (fun q hq o ho => ms_266 (by omega) hq ho) (fun _ M11 h => ?_)
      show mm_Runs L xs (d + 1) 284 (158, [some (.ref 84), some (.int v1), z2], [], M11) o
      refine mm_Runs.seq (l := [(158, .goto 21, 3)]) (S2 := (179, [some (.ref 84), some (.int v1), z2], [], M11)) (by decide +kernel) (hO := mm_own_284) rfl ?_
      exact (ms_284_j179 hd h hA : mp_284_179 L xs (d + 1) M11 o) (some (.int v1)) z2
    replace h := mm_iq hc7 h
    by_cases hc8 : v1 = (8 : Int32)
    · replace h := mm_ip hc8 h
      refine mm_R_sw (t := 161) rfl rfl rfl (by rw [hc8]; rfl) ?_
      refine mm_Runs.seq (l := [(161, .aload_n 0, 1)]) (S2 := (162, [some (.ref 84), some (.int v1), z2], [.ref 84], (mm_pi (mm_pi (mm_pi M2 84 41 (0 : Int32)) 84 42 (0 : Int32)) 84 43 (0 : Int32)))) (by decide +kernel) (hO := mm_own_284) rfl ?_
      refine mm_R_call (v := mm_wv) h hA (k2 := 269) (as := [.ref 84]) (r := []) rfl (fun _ => rfl) (fun q hq o ho => ms_269 (by omega) hq ho) (fun _ M12 h => ?_)
      show mm_Runs L xs (d + 1) 284 (165, [some (.ref 84), some (.int v1), z2], [], M12) o
      refine mm_Runs.seq (l := [(165, .goto 14, 3)]) (S2 := (179, [some (.ref 84), some (.int v1), z2], [], M12)) (by decide +kernel) (hO := mm_own_284) rfl ?_
      exact (ms_284_j179 hd h hA : mp_284_179 L xs (d + 1) M12 o) (some (.int v1)) z2
    replace h := mm_iq hc8 h
    by_cases hc9 : v1 = (9 : Int32)
    · replace h := mm_ip hc9 h
      refine mm_R_sw (t := 168) rfl rfl rfl (by rw [hc9]; rfl) ?_
      refine mm_Runs.seq (l := [(168, .aload_n 0, 1)]) (S2 := (169, [some (.ref 84), some (.int v1), z2], [.ref 84], (mm_pi (mm_pi (mm_pi M2 84 41 (0 : Int32)) 84 42 (0 : Int32)) 84 43 (0 : Int32)))) (by decide +kernel) (hO := mm_own_284) rfl ?_
      refine mm_R_call (v := mm_wv) h hA (k2 := 276) (as := [.ref 84]) (r := []) rfl (fun _ => rfl) (fun q hq o ho => ms_276 (by omega) hq ho) (fun _ M13 h => ?_)
      show mm_Runs L xs (d + 1) 284 (172, [some (.ref 84), some (.int v1), z2], [], M13) o
      refine mm_Runs.seq (l := [(172, .goto 7, 3)]) (S2 := (179, [some (.ref 84), some (.int v1), z2], [], M13)) (by decide +kernel) (hO := mm_own_284) rfl ?_
      exact (ms_284_j179 hd h hA : mp_284_179 L xs (d + 1) M13 o) (some (.int v1)) z2
    replace h := mm_iq hc9 h
    have e0 := mm_i32 (n := 0) hc0 (by decide) (by decide)
    have e1 := mm_i32 (n := 1) hc1 (by decide) (by decide)
    have e2 := mm_i32 (n := 2) hc2 (by decide) (by decide)
    have e3 := mm_i32 (n := 3) hc3 (by decide) (by decide)
    have e4 := mm_i32 (n := 4) hc4 (by decide) (by decide)
    have e5 := mm_i32 (n := 5) hc5 (by decide) (by decide)
    have e6 := mm_i32 (n := 6) hc6 (by decide) (by decide)
    have e7 := mm_i32 (n := 7) hc7 (by decide) (by decide)
    have e8 := mm_i32 (n := 8) hc8 (by decide) (by decide)
    have e9 := mm_i32 (n := 9) hc9 (by decide) (by decide)
    refine mm_R_sw (t := 175) rfl rfl rfl (mm_tsd (by omega) rfl rfl) ?_
    refine mm_Runs.seq (l := [(175, .aload_n 0, 1)]) (S2 := (176, [some (.ref 84), some (.int v1), z2], [.ref 84], (mm_pi (mm_pi (mm_pi M2 84 41 (0 : Int32)) 84 42 (0 : Int32)) 84 43 (0 : Int32)))) (by decide +kernel) (hO := mm_own_284) rfl ?_
    refine mm_R_call (v := mm_wv) h hA (k2 := 283) (as := [.ref 84]) (r := []) rfl (fun _ => rfl) (fun q hq o ho => ms_283 (by omega) hq ho) (fun _ M14 h => ?_)
    show mm_Runs L xs (d + 1) 284 (179, [some (.ref 84), some (.int v1), z2], [], M14) o
    exact (ms_284_j179 hd h hA : mp_284_179 L xs (d + 1) M14 o) (some (.int v1)) z2
set_option maxRecDepth 8000 in
set_option maxHeartbeats 4000000 in
theorem ms_284_j15 {L : Nat} {xs : Nat → Int32} {d : Nat} (hd : 7 ≤ d) {v1 : Int32} {M : mm_M} {q : (Int32 ⊕ Nat) × mm_M} {o : mm_E} (h : mf_284_j15 v1 M = some q) (hA : mm_A (mm_Kr mm_wi) q o) : mp_284_15 L xs d v1 M o := by
  unfold mf_284_j15 at h
  obtain ⟨d, rfl⟩ := mm_d1 (n := 6) hd
  intro z2
  show mm_Runs L xs (d + 1) 284 (15, [some (.ref 84), some (.int v1), z2], [.ref 84], M) o
  refine mm_Runs.seq (l := [(15, .iconst 0, 1)]) (S2 := (16, [some (.ref 84), some (.int v1), z2], [.int (0 : Int32), .ref 84], M)) (by decide +kernel) (hO := mm_own_284) rfl ?_
  exact (ms_284_j16 hd h hA : mp_284_16 L xs (d + 1) v1 (0 : Int32) M o) z2
set_option maxRecDepth 8000 in
set_option maxHeartbeats 4000000 in
theorem ms_284 {L : Nat} {xs : Nat → Int32} {d : Nat} (hd : 7 ≤ d) {v1 : Int32} {M : mm_M} {q : (Int32 ⊕ Nat) × mm_M} {o : mm_E} (h : mf_284 v1 M = some q) (hA : mm_A (mm_Kr mm_wi) q o) : mm_Runs L xs d 284 (0, mm_ent (mm_ml 284) [.ref 84, .int v1], [], M) o := by
  unfold mf_284 at h
  obtain ⟨d, rfl⟩ := mm_d1 (n := 6) hd
  show mm_Runs L xs (d + 1) 284 (0, [some (.ref 84), some (.int v1), none], [], M) o
  refine mm_Runs.seq (l := [(0, .aload_n 0, 1), (1, .iload_n 1, 1)]) (S2 := (2, [some (.ref 84), some (.int v1), none], [.int v1, .ref 84], M)) (by decide +kernel) (hO := mm_own_284) rfl ?_
  refine mm_R_zlt (t := 15) rfl rfl rfl (fun hc => ?_) (fun hc => ?_)
  · replace h := mm_ip hc h
    exact (ms_284_j15 hd h hA : mp_284_15 L xs (d + 1) v1 M o) none
  · replace h := mm_iq hc h
    refine mm_Runs.seq (l := [(5, .iload_n 1, 1), (6, .bipush 10, 2)]) (S2 := (8, [some (.ref 84), some (.int v1), none], [.int (10 : Int32), .int v1, .ref 84], M)) (by decide +kernel) (hO := mm_own_284) rfl ?_
    refine mm_R_igt (t := 15) rfl rfl rfl (fun hc => ?_) (fun hc => ?_)
    · replace h := mm_ip hc h
      exact (ms_284_j15 hd h hA : mp_284_15 L xs (d + 1) v1 M o) none
    · replace h := mm_iq hc h
      refine mm_Runs.seq (l := [(11, .iconst 1, 1), (12, .goto 4, 3)]) (S2 := (16, [some (.ref 84), some (.int v1), none], [.int (1 : Int32), .ref 84], M)) (by decide +kernel) (hO := mm_own_284) rfl ?_
      exact (ms_284_j16 hd h hA : mp_284_16 L xs (d + 1) v1 (1 : Int32) M o) none
-- 21: PlainPacks.sum(I)I (depth 7)
theorem mm_own_21 : mm_own 21 = 0 := rfl
set_option maxRecDepth 8000 in
set_option maxHeartbeats 4000000 in
theorem ms_21 {L : Nat} {xs : Nat → Int32} {d : Nat} (hd : 7 ≤ d) {v1 : Int32} {M : mm_M} {q : (Int32 ⊕ Nat) × mm_M} {o : mm_E} (h : mf_21 v1 M = some q) (hA : mm_A (mm_Kr mm_wi) q o) : mm_Runs L xs d 21 (0, mm_ent (mm_ml 21) [.ref 0, .int v1], [], M) o := by
  unfold mf_21 at h
  obtain ⟨d, rfl⟩ := mm_d1 (n := 6) hd
  show mm_Runs L xs (d + 1) 21 (0, [some (.ref 0), some (.int v1)], [], M) o
  refine mm_Runs.seq (l := [(0, .iload_n 1, 1)]) (S2 := (1, [some (.ref 0), some (.int v1)], [.int v1], M)) (by decide +kernel) (hO := mm_own_21) rfl ?_
  by_cases hc0 : v1 = (0 : Int32)
  · replace h := mm_ip hc0 h
    refine mm_R_sw (t := 32) rfl rfl rfl (by rw [hc0]; rfl) ?_
    refine mm_Runs.seq (l := [(32, .aload_n 0, 1), (33, .getfield 12, 3), (36, .getfield 115, 3), (39, .iconst 0, 1), (40, .aload_n 0, 1), (41, .getfield 12, 3), (44, .getfield 90, 3)]) (S2 := (47, [some (.ref 0), some (.int v1)], [.int (M.1 1 1), .int (0 : Int32), .ref 2], M)) (by decide +kernel) (hO := mm_own_21) rfl ?_
    refine mm_R_call (v := mm_wi) h hA (k2 := 28) (as := [.ref 2, .int (0 : Int32), .int (M.1 1 1)]) (r := []) rfl (fun _ => rfl) (fun q hq o ho => ms_28 rfl (by omega) hq ho) (fun r1 M2 h => ?_)
    show mm_Runs L xs (d + 1) 21 (50, [some (.ref 0), some (.int v1)], [.int r1], M2) o
    cases h
    exact mm_R_reti rfl rfl hA
  replace h := mm_iq hc0 h
  by_cases hc1 : v1 = (1 : Int32)
  · replace h := mm_ip hc1 h
    refine mm_R_sw (t := 51) rfl rfl rfl (by rw [hc1]; rfl) ?_
    refine mm_Runs.seq (l := [(51, .aload_n 0, 1), (52, .getfield 12, 3), (55, .getfield 115, 3), (58, .iconst 0, 1), (59, .aload_n 0, 1), (60, .getfield 12, 3), (63, .getfield 90, 3)]) (S2 := (66, [some (.ref 0), some (.int v1)], [.int (M.1 1 1), .int (0 : Int32), .ref 2], M)) (by decide +kernel) (hO := mm_own_21) rfl ?_
    refine mm_R_call (v := mm_wi) h hA (k2 := 29) (as := [.ref 2, .int (0 : Int32), .int (M.1 1 1)]) (r := []) rfl (fun _ => rfl) (fun q hq o ho => ms_29 rfl (by omega) hq ho) (fun r3 M4 h => ?_)
    show mm_Runs L xs (d + 1) 21 (69, [some (.ref 0), some (.int v1)], [.int r3], M4) o
    cases h
    exact mm_R_reti rfl rfl hA
  replace h := mm_iq hc1 h
  by_cases hc2 : v1 = (2 : Int32)
  · replace h := mm_ip hc2 h
    refine mm_R_sw (t := 70) rfl rfl rfl (by rw [hc2]; rfl) ?_
    refine mm_Runs.seq (l := [(70, .aload_n 0, 1), (71, .getfield 12, 3), (74, .getfield 115, 3), (77, .iconst 0, 1), (78, .aload_n 0, 1), (79, .getfield 12, 3), (82, .getfield 90, 3)]) (S2 := (85, [some (.ref 0), some (.int v1)], [.int (M.1 1 1), .int (0 : Int32), .ref 2], M)) (by decide +kernel) (hO := mm_own_21) rfl ?_
    refine mm_R_call (v := mm_wi) h hA (k2 := 30) (as := [.ref 2, .int (0 : Int32), .int (M.1 1 1)]) (r := []) rfl (fun _ => rfl) (fun q hq o ho => ms_30 rfl (by omega) hq ho) (fun r5 M6 h => ?_)
    show mm_Runs L xs (d + 1) 21 (88, [some (.ref 0), some (.int v1)], [.int r5], M6) o
    cases h
    exact mm_R_reti rfl rfl hA
  replace h := mm_iq hc2 h
  by_cases hc3 : v1 = (3 : Int32)
  · replace h := mm_ip hc3 h
    refine mm_R_sw (t := 89) rfl rfl rfl (by rw [hc3]; rfl) ?_
    refine mm_Runs.seq (l := [(89, .aload_n 0, 1), (90, .getfield 12, 3), (93, .getfield 115, 3), (96, .iconst 0, 1), (97, .aload_n 0, 1), (98, .getfield 12, 3), (101, .getfield 90, 3)]) (S2 := (104, [some (.ref 0), some (.int v1)], [.int (M.1 1 1), .int (0 : Int32), .ref 2], M)) (by decide +kernel) (hO := mm_own_21) rfl ?_
    refine mm_R_call (v := mm_wi) h hA (k2 := 31) (as := [.ref 2, .int (0 : Int32), .int (M.1 1 1)]) (r := []) rfl (fun _ => rfl) (fun q hq o ho => ms_31 rfl (by omega) hq ho) (fun r7 M8 h => ?_)
    show mm_Runs L xs (d + 1) 21 (107, [some (.ref 0), some (.int v1)], [.int r7], M8) o
    cases h
    exact mm_R_reti rfl rfl hA
  replace h := mm_iq hc3 h
  have e0 := mm_i32 (n := 0) hc0 (by decide) (by decide)
  have e1 := mm_i32 (n := 1) hc1 (by decide) (by decide)
  have e2 := mm_i32 (n := 2) hc2 (by decide) (by decide)
  have e3 := mm_i32 (n := 3) hc3 (by decide) (by decide)
  refine mm_R_sw (t := 108) rfl rfl rfl (mm_tsd (by omega) rfl rfl) ?_
  cases h
  exact mm_R_thr rfl rfl rfl (by omega) hA
-- 8: PlainPacksLaw.sum(LPlainPacks;I[J)I (depth 8)
theorem mm_own_8 : mm_own 8 = 13 := rfl
set_option maxRecDepth 8000 in
set_option maxHeartbeats 4000000 in
theorem ms_8 {L : Nat} {xs : Nat → Int32} {d : Nat} (hd : 8 ≤ d) {v1 : Int32} {M : mm_M} {q : (Int32 ⊕ Nat) × mm_M} {o : mm_E} (h : mf_8 v1 M = some q) (hA : mm_A (mm_Kr mm_wi) q o) : mm_Runs L xs d 8 (0, mm_ent (mm_ml 8) [.ref 0, .int v1, .ref 110], [], M) o := by
  unfold mf_8 at h
  obtain ⟨d, rfl⟩ := mm_d1 (n := 7) hd
  show mm_Runs L xs (d + 1) 8 (0, [some (.ref 0), some (.int v1), some (.ref 110), none], [], M) o
  refine mm_Runs.seq (l := [(0, .aload_n 2, 1), (1, .iconst 0, 1), (2, .aload_n 0, 1), (3, .iload_n 1, 1)]) (S2 := (4, [some (.ref 0), some (.int v1), some (.ref 110), none], [.int v1, .ref 0, .int (0 : Int32), .ref 110], M)) (by decide +kernel) (hO := mm_own_8) rfl ?_
  refine mm_R_callc (v := mm_wi) (X := 1) (hh := 13) (i := 3) h hA (k2 := 21) (as := [.ref 0, .int v1]) (r := [.int (0 : Int32), .ref 110]) rfl rfl rfl (fun q hq o ho => ms_21 (by omega) hq ho) (fun r1 M2 h => ?_) (fun M3 h => ?_)
  · show mm_Runs L xs (d + 1) 8 (7, [some (.ref 0), some (.int v1), some (.ref 110), none], [.int r1, .int (0 : Int32), .ref 110], M2) o
    refine mm_Runs.seq (l := [(7, .i2l, 1)]) (S2 := (8, [some (.ref 0), some (.int v1), some (.ref 110), none], [.long r1.toInt64, .int (0 : Int32), .ref 110], M2)) (by decide +kernel) (hO := mm_own_8) rfl ?_
    obtain ⟨hb, h⟩ := mm_gd h
    refine mm_R_last rfl rfl hb ?_
    refine mm_Runs.seq (l := [(9, .goto 6, 3), (15, .iconst 0, 1)]) (S2 := (16, [some (.ref 0), some (.int v1), some (.ref 110), none], [.int (0 : Int32)], (mm_pl M2 110 (0 : Int32).toNatClampNeg r1.toInt64))) (by decide +kernel) (hO := mm_own_8) rfl ?_
    cases h
    exact mm_R_reti rfl rfl hA
  · show mm_Runs L xs (d + 1) 8 (13, [some (.ref 0), some (.int v1), some (.ref 110), none], [], M3) o
    refine mm_Runs.seq (l := [(13, .iconst 1, 1)]) (S2 := (14, [some (.ref 0), some (.int v1), some (.ref 110), none], [.int (1 : Int32)], M3)) (by decide +kernel) (hO := mm_own_8) rfl ?_
    cases h
    exact mm_R_reti rfl rfl hA
