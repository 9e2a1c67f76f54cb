/-! MEANINGS ARE SOUND 22 -/
-- 241: PlainPacksModel.byByte()V (depth 4)
theorem mm_own_241 : mm_own 241 = 12 := rfl
def mp_241_22 (L : Nat) (xs : Nat → Int32) (d : Nat) (s0 : Int32) (M : mm_M) (o : mm_E) : Prop := ∀ z1 z2 z3 z4 z5 z6 z7 z8 : Option Value, mm_Runs L xs d 241 (22, [some (.ref 84), z1, z2, z3, z4, z5, z6, z7, z8], [.int s0], M) o
def mp_241_76 (L : Nat) (xs : Nat → Int32) (d : Nat) (v2 : Int32) (s0 : Int32) (M : mm_M) (o : mm_E) : Prop := ∀ z1 z3 z4 z5 z6 z7 z8 : Option Value, mm_Runs L xs d 241 (76, [some (.ref 84), z1, some (.int v2), z3, z4, z5, z6, z7, z8], [.int s0], M) o
def mp_241_118 (L : Nat) (xs : Nat → Int32) (d : Nat) (v2 : Int32) (v3 : Int32) (v4 : Int32) (v5 : Int32) (v6 : Int32) (M : mm_M) (o : mm_E) : Prop := ∀ z1 z7 z8 : Option Value, mm_Runs L xs d 241 (118, [some (.ref 84), z1, some (.int v2), some (.int v3), some (.int v4), some (.int v5), some (.int v6), z7, z8], [], M) o
def mp_241_193 (L : Nat) (xs : Nat → Int32) (d : Nat) (v5 : Int32) (M : mm_M) (o : mm_E) : Prop := ∀ z1 z2 z3 z4 z6 z7 z8 : Option Value, mm_Runs L xs d 241 (193, [some (.ref 84), z1, z2, z3, z4, some (.int v5), z6, z7, z8], [], M) o
def mp_241_152 (L : Nat) (xs : Nat → Int32) (d : Nat) (v2 : Int32) (v3 : Int32) (v4 : Int32) (v5 : Int32) (v6 : Int32) (v7 : Int32) (s1 : Int32) (s2 : Int32) (M : mm_M) (o : mm_E) : Prop := ∀ z1 z8 : Option Value, mm_Runs L xs d 241 (152, [some (.ref 84), z1, some (.int v2), some (.int v3), some (.int v4), some (.int v5), some (.int v6), some (.int v7), z8], [.int s2, .int s1, .ref 84], M) o
set_option maxRecDepth 8000 in
set_option maxHeartbeats 4000000 in
theorem ms_241_j152 {L : Nat} {xs : Nat → Int32} {d : Nat} (hd : 4 ≤ d) {v2 : Int32} {v3 : Int32} {v4 : Int32} {v5 : Int32} {v6 : Int32} {v7 : Int32} {s1 : Int32} {s2 : Int32} {M : mm_M} {q : (((Int32 × Int32 × Int32) ⊕ (Int32)) ⊕ Nat) × mm_M} {o : mm_E} (h : mf_241_j152 v2 v3 v4 v5 v6 v7 s1 s2 M = some q) (hA : mm_A (mm_K2 (fun s M o => mp_241_118 L xs (d) v2 s.1 v4 s.2.1 s.2.2 M o) (fun r M o => mp_241_193 L xs (d) r M o)) q o) : mp_241_152 L xs d v2 v3 v4 v5 v6 v7 s1 s2 M o := by
  unfold mf_241_j152 at h
  obtain ⟨d, rfl⟩ := mm_d1 (n := 3) hd
  intro z1 z8
  show mm_Runs L xs (d + 1) 241 (152, [some (.ref 84), z1, some (.int v2), some (.int v3), some (.int v4), some (.int v5), some (.int v6), some (.int v7), z8], [.int s2, .int s1, .ref 84], M) o
  refine mm_Runs.seq (l := [(152, .iadd, 1), (153, .iload 5, 2), (155, .iadd, 1)]) (S2 := (156, [some (.ref 84), z1, some (.int v2), some (.int v3), some (.int v4), some (.int v5), some (.int v6), some (.int v7), z8], [.int ((s1 + s2) + v5), .ref 84], M)) (by decide +kernel) (hO := mm_own_241) rfl ?_
  refine mm_R_call (v := mm_wi) h hA (k2 := 233) (as := [.ref 84, .int ((s1 + s2) + v5)]) (r := []) rfl (fun _ => rfl) (fun q hq o ho => ms_233 (by omega) hq ho) (fun r1 M2 h => ?_)
  show mm_Runs L xs (d + 1) 241 (159, [some (.ref 84), z1, some (.int v2), some (.int v3), some (.int v4), some (.int v5), some (.int v6), some (.int v7), z8], [.int r1], M2) o
  refine mm_Runs.seq (l := [(159, .istore 8, 2), (161, .iload_n 3, 1)]) (S2 := (162, [some (.ref 84), z1, some (.int v2), some (.int v3), some (.int v4), some (.int v5), some (.int v6), some (.int v7), some (.int r1)], [.int v3], M2)) (by decide +kernel) (hO := mm_own_241) rfl ?_
  refine mm_R_zeq (t := 176) rfl rfl rfl (fun hc => ?_) (fun hc => ?_)
  · replace h := mm_ip hc h
    refine mm_Runs.seq (l := [(176, .iconst 0, 1), (177, .istore_n 3, 1), (178, .iconst 2, 1), (179, .iload 5, 2), (181, .imul, 1), (182, .iload 8, 2), (184, .iadd, 1), (185, .istore 5, 2), (187, .iinc 6 (-1), 3), (190, .goto (-72), 3)]) (S2 := (118, [some (.ref 84), z1, some (.int v2), some (.int (0 : Int32)), some (.int v4), some (.int (((2 : Int32) * v5) + r1)), some (.int (v6 + (-1 : Int32))), some (.int v7), some (.int r1)], [], M2)) (by decide +kernel) (hO := mm_own_241) rfl ?_
    cases h
    exact (show mp_241_118 L xs (d + 1) v2 (0 : Int32) v4 (((2 : Int32) * v5) + r1) (v6 + (-1 : Int32)) M2 o from hA) z1 (some (.int v7)) (some (.int r1))
  · replace h := mm_iq hc h
    refine mm_Runs.seq (l := [(165, .iload 8, 2), (167, .iload 7, 2)]) (S2 := (169, [some (.ref 84), z1, some (.int v2), some (.int v3), some (.int v4), some (.int v5), some (.int v6), some (.int v7), some (.int r1)], [.int v7, .int r1], M2)) (by decide +kernel) (hO := mm_own_241) rfl ?_
    refine mm_R_ine (t := 176) rfl rfl rfl (fun hc => ?_) (fun hc => ?_)
    · replace h := mm_ip hc h
      refine mm_Runs.seq (l := [(172, .iconst 1, 1), (173, .goto 4, 3), (177, .istore_n 3, 1), (178, .iconst 2, 1), (179, .iload 5, 2), (181, .imul, 1), (182, .iload 8, 2), (184, .iadd, 1), (185, .istore 5, 2), (187, .iinc 6 (-1), 3), (190, .goto (-72), 3)]) (S2 := (118, [some (.ref 84), z1, some (.int v2), some (.int (1 : Int32)), some (.int v4), some (.int (((2 : Int32) * v5) + r1)), some (.int (v6 + (-1 : Int32))), some (.int v7), some (.int r1)], [], M2)) (by decide +kernel) (hO := mm_own_241) rfl ?_
      cases h
      exact (show mp_241_118 L xs (d + 1) v2 (1 : Int32) v4 (((2 : Int32) * v5) + r1) (v6 + (-1 : Int32)) M2 o from hA) z1 (some (.int v7)) (some (.int r1))
    · replace h := mm_iq hc h
      refine mm_Runs.seq (l := [(176, .iconst 0, 1), (177, .istore_n 3, 1), (178, .iconst 2, 1), (179, .iload 5, 2), (181, .imul, 1), (182, .iload 8, 2), (184, .iadd, 1), (185, .istore 5, 2), (187, .iinc 6 (-1), 3), (190, .goto (-72), 3)]) (S2 := (118, [some (.ref 84), z1, some (.int v2), some (.int (0 : Int32)), some (.int v4), some (.int (((2 : Int32) * v5) + r1)), some (.int (v6 + (-1 : Int32))), some (.int v7), some (.int r1)], [], M2)) (by decide +kernel) (hO := mm_own_241) rfl ?_
      cases h
      exact (show mp_241_118 L xs (d + 1) v2 (0 : Int32) v4 (((2 : Int32) * v5) + r1) (v6 + (-1 : Int32)) M2 o from hA) z1 (some (.int v7)) (some (.int r1))
set_option maxRecDepth 8000 in
set_option maxHeartbeats 4000000 in
theorem ms_241_b118 {L : Nat} {xs : Nat → Int32} {d : Nat} (hd : 4 ≤ d) {v2 : Int32} {v3 : Int32} {v4 : Int32} {v5 : Int32} {v6 : Int32} {M : mm_M} {q : (((Int32 × Int32 × Int32) ⊕ (Int32)) ⊕ Nat) × mm_M} {o : mm_E} (h : mf_241_b118 v2 v3 v4 v5 v6 M = some q) (hA : mm_A (mm_K2 (fun s M o => mp_241_118 L xs (d) v2 s.1 v4 s.2.1 s.2.2 M o) (fun r M o => mp_241_193 L xs (d) r M o)) q o) : mp_241_118 L xs d v2 v3 v4 v5 v6 M o := by
  unfold mf_241_b118 at h
  obtain ⟨d, rfl⟩ := mm_d1 (n := 3) hd
  intro z1 z7 z8
  show mm_Runs L xs (d + 1) 241 (118, [some (.ref 84), z1, some (.int v2), some (.int v3), some (.int v4), some (.int v5), some (.int v6), z7, z8], [], M) o
  refine mm_Runs.seq (l := [(118, .iload 6, 2)]) (S2 := (120, [some (.ref 84), z1, some (.int v2), some (.int v3), some (.int v4), some (.int v5), some (.int v6), z7, z8], [.int v6], M)) (by decide +kernel) (hO := mm_own_241) rfl ?_
  refine mm_R_zlt (t := 193) rfl rfl rfl (fun hc => ?_) (fun hc => ?_)
  · replace h := mm_ip hc h
    cases h
    exact (show mp_241_193 L xs (d + 1) v5 M o from hA) z1 (some (.int v2)) (some (.int v3)) (some (.int v4)) (some (.int v6)) z7 z8
  · replace h := mm_iq hc h
    refine mm_Runs.seq (l := [(123, .iload 4, 2), (125, .iload 6, 2), (127, .ishr, 1), (128, .iconst 1, 1), (129, .iand, 1), (130, .istore 7, 2), (132, .aload_n 0, 1), (133, .iload_n 2, 1), (134, .iload_n 3, 1)]) (S2 := (135, [some (.ref 84), z1, some (.int v2), some (.int v3), some (.int v4), some (.int v5), some (.int v6), some (.int ((mm_shr v4 v6) &&& (1 : Int32))), z8], [.int v3, .int v2, .ref 84], M)) (by decide +kernel) (hO := mm_own_241) rfl ?_
    refine mm_R_zeq (t := 151) rfl rfl rfl (fun hc => ?_) (fun hc => ?_)
    · replace h := mm_ip hc h
      refine mm_Runs.seq (l := [(151, .iconst 0, 1)]) (S2 := (152, [some (.ref 84), z1, some (.int v2), some (.int v3), some (.int v4), some (.int v5), some (.int v6), some (.int ((mm_shr v4 v6) &&& (1 : Int32))), z8], [.int (0 : Int32), .int v2, .ref 84], M)) (by decide +kernel) (hO := mm_own_241) rfl ?_
      exact (ms_241_j152 hd h hA : mp_241_152 L xs (d + 1) v2 v3 v4 v5 v6 ((mm_shr v4 v6) &&& (1 : Int32)) v2 (0 : Int32) M o) z1 z8
    · replace h := mm_iq hc h
      refine mm_Runs.seq (l := [(138, .sipush 256, 3), (141, .sipush 256, 3), (144, .iload 7, 2), (146, .imul, 1), (147, .iadd, 1), (148, .goto 4, 3)]) (S2 := (152, [some (.ref 84), z1, some (.int v2), some (.int v3), some (.int v4), some (.int v5), some (.int v6), some (.int ((mm_shr v4 v6) &&& (1 : Int32))), z8], [.int ((256 : Int32) + ((256 : Int32) * ((mm_shr v4 v6) &&& (1 : Int32)))), .int v2, .ref 84], M)) (by decide +kernel) (hO := mm_own_241) rfl ?_
      exact (ms_241_j152 hd h hA : mp_241_152 L xs (d + 1) v2 v3 v4 v5 v6 ((mm_shr v4 v6) &&& (1 : Int32)) v2 ((256 : Int32) + ((256 : Int32) * ((mm_shr v4 v6) &&& (1 : Int32)))) M o) z1 z8
theorem ms_241_L118 {L : Nat} {xs : Nat → Int32} {d : Nat} (hd : 4 ≤ d) {v2 : Int32} {v3 : Int32} {v4 : Int32} {v5 : Int32} {v6 : Int32} {β : Type} {K : β → mm_M → mm_E → Prop} {F : (Int32) → mm_M → mm_O β} {M : mm_M} {q : (β ⊕ Nat) × mm_M} {o : mm_E} (h : mm_B (mf_241_L118 v2 v4 (v3, v5, v6) M) F = some q) (hA : mm_A K q o) (hx : ∀ (r : (Int32)) (M2 : mm_M), F r M2 = some q → (fun r M o => mp_241_193 L xs (d) r M o) r M2 o) : mp_241_118 L xs d v2 v3 v4 v5 v6 M o := by
  unfold mf_241_L118 at h
  exact mm_R_loop (step := (fun s M => mf_241_b118 v2 s.1 v4 s.2.1 s.2.2 M)) (s := (v3, v5, v6)) (M := M) (P := (fun s M o => mp_241_118 L xs (d) v2 s.1 v4 s.2.1 s.2.2 M o)) (X := (fun r M o => mp_241_193 L xs (d) r M o)) h hA (fun s M q hq hA => ms_241_b118 (v2 := v2) (v3 := s.1) (v4 := v4) (v5 := s.2.1) (v6 := s.2.2) (M := M) (q := q) hd hq hA) hx
set_option maxRecDepth 8000 in
set_option maxHeartbeats 4000000 in
theorem ms_241_j193 {L : Nat} {xs : Nat → Int32} {d : Nat} (hd : 4 ≤ d) {v5 : Int32} {M : mm_M} {q : (Unit ⊕ Nat) × mm_M} {o : mm_E} (h : mf_241_j193 v5 M = some q) (hA : mm_A (mm_Kr mm_wv) q o) : mp_241_193 L xs d v5 M o := by
  unfold mf_241_j193 at h
  obtain ⟨d, rfl⟩ := mm_d1 (n := 3) hd
  intro z1 z2 z3 z4 z6 z7 z8
  show mm_Runs L xs (d + 1) 241 (193, [some (.ref 84), z1, z2, z3, z4, some (.int v5), z6, z7, z8], [], M) o
  refine mm_Runs.seq (l := [(193, .aload_n 0, 1), (194, .dup, 1), (195, .getfield 104, 3), (198, .aload_n 0, 1), (199, .iload 5, 2), (201, .sipush 255, 3), (204, .iand, 1)]) (S2 := (205, [some (.ref 84), z1, z2, z3, z4, some (.int v5), z6, z7, z8], [.int (v5 &&& (255 : Int32)), .ref 84, .int (M.1 84 8), .ref 84], M)) (by decide +kernel) (hO := mm_own_241) rfl ?_
  refine mm_R_call (v := mm_wi) h hA (k2 := 194) (as := [.ref 84, .int (v5 &&& (255 : Int32))]) (r := [.int (M.1 84 8), .ref 84]) rfl (fun _ => rfl) (fun q hq o ho => ms_194 (by omega) hq ho) (fun r1 M2 h => ?_)
  show mm_Runs L xs (d + 1) 241 (208, [some (.ref 84), z1, z2, z3, z4, some (.int v5), z6, z7, z8], [.int r1, .int (M.1 84 8), .ref 84], M2) o
  refine mm_R_zeq (t := 215) rfl rfl rfl (fun hc => ?_) (fun hc => ?_)
  · replace h := mm_ip hc h
    refine mm_Runs.seq (l := [(215, .iconst 0, 1), (216, .iadd, 1), (217, .putfield 104, 3)]) (S2 := (220, [some (.ref 84), z1, z2, z3, z4, some (.int v5), z6, z7, z8], [], (mm_pi M2 84 8 ((M.1 84 8) + (0 : Int32))))) (by decide +kernel) (hO := mm_own_241) rfl ?_
    cases h
    exact mm_R_retv rfl rfl hA
  · replace h := mm_iq hc h
    refine mm_Runs.seq (l := [(211, .iconst 1, 1), (212, .goto 4, 3), (216, .iadd, 1), (217, .putfield 104, 3)]) (S2 := (220, [some (.ref 84), z1, z2, z3, z4, some (.int v5), z6, z7, z8], [], (mm_pi M2 84 8 ((M.1 84 8) + (1 : Int32))))) (by decide +kernel) (hO := mm_own_241) rfl ?_
    cases h
    exact mm_R_retv rfl rfl hA
set_option maxRecDepth 8000 in
set_option maxHeartbeats 4000000 in
theorem ms_241_j76 {L : Nat} {xs : Nat → Int32} {d : Nat} (hd : 4 ≤ d) {v2 : Int32} {s0 : Int32} {M : mm_M} {q : (Unit ⊕ Nat) × mm_M} {o : mm_E} (h : mf_241_j76 v2 s0 M = some q) (hA : mm_A (mm_Kr mm_wv) q o) : mp_241_76 L xs d v2 s0 M o := by
  unfold mf_241_j76 at h
  obtain ⟨d, rfl⟩ := mm_d1 (n := 3) hd
  intro z1 z3 z4 z5 z6 z7 z8
  show mm_Runs L xs (d + 1) 241 (76, [some (.ref 84), z1, some (.int v2), z3, z4, z5, z6, z7, z8], [.int s0], M) o
  refine mm_Runs.seq (l := [(76, .istore_n 3, 1), (77, .iload_n 3, 1)]) (S2 := (78, [some (.ref 84), z1, some (.int v2), some (.int s0), z4, z5, z6, z7, z8], [.int s0], M)) (by decide +kernel) (hO := mm_own_241) rfl ?_
  refine mm_R_zeq (t := 108) rfl rfl rfl (fun hc => ?_) (fun hc => ?_)
  · replace h := mm_ip hc h
    refine mm_Runs.seq (l := [(108, .iconst 0, 1), (109, .istore 4, 2), (111, .iconst 1, 1), (112, .istore 5, 2), (114, .bipush 7, 2), (116, .istore 6, 2)]) (S2 := (118, [some (.ref 84), z1, some (.int v2), some (.int s0), some (.int (0 : Int32)), some (.int (1 : Int32)), some (.int (7 : Int32)), z7, z8], [], M)) (by decide +kernel) (hO := mm_own_241) rfl ?_
    have hp : mp_241_118 L xs (d + 1) v2 s0 (0 : Int32) (1 : Int32) (7 : Int32) M o := by
      refine ms_241_L118 hd h hA (fun r2 M1 h => ?_)
      intro y3 y4 y5 y6 y7 y8 y9
      show mm_Runs L xs (d + 1) 241 (193, [some (.ref 84), y3, y4, y5, y6, some (.int r2), y7, y8, y9], [], M1) o
      exact (ms_241_j193 hd h hA : mp_241_193 L xs (d + 1) r2 M1 o) y3 y4 y5 y6 y7 y8 y9
    exact hp z1 z7 z8
  · replace h := mm_iq hc h
    refine mm_Runs.seq (l := [(81, .aload_n 0, 1), (82, .getfield 154, 3)]) (S2 := (85, [some (.ref 84), z1, some (.int v2), some (.int s0), z4, z5, z6, z7, z8], [.int (M.1 84 7)], M)) (by decide +kernel) (hO := mm_own_241) rfl ?_
    refine mm_R_zne (t := 108) rfl rfl rfl (fun hc => ?_) (fun hc => ?_)
    · replace h := mm_ip hc h
      refine mm_Runs.seq (l := [(88, .aload_n 0, 1), (89, .getfield 13, 3), (92, .aload_n 0, 1), (93, .getfield 98, 3), (96, .aload_n 0, 1), (97, .getfield 53, 3), (100, .iconst 0, 1)]) (S2 := (101, [some (.ref 84), z1, some (.int v2), some (.int s0), z4, z5, z6, z7, z8], [.int (0 : Int32), .ref 99, .int (M.1 84 4), .ref 86], M)) (by decide +kernel) (hO := mm_own_241) rfl ?_
      obtain ⟨hb, h⟩ := mm_gd h
      refine mm_R_lald rfl rfl hb ?_
      refine mm_Runs.seq (l := [(102, .l2i, 1), (103, .isub, 1)]) (S2 := (104, [some (.ref 84), z1, some (.int v2), some (.int s0), z4, z5, z6, z7, z8], [.int ((M.1 84 4) - (M.2.1 99 (0 : Int32).toNatClampNeg).toInt32), .ref 86], M)) (by decide +kernel) (hO := mm_own_241) rfl ?_
      obtain ⟨hb, h⟩ := mm_gd h
      refine mm_R_iald rfl rfl hb ?_
      refine mm_Runs.seq (l := [(105, .goto 4, 3), (109, .istore 4, 2), (111, .iconst 1, 1), (112, .istore 5, 2), (114, .bipush 7, 2), (116, .istore 6, 2)]) (S2 := (118, [some (.ref 84), z1, some (.int v2), some (.int s0), some (.int (M.1 86 ((M.1 84 4) - (M.2.1 99 (0 : Int32).toNatClampNeg).toInt32).toNatClampNeg)), some (.int (1 : Int32)), some (.int (7 : Int32)), z7, z8], [], M)) (by decide +kernel) (hO := mm_own_241) rfl ?_
      have hp : mp_241_118 L xs (d + 1) v2 s0 (M.1 86 ((M.1 84 4) - (M.2.1 99 (0 : Int32).toNatClampNeg).toInt32).toNatClampNeg) (1 : Int32) (7 : Int32) M o := by
        refine ms_241_L118 hd h hA (fun r11 M10 h => ?_)
        intro y12 y13 y14 y15 y16 y17 y18
        show mm_Runs L xs (d + 1) 241 (193, [some (.ref 84), y12, y13, y14, y15, some (.int r11), y16, y17, y18], [], M10) o
        exact (ms_241_j193 hd h hA : mp_241_193 L xs (d + 1) r11 M10 o) y12 y13 y14 y15 y16 y17 y18
      exact hp z1 z7 z8
    · replace h := mm_iq hc h
      refine mm_Runs.seq (l := [(108, .iconst 0, 1), (109, .istore 4, 2), (111, .iconst 1, 1), (112, .istore 5, 2), (114, .bipush 7, 2), (116, .istore 6, 2)]) (S2 := (118, [some (.ref 84), z1, some (.int v2), some (.int s0), some (.int (0 : Int32)), some (.int (1 : Int32)), some (.int (7 : Int32)), z7, z8], [], M)) (by decide +kernel) (hO := mm_own_241) rfl ?_
      have hp : mp_241_118 L xs (d + 1) v2 s0 (0 : Int32) (1 : Int32) (7 : Int32) M o := by
        refine ms_241_L118 hd h hA (fun r20 M19 h => ?_)
        intro y21 y22 y23 y24 y25 y26 y27
        show mm_Runs L xs (d + 1) 241 (193, [some (.ref 84), y21, y22, y23, y24, some (.int r20), y25, y26, y27], [], M19) o
        exact (ms_241_j193 hd h hA : mp_241_193 L xs (d + 1) r20 M19 o) y21 y22 y23 y24 y25 y26 y27
      exact hp z1 z7 z8
set_option maxRecDepth 8000 in
set_option maxHeartbeats 4000000 in
theorem ms_241_j22 {L : Nat} {xs : Nat → Int32} {d : Nat} (hd : 4 ≤ d) {s0 : Int32} {M : mm_M} {q : (Unit ⊕ Nat) × mm_M} {o : mm_E} (h : mf_241_j22 s0 M = some q) (hA : mm_A (mm_Kr mm_wv) q o) : mp_241_22 L xs d s0 M o := by
  unfold mf_241_j22 at h
  obtain ⟨d, rfl⟩ := mm_d1 (n := 3) hd
  intro z1 z2 z3 z4 z5 z6 z7 z8
  show mm_Runs L xs (d + 1) 241 (22, [some (.ref 84), z1, z2, z3, z4, z5, z6, z7, z8], [.int s0], M) o
  refine mm_Runs.seq (l := [(22, .istore_n 1, 1), (23, .sipush 2244, 3), (26, .sipush 768, 3), (29, .aload_n 0, 1), (30, .getfield 98, 3), (33, .iconst 1, 1), (34, .aload_n 0, 1), (35, .getfield 343, 3), (38, .ishl, 1), (39, .iconst 1, 1), (40, .isub, 1), (41, .iand, 1), (42, .iconst 1, 1), (43, .aload_n 0, 1), (44, .getfield 340, 3), (47, .ishl, 1), (48, .imul, 1), (49, .iload_n 1, 1), (50, .bipush 8, 2), (52, .aload_n 0, 1), (53, .getfield 340, 3), (56, .isub, 1), (57, .ishr, 1), (58, .iadd, 1), (59, .imul, 1), (60, .iadd, 1), (61, .istore_n 2, 1), (62, .aload_n 0, 1), (63, .getfield 349, 3), (66, .bipush 6, 2)]) (S2 := (68, [some (.ref 84), some (.int s0), some (.int ((2244 : Int32) + ((768 : Int32) * ((((M.1 84 4) &&& ((mm_shl (1 : Int32) (M.1 84 38)) - (1 : Int32))) * (mm_shl (1 : Int32) (M.1 84 37))) + (mm_shr s0 ((8 : Int32) - (M.1 84 37))))))), z3, z4, z5, z6, z7, z8], [.int (6 : Int32), .int (M.1 84 35)], M)) (by decide +kernel) (hO := mm_own_241) rfl ?_
  refine mm_R_ile (t := 75) rfl rfl rfl (fun hc => ?_) (fun hc => ?_)
  · replace h := mm_ip hc h
    refine mm_Runs.seq (l := [(71, .iconst 1, 1), (72, .goto 4, 3)]) (S2 := (76, [some (.ref 84), some (.int s0), some (.int ((2244 : Int32) + ((768 : Int32) * ((((M.1 84 4) &&& ((mm_shl (1 : Int32) (M.1 84 38)) - (1 : Int32))) * (mm_shl (1 : Int32) (M.1 84 37))) + (mm_shr s0 ((8 : Int32) - (M.1 84 37))))))), z3, z4, z5, z6, z7, z8], [.int (1 : Int32)], M)) (by decide +kernel) (hO := mm_own_241) rfl ?_
    exact (ms_241_j76 hd h hA : mp_241_76 L xs (d + 1) ((2244 : Int32) + ((768 : Int32) * ((((M.1 84 4) &&& ((mm_shl (1 : Int32) (M.1 84 38)) - (1 : Int32))) * (mm_shl (1 : Int32) (M.1 84 37))) + (mm_shr s0 ((8 : Int32) - (M.1 84 37)))))) (1 : Int32) M o) (some (.int s0)) z3 z4 z5 z6 z7 z8
  · replace h := mm_iq hc h
    refine mm_Runs.seq (l := [(75, .iconst 0, 1)]) (S2 := (76, [some (.ref 84), some (.int s0), some (.int ((2244 : Int32) + ((768 : Int32) * ((((M.1 84 4) &&& ((mm_shl (1 : Int32) (M.1 84 38)) - (1 : Int32))) * (mm_shl (1 : Int32) (M.1 84 37))) + (mm_shr s0 ((8 : Int32) - (M.1 84 37))))))), z3, z4, z5, z6, z7, z8], [.int (0 : Int32)], M)) (by decide +kernel) (hO := mm_own_241) rfl ?_
    exact (ms_241_j76 hd h hA : mp_241_76 L xs (d + 1) ((2244 : Int32) + ((768 : Int32) * ((((M.1 84 4) &&& ((mm_shl (1 : Int32) (M.1 84 38)) - (1 : Int32))) * (mm_shl (1 : Int32) (M.1 84 37))) + (mm_shr s0 ((8 : Int32) - (M.1 84 37)))))) (0 : Int32) M o) (some (.int s0)) z3 z4 z5 z6 z7 z8
set_option maxRecDepth 8000 in
set_option maxHeartbeats 4000000 in
theorem ms_241 {L : Nat} {xs : Nat → Int32} {d : Nat} (hd : 4 ≤ d) {M : mm_M} {q : (Unit ⊕ Nat) × mm_M} {o : mm_E} (h : mf_241 M = some q) (hA : mm_A (mm_Kr mm_wv) q o) : mm_Runs L xs d 241 (0, mm_ent (mm_ml 241) [.ref 84], [], M) o := by
  unfold mf_241 at h
  obtain ⟨d, rfl⟩ := mm_d1 (n := 3) hd
  show mm_Runs L xs (d + 1) 241 (0, [some (.ref 84), none, none, none, none, none, none, none, none], [], M) o
  refine mm_Runs.seq (l := [(0, .aload_n 0, 1), (1, .getfield 98, 3)]) (S2 := (4, [some (.ref 84), none, none, none, none, none, none, none, none], [.int (M.1 84 4)], M)) (by decide +kernel) (hO := mm_own_241) rfl ?_
  refine mm_R_zne (t := 11) rfl rfl rfl (fun hc => ?_) (fun hc => ?_)
  · replace h := mm_ip hc h
    refine mm_Runs.seq (l := [(7, .iconst 0, 1), (8, .goto 14, 3)]) (S2 := (22, [some (.ref 84), none, none, none, none, none, none, none, none], [.int (0 : Int32)], M)) (by decide +kernel) (hO := mm_own_241) rfl ?_
    exact (ms_241_j22 hd h hA : mp_241_22 L xs (d + 1) (0 : Int32) M o) none none none none none none none none
  · replace h := mm_iq hc h
    refine mm_Runs.seq (l := [(11, .aload_n 0, 1), (12, .getfield 13, 3), (15, .aload_n 0, 1), (16, .getfield 98, 3), (19, .iconst 1, 1), (20, .isub, 1)]) (S2 := (21, [some (.ref 84), none, none, none, none, none, none, none, none], [.int ((M.1 84 4) - (1 : Int32)), .ref 86], M)) (by decide +kernel) (hO := mm_own_241) rfl ?_
    obtain ⟨hb, h⟩ := mm_gd h
    refine mm_R_iald rfl rfl hb ?_
    exact (ms_241_j22 hd h hA : mp_241_22 L xs (d + 1) (M.1 86 ((M.1 84 4) - (1 : Int32)).toNatClampNeg) M o) none none none none none none none none
-- 234: PlainPacksModel.tree(II)I (depth 4)
theorem mm_own_234 : mm_own 234 = 12 := rfl
def mp_234_5 (L : Nat) (xs : Nat → Int32) (d : Nat) (v1 : Int32) (v2 : Int32) (v3 : Int32) (v4 : Int32) (M : mm_M) (o : mm_E) : Prop := mm_Runs L xs d 234 (5, [some (.ref 84), some (.int v1), some (.int v2), some (.int v3), some (.int v4)], [], M) o
def mp_234_29 (L : Nat) (xs : Nat → Int32) (d : Nat) (v2 : Int32) (v3 : Int32) (M : mm_M) (o : mm_E) : Prop := ∀ z0 z1 z4 : Option Value, mm_Runs L xs d 234 (29, [z0, z1, some (.int v2), some (.int v3), z4], [], M) o
set_option maxRecDepth 8000 in
set_option maxHeartbeats 4000000 in
theorem ms_234_b5 {L : Nat} {xs : Nat → Int32} {d : Nat} (hd : 4 ≤ d) {v1 : Int32} {v2 : Int32} {v3 : Int32} {v4 : Int32} {M : mm_M} {q : (((Int32 × Int32) ⊕ (Int32)) ⊕ Nat) × mm_M} {o : mm_E} (h : mf_234_b5 v1 v2 v3 v4 M = some q) (hA : mm_A (mm_K2 (fun s M o => mp_234_5 L xs (d) v1 v2 s.1 s.2 M o) (fun r M o => mp_234_29 L xs (d) v2 r M o)) q o) : mp_234_5 L xs d v1 v2 v3 v4 M o := by
  unfold mf_234_b5 at h
  obtain ⟨d, rfl⟩ := mm_d1 (n := 3) hd
  show mm_Runs L xs (d + 1) 234 (5, [some (.ref 84), some (.int v1), some (.int v2), some (.int v3), some (.int v4)], [], M) o
  refine mm_Runs.seq (l := [(5, .iload 4, 2), (7, .iload_n 2, 1)]) (S2 := (8, [some (.ref 84), some (.int v1), some (.int v2), some (.int v3), some (.int v4)], [.int v2, .int v4], M)) (by decide +kernel) (hO := mm_own_234) rfl ?_
  refine mm_R_ige (t := 29) rfl rfl rfl (fun hc => ?_) (fun hc => ?_)
  · replace h := mm_ip hc h
    refine mm_Runs.seq (l := [(11, .iconst 2, 1), (12, .iload_n 3, 1), (13, .imul, 1), (14, .aload_n 0, 1), (15, .iload_n 1, 1), (16, .iload_n 3, 1), (17, .iadd, 1)]) (S2 := (18, [some (.ref 84), some (.int v1), some (.int v2), some (.int v3), some (.int v4)], [.int (v1 + v3), .ref 84, .int ((2 : Int32) * v3)], M)) (by decide +kernel) (hO := mm_own_234) rfl ?_
    refine mm_R_call (v := mm_wi) h hA (k2 := 233) (as := [.ref 84, .int (v1 + v3)]) (r := [.int ((2 : Int32) * v3)]) rfl (fun _ => rfl) (fun q hq o ho => ms_233 (by omega) hq ho) (fun r1 M2 h => ?_)
    show mm_Runs L xs (d + 1) 234 (21, [some (.ref 84), some (.int v1), some (.int v2), some (.int v3), some (.int v4)], [.int r1, .int ((2 : Int32) * v3)], M2) o
    refine mm_Runs.seq (l := [(21, .iadd, 1), (22, .istore_n 3, 1), (23, .iinc 4 1, 3), (26, .goto (-21), 3)]) (S2 := (5, [some (.ref 84), some (.int v1), some (.int v2), some (.int (((2 : Int32) * v3) + r1)), some (.int (v4 + (1 : Int32)))], [], M2)) (by decide +kernel) (hO := mm_own_234) rfl ?_
    cases h
    exact (show mp_234_5 L xs (d + 1) v1 v2 (((2 : Int32) * v3) + r1) (v4 + (1 : Int32)) M2 o from hA)
  · replace h := mm_iq hc h
    cases h
    exact (show mp_234_29 L xs (d + 1) v2 v3 M o from hA) (some (.ref 84)) (some (.int v1)) (some (.int v4))
theorem ms_234_L5 {L : Nat} {xs : Nat → Int32} {d : Nat} (hd : 4 ≤ d) {v1 : Int32} {v2 : Int32} {v3 : Int32} {v4 : Int32} {β : Type} {K : β → mm_M → mm_E → Prop} {F : (Int32) → mm_M → mm_O β} {M : mm_M} {q : (β ⊕ Nat) × mm_M} {o : mm_E} (h : mm_B (mf_234_L5 v1 v2 (v3, v4) M) F = some q) (hA : mm_A K q o) (hx : ∀ (r : (Int32)) (M2 : mm_M), F r M2 = some q → (fun r M o => mp_234_29 L xs (d) v2 r M o) r M2 o) : mp_234_5 L xs d v1 v2 v3 v4 M o := by
  unfold mf_234_L5 at h
  exact mm_R_loop (step := (fun s M => mf_234_b5 v1 v2 s.1 s.2 M)) (s := (v3, v4)) (M := M) (P := (fun s M o => mp_234_5 L xs (d) v1 v2 s.1 s.2 M o)) (X := (fun r M o => mp_234_29 L xs (d) v2 r M o)) h hA (fun s M q hq hA => ms_234_b5 (v1 := v1) (v2 := v2) (v3 := s.1) (v4 := s.2) (M := M) (q := q) hd hq hA) hx
set_option maxRecDepth 8000 in
set_option maxHeartbeats 4000000 in
theorem ms_234 {L : Nat} {xs : Nat → Int32} {d : Nat} (hd : 4 ≤ d) {v1 : Int32} {v2 : Int32} {M : mm_M} {q : (Int32 ⊕ Nat) × mm_M} {o : mm_E} (h : mf_234 v1 v2 M = some q) (hA : mm_A (mm_Kr mm_wi) q o) : mm_Runs L xs d 234 (0, mm_ent (mm_ml 234) [.ref 84, .int v1, .int v2], [], M) o := by
  unfold mf_234 at h
  obtain ⟨d, rfl⟩ := mm_d1 (n := 3) hd
  show mm_Runs L xs (d + 1) 234 (0, [some (.ref 84), some (.int v1), some (.int v2), none, none], [], M) o
  refine mm_Runs.seq (l := [(0, .iconst 1, 1), (1, .istore_n 3, 1), (2, .iconst 0, 1), (3, .istore 4, 2)]) (S2 := (5, [some (.ref 84), some (.int v1), some (.int v2), some (.int (1 : Int32)), some (.int (0 : Int32))], [], M)) (by decide +kernel) (hO := mm_own_234) rfl ?_
  have hp : mp_234_5 L xs (d + 1) v1 v2 (1 : Int32) (0 : Int32) M o := by
    refine ms_234_L5 hd h hA (fun r2 M1 h => ?_)
    intro y3 y4 y5
    show mm_Runs L xs (d + 1) 234 (29, [y3, y4, some (.int v2), some (.int r2), y5], [], M1) o
    refine mm_Runs.seq (l := [(29, .iload_n 3, 1), (30, .iconst 1, 1), (31, .iload_n 2, 1), (32, .ishl, 1), (33, .isub, 1)]) (S2 := (34, [y3, y4, some (.int v2), some (.int r2), y5], [.int (r2 - (mm_shl (1 : Int32) v2))], M1)) (by decide +kernel) (hO := mm_own_234) rfl ?_
    cases h
    exact mm_R_reti rfl rfl hA
  exact hp
-- 242: PlainPacksModel.lengthOf(II)I (depth 5)
theorem mm_own_242 : mm_own 242 = 12 := rfl
set_option maxRecDepth 8000 in
set_option maxHeartbeats 4000000 in
theorem ms_242 {L : Nat} {xs : Nat → Int32} {d : Nat} (hd : 5 ≤ d) {v1 : Int32} {v2 : Int32} {M : mm_M} {q : (Int32 ⊕ Nat) × mm_M} {o : mm_E} (h : mf_242 v1 v2 M = some q) (hA : mm_A (mm_Kr mm_wi) q o) : mm_Runs L xs d 242 (0, mm_ent (mm_ml 242) [.ref 84, .int v1, .int v2], [], M) o := by
  unfold mf_242 at h
  obtain ⟨d, rfl⟩ := mm_d1 (n := 4) hd
  show mm_Runs L xs (d + 1) 242 (0, [some (.ref 84), some (.int v1), some (.int v2)], [], M) o
  refine mm_Runs.seq (l := [(0, .aload_n 0, 1), (1, .iload_n 1, 1)]) (S2 := (2, [some (.ref 84), some (.int v1), some (.int v2)], [.int v1, .ref 84], M)) (by decide +kernel) (hO := mm_own_242) rfl ?_
  refine mm_R_call (v := mm_wi) h hA (k2 := 233) (as := [.ref 84, .int v1]) (r := []) rfl (fun _ => rfl) (fun q hq o ho => ms_233 (by omega) hq ho) (fun r1 M2 h => ?_)
  show mm_Runs L xs (d + 1) 242 (5, [some (.ref 84), some (.int v1), some (.int v2)], [.int r1], M2) o
  refine mm_R_zne (t := 24) rfl rfl rfl (fun hc => ?_) (fun hc => ?_)
  · replace h := mm_ip hc h
    refine mm_Runs.seq (l := [(8, .iconst 2, 1), (9, .aload_n 0, 1), (10, .iload_n 1, 1), (11, .iconst 2, 1), (12, .iadd, 1), (13, .bipush 8, 2), (15, .iload_n 2, 1), (16, .imul, 1), (17, .iadd, 1), (18, .iconst 3, 1)]) (S2 := (19, [some (.ref 84), some (.int v1), some (.int v2)], [.int (3 : Int32), .int ((v1 + (2 : Int32)) + ((8 : Int32) * v2)), .ref 84, .int (2 : Int32)], M2)) (by decide +kernel) (hO := mm_own_242) rfl ?_
    refine mm_R_call (v := mm_wi) h hA (k2 := 234) (as := [.ref 84, .int ((v1 + (2 : Int32)) + ((8 : Int32) * v2)), .int (3 : Int32)]) (r := [.int (2 : Int32)]) rfl (fun _ => rfl) (fun q hq o ho => ms_234 (by omega) hq ho) (fun r3 M4 h => ?_)
    show mm_Runs L xs (d + 1) 242 (22, [some (.ref 84), some (.int v1), some (.int v2)], [.int r3, .int (2 : Int32)], M4) o
    refine mm_Runs.seq (l := [(22, .iadd, 1)]) (S2 := (23, [some (.ref 84), some (.int v1), some (.int v2)], [.int ((2 : Int32) + r3)], M4)) (by decide +kernel) (hO := mm_own_242) rfl ?_
    cases h
    exact mm_R_reti rfl rfl hA
  · replace h := mm_iq hc h
    refine mm_Runs.seq (l := [(24, .aload_n 0, 1), (25, .iload_n 1, 1), (26, .iconst 1, 1), (27, .iadd, 1)]) (S2 := (28, [some (.ref 84), some (.int v1), some (.int v2)], [.int (v1 + (1 : Int32)), .ref 84], M2)) (by decide +kernel) (hO := mm_own_242) rfl ?_
    refine mm_R_call (v := mm_wi) h hA (k2 := 233) (as := [.ref 84, .int (v1 + (1 : Int32))]) (r := []) rfl (fun _ => rfl) (fun q hq o ho => ms_233 (by omega) hq ho) (fun r5 M6 h => ?_)
    show mm_Runs L xs (d + 1) 242 (31, [some (.ref 84), some (.int v1), some (.int v2)], [.int r5], M6) o
    refine mm_R_zne (t := 53) rfl rfl rfl (fun hc => ?_) (fun hc => ?_)
    · replace h := mm_ip hc h
      refine mm_Runs.seq (l := [(34, .bipush 10, 2), (36, .aload_n 0, 1), (37, .iload_n 1, 1), (38, .sipush 130, 3), (41, .iadd, 1), (42, .bipush 8, 2), (44, .iload_n 2, 1), (45, .imul, 1), (46, .iadd, 1), (47, .iconst 3, 1)]) (S2 := (48, [some (.ref 84), some (.int v1), some (.int v2)], [.int (3 : Int32), .int ((v1 + (130 : Int32)) + ((8 : Int32) * v2)), .ref 84, .int (10 : Int32)], M6)) (by decide +kernel) (hO := mm_own_242) rfl ?_
      refine mm_R_call (v := mm_wi) h hA (k2 := 234) (as := [.ref 84, .int ((v1 + (130 : Int32)) + ((8 : Int32) * v2)), .int (3 : Int32)]) (r := [.int (10 : Int32)]) rfl (fun _ => rfl) (fun q hq o ho => ms_234 (by omega) hq ho) (fun r7 M8 h => ?_)
      show mm_Runs L xs (d + 1) 242 (51, [some (.ref 84), some (.int v1), some (.int v2)], [.int r7, .int (10 : Int32)], M8) o
      refine mm_Runs.seq (l := [(51, .iadd, 1)]) (S2 := (52, [some (.ref 84), some (.int v1), some (.int v2)], [.int ((10 : Int32) + r7)], M8)) (by decide +kernel) (hO := mm_own_242) rfl ?_
      cases h
      exact mm_R_reti rfl rfl hA
    · replace h := mm_iq hc h
      refine mm_Runs.seq (l := [(53, .bipush 18, 2), (55, .aload_n 0, 1), (56, .iload_n 1, 1), (57, .sipush 258, 3), (60, .iadd, 1), (61, .bipush 8, 2)]) (S2 := (63, [some (.ref 84), some (.int v1), some (.int v2)], [.int (8 : Int32), .int (v1 + (258 : Int32)), .ref 84, .int (18 : Int32)], M6)) (by decide +kernel) (hO := mm_own_242) rfl ?_
      refine mm_R_call (v := mm_wi) h hA (k2 := 234) (as := [.ref 84, .int (v1 + (258 : Int32)), .int (8 : Int32)]) (r := [.int (18 : Int32)]) rfl (fun _ => rfl) (fun q hq o ho => ms_234 (by omega) hq ho) (fun r9 M10 h => ?_)
      show mm_Runs L xs (d + 1) 242 (66, [some (.ref 84), some (.int v1), some (.int v2)], [.int r9, .int (18 : Int32)], M10) o
      refine mm_Runs.seq (l := [(66, .iadd, 1)]) (S2 := (67, [some (.ref 84), some (.int v1), some (.int v2)], [.int ((18 : Int32) + r9)], M10)) (by decide +kernel) (hO := mm_own_242) rfl ?_
      cases h
      exact mm_R_reti rfl rfl hA
-- 240: PlainPacksModel.isRoom(IJ)V (depth 1)
theorem mm_own_240 : mm_own 240 = 12 := rfl
set_option maxRecDepth 8000 in
set_option maxHeartbeats 4000000 in
theorem ms_240 {L : Nat} {xs : Nat → Int32} {d : Nat} (hd : 1 ≤ d) {v1 : Int32} {v2 : Int64} {M : mm_M} {q : (Unit ⊕ Nat) × mm_M} {o : mm_E} (h : mf_240 v1 v2 M = some q) (hA : mm_A (mm_Kr mm_wv) q o) : mm_Runs L xs d 240 (0, mm_ent (mm_ml 240) [.ref 84, .int v1, .long v2], [], M) o := by
  unfold mf_240 at h
  obtain ⟨d, rfl⟩ := mm_d1 (n := 0) hd
  show mm_Runs L xs (d + 1) 240 (0, [some (.ref 84), some (.int v1), some (.long v2), none], [], M) o
  refine mm_Runs.seq (l := [(0, .aload_n 0, 1), (1, .getfield 154, 3)]) (S2 := (4, [some (.ref 84), some (.int v1), some (.long v2), none], [.int (M.1 84 7)], M)) (by decide +kernel) (hO := mm_own_240) rfl ?_
  refine mm_R_zne (t := 30) rfl rfl rfl (fun hc => ?_) (fun hc => ?_)
  · replace h := mm_ip hc h
    refine mm_Runs.seq (l := [(7, .lload_n 2, 1), (8, .lconst 0, 1)]) (S2 := (9, [some (.ref 84), some (.int v1), some (.long v2), none], [.long (0 : Int64), .long v2], M)) (by decide +kernel) (hO := mm_own_240) rfl ?_
    refine mm_R_llt (t := 30) rfl rfl rfl rfl (fun hc => ?_) (fun hc => ?_)
    · replace h := mm_ip hc h
      cases h
      exact mm_R_retv rfl rfl hA
    · replace h := mm_iq hc h
      refine mm_Runs.seq (l := [(13, .iload_n 1, 1), (14, .i2l, 1), (15, .lload_n 2, 1), (16, .aload_n 0, 1), (17, .getfield 98, 3), (20, .i2l, 1), (21, .lsub, 1)]) (S2 := (22, [some (.ref 84), some (.int v1), some (.long v2), none], [.long (v2 - (M.1 84 4).toInt64), .long v1.toInt64], M)) (by decide +kernel) (hO := mm_own_240) rfl ?_
      refine mm_R_lle (t := 30) rfl rfl rfl rfl (fun hc => ?_) (fun hc => ?_)
      · replace h := mm_ip hc h
        refine mm_Runs.seq (l := [(26, .aload_n 0, 1)]) (S2 := (27, [some (.ref 84), some (.int v1), some (.long v2), none], [.ref 84], M)) (by decide +kernel) (hO := mm_own_240) rfl ?_
        refine mm_R_call (v := mm_wv) h hA (k2 := 190) (as := [.ref 84]) (r := []) rfl (fun _ => rfl) (fun q hq o ho => ms_190 (by omega) hq ho) (fun _ M1 h => ?_)
        show mm_Runs L xs (d + 1) 240 (30, [some (.ref 84), some (.int v1), some (.long v2), none], [], M1) o
        cases h
        exact mm_R_retv rfl rfl hA
      · replace h := mm_iq hc h
        cases h
        exact mm_R_retv rfl rfl hA
  · replace h := mm_iq hc h
    cases h
    exact mm_R_retv rfl rfl hA
-- 235: PlainPacksModel.turnedTree(II)J (depth 4)
theorem mm_own_235 : mm_own 235 = 12 := rfl
def mp_235_8 (L : Nat) (xs : Nat → Int32) (d : Nat) (v1 : Int32) (v2 : Int32) (v3 : Int32) (v4 : Int64) (v6 : Int32) (M : mm_M) (o : mm_E) : Prop := ∀ z5 z7 : Option Value, mm_Runs L xs d 235 (8, [some (.ref 84), some (.int v1), some (.int v2), some (.int v3), some (.long v4), z5, some (.int v6), z7], [], M) o
def mp_235_47 (L : Nat) (xs : Nat → Int32) (d : Nat) (v4 : Int64) (M : mm_M) (o : mm_E) : Prop := ∀ z0 z1 z2 z3 z5 z6 z7 : Option Value, mm_Runs L xs d 235 (47, [z0, z1, z2, z3, some (.long v4), z5, z6, z7], [], M) o
set_option maxRecDepth 8000 in
set_option maxHeartbeats 4000000 in
theorem ms_235_b8 {L : Nat} {xs : Nat → Int32} {d : Nat} (hd : 4 ≤ d) {v1 : Int32} {v2 : Int32} {v3 : Int32} {v4 : Int64} {v6 : Int32} {M : mm_M} {q : (((Int32 × Int64 × Int32) ⊕ (Int64)) ⊕ Nat) × mm_M} {o : mm_E} (h : mf_235_b8 v1 v2 v3 v4 v6 M = some q) (hA : mm_A (mm_K2 (fun s M o => mp_235_8 L xs (d) v1 v2 s.1 s.2.1 s.2.2 M o) (fun r M o => mp_235_47 L xs (d) r M o)) q o) : mp_235_8 L xs d v1 v2 v3 v4 v6 M o := by
  unfold mf_235_b8 at h
  obtain ⟨d, rfl⟩ := mm_d1 (n := 3) hd
  intro z5 z7
  show mm_Runs L xs (d + 1) 235 (8, [some (.ref 84), some (.int v1), some (.int v2), some (.int v3), some (.long v4), z5, some (.int v6), z7], [], M) o
  refine mm_Runs.seq (l := [(8, .iload 6, 2), (10, .iload_n 2, 1)]) (S2 := (11, [some (.ref 84), some (.int v1), some (.int v2), some (.int v3), some (.long v4), z5, some (.int v6), z7], [.int v2, .int v6], M)) (by decide +kernel) (hO := mm_own_235) rfl ?_
  refine mm_R_ige (t := 47) rfl rfl rfl (fun hc => ?_) (fun hc => ?_)
  · replace h := mm_ip hc h
    refine mm_Runs.seq (l := [(14, .aload_n 0, 1), (15, .iload_n 1, 1), (16, .iload_n 3, 1), (17, .iadd, 1)]) (S2 := (18, [some (.ref 84), some (.int v1), some (.int v2), some (.int v3), some (.long v4), z5, some (.int v6), z7], [.int (v1 + v3), .ref 84], M)) (by decide +kernel) (hO := mm_own_235) rfl ?_
    refine mm_R_call (v := mm_wi) h hA (k2 := 233) (as := [.ref 84, .int (v1 + v3)]) (r := []) rfl (fun _ => rfl) (fun q hq o ho => ms_233 (by omega) hq ho) (fun r1 M2 h => ?_)
    show mm_Runs L xs (d + 1) 235 (21, [some (.ref 84), some (.int v1), some (.int v2), some (.int v3), some (.long v4), z5, some (.int v6), z7], [.int r1], M2) o
    refine mm_Runs.seq (l := [(21, .istore 7, 2), (23, .iconst 2, 1), (24, .iload_n 3, 1), (25, .imul, 1), (26, .iload 7, 2), (28, .iadd, 1), (29, .istore_n 3, 1), (30, .lload 4, 2), (32, .iload 7, 2), (34, .i2l, 1), (35, .iload 6, 2), (37, .lshl, 1), (38, .lor, 1), (39, .lstore 4, 2), (41, .iinc 6 1, 3), (44, .goto (-36), 3)]) (S2 := (8, [some (.ref 84), some (.int v1), some (.int v2), some (.int (((2 : Int32) * v3) + r1)), some (.long (v4 ||| (mm_lshl r1.toInt64 v6))), none, some (.int (v6 + (1 : Int32))), some (.int r1)], [], M2)) (by decide +kernel) (hO := mm_own_235) rfl ?_
    cases h
    exact (show mp_235_8 L xs (d + 1) v1 v2 (((2 : Int32) * v3) + r1) (v4 ||| (mm_lshl r1.toInt64 v6)) (v6 + (1 : Int32)) M2 o from hA) none (some (.int r1))
  · replace h := mm_iq hc h
    cases h
    exact (show mp_235_47 L xs (d + 1) v4 M o from hA) (some (.ref 84)) (some (.int v1)) (some (.int v2)) (some (.int v3)) z5 (some (.int v6)) z7
theorem ms_235_L8 {L : Nat} {xs : Nat → Int32} {d : Nat} (hd : 4 ≤ d) {v1 : Int32} {v2 : Int32} {v3 : Int32} {v4 : Int64} {v6 : Int32} {β : Type} {K : β → mm_M → mm_E → Prop} {F : (Int64) → mm_M → mm_O β} {M : mm_M} {q : (β ⊕ Nat) × mm_M} {o : mm_E} (h : mm_B (mf_235_L8 v1 v2 (v3, v4, v6) M) F = some q) (hA : mm_A K q o) (hx : ∀ (r : (Int64)) (M2 : mm_M), F r M2 = some q → (fun r M o => mp_235_47 L xs (d) r M o) r M2 o) : mp_235_8 L xs d v1 v2 v3 v4 v6 M o := by
  unfold mf_235_L8 at h
  exact mm_R_loop (step := (fun s M => mf_235_b8 v1 v2 s.1 s.2.1 s.2.2 M)) (s := (v3, v4, v6)) (M := M) (P := (fun s M o => mp_235_8 L xs (d) v1 v2 s.1 s.2.1 s.2.2 M o)) (X := (fun r M o => mp_235_47 L xs (d) r M o)) h hA (fun s M q hq hA => ms_235_b8 (v1 := v1) (v2 := v2) (v3 := s.1) (v4 := s.2.1) (v6 := s.2.2) (M := M) (q := q) hd hq hA) hx
set_option maxRecDepth 8000 in
set_option maxHeartbeats 4000000 in
theorem ms_235 {L : Nat} {xs : Nat → Int32} {d : Nat} (hd : 4 ≤ d) {v1 : Int32} {v2 : Int32} {M : mm_M} {q : (Int64 ⊕ Nat) × mm_M} {o : mm_E} (h : mf_235 v1 v2 M = some q) (hA : mm_A (mm_Kr mm_wl) q o) : mm_Runs L xs d 235 (0, mm_ent (mm_ml 235) [.ref 84, .int v1, .int v2], [], M) o := by
  unfold mf_235 at h
  obtain ⟨d, rfl⟩ := mm_d1 (n := 3) hd
  show mm_Runs L xs (d + 1) 235 (0, [some (.ref 84), some (.int v1), some (.int v2), none, none, none, none, none], [], M) o
  refine mm_Runs.seq (l := [(0, .iconst 1, 1), (1, .istore_n 3, 1), (2, .lconst 0, 1), (3, .lstore 4, 2), (5, .iconst 0, 1), (6, .istore 6, 2)]) (S2 := (8, [some (.ref 84), some (.int v1), some (.int v2), some (.int (1 : Int32)), some (.long (0 : Int64)), none, some (.int (0 : Int32)), none], [], M)) (by decide +kernel) (hO := mm_own_235) rfl ?_
  have hp : mp_235_8 L xs (d + 1) v1 v2 (1 : Int32) (0 : Int64) (0 : Int32) M o := by
    refine ms_235_L8 hd h hA (fun r2 M1 h => ?_)
    intro y3 y4 y5 y6 y7 y8 y9
    show mm_Runs L xs (d + 1) 235 (47, [y3, y4, y5, y6, some (.long r2), y7, y8, y9], [], M1) o
    refine mm_Runs.seq (l := [(47, .lload 4, 2)]) (S2 := (49, [y3, y4, y5, y6, some (.long r2), y7, y8, y9], [.long r2], M1)) (by decide +kernel) (hO := mm_own_235) rfl ?_
    cases h
    exact mm_R_retl rfl rfl hA
  exact hp none none
-- 236: PlainPacksModel.plainBits(I)J (depth 3)
theorem mm_own_236 : mm_own 236 = 12 := rfl
def mp_236_5 (L : Nat) (xs : Nat → Int32) (d : Nat) (v1 : Int32) (v2 : Int64) (v4 : Int32) (M : mm_M) (o : mm_E) : Prop := ∀ z3 z5 : Option Value, mm_Runs L xs d 236 (5, [some (.ref 84), some (.int v1), some (.long v2), z3, some (.int v4), z5], [], M) o
def mp_236_90 (L : Nat) (xs : Nat → Int32) (d : Nat) (v2 : Int64) (M : mm_M) (o : mm_E) : Prop := ∀ z0 z1 z3 z4 z5 : Option Value, mm_Runs L xs d 236 (90, [z0, z1, some (.long v2), z3, z4, z5], [], M) o
def mp_236_47 (L : Nat) (xs : Nat → Int32) (d : Nat) (v1 : Int32) (v2 : Int64) (v4 : Int32) (s0 : Int32) (M : mm_M) (o : mm_E) : Prop := ∀ z3 z5 : Option Value, mm_Runs L xs d 236 (47, [some (.ref 84), some (.int v1), some (.long v2), z3, some (.int v4), z5], [.int s0], M) o
def mp_236_68 (L : Nat) (xs : Nat → Int32) (d : Nat) (v1 : Int32) (v2 : Int64) (v4 : Int32) (v5 : Int32) (s1 : Int64) (s2 : Int64) (M : mm_M) (o : mm_E) : Prop := ∀ z3 : Option Value, mm_Runs L xs d 236 (68, [some (.ref 84), some (.int v1), some (.long v2), z3, some (.int v4), some (.int v5)], [.long s2, .long s1, .ref 84], M) o
set_option maxRecDepth 8000 in
set_option maxHeartbeats 4000000 in
theorem ms_236_j68 {L : Nat} {xs : Nat → Int32} {d : Nat} (hd : 3 ≤ d) {v1 : Int32} {v2 : Int64} {v4 : Int32} {v5 : Int32} {s1 : Int64} {s2 : Int64} {M : mm_M} {q : (((Int64 × Int32) ⊕ (Int64)) ⊕ Nat) × mm_M} {o : mm_E} (h : mf_236_j68 v1 v2 v4 v5 s1 s2 M = some q) (hA : mm_A (mm_K2 (fun s M o => mp_236_5 L xs (d) v1 s.1 s.2 M o) (fun r M o => mp_236_90 L xs (d) r M o)) q o) : mp_236_68 L xs d v1 v2 v4 v5 s1 s2 M o := by
  unfold mf_236_j68 at h
  obtain ⟨d, rfl⟩ := mm_d1 (n := 2) hd
  intro z3
  show mm_Runs L xs (d + 1) 236 (68, [some (.ref 84), some (.int v1), some (.long v2), z3, some (.int v4), some (.int v5)], [.long s2, .long s1, .ref 84], M) o
  refine mm_Runs.seq (l := [(68, .lsub, 1), (69, .putfield 325, 3), (72, .lload_n 2, 1), (73, .iconst 1, 1), (74, .lshl, 1), (75, .iload 5, 2), (77, .i2l, 1), (78, .lor, 1), (79, .lstore_n 2, 1), (80, .aload_n 0, 1)]) (S2 := (81, [some (.ref 84), some (.int v1), some (.long ((mm_lshl v2 (1 : Int32)) ||| v5.toInt64)), none, some (.int v4), some (.int v5)], [.ref 84], (mm_pl M 84 34 (s1 - s2)))) (by decide +kernel) (hO := mm_own_236) rfl ?_
  refine mm_R_call (v := mm_wv) h hA (k2 := 232) (as := [.ref 84]) (r := []) rfl (fun _ => rfl) (fun q hq o ho => ms_232 (by omega) hq ho) (fun _ M1 h => ?_)
  show mm_Runs L xs (d + 1) 236 (84, [some (.ref 84), some (.int v1), some (.long ((mm_lshl v2 (1 : Int32)) ||| v5.toInt64)), none, some (.int v4), some (.int v5)], [], M1) o
  refine mm_Runs.seq (l := [(84, .iinc 4 1, 3), (87, .goto (-82), 3)]) (S2 := (5, [some (.ref 84), some (.int v1), some (.long ((mm_lshl v2 (1 : Int32)) ||| v5.toInt64)), none, some (.int (v4 + (1 : Int32))), some (.int v5)], [], M1)) (by decide +kernel) (hO := mm_own_236) rfl ?_
  cases h
  exact (show mp_236_5 L xs (d + 1) v1 ((mm_lshl v2 (1 : Int32)) ||| v5.toInt64) (v4 + (1 : Int32)) M1 o from hA) none (some (.int v5))
set_option maxRecDepth 8000 in
set_option maxHeartbeats 4000000 in
theorem ms_236_j47 {L : Nat} {xs : Nat → Int32} {d : Nat} (hd : 3 ≤ d) {v1 : Int32} {v2 : Int64} {v4 : Int32} {s0 : Int32} {M : mm_M} {q : (((Int64 × Int32) ⊕ (Int64)) ⊕ Nat) × mm_M} {o : mm_E} (h : mf_236_j47 v1 v2 v4 s0 M = some q) (hA : mm_A (mm_K2 (fun s M o => mp_236_5 L xs (d) v1 s.1 s.2 M o) (fun r M o => mp_236_90 L xs (d) r M o)) q o) : mp_236_47 L xs d v1 v2 v4 s0 M o := by
  unfold mf_236_j47 at h
  obtain ⟨d, rfl⟩ := mm_d1 (n := 2) hd
  intro z3 z5
  show mm_Runs L xs (d + 1) 236 (47, [some (.ref 84), some (.int v1), some (.long v2), z3, some (.int v4), z5], [.int s0], M) o
  refine mm_Runs.seq (l := [(47, .istore 5, 2), (49, .aload_n 0, 1), (50, .dup, 1), (51, .getfield 325, 3), (54, .iload 5, 2), (56, .iconst 1, 1)]) (S2 := (57, [some (.ref 84), some (.int v1), some (.long v2), z3, some (.int v4), some (.int s0)], [.int (1 : Int32), .int s0, .long (M.2.1 84 34), .ref 84], M)) (by decide +kernel) (hO := mm_own_236) rfl ?_
  refine mm_R_ine (t := 67) rfl rfl rfl (fun hc => ?_) (fun hc => ?_)
  · replace h := mm_ip hc h
    refine mm_Runs.seq (l := [(60, .aload_n 0, 1), (61, .getfield 319, 3), (64, .goto 4, 3)]) (S2 := (68, [some (.ref 84), some (.int v1), some (.long v2), z3, some (.int v4), some (.int s0)], [.long (M.2.1 84 33), .long (M.2.1 84 34), .ref 84], M)) (by decide +kernel) (hO := mm_own_236) rfl ?_
    exact (ms_236_j68 hd h hA : mp_236_68 L xs (d + 1) v1 v2 v4 s0 (M.2.1 84 34) (M.2.1 84 33) M o) z3
  · replace h := mm_iq hc h
    refine mm_Runs.seq (l := [(67, .lconst 0, 1)]) (S2 := (68, [some (.ref 84), some (.int v1), some (.long v2), z3, some (.int v4), some (.int s0)], [.long (0 : Int64), .long (M.2.1 84 34), .ref 84], M)) (by decide +kernel) (hO := mm_own_236) rfl ?_
    exact (ms_236_j68 hd h hA : mp_236_68 L xs (d + 1) v1 v2 v4 s0 (M.2.1 84 34) (0 : Int64) M o) z3
set_option maxRecDepth 8000 in
set_option maxHeartbeats 4000000 in
theorem ms_236_b5 {L : Nat} {xs : Nat → Int32} {d : Nat} (hd : 3 ≤ d) {v1 : Int32} {v2 : Int64} {v4 : Int32} {M : mm_M} {q : (((Int64 × Int32) ⊕ (Int64)) ⊕ Nat) × mm_M} {o : mm_E} (h : mf_236_b5 v1 v2 v4 M = some q) (hA : mm_A (mm_K2 (fun s M o => mp_236_5 L xs (d) v1 s.1 s.2 M o) (fun r M o => mp_236_90 L xs (d) r M o)) q o) : mp_236_5 L xs d v1 v2 v4 M o := by
  unfold mf_236_b5 at h
  obtain ⟨d, rfl⟩ := mm_d1 (n := 2) hd
  intro z3 z5
  show mm_Runs L xs (d + 1) 236 (5, [some (.ref 84), some (.int v1), some (.long v2), z3, some (.int v4), z5], [], M) o
  refine mm_Runs.seq (l := [(5, .iload 4, 2), (7, .iload_n 1, 1)]) (S2 := (8, [some (.ref 84), some (.int v1), some (.long v2), z3, some (.int v4), z5], [.int v1, .int v4], M)) (by decide +kernel) (hO := mm_own_236) rfl ?_
  refine mm_R_ige (t := 90) rfl rfl rfl (fun hc => ?_) (fun hc => ?_)
  · replace h := mm_ip hc h
    refine mm_Runs.seq (l := [(11, .aload_n 0, 1), (12, .getfield 154, 3)]) (S2 := (15, [some (.ref 84), some (.int v1), some (.long v2), z3, some (.int v4), z5], [.int (M.1 84 7)], M)) (by decide +kernel) (hO := mm_own_236) rfl ?_
    refine mm_R_zne (t := 90) rfl rfl rfl (fun hc => ?_) (fun hc => ?_)
    · replace h := mm_ip hc h
      refine mm_Runs.seq (l := [(18, .aload_n 0, 1), (19, .dup, 1), (20, .getfield 319, 3), (23, .ldc2_w 336, 3), (26, .ldiv, 1), (27, .putfield 319, 3), (30, .aload_n 0, 1), (31, .getfield 325, 3), (34, .aload_n 0, 1), (35, .getfield 319, 3)]) (S2 := (38, [some (.ref 84), some (.int v1), some (.long v2), z3, some (.int v4), z5], [.long ((M.2.1 84 33) / (2 : Int64)), .long (M.2.1 84 34)], (mm_pl M 84 33 ((M.2.1 84 33) / (2 : Int64))))) (by decide +kernel) (hO := mm_own_236) rfl ?_
      refine mm_R_lge (t := 46) rfl rfl rfl rfl (fun hc => ?_) (fun hc => ?_)
      · replace h := mm_ip hc h
        refine mm_Runs.seq (l := [(42, .iconst 0, 1), (43, .goto 4, 3)]) (S2 := (47, [some (.ref 84), some (.int v1), some (.long v2), z3, some (.int v4), z5], [.int (0 : Int32)], (mm_pl M 84 33 ((M.2.1 84 33) / (2 : Int64))))) (by decide +kernel) (hO := mm_own_236) rfl ?_
        exact (ms_236_j47 hd h hA : mp_236_47 L xs (d + 1) v1 v2 v4 (0 : Int32) (mm_pl M 84 33 ((M.2.1 84 33) / (2 : Int64))) o) z3 z5
      · replace h := mm_iq hc h
        refine mm_Runs.seq (l := [(46, .iconst 1, 1)]) (S2 := (47, [some (.ref 84), some (.int v1), some (.long v2), z3, some (.int v4), z5], [.int (1 : Int32)], (mm_pl M 84 33 ((M.2.1 84 33) / (2 : Int64))))) (by decide +kernel) (hO := mm_own_236) rfl ?_
        exact (ms_236_j47 hd h hA : mp_236_47 L xs (d + 1) v1 v2 v4 (1 : Int32) (mm_pl M 84 33 ((M.2.1 84 33) / (2 : Int64))) o) z3 z5
    · replace h := mm_iq hc h
      cases h
      exact (show mp_236_90 L xs (d + 1) v2 M o from hA) (some (.ref 84)) (some (.int v1)) z3 (some (.int v4)) z5
  · replace h := mm_iq hc h
    cases h
    exact (show mp_236_90 L xs (d + 1) v2 M o from hA) (some (.ref 84)) (some (.int v1)) z3 (some (.int v4)) z5
theorem ms_236_L5 {L : Nat} {xs : Nat → Int32} {d : Nat} (hd : 3 ≤ d) {v1 : Int32} {v2 : Int64} {v4 : Int32} {β : Type} {K : β → mm_M → mm_E → Prop} {F : (Int64) → mm_M → mm_O β} {M : mm_M} {q : (β ⊕ Nat) × mm_M} {o : mm_E} (h : mm_B (mf_236_L5 v1 (v2, v4) M) F = some q) (hA : mm_A K q o) (hx : ∀ (r : (Int64)) (M2 : mm_M), F r M2 = some q → (fun r M o => mp_236_90 L xs (d) r M o) r M2 o) : mp_236_5 L xs d v1 v2 v4 M o := by
  unfold mf_236_L5 at h
  exact mm_R_loop (step := (fun s M => mf_236_b5 v1 s.1 s.2 M)) (s := (v2, v4)) (M := M) (P := (fun s M o => mp_236_5 L xs (d) v1 s.1 s.2 M o)) (X := (fun r M o => mp_236_90 L xs (d) r M o)) h hA (fun s M q hq hA => ms_236_b5 (v1 := v1) (v2 := s.1) (v4 := s.2) (M := M) (q := q) hd hq hA) hx
set_option maxRecDepth 8000 in
set_option maxHeartbeats 4000000 in
theorem ms_236 {L : Nat} {xs : Nat → Int32} {d : Nat} (hd : 3 ≤ d) {v1 : Int32} {M : mm_M} {q : (Int64 ⊕ Nat) × mm_M} {o : mm_E} (h : mf_236 v1 M = some q) (hA : mm_A (mm_Kr mm_wl) q o) : mm_Runs L xs d 236 (0, mm_ent (mm_ml 236) [.ref 84, .int v1], [], M) o := by
  unfold mf_236 at h
  obtain ⟨d, rfl⟩ := mm_d1 (n := 2) hd
  show mm_Runs L xs (d + 1) 236 (0, [some (.ref 84), some (.int v1), none, none, none, none], [], M) o
  refine mm_Runs.seq (l := [(0, .lconst 0, 1), (1, .lstore_n 2, 1), (2, .iconst 0, 1), (3, .istore 4, 2)]) (S2 := (5, [some (.ref 84), some (.int v1), some (.long (0 : Int64)), none, some (.int (0 : Int32)), none], [], M)) (by decide +kernel) (hO := mm_own_236) rfl ?_
  have hp : mp_236_5 L xs (d + 1) v1 (0 : Int64) (0 : Int32) M o := by
    refine ms_236_L5 hd h hA (fun r2 M1 h => ?_)
    intro y3 y4 y5 y6 y7
    show mm_Runs L xs (d + 1) 236 (90, [y3, y4, some (.long r2), y5, y6, y7], [], M1) o
    refine mm_Runs.seq (l := [(90, .lload_n 2, 1)]) (S2 := (91, [y3, y4, some (.long r2), y5, y6, y7], [.long r2], M1)) (by decide +kernel) (hO := mm_own_236) rfl ?_
    cases h
    exact mm_R_retl rfl rfl hA
  exact hp none none
-- 243: PlainPacksModel.distanceOf(I)J (depth 5)
theorem mm_own_243 : mm_own 243 = 12 := rfl
def mp_243_14 (L : Nat) (xs : Nat → Int32) (d : Nat) (s0 : Int32) (M : mm_M) (o : mm_E) : Prop := ∀ z1 z2 z3 z4 z5 z6 : Option Value, mm_Runs L xs d 243 (14, [some (.ref 84), z1, z2, z3, z4, z5, z6], [.int s0], M) o
set_option maxRecDepth 8000 in
set_option maxHeartbeats 4000000 in
theorem ms_243_j14 {L : Nat} {xs : Nat → Int32} {d : Nat} (hd : 5 ≤ d) {s0 : Int32} {M : mm_M} {q : (Int64 ⊕ Nat) × mm_M} {o : mm_E} (h : mf_243_j14 s0 M = some q) (hA : mm_A (mm_Kr mm_wl) q o) : mp_243_14 L xs d s0 M o := by
  unfold mf_243_j14 at h
  obtain ⟨d, rfl⟩ := mm_d1 (n := 4) hd
  intro z1 z2 z3 z4 z5 z6
  show mm_Runs L xs (d + 1) 243 (14, [some (.ref 84), z1, z2, z3, z4, z5, z6], [.int s0], M) o
  refine mm_Runs.seq (l := [(14, .istore_n 2, 1), (15, .aload_n 0, 1), (16, .sipush 1460, 3), (19, .bipush 64, 2), (21, .iload_n 2, 1), (22, .imul, 1), (23, .iadd, 1), (24, .bipush 6, 2)]) (S2 := (26, [some (.ref 84), (mm_no2 z1), some (.int s0), z3, z4, z5, z6], [.int (6 : Int32), .int ((1460 : Int32) + ((64 : Int32) * s0)), .ref 84], M)) (by decide +kernel) (hO := mm_own_243) rfl ?_
  refine mm_R_call (v := mm_wi) h hA (k2 := 234) (as := [.ref 84, .int ((1460 : Int32) + ((64 : Int32) * s0)), .int (6 : Int32)]) (r := []) rfl (fun _ => rfl) (fun q hq o ho => ms_234 (by omega) hq ho) (fun r1 M2 h => ?_)
  show mm_Runs L xs (d + 1) 243 (29, [some (.ref 84), (mm_no2 z1), some (.int s0), z3, z4, z5, z6], [.int r1], M2) o
  refine mm_Runs.seq (l := [(29, .istore_n 3, 1), (30, .iload_n 3, 1), (31, .iconst 4, 1)]) (S2 := (32, [some (.ref 84), (mm_no2 z1), some (.int s0), some (.int r1), z4, z5, z6], [.int (4 : Int32), .int r1], M2)) (by decide +kernel) (hO := mm_own_243) rfl ?_
  refine mm_R_ige (t := 40) rfl rfl rfl (fun hc => ?_) (fun hc => ?_)
  · replace h := mm_ip hc h
    refine mm_Runs.seq (l := [(35, .iload_n 3, 1), (36, .i2l, 1), (37, .lconst 1, 1), (38, .ladd, 1)]) (S2 := (39, [some (.ref 84), (mm_no2 z1), some (.int s0), some (.int r1), z4, z5, z6], [.long (r1.toInt64 + (1 : Int64))], M2)) (by decide +kernel) (hO := mm_own_243) rfl ?_
    cases h
    exact mm_R_retl rfl rfl hA
  · replace h := mm_iq hc h
    refine mm_Runs.seq (l := [(40, .iload_n 3, 1), (41, .iconst 2, 1), (42, .idiv, 1), (43, .iconst 1, 1), (44, .isub, 1), (45, .istore 4, 2), (47, .ldc2_w 336, 3), (50, .iload_n 3, 1), (51, .iconst 2, 1), (52, .irem, 1), (53, .i2l, 1), (54, .ladd, 1), (55, .iload 4, 2), (57, .lshl, 1), (58, .lstore 5, 2), (60, .iload_n 3, 1), (61, .bipush 14, 2)]) (S2 := (63, [some (.ref 84), (mm_no2 z1), some (.int s0), some (.int r1), some (.int ((r1 / (2 : Int32)) - (1 : Int32))), some (.long (mm_lshl ((2 : Int64) + (mm_rem r1 (2 : Int32)).toInt64) ((r1 / (2 : Int32)) - (1 : Int32)))), none], [.int (14 : Int32), .int r1], M2)) (by decide +kernel) (hO := mm_own_243) rfl ?_
    refine mm_R_ige (t := 86) rfl rfl rfl (fun hc => ?_) (fun hc => ?_)
    · replace h := mm_ip hc h
      refine mm_Runs.seq (l := [(66, .lload 5, 2), (68, .aload_n 0, 1), (69, .sipush 1716, 3), (72, .bipush 32, 2), (74, .iload_n 3, 1), (75, .imul, 1), (76, .iadd, 1), (77, .iload 4, 2)]) (S2 := (79, [some (.ref 84), (mm_no2 z1), some (.int s0), some (.int r1), some (.int ((r1 / (2 : Int32)) - (1 : Int32))), some (.long (mm_lshl ((2 : Int64) + (mm_rem r1 (2 : Int32)).toInt64) ((r1 / (2 : Int32)) - (1 : Int32)))), none], [.int ((r1 / (2 : Int32)) - (1 : Int32)), .int ((1716 : Int32) + ((32 : Int32) * r1)), .ref 84, .long (mm_lshl ((2 : Int64) + (mm_rem r1 (2 : Int32)).toInt64) ((r1 / (2 : Int32)) - (1 : Int32)))], M2)) (by decide +kernel) (hO := mm_own_243) rfl ?_
      refine mm_R_call (v := mm_wl) h hA (k2 := 235) (as := [.ref 84, .int ((1716 : Int32) + ((32 : Int32) * r1)), .int ((r1 / (2 : Int32)) - (1 : Int32))]) (r := [.long (mm_lshl ((2 : Int64) + (mm_rem r1 (2 : Int32)).toInt64) ((r1 / (2 : Int32)) - (1 : Int32)))]) rfl (fun _ => rfl) (fun q hq o ho => ms_235 (by omega) hq ho) (fun r3 M4 h => ?_)
      show mm_Runs L xs (d + 1) 243 (82, [some (.ref 84), (mm_no2 z1), some (.int s0), some (.int r1), some (.int ((r1 / (2 : Int32)) - (1 : Int32))), some (.long (mm_lshl ((2 : Int64) + (mm_rem r1 (2 : Int32)).toInt64) ((r1 / (2 : Int32)) - (1 : Int32)))), none], [.long r3, .long (mm_lshl ((2 : Int64) + (mm_rem r1 (2 : Int32)).toInt64) ((r1 / (2 : Int32)) - (1 : Int32)))], M4) o
      refine mm_Runs.seq (l := [(82, .ladd, 1), (83, .lconst 1, 1), (84, .ladd, 1)]) (S2 := (85, [some (.ref 84), (mm_no2 z1), some (.int s0), some (.int r1), some (.int ((r1 / (2 : Int32)) - (1 : Int32))), some (.long (mm_lshl ((2 : Int64) + (mm_rem r1 (2 : Int32)).toInt64) ((r1 / (2 : Int32)) - (1 : Int32)))), none], [.long (((mm_lshl ((2 : Int64) + (mm_rem r1 (2 : Int32)).toInt64) ((r1 / (2 : Int32)) - (1 : Int32))) + r3) + (1 : Int64))], M4)) (by decide +kernel) (hO := mm_own_243) rfl ?_
      cases h
      exact mm_R_retl rfl rfl hA
    · replace h := mm_iq hc h
      refine mm_Runs.seq (l := [(86, .lload 5, 2), (88, .aload_n 0, 1), (89, .iload 4, 2), (91, .iconst 4, 1), (92, .isub, 1)]) (S2 := (93, [some (.ref 84), (mm_no2 z1), some (.int s0), some (.int r1), some (.int ((r1 / (2 : Int32)) - (1 : Int32))), some (.long (mm_lshl ((2 : Int64) + (mm_rem r1 (2 : Int32)).toInt64) ((r1 / (2 : Int32)) - (1 : Int32)))), none], [.int (((r1 / (2 : Int32)) - (1 : Int32)) - (4 : Int32)), .ref 84, .long (mm_lshl ((2 : Int64) + (mm_rem r1 (2 : Int32)).toInt64) ((r1 / (2 : Int32)) - (1 : Int32)))], M2)) (by decide +kernel) (hO := mm_own_243) rfl ?_
      refine mm_R_call (v := mm_wl) h hA (k2 := 236) (as := [.ref 84, .int (((r1 / (2 : Int32)) - (1 : Int32)) - (4 : Int32))]) (r := [.long (mm_lshl ((2 : Int64) + (mm_rem r1 (2 : Int32)).toInt64) ((r1 / (2 : Int32)) - (1 : Int32)))]) rfl (fun _ => rfl) (fun q hq o ho => ms_236 (by omega) hq ho) (fun r5 M6 h => ?_)
      show mm_Runs L xs (d + 1) 243 (96, [some (.ref 84), (mm_no2 z1), some (.int s0), some (.int r1), some (.int ((r1 / (2 : Int32)) - (1 : Int32))), some (.long (mm_lshl ((2 : Int64) + (mm_rem r1 (2 : Int32)).toInt64) ((r1 / (2 : Int32)) - (1 : Int32)))), none], [.long r5, .long (mm_lshl ((2 : Int64) + (mm_rem r1 (2 : Int32)).toInt64) ((r1 / (2 : Int32)) - (1 : Int32)))], M6) o
      refine mm_Runs.seq (l := [(96, .iconst 4, 1), (97, .lshl, 1), (98, .ladd, 1), (99, .lstore 5, 2), (101, .lload 5, 2), (103, .aload_n 0, 1), (104, .sipush 2228, 3), (107, .iconst 4, 1)]) (S2 := (108, [some (.ref 84), (mm_no2 z1), some (.int s0), some (.int r1), some (.int ((r1 / (2 : Int32)) - (1 : Int32))), some (.long ((mm_lshl ((2 : Int64) + (mm_rem r1 (2 : Int32)).toInt64) ((r1 / (2 : Int32)) - (1 : Int32))) + (mm_lshl r5 (4 : Int32)))), none], [.int (4 : Int32), .int (2228 : Int32), .ref 84, .long ((mm_lshl ((2 : Int64) + (mm_rem r1 (2 : Int32)).toInt64) ((r1 / (2 : Int32)) - (1 : Int32))) + (mm_lshl r5 (4 : Int32)))], M6)) (by decide +kernel) (hO := mm_own_243) rfl ?_
      refine mm_R_call (v := mm_wl) h hA (k2 := 235) (as := [.ref 84, .int (2228 : Int32), .int (4 : Int32)]) (r := [.long ((mm_lshl ((2 : Int64) + (mm_rem r1 (2 : Int32)).toInt64) ((r1 / (2 : Int32)) - (1 : Int32))) + (mm_lshl r5 (4 : Int32)))]) rfl (fun _ => rfl) (fun q hq o ho => ms_235 (by omega) hq ho) (fun r7 M8 h => ?_)
      show mm_Runs L xs (d + 1) 243 (111, [some (.ref 84), (mm_no2 z1), some (.int s0), some (.int r1), some (.int ((r1 / (2 : Int32)) - (1 : Int32))), some (.long ((mm_lshl ((2 : Int64) + (mm_rem r1 (2 : Int32)).toInt64) ((r1 / (2 : Int32)) - (1 : Int32))) + (mm_lshl r5 (4 : Int32)))), none], [.long r7, .long ((mm_lshl ((2 : Int64) + (mm_rem r1 (2 : Int32)).toInt64) ((r1 / (2 : Int32)) - (1 : Int32))) + (mm_lshl r5 (4 : Int32)))], M8) o
      refine mm_Runs.seq (l := [(111, .ladd, 1), (112, .lconst 1, 1), (113, .ladd, 1)]) (S2 := (114, [some (.ref 84), (mm_no2 z1), some (.int s0), some (.int r1), some (.int ((r1 / (2 : Int32)) - (1 : Int32))), some (.long ((mm_lshl ((2 : Int64) + (mm_rem r1 (2 : Int32)).toInt64) ((r1 / (2 : Int32)) - (1 : Int32))) + (mm_lshl r5 (4 : Int32)))), none], [.long ((((mm_lshl ((2 : Int64) + (mm_rem r1 (2 : Int32)).toInt64) ((r1 / (2 : Int32)) - (1 : Int32))) + (mm_lshl r5 (4 : Int32))) + r7) + (1 : Int64))], M8)) (by decide +kernel) (hO := mm_own_243) rfl ?_
      cases h
      exact mm_R_retl rfl rfl hA
set_option maxRecDepth 8000 in
set_option maxHeartbeats 4000000 in
theorem ms_243 {L : Nat} {xs : Nat → Int32} {d : Nat} (hd : 5 ≤ d) {v1 : Int32} {M : mm_M} {q : (Int64 ⊕ Nat) × mm_M} {o : mm_E} (h : mf_243 v1 M = some q) (hA : mm_A (mm_Kr mm_wl) q o) : mm_Runs L xs d 243 (0, mm_ent (mm_ml 243) [.ref 84, .int v1], [], M) o := by
  unfold mf_243 at h
  obtain ⟨d, rfl⟩ := mm_d1 (n := 4) hd
  show mm_Runs L xs (d + 1) 243 (0, [some (.ref 84), some (.int v1), none, none, none, none, none], [], M) o
  refine mm_Runs.seq (l := [(0, .iload_n 1, 1), (1, .iconst 2, 1), (2, .isub, 1), (3, .iconst 3, 1)]) (S2 := (4, [some (.ref 84), some (.int v1), none, none, none, none, none], [.int (3 : Int32), .int (v1 - (2 : Int32))], M)) (by decide +kernel) (hO := mm_own_243) rfl ?_
  refine mm_R_ile (t := 11) rfl rfl rfl (fun hc => ?_) (fun hc => ?_)
  · replace h := mm_ip hc h
    refine mm_Runs.seq (l := [(7, .iconst 3, 1), (8, .goto 6, 3)]) (S2 := (14, [some (.ref 84), some (.int v1), none, none, none, none, none], [.int (3 : Int32)], M)) (by decide +kernel) (hO := mm_own_243) rfl ?_
    exact (ms_243_j14 hd h hA : mp_243_14 L xs (d + 1) (3 : Int32) M o) (some (.int v1)) none none none none none
  · replace h := mm_iq hc h
    refine mm_Runs.seq (l := [(11, .iload_n 1, 1), (12, .iconst 2, 1), (13, .isub, 1)]) (S2 := (14, [some (.ref 84), some (.int v1), none, none, none, none, none], [.int (v1 - (2 : Int32))], M)) (by decide +kernel) (hO := mm_own_243) rfl ?_
    exact (ms_243_j14 hd h hA : mp_243_14 L xs (d + 1) (v1 - (2 : Int32)) M o) (some (.int v1)) none none none none none
-- 239: PlainPacksModel.isThere(I)V (depth 1)
theorem mm_own_239 : mm_own 239 = 12 := rfl
set_option maxRecDepth 8000 in
set_option maxHeartbeats 4000000 in
theorem ms_239 {L : Nat} {xs : Nat → Int32} {d : Nat} (hd : 1 ≤ d) {v1 : Int32} {M : mm_M} {q : (Unit ⊕ Nat) × mm_M} {o : mm_E} (h : mf_239 v1 M = some q) (hA : mm_A (mm_Kr mm_wv) q o) : mm_Runs L xs d 239 (0, mm_ent (mm_ml 239) [.ref 84, .int v1], [], M) o := by
  unfold mf_239 at h
  obtain ⟨d, rfl⟩ := mm_d1 (n := 0) hd
  show mm_Runs L xs (d + 1) 239 (0, [some (.ref 84), some (.int v1)], [], M) o
  refine mm_Runs.seq (l := [(0, .aload_n 0, 1), (1, .getfield 154, 3)]) (S2 := (4, [some (.ref 84), some (.int v1)], [.int (M.1 84 7)], M)) (by decide +kernel) (hO := mm_own_239) rfl ?_
  refine mm_R_zne (t := 26) rfl rfl rfl (fun hc => ?_) (fun hc => ?_)
  · replace h := mm_ip hc h
    refine mm_Runs.seq (l := [(7, .aload_n 0, 1), (8, .getfield 53, 3), (11, .iload_n 1, 1)]) (S2 := (12, [some (.ref 84), some (.int v1)], [.int v1, .ref 99], M)) (by decide +kernel) (hO := mm_own_239) rfl ?_
    obtain ⟨hb, h⟩ := mm_gd h
    refine mm_R_lald rfl rfl hb ?_
    refine mm_Runs.seq (l := [(13, .aload_n 0, 1), (14, .getfield 98, 3), (17, .i2l, 1)]) (S2 := (18, [some (.ref 84), some (.int v1)], [.long (M.1 84 4).toInt64, .long (M.2.1 99 v1.toNatClampNeg)], M)) (by decide +kernel) (hO := mm_own_239) rfl ?_
    refine mm_R_lle (t := 26) rfl rfl rfl rfl (fun hc => ?_) (fun hc => ?_)
    · replace h := mm_ip hc h
      refine mm_Runs.seq (l := [(22, .aload_n 0, 1)]) (S2 := (23, [some (.ref 84), some (.int v1)], [.ref 84], M)) (by decide +kernel) (hO := mm_own_239) rfl ?_
      refine mm_R_call (v := mm_wv) h hA (k2 := 190) (as := [.ref 84]) (r := []) rfl (fun _ => rfl) (fun q hq o ho => ms_190 (by omega) hq ho) (fun _ M1 h => ?_)
      show mm_Runs L xs (d + 1) 239 (26, [some (.ref 84), some (.int v1)], [], M1) o
      cases h
      exact mm_R_retv rfl rfl hA
    · replace h := mm_iq hc h
      cases h
      exact mm_R_retv rfl rfl hA
  · replace h := mm_iq hc h
    cases h
    exact mm_R_retv rfl rfl hA
