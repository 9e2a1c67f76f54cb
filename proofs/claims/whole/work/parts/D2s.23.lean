/-! MEANINGS ARE SOUND 23 -/
-- 238: PlainPacksModel.place(J)Z (depth 6)
theorem mm_own_238 : mm_own 238 = 12 := rfl
def mp_238_136 (L : Nat) (xs : Nat → Int32) (d : Nat) (v1 : Int64) (v4 : Int32) (v5 : Int64) (v7 : Int32) (M : mm_M) (o : mm_E) : Prop := ∀ z2 z3 z6 z8 : Option Value, mm_Runs L xs d 238 (136, [some (.ref 84), some (.long v1), z2, z3, some (.int v4), some (.long v5), z6, some (.int v7), z8], [], M) o
def mp_238_163 (L : Nat) (xs : Nat → Int32) (d : Nat) (v1 : Int64) (v4 : Int32) (v5 : Int64) (M : mm_M) (o : mm_E) : Prop := ∀ z2 z3 z6 z7 z8 : Option Value, mm_Runs L xs d 238 (163, [some (.ref 84), some (.long v1), z2, z3, some (.int v4), some (.long v5), z6, z7, z8], [], M) o
set_option maxRecDepth 8000 in
set_option maxHeartbeats 4000000 in
theorem ms_238_b136 {L : Nat} {xs : Nat → Int32} {d : Nat} (hd : 6 ≤ d) {v1 : Int64} {v4 : Int32} {v5 : Int64} {v7 : Int32} {M : mm_M} {q : (((Int32) ⊕ (Unit)) ⊕ Nat) × mm_M} {o : mm_E} (h : mf_238_b136 v1 v4 v5 v7 M = some q) (hA : mm_A (mm_K2 (fun s M o => mp_238_136 L xs (d) v1 v4 v5 s M o) (fun r M o => mp_238_163 L xs (d) v1 v4 v5 M o)) q o) : mp_238_136 L xs d v1 v4 v5 v7 M o := by
  unfold mf_238_b136 at h
  obtain ⟨d, rfl⟩ := mm_d1 (n := 5) hd
  intro z2 z3 z6 z8
  show mm_Runs L xs (d + 1) 238 (136, [some (.ref 84), some (.long v1), z2, z3, some (.int v4), some (.long v5), z6, some (.int v7), z8], [], M) o
  refine mm_Runs.seq (l := [(136, .iload 7, 2)]) (S2 := (138, [some (.ref 84), some (.long v1), z2, z3, some (.int v4), some (.long v5), z6, some (.int v7), z8], [.int v7], M)) (by decide +kernel) (hO := mm_own_238) rfl ?_
  refine mm_R_zle (t := 163) rfl rfl rfl (fun hc => ?_) (fun hc => ?_)
  · replace h := mm_ip hc h
    refine mm_Runs.seq (l := [(141, .aload_n 0, 1), (142, .getfield 53, 3), (145, .iload 7, 2), (147, .aload_n 0, 1), (148, .getfield 53, 3), (151, .iload 7, 2), (153, .iconst 1, 1), (154, .isub, 1)]) (S2 := (155, [some (.ref 84), some (.long v1), z2, z3, some (.int v4), some (.long v5), z6, some (.int v7), z8], [.int (v7 - (1 : Int32)), .ref 99, .int v7, .ref 99], M)) (by decide +kernel) (hO := mm_own_238) rfl ?_
    obtain ⟨hb, h⟩ := mm_gd h
    refine mm_R_lald rfl rfl hb ?_
    obtain ⟨hb, h⟩ := mm_gd h
    refine mm_R_last rfl rfl hb ?_
    refine mm_Runs.seq (l := [(157, .iinc 7 (-1), 3), (160, .goto (-24), 3)]) (S2 := (136, [some (.ref 84), some (.long v1), z2, z3, some (.int v4), some (.long v5), (mm_no2 z6), some (.int (v7 + (-1 : Int32))), z8], [], (mm_pl M 99 v7.toNatClampNeg (M.2.1 99 (v7 - (1 : Int32)).toNatClampNeg)))) (by decide +kernel) (hO := mm_own_238) rfl ?_
    cases h
    exact (show mp_238_136 L xs (d + 1) v1 v4 v5 (v7 + (-1 : Int32)) (mm_pl M 99 v7.toNatClampNeg (M.2.1 99 (v7 - (1 : Int32)).toNatClampNeg)) o from hA) z2 z3 ((mm_no2 z6)) z8
  · replace h := mm_iq hc h
    cases h
    exact (show mp_238_163 L xs (d + 1) v1 v4 v5 M o from hA) z2 z3 z6 (some (.int v7)) z8
theorem ms_238_L136 {L : Nat} {xs : Nat → Int32} {d : Nat} (hd : 6 ≤ d) {v1 : Int64} {v4 : Int32} {v5 : Int64} {v7 : Int32} {β : Type} {K : β → mm_M → mm_E → Prop} {F : (Unit) → mm_M → mm_O β} {M : mm_M} {q : (β ⊕ Nat) × mm_M} {o : mm_E} (h : mm_B (mf_238_L136 v1 v4 v5 v7 M) F = some q) (hA : mm_A K q o) (hx : ∀ (r : (Unit)) (M2 : mm_M), F r M2 = some q → (fun r M o => mp_238_163 L xs (d) v1 v4 v5 M o) r M2 o) : mp_238_136 L xs d v1 v4 v5 v7 M o := by
  unfold mf_238_L136 at h
  exact mm_R_loop (step := (fun s M => mf_238_b136 v1 v4 v5 s M)) (s := v7) (M := M) (P := (fun s M o => mp_238_136 L xs (d) v1 v4 v5 s M o)) (X := (fun r M o => mp_238_163 L xs (d) v1 v4 v5 M o)) h hA (fun s M q hq hA => ms_238_b136 (v1 := v1) (v4 := v4) (v5 := v5) (v7 := s) (M := M) (q := q) hd hq hA) hx
def mp_238_188 (L : Nat) (xs : Nat → Int32) (d : Nat) (v1 : Int64) (v4 : Int32) (v5 : Int64) (s1 : Int32) (M : mm_M) (o : mm_E) : Prop := ∀ z2 z3 z6 z7 z8 : Option Value, mm_Runs L xs d 238 (188, [some (.ref 84), some (.long v1), z2, z3, some (.int v4), some (.long v5), z6, z7, z8], [.int s1, .ref 84], M) o
def mp_238_450 (L : Nat) (xs : Nat → Int32) (d : Nat) (v1 : Int64) (v4 : Int32) (M : mm_M) (o : mm_E) : Prop := ∀ z2 z3 z5 z6 z7 z8 : Option Value, mm_Runs L xs d 238 (450, [some (.ref 84), some (.long v1), z2, z3, some (.int v4), z5, z6, z7, z8], [], M) o
set_option maxRecDepth 8000 in
set_option maxHeartbeats 4000000 in
theorem ms_238_j450 {L : Nat} {xs : Nat → Int32} {d : Nat} (hd : 6 ≤ d) {v1 : Int64} {v4 : Int32} {M : mm_M} {q : (Int32 ⊕ Nat) × mm_M} {o : mm_E} (h : mf_238_j450 v1 v4 M = some q) (hA : mm_A (mm_Kr mm_wi) q o) : mp_238_450 L xs d v1 v4 M o := by
  unfold mf_238_j450 at h
  obtain ⟨d, rfl⟩ := mm_d1 (n := 5) hd
  intro z2 z3 z5 z6 z7 z8
  show mm_Runs L xs (d + 1) 238 (450, [some (.ref 84), some (.long v1), z2, z3, some (.int v4), z5, z6, z7, z8], [], M) o
  refine mm_Runs.seq (l := [(450, .aload_n 0, 1), (451, .iload 4, 2), (453, .lload_n 1, 1)]) (S2 := (454, [some (.ref 84), some (.long v1), z2, z3, some (.int v4), z5, z6, z7, z8], [.long v1, .int v4, .ref 84], M)) (by decide +kernel) (hO := mm_own_238) rfl ?_
  refine mm_R_call (v := mm_wv) h hA (k2 := 240) (as := [.ref 84, .int v4, .long v1]) (r := []) rfl (fun _ => rfl) (fun q hq o ho => ms_240 (by omega) hq ho) (fun _ M1 h => ?_)
  show mm_Runs L xs (d + 1) 238 (457, [some (.ref 84), some (.long v1), z2, z3, some (.int v4), z5, z6, z7, z8], [], M1) o
  refine mm_Runs.seq (l := [(457, .aload_n 0, 1), (458, .iload 4, 2), (460, .aload_n 0, 1), (461, .getfield 53, 3), (464, .iconst 0, 1)]) (S2 := (465, [some (.ref 84), some (.long v1), z2, z3, some (.int v4), z5, z6, z7, z8], [.int (0 : Int32), .ref 99, .int v4, .ref 84], M1)) (by decide +kernel) (hO := mm_own_238) rfl ?_
  obtain ⟨hb, h⟩ := mm_gd h
  refine mm_R_lald rfl rfl hb ?_
  refine mm_Runs.seq (l := [(466, .iconst 0, 1)]) (S2 := (467, [some (.ref 84), some (.long v1), z2, z3, some (.int v4), z5, z6, z7, z8], [.int (0 : Int32), .long (M1.2.1 99 (0 : Int32).toNatClampNeg), .int v4, .ref 84], M1)) (by decide +kernel) (hO := mm_own_238) rfl ?_
  refine mm_R_call (v := mm_wv) h hA (k2 := 196) (as := [.ref 84, .int v4, .long (M1.2.1 99 (0 : Int32).toNatClampNeg), .int (0 : Int32)]) (r := []) rfl (fun _ => rfl) (fun q hq o ho => ms_196 (by omega) hq ho) (fun _ M2 h => ?_)
  show mm_Runs L xs (d + 1) 238 (470, [some (.ref 84), some (.long v1), z2, z3, some (.int v4), z5, z6, z7, z8], [], M2) o
  refine mm_Runs.seq (l := [(470, .iconst 1, 1)]) (S2 := (471, [some (.ref 84), some (.long v1), z2, z3, some (.int v4), z5, z6, z7, z8], [.int (1 : Int32)], M2)) (by decide +kernel) (hO := mm_own_238) rfl ?_
  cases h
  exact mm_R_retb rfl rfl rfl hA
set_option maxRecDepth 8000 in
set_option maxHeartbeats 4000000 in
theorem ms_238_j188 {L : Nat} {xs : Nat → Int32} {d : Nat} (hd : 6 ≤ d) {v1 : Int64} {v4 : Int32} {v5 : Int64} {s1 : Int32} {M : mm_M} {q : (Int32 ⊕ Nat) × mm_M} {o : mm_E} (h : mf_238_j188 v1 v4 v5 s1 M = some q) (hA : mm_A (mm_Kr mm_wi) q o) : mp_238_188 L xs d v1 v4 v5 s1 M o := by
  unfold mf_238_j188 at h
  obtain ⟨d, rfl⟩ := mm_d1 (n := 5) hd
  intro z2 z3 z6 z7 z8
  show mm_Runs L xs (d + 1) 238 (188, [some (.ref 84), some (.long v1), z2, z3, some (.int v4), some (.long v5), z6, z7, z8], [.int s1, .ref 84], M) o
  refine mm_Runs.seq (l := [(188, .putfield 349, 3), (191, .aload_n 0, 1), (192, .getfield 154, 3)]) (S2 := (195, [some (.ref 84), some (.long v1), z2, z3, some (.int v4), some (.long v5), z6, z7, z8], [.int (M.1 84 7)], (mm_pi M 84 35 s1))) (by decide +kernel) (hO := mm_own_238) rfl ?_
  refine mm_R_zne (t := 215) rfl rfl rfl (fun hc => ?_) (fun hc => ?_)
  · replace h := mm_ip hc h
    refine mm_Runs.seq (l := [(198, .lload 5, 2), (200, .ldc2_w 368, 3)]) (S2 := (203, [some (.ref 84), some (.long v1), z2, z3, some (.int v4), some (.long v5), z6, z7, z8], [.long (4294967296 : Int64), .long v5], (mm_pi M 84 35 s1))) (by decide +kernel) (hO := mm_own_238) rfl ?_
    refine mm_R_lne (t := 215) rfl rfl rfl rfl (fun hc => ?_) (fun hc => ?_)
    · replace h := mm_ip hc h
      refine mm_Runs.seq (l := [(207, .lload_n 1, 1), (208, .lconst 0, 1)]) (S2 := (209, [some (.ref 84), some (.long v1), z2, z3, some (.int v4), some (.long v5), z6, z7, z8], [.long (0 : Int64), .long v1], (mm_pi M 84 35 s1))) (by decide +kernel) (hO := mm_own_238) rfl ?_
      refine mm_R_lge (t := 215) rfl rfl rfl rfl (fun hc => ?_) (fun hc => ?_)
      · replace h := mm_ip hc h
        refine mm_Runs.seq (l := [(213, .iconst 0, 1)]) (S2 := (214, [some (.ref 84), some (.long v1), z2, z3, some (.int v4), some (.long v5), z6, z7, z8], [.int (0 : Int32)], (mm_pi M 84 35 s1))) (by decide +kernel) (hO := mm_own_238) rfl ?_
        cases h
        exact mm_R_retb rfl rfl rfl hA
      · replace h := mm_iq hc h
        refine mm_Runs.seq (l := [(215, .goto 235, 3)]) (S2 := (450, [some (.ref 84), some (.long v1), z2, z3, some (.int v4), some (.long v5), z6, z7, z8], [], (mm_pi M 84 35 s1))) (by decide +kernel) (hO := mm_own_238) rfl ?_
        exact (ms_238_j450 hd h hA : mp_238_450 L xs (d + 1) v1 v4 (mm_pi M 84 35 s1) o) z2 z3 (some (.long v5)) z6 z7 z8
    · replace h := mm_iq hc h
      refine mm_Runs.seq (l := [(215, .goto 235, 3)]) (S2 := (450, [some (.ref 84), some (.long v1), z2, z3, some (.int v4), some (.long v5), z6, z7, z8], [], (mm_pi M 84 35 s1))) (by decide +kernel) (hO := mm_own_238) rfl ?_
      exact (ms_238_j450 hd h hA : mp_238_450 L xs (d + 1) v1 v4 (mm_pi M 84 35 s1) o) z2 z3 (some (.long v5)) z6 z7 z8
  · replace h := mm_iq hc h
    refine mm_Runs.seq (l := [(215, .goto 235, 3)]) (S2 := (450, [some (.ref 84), some (.long v1), z2, z3, some (.int v4), some (.long v5), z6, z7, z8], [], (mm_pi M 84 35 s1))) (by decide +kernel) (hO := mm_own_238) rfl ?_
    exact (ms_238_j450 hd h hA : mp_238_450 L xs (d + 1) v1 v4 (mm_pi M 84 35 s1) o) z2 z3 (some (.long v5)) z6 z7 z8
set_option maxRecDepth 8000 in
set_option maxHeartbeats 4000000 in
theorem ms_238_j163 {L : Nat} {xs : Nat → Int32} {d : Nat} (hd : 6 ≤ d) {v1 : Int64} {v4 : Int32} {v5 : Int64} {M : mm_M} {q : (Int32 ⊕ Nat) × mm_M} {o : mm_E} (h : mf_238_j163 v1 v4 v5 M = some q) (hA : mm_A (mm_Kr mm_wi) q o) : mp_238_163 L xs d v1 v4 v5 M o := by
  unfold mf_238_j163 at h
  obtain ⟨d, rfl⟩ := mm_d1 (n := 5) hd
  intro z2 z3 z6 z7 z8
  show mm_Runs L xs (d + 1) 238 (163, [some (.ref 84), some (.long v1), z2, z3, some (.int v4), some (.long v5), z6, z7, z8], [], M) o
  refine mm_Runs.seq (l := [(163, .aload_n 0, 1), (164, .getfield 53, 3), (167, .iconst 0, 1), (168, .lload 5, 2)]) (S2 := (170, [some (.ref 84), some (.long v1), z2, z3, some (.int v4), some (.long v5), z6, z7, z8], [.long v5, .int (0 : Int32), .ref 99], M)) (by decide +kernel) (hO := mm_own_238) rfl ?_
  obtain ⟨hb, h⟩ := mm_gd h
  refine mm_R_last rfl rfl hb ?_
  refine mm_Runs.seq (l := [(171, .aload_n 0, 1), (172, .aload_n 0, 1), (173, .getfield 349, 3), (176, .bipush 7, 2)]) (S2 := (178, [some (.ref 84), some (.long v1), z2, z3, some (.int v4), some (.long v5), z6, z7, z8], [.int (7 : Int32), .int (M.1 84 35), .ref 84], (mm_pl M 99 (0 : Int32).toNatClampNeg v5))) (by decide +kernel) (hO := mm_own_238) rfl ?_
  refine mm_R_ige (t := 186) rfl rfl rfl (fun hc => ?_) (fun hc => ?_)
  · replace h := mm_ip hc h
    refine mm_Runs.seq (l := [(181, .bipush 7, 2), (183, .goto 5, 3)]) (S2 := (188, [some (.ref 84), some (.long v1), z2, z3, some (.int v4), some (.long v5), z6, z7, z8], [.int (7 : Int32), .ref 84], (mm_pl M 99 (0 : Int32).toNatClampNeg v5))) (by decide +kernel) (hO := mm_own_238) rfl ?_
    exact (ms_238_j188 hd h hA : mp_238_188 L xs (d + 1) v1 v4 v5 (7 : Int32) (mm_pl M 99 (0 : Int32).toNatClampNeg v5) o) z2 z3 z6 z7 z8
  · replace h := mm_iq hc h
    refine mm_Runs.seq (l := [(186, .bipush 10, 2)]) (S2 := (188, [some (.ref 84), some (.long v1), z2, z3, some (.int v4), some (.long v5), z6, z7, z8], [.int (10 : Int32), .ref 84], (mm_pl M 99 (0 : Int32).toNatClampNeg v5))) (by decide +kernel) (hO := mm_own_238) rfl ?_
    exact (ms_238_j188 hd h hA : mp_238_188 L xs (d + 1) v1 v4 v5 (10 : Int32) (mm_pl M 99 (0 : Int32).toNatClampNeg v5) o) z2 z3 z6 z7 z8
def mp_238_263 (L : Nat) (xs : Nat → Int32) (d : Nat) (v1 : Int64) (v3 : Int32) (s0 : Int32) (M : mm_M) (o : mm_E) : Prop := ∀ z2 z4 z5 z6 z7 z8 : Option Value, mm_Runs L xs d 238 (263, [some (.ref 84), some (.long v1), z2, some (.int v3), z4, z5, z6, z7, z8], [.int s0], M) o
def mp_238_282 (L : Nat) (xs : Nat → Int32) (d : Nat) (v1 : Int64) (v5 : Int32) (s0 : Int32) (M : mm_M) (o : mm_E) : Prop := ∀ z2 z3 z4 z6 z7 z8 : Option Value, mm_Runs L xs d 238 (282, [some (.ref 84), some (.long v1), z2, z3, z4, some (.int v5), z6, z7, z8], [.int s0], M) o
set_option maxRecDepth 8000 in
set_option maxHeartbeats 4000000 in
theorem ms_238_j282 {L : Nat} {xs : Nat → Int32} {d : Nat} (hd : 6 ≤ d) {v1 : Int64} {v5 : Int32} {s0 : Int32} {M : mm_M} {q : (Int32 ⊕ Nat) × mm_M} {o : mm_E} (h : mf_238_j282 v1 v5 s0 M = some q) (hA : mm_A (mm_Kr mm_wi) q o) : mp_238_282 L xs d v1 v5 s0 M o := by
  unfold mf_238_j282 at h
  obtain ⟨d, rfl⟩ := mm_d1 (n := 5) hd
  intro z2 z3 z4 z6 z7 z8
  show mm_Runs L xs (d + 1) 238 (282, [some (.ref 84), some (.long v1), z2, z3, z4, some (.int v5), z6, z7, z8], [.int s0], M) o
  refine mm_Runs.seq (l := [(282, .istore 4, 2), (284, .aload_n 0, 1), (285, .iload 5, 2)]) (S2 := (287, [some (.ref 84), some (.long v1), z2, (mm_no2 z3), some (.int s0), some (.int v5), z6, z7, z8], [.int v5, .ref 84], M)) (by decide +kernel) (hO := mm_own_238) rfl ?_
  refine mm_R_zeq (t := 309) rfl rfl rfl (fun hc => ?_) (fun hc => ?_)
  · replace h := mm_ip hc h
    refine mm_Runs.seq (l := [(309, .aload_n 0, 1), (310, .getfield 349, 3), (313, .bipush 7, 2)]) (S2 := (315, [some (.ref 84), some (.long v1), z2, (mm_no2 z3), some (.int s0), some (.int v5), z6, z7, z8], [.int (7 : Int32), .int (M.1 84 35), .ref 84], M)) (by decide +kernel) (hO := mm_own_238) rfl ?_
    refine mm_R_ige (t := 323) rfl rfl rfl (fun hc => ?_) (fun hc => ?_)
    · replace h := mm_ip hc h
      refine mm_Runs.seq (l := [(318, .bipush 8, 2), (320, .goto 5, 3), (325, .putfield 349, 3), (328, .goto 122, 3)]) (S2 := (450, [some (.ref 84), some (.long v1), z2, (mm_no2 z3), some (.int s0), some (.int v5), z6, z7, z8], [], (mm_pi M 84 35 (8 : Int32)))) (by decide +kernel) (hO := mm_own_238) rfl ?_
      exact (ms_238_j450 hd h hA : mp_238_450 L xs (d + 1) v1 s0 (mm_pi M 84 35 (8 : Int32)) o) z2 ((mm_no2 z3)) (some (.int v5)) z6 z7 z8
    · replace h := mm_iq hc h
      refine mm_Runs.seq (l := [(323, .bipush 11, 2), (325, .putfield 349, 3), (328, .goto 122, 3)]) (S2 := (450, [some (.ref 84), some (.long v1), z2, (mm_no2 z3), some (.int s0), some (.int v5), z6, z7, z8], [], (mm_pi M 84 35 (11 : Int32)))) (by decide +kernel) (hO := mm_own_238) rfl ?_
      exact (ms_238_j450 hd h hA : mp_238_450 L xs (d + 1) v1 s0 (mm_pi M 84 35 (11 : Int32)) o) z2 ((mm_no2 z3)) (some (.int v5)) z6 z7 z8
  · replace h := mm_iq hc h
    refine mm_Runs.seq (l := [(290, .aload_n 0, 1), (291, .getfield 349, 3), (294, .bipush 7, 2)]) (S2 := (296, [some (.ref 84), some (.long v1), z2, (mm_no2 z3), some (.int s0), some (.int v5), z6, z7, z8], [.int (7 : Int32), .int (M.1 84 35), .ref 84], M)) (by decide +kernel) (hO := mm_own_238) rfl ?_
    refine mm_R_ige (t := 304) rfl rfl rfl (fun hc => ?_) (fun hc => ?_)
    · replace h := mm_ip hc h
      refine mm_Runs.seq (l := [(299, .bipush 9, 2), (301, .goto 24, 3), (325, .putfield 349, 3), (328, .goto 122, 3)]) (S2 := (450, [some (.ref 84), some (.long v1), z2, (mm_no2 z3), some (.int s0), some (.int v5), z6, z7, z8], [], (mm_pi M 84 35 (9 : Int32)))) (by decide +kernel) (hO := mm_own_238) rfl ?_
      exact (ms_238_j450 hd h hA : mp_238_450 L xs (d + 1) v1 s0 (mm_pi M 84 35 (9 : Int32)) o) z2 ((mm_no2 z3)) (some (.int v5)) z6 z7 z8
    · replace h := mm_iq hc h
      refine mm_Runs.seq (l := [(304, .bipush 11, 2), (306, .goto 19, 3), (325, .putfield 349, 3), (328, .goto 122, 3)]) (S2 := (450, [some (.ref 84), some (.long v1), z2, (mm_no2 z3), some (.int s0), some (.int v5), z6, z7, z8], [], (mm_pi M 84 35 (11 : Int32)))) (by decide +kernel) (hO := mm_own_238) rfl ?_
      exact (ms_238_j450 hd h hA : mp_238_450 L xs (d + 1) v1 s0 (mm_pi M 84 35 (11 : Int32)) o) z2 ((mm_no2 z3)) (some (.int v5)) z6 z7 z8
set_option maxRecDepth 8000 in
set_option maxHeartbeats 4000000 in
theorem ms_238_j263 {L : Nat} {xs : Nat → Int32} {d : Nat} (hd : 6 ≤ d) {v1 : Int64} {v3 : Int32} {s0 : Int32} {M : mm_M} {q : (Int32 ⊕ Nat) × mm_M} {o : mm_E} (h : mf_238_j263 v1 v3 s0 M = some q) (hA : mm_A (mm_Kr mm_wi) q o) : mp_238_263 L xs d v1 v3 s0 M o := by
  unfold mf_238_j263 at h
  obtain ⟨d, rfl⟩ := mm_d1 (n := 5) hd
  intro z2 z4 z5 z6 z7 z8
  show mm_Runs L xs (d + 1) 238 (263, [some (.ref 84), some (.long v1), z2, some (.int v3), z4, z5, z6, z7, z8], [.int s0], M) o
  refine mm_Runs.seq (l := [(263, .istore 5, 2), (265, .iload 5, 2)]) (S2 := (267, [some (.ref 84), some (.long v1), z2, some (.int v3), (mm_no2 z4), some (.int s0), z6, z7, z8], [.int s0], M)) (by decide +kernel) (hO := mm_own_238) rfl ?_
  refine mm_R_zeq (t := 274) rfl rfl rfl (fun hc => ?_) (fun hc => ?_)
  · replace h := mm_ip hc h
    refine mm_Runs.seq (l := [(274, .aload_n 0, 1), (275, .sipush 946, 3), (278, .iload_n 3, 1)]) (S2 := (279, [some (.ref 84), some (.long v1), z2, some (.int v3), (mm_no2 z4), some (.int s0), z6, z7, z8], [.int v3, .int (946 : Int32), .ref 84], M)) (by decide +kernel) (hO := mm_own_238) rfl ?_
    refine mm_R_call (v := mm_wi) h hA (k2 := 242) (as := [.ref 84, .int (946 : Int32), .int v3]) (r := []) rfl (fun _ => rfl) (fun q hq o ho => ms_242 (by omega) hq ho) (fun r1 M2 h => ?_)
    show mm_Runs L xs (d + 1) 238 (282, [some (.ref 84), some (.long v1), z2, some (.int v3), (mm_no2 z4), some (.int s0), z6, z7, z8], [.int r1], M2) o
    exact (ms_238_j282 hd h hA : mp_238_282 L xs (d + 1) v1 s0 r1 M2 o) z2 (some (.int v3)) ((mm_no2 z4)) z6 z7 z8
  · replace h := mm_iq hc h
    refine mm_Runs.seq (l := [(270, .iconst 1, 1), (271, .goto 11, 3)]) (S2 := (282, [some (.ref 84), some (.long v1), z2, some (.int v3), (mm_no2 z4), some (.int s0), z6, z7, z8], [.int (1 : Int32)], M)) (by decide +kernel) (hO := mm_own_238) rfl ?_
    exact (ms_238_j282 hd h hA : mp_238_282 L xs (d + 1) v1 s0 (1 : Int32) M o) z2 (some (.int v3)) ((mm_no2 z4)) z6 z7 z8
def mp_238_364 (L : Nat) (xs : Nat → Int32) (d : Nat) (v1 : Int64) (v3 : Int32) (s0 : Int32) (M : mm_M) (o : mm_E) : Prop := ∀ z2 z4 z5 z6 z7 z8 : Option Value, mm_Runs L xs d 238 (364, [some (.ref 84), some (.long v1), z2, some (.int v3), z4, z5, z6, z7, z8], [.int s0], M) o
def mp_238_385 (L : Nat) (xs : Nat → Int32) (d : Nat) (v1 : Int64) (v3 : Int32) (v6 : Int64) (v8 : Int32) (M : mm_M) (o : mm_E) : Prop := ∀ z2 z4 z5 z7 : Option Value, mm_Runs L xs d 238 (385, [some (.ref 84), some (.long v1), z2, some (.int v3), z4, z5, some (.long v6), z7, some (.int v8)], [], M) o
def mp_238_412 (L : Nat) (xs : Nat → Int32) (d : Nat) (v1 : Int64) (v3 : Int32) (v6 : Int64) (M : mm_M) (o : mm_E) : Prop := ∀ z2 z4 z5 z7 z8 : Option Value, mm_Runs L xs d 238 (412, [some (.ref 84), some (.long v1), z2, some (.int v3), z4, z5, some (.long v6), z7, z8], [], M) o
set_option maxRecDepth 8000 in
set_option maxHeartbeats 4000000 in
theorem ms_238_b385 {L : Nat} {xs : Nat → Int32} {d : Nat} (hd : 6 ≤ d) {v1 : Int64} {v3 : Int32} {v6 : Int64} {v8 : Int32} {M : mm_M} {q : (((Int32) ⊕ (Unit)) ⊕ Nat) × mm_M} {o : mm_E} (h : mf_238_b385 v1 v3 v6 v8 M = some q) (hA : mm_A (mm_K2 (fun s M o => mp_238_385 L xs (d) v1 v3 v6 s M o) (fun r M o => mp_238_412 L xs (d) v1 v3 v6 M o)) q o) : mp_238_385 L xs d v1 v3 v6 v8 M o := by
  unfold mf_238_b385 at h
  obtain ⟨d, rfl⟩ := mm_d1 (n := 5) hd
  intro z2 z4 z5 z7
  show mm_Runs L xs (d + 1) 238 (385, [some (.ref 84), some (.long v1), z2, some (.int v3), z4, z5, some (.long v6), z7, some (.int v8)], [], M) o
  refine mm_Runs.seq (l := [(385, .iload 8, 2)]) (S2 := (387, [some (.ref 84), some (.long v1), z2, some (.int v3), z4, z5, some (.long v6), z7, some (.int v8)], [.int v8], M)) (by decide +kernel) (hO := mm_own_238) rfl ?_
  refine mm_R_zle (t := 412) rfl rfl rfl (fun hc => ?_) (fun hc => ?_)
  · replace h := mm_ip hc h
    refine mm_Runs.seq (l := [(390, .aload_n 0, 1), (391, .getfield 53, 3), (394, .iload 8, 2), (396, .aload_n 0, 1), (397, .getfield 53, 3), (400, .iload 8, 2), (402, .iconst 1, 1), (403, .isub, 1)]) (S2 := (404, [some (.ref 84), some (.long v1), z2, some (.int v3), z4, z5, some (.long v6), z7, some (.int v8)], [.int (v8 - (1 : Int32)), .ref 99, .int v8, .ref 99], M)) (by decide +kernel) (hO := mm_own_238) rfl ?_
    obtain ⟨hb, h⟩ := mm_gd h
    refine mm_R_lald rfl rfl hb ?_
    obtain ⟨hb, h⟩ := mm_gd h
    refine mm_R_last rfl rfl hb ?_
    refine mm_Runs.seq (l := [(406, .iinc 8 (-1), 3), (409, .goto (-24), 3)]) (S2 := (385, [some (.ref 84), some (.long v1), z2, some (.int v3), z4, z5, some (.long v6), (mm_no2 z7), some (.int (v8 + (-1 : Int32)))], [], (mm_pl M 99 v8.toNatClampNeg (M.2.1 99 (v8 - (1 : Int32)).toNatClampNeg)))) (by decide +kernel) (hO := mm_own_238) rfl ?_
    cases h
    exact (show mp_238_385 L xs (d + 1) v1 v3 v6 (v8 + (-1 : Int32)) (mm_pl M 99 v8.toNatClampNeg (M.2.1 99 (v8 - (1 : Int32)).toNatClampNeg)) o from hA) z2 z4 z5 ((mm_no2 z7))
  · replace h := mm_iq hc h
    cases h
    exact (show mp_238_412 L xs (d + 1) v1 v3 v6 M o from hA) z2 z4 z5 z7 (some (.int v8))
theorem ms_238_L385 {L : Nat} {xs : Nat → Int32} {d : Nat} (hd : 6 ≤ d) {v1 : Int64} {v3 : Int32} {v6 : Int64} {v8 : Int32} {β : Type} {K : β → mm_M → mm_E → Prop} {F : (Unit) → mm_M → mm_O β} {M : mm_M} {q : (β ⊕ Nat) × mm_M} {o : mm_E} (h : mm_B (mf_238_L385 v1 v3 v6 v8 M) F = some q) (hA : mm_A K q o) (hx : ∀ (r : (Unit)) (M2 : mm_M), F r M2 = some q → (fun r M o => mp_238_412 L xs (d) v1 v3 v6 M o) r M2 o) : mp_238_385 L xs d v1 v3 v6 v8 M o := by
  unfold mf_238_L385 at h
  exact mm_R_loop (step := (fun s M => mf_238_b385 v1 v3 v6 s M)) (s := v8) (M := M) (P := (fun s M o => mp_238_385 L xs (d) v1 v3 v6 s M o)) (X := (fun r M o => mp_238_412 L xs (d) v1 v3 v6 M o)) h hA (fun s M q hq hA => ms_238_b385 (v1 := v1) (v3 := v3) (v6 := v6) (v8 := s) (M := M) (q := q) hd hq hA) hx
def mp_238_447 (L : Nat) (xs : Nat → Int32) (d : Nat) (v1 : Int64) (v4 : Int32) (s1 : Int32) (M : mm_M) (o : mm_E) : Prop := ∀ z2 z3 z5 z6 z7 z8 : Option Value, mm_Runs L xs d 238 (447, [some (.ref 84), some (.long v1), z2, z3, some (.int v4), z5, z6, z7, z8], [.int s1, .ref 84], M) o
set_option maxRecDepth 8000 in
set_option maxHeartbeats 4000000 in
theorem ms_238_j447 {L : Nat} {xs : Nat → Int32} {d : Nat} (hd : 6 ≤ d) {v1 : Int64} {v4 : Int32} {s1 : Int32} {M : mm_M} {q : (Int32 ⊕ Nat) × mm_M} {o : mm_E} (h : mf_238_j447 v1 v4 s1 M = some q) (hA : mm_A (mm_Kr mm_wi) q o) : mp_238_447 L xs d v1 v4 s1 M o := by
  unfold mf_238_j447 at h
  obtain ⟨d, rfl⟩ := mm_d1 (n := 5) hd
  intro z2 z3 z5 z6 z7 z8
  show mm_Runs L xs (d + 1) 238 (447, [some (.ref 84), some (.long v1), z2, z3, some (.int v4), z5, z6, z7, z8], [.int s1, .ref 84], M) o
  refine mm_Runs.seq (l := [(447, .putfield 349, 3)]) (S2 := (450, [some (.ref 84), some (.long v1), z2, z3, some (.int v4), z5, z6, z7, z8], [], (mm_pi M 84 35 s1))) (by decide +kernel) (hO := mm_own_238) rfl ?_
  exact (ms_238_j450 hd h hA : mp_238_450 L xs (d + 1) v1 v4 (mm_pi M 84 35 s1) o) z2 z3 z5 z6 z7 z8
set_option maxRecDepth 8000 in
set_option maxHeartbeats 4000000 in
theorem ms_238_j412 {L : Nat} {xs : Nat → Int32} {d : Nat} (hd : 6 ≤ d) {v1 : Int64} {v3 : Int32} {v6 : Int64} {M : mm_M} {q : (Int32 ⊕ Nat) × mm_M} {o : mm_E} (h : mf_238_j412 v1 v3 v6 M = some q) (hA : mm_A (mm_Kr mm_wi) q o) : mp_238_412 L xs d v1 v3 v6 M o := by
  unfold mf_238_j412 at h
  obtain ⟨d, rfl⟩ := mm_d1 (n := 5) hd
  intro z2 z4 z5 z7 z8
  show mm_Runs L xs (d + 1) 238 (412, [some (.ref 84), some (.long v1), z2, some (.int v3), z4, z5, some (.long v6), z7, z8], [], M) o
  refine mm_Runs.seq (l := [(412, .aload_n 0, 1), (413, .getfield 53, 3), (416, .iconst 0, 1), (417, .lload 6, 2)]) (S2 := (419, [some (.ref 84), some (.long v1), z2, some (.int v3), z4, z5, some (.long v6), z7, z8], [.long v6, .int (0 : Int32), .ref 99], M)) (by decide +kernel) (hO := mm_own_238) rfl ?_
  obtain ⟨hb, h⟩ := mm_gd h
  refine mm_R_last rfl rfl hb ?_
  refine mm_Runs.seq (l := [(420, .aload_n 0, 1), (421, .sipush 946, 3), (424, .iload_n 3, 1)]) (S2 := (425, [some (.ref 84), some (.long v1), z2, some (.int v3), z4, z5, some (.long v6), z7, z8], [.int v3, .int (946 : Int32), .ref 84], (mm_pl M 99 (0 : Int32).toNatClampNeg v6))) (by decide +kernel) (hO := mm_own_238) rfl ?_
  refine mm_R_call (v := mm_wi) h hA (k2 := 242) (as := [.ref 84, .int (946 : Int32), .int v3]) (r := []) rfl (fun _ => rfl) (fun q hq o ho => ms_242 (by omega) hq ho) (fun r1 M2 h => ?_)
  show mm_Runs L xs (d + 1) 238 (428, [some (.ref 84), some (.long v1), z2, some (.int v3), z4, z5, some (.long v6), z7, z8], [.int r1], M2) o
  refine mm_Runs.seq (l := [(428, .istore 4, 2), (430, .aload_n 0, 1), (431, .aload_n 0, 1), (432, .getfield 349, 3), (435, .bipush 7, 2)]) (S2 := (437, [some (.ref 84), some (.long v1), z2, some (.int v3), some (.int r1), z5, some (.long v6), z7, z8], [.int (7 : Int32), .int (M2.1 84 35), .ref 84], M2)) (by decide +kernel) (hO := mm_own_238) rfl ?_
  refine mm_R_ige (t := 445) rfl rfl rfl (fun hc => ?_) (fun hc => ?_)
  · replace h := mm_ip hc h
    refine mm_Runs.seq (l := [(440, .bipush 8, 2), (442, .goto 5, 3)]) (S2 := (447, [some (.ref 84), some (.long v1), z2, some (.int v3), some (.int r1), z5, some (.long v6), z7, z8], [.int (8 : Int32), .ref 84], M2)) (by decide +kernel) (hO := mm_own_238) rfl ?_
    exact (ms_238_j447 hd h hA : mp_238_447 L xs (d + 1) v1 r1 (8 : Int32) M2 o) z2 (some (.int v3)) z5 (some (.long v6)) z7 z8
  · replace h := mm_iq hc h
    refine mm_Runs.seq (l := [(445, .bipush 11, 2)]) (S2 := (447, [some (.ref 84), some (.long v1), z2, some (.int v3), some (.int r1), z5, some (.long v6), z7, z8], [.int (11 : Int32), .ref 84], M2)) (by decide +kernel) (hO := mm_own_238) rfl ?_
    exact (ms_238_j447 hd h hA : mp_238_447 L xs (d + 1) v1 r1 (11 : Int32) M2 o) z2 (some (.int v3)) z5 (some (.long v6)) z7 z8
set_option maxRecDepth 8000 in
set_option maxHeartbeats 4000000 in
theorem ms_238_j364 {L : Nat} {xs : Nat → Int32} {d : Nat} (hd : 6 ≤ d) {v1 : Int64} {v3 : Int32} {s0 : Int32} {M : mm_M} {q : (Int32 ⊕ Nat) × mm_M} {o : mm_E} (h : mf_238_j364 v1 v3 s0 M = some q) (hA : mm_A (mm_Kr mm_wi) q o) : mp_238_364 L xs d v1 v3 s0 M o := by
  unfold mf_238_j364 at h
  obtain ⟨d, rfl⟩ := mm_d1 (n := 5) hd
  intro z2 z4 z5 z6 z7 z8
  show mm_Runs L xs (d + 1) 238 (364, [some (.ref 84), some (.long v1), z2, some (.int v3), z4, z5, z6, z7, z8], [.int s0], M) o
  refine mm_Runs.seq (l := [(364, .istore 5, 2), (366, .aload_n 0, 1), (367, .iload 5, 2)]) (S2 := (369, [some (.ref 84), some (.long v1), z2, some (.int v3), (mm_no2 z4), some (.int s0), z6, z7, z8], [.int s0, .ref 84], M)) (by decide +kernel) (hO := mm_own_238) rfl ?_
  refine mm_R_call (v := mm_wv) h hA (k2 := 239) (as := [.ref 84, .int s0]) (r := []) rfl (fun _ => rfl) (fun q hq o ho => ms_239 (by omega) hq ho) (fun _ M1 h => ?_)
  show mm_Runs L xs (d + 1) 238 (372, [some (.ref 84), some (.long v1), z2, some (.int v3), (mm_no2 z4), some (.int s0), z6, z7, z8], [], M1) o
  refine mm_Runs.seq (l := [(372, .aload_n 0, 1), (373, .getfield 53, 3), (376, .iload 5, 2)]) (S2 := (378, [some (.ref 84), some (.long v1), z2, some (.int v3), (mm_no2 z4), some (.int s0), z6, z7, z8], [.int s0, .ref 99], M1)) (by decide +kernel) (hO := mm_own_238) rfl ?_
  obtain ⟨hb, h⟩ := mm_gd h
  refine mm_R_lald rfl rfl hb ?_
  refine mm_Runs.seq (l := [(379, .lstore 6, 2), (381, .iload 5, 2), (383, .istore 8, 2)]) (S2 := (385, [some (.ref 84), some (.long v1), z2, some (.int v3), (mm_no2 z4), some (.int s0), some (.long (M1.2.1 99 s0.toNatClampNeg)), none, some (.int s0)], [], M1)) (by decide +kernel) (hO := mm_own_238) rfl ?_
  have hp : mp_238_385 L xs (d + 1) v1 v3 (M1.2.1 99 s0.toNatClampNeg) s0 M1 o := by
    refine ms_238_L385 hd h hA (fun r3 M2 h => ?_)
    intro y4 y5 y6 y7 y8
    show mm_Runs L xs (d + 1) 238 (412, [some (.ref 84), some (.long v1), y4, some (.int v3), y5, y6, some (.long (M1.2.1 99 s0.toNatClampNeg)), y7, y8], [], M2) o
    exact (ms_238_j412 hd h hA : mp_238_412 L xs (d + 1) v1 v3 (M1.2.1 99 s0.toNatClampNeg) M2 o) y4 y5 y6 y7 y8
  exact hp z2 ((mm_no2 z4)) (some (.int s0)) none
set_option maxRecDepth 8000 in
set_option maxHeartbeats 4000000 in
theorem ms_238 {L : Nat} {xs : Nat → Int32} {d : Nat} (hd : 6 ≤ d) {v1 : Int64} {M : mm_M} {q : (Int32 ⊕ Nat) × mm_M} {o : mm_E} (h : mf_238 v1 M = some q) (hA : mm_A (mm_Kr mm_wi) q o) : mm_Runs L xs d 238 (0, mm_ent (mm_ml 238) [.ref 84, .long v1], [], M) o := by
  unfold mf_238 at h
  obtain ⟨d, rfl⟩ := mm_d1 (n := 5) hd
  show mm_Runs L xs (d + 1) 238 (0, [some (.ref 84), some (.long v1), none, none, none, none, none, none, none], [], M) o
  refine mm_Runs.seq (l := [(0, .aload_n 0, 1), (1, .getfield 98, 3), (4, .iconst 1, 1), (5, .aload_n 0, 1), (6, .getfield 346, 3), (9, .ishl, 1), (10, .iconst 1, 1), (11, .isub, 1), (12, .iand, 1), (13, .istore_n 3, 1), (14, .aload_n 0, 1), (15, .iconst 0, 1), (16, .bipush 16, 2), (18, .aload_n 0, 1), (19, .getfield 349, 3), (22, .imul, 1), (23, .iadd, 1), (24, .iload_n 3, 1), (25, .iadd, 1)]) (S2 := (26, [some (.ref 84), some (.long v1), none, some (.int ((M.1 84 4) &&& ((mm_shl (1 : Int32) (M.1 84 39)) - (1 : Int32)))), none, none, none, none, none], [.int (((0 : Int32) + ((16 : Int32) * (M.1 84 35))) + ((M.1 84 4) &&& ((mm_shl (1 : Int32) (M.1 84 39)) - (1 : Int32)))), .ref 84], M)) (by decide +kernel) (hO := mm_own_238) rfl ?_
  refine mm_R_call (v := mm_wi) h hA (k2 := 233) (as := [.ref 84, .int (((0 : Int32) + ((16 : Int32) * (M.1 84 35))) + ((M.1 84 4) &&& ((mm_shl (1 : Int32) (M.1 84 39)) - (1 : Int32))))]) (r := []) rfl (fun _ => rfl) (fun q hq o ho => ms_233 (by omega) hq ho) (fun r1 M2 h => ?_)
  show mm_Runs L xs (d + 1) 238 (29, [some (.ref 84), some (.long v1), none, some (.int ((M.1 84 4) &&& ((mm_shl (1 : Int32) (M.1 84 39)) - (1 : Int32)))), none, none, none, none, none], [.int r1], M2) o
  refine mm_R_zne (t := 79) rfl rfl rfl (fun hc => ?_) (fun hc => ?_)
  · replace h := mm_ip hc h
    refine mm_Runs.seq (l := [(32, .aload_n 0, 1)]) (S2 := (33, [some (.ref 84), some (.long v1), none, some (.int ((M.1 84 4) &&& ((mm_shl (1 : Int32) (M.1 84 39)) - (1 : Int32)))), none, none, none, none, none], [.ref 84], M2)) (by decide +kernel) (hO := mm_own_238) rfl ?_
    refine mm_R_call (v := mm_wv) h hA (k2 := 241) (as := [.ref 84]) (r := []) rfl (fun _ => rfl) (fun q hq o ho => ms_241 (by omega) hq ho) (fun _ M3 h => ?_)
    show mm_Runs L xs (d + 1) 238 (36, [some (.ref 84), some (.long v1), none, some (.int ((M.1 84 4) &&& ((mm_shl (1 : Int32) (M.1 84 39)) - (1 : Int32)))), none, none, none, none, none], [], M3) o
    refine mm_Runs.seq (l := [(36, .aload_n 0, 1), (37, .aload_n 0, 1), (38, .getfield 349, 3), (41, .iconst 4, 1)]) (S2 := (42, [some (.ref 84), some (.long v1), none, some (.int ((M.1 84 4) &&& ((mm_shl (1 : Int32) (M.1 84 39)) - (1 : Int32)))), none, none, none, none, none], [.int (4 : Int32), .int (M3.1 84 35), .ref 84], M3)) (by decide +kernel) (hO := mm_own_238) rfl ?_
    refine mm_R_ige (t := 49) rfl rfl rfl (fun hc => ?_) (fun hc => ?_)
    · replace h := mm_ip hc h
      refine mm_Runs.seq (l := [(45, .iconst 0, 1), (46, .goto 28, 3), (74, .putfield 349, 3), (77, .iconst 1, 1)]) (S2 := (78, [some (.ref 84), some (.long v1), none, some (.int ((M.1 84 4) &&& ((mm_shl (1 : Int32) (M.1 84 39)) - (1 : Int32)))), none, none, none, none, none], [.int (1 : Int32)], (mm_pi M3 84 35 (0 : Int32)))) (by decide +kernel) (hO := mm_own_238) rfl ?_
      cases h
      exact mm_R_retb rfl rfl rfl hA
    · replace h := mm_iq hc h
      refine mm_Runs.seq (l := [(49, .aload_n 0, 1), (50, .getfield 349, 3), (53, .bipush 10, 2)]) (S2 := (55, [some (.ref 84), some (.long v1), none, some (.int ((M.1 84 4) &&& ((mm_shl (1 : Int32) (M.1 84 39)) - (1 : Int32)))), none, none, none, none, none], [.int (10 : Int32), .int (M3.1 84 35), .ref 84], M3)) (by decide +kernel) (hO := mm_own_238) rfl ?_
      refine mm_R_ige (t := 67) rfl rfl rfl (fun hc => ?_) (fun hc => ?_)
      · replace h := mm_ip hc h
        refine mm_Runs.seq (l := [(58, .aload_n 0, 1), (59, .getfield 349, 3), (62, .iconst 3, 1), (63, .isub, 1), (64, .goto 10, 3), (74, .putfield 349, 3), (77, .iconst 1, 1)]) (S2 := (78, [some (.ref 84), some (.long v1), none, some (.int ((M.1 84 4) &&& ((mm_shl (1 : Int32) (M.1 84 39)) - (1 : Int32)))), none, none, none, none, none], [.int (1 : Int32)], (mm_pi M3 84 35 ((M3.1 84 35) - (3 : Int32))))) (by decide +kernel) (hO := mm_own_238) rfl ?_
        cases h
        exact mm_R_retb rfl rfl rfl hA
      · replace h := mm_iq hc h
        refine mm_Runs.seq (l := [(67, .aload_n 0, 1), (68, .getfield 349, 3), (71, .bipush 6, 2), (73, .isub, 1), (74, .putfield 349, 3), (77, .iconst 1, 1)]) (S2 := (78, [some (.ref 84), some (.long v1), none, some (.int ((M.1 84 4) &&& ((mm_shl (1 : Int32) (M.1 84 39)) - (1 : Int32)))), none, none, none, none, none], [.int (1 : Int32)], (mm_pi M3 84 35 ((M3.1 84 35) - (6 : Int32))))) (by decide +kernel) (hO := mm_own_238) rfl ?_
        cases h
        exact mm_R_retb rfl rfl rfl hA
  · replace h := mm_iq hc h
    refine mm_Runs.seq (l := [(79, .iconst 1, 1), (80, .istore 4, 2), (82, .aload_n 0, 1), (83, .sipush 192, 3), (86, .aload_n 0, 1), (87, .getfield 349, 3), (90, .iadd, 1)]) (S2 := (91, [some (.ref 84), some (.long v1), none, some (.int ((M.1 84 4) &&& ((mm_shl (1 : Int32) (M.1 84 39)) - (1 : Int32)))), some (.int (1 : Int32)), none, none, none, none], [.int ((192 : Int32) + (M2.1 84 35)), .ref 84], M2)) (by decide +kernel) (hO := mm_own_238) rfl ?_
    refine mm_R_call (v := mm_wi) h hA (k2 := 233) (as := [.ref 84, .int ((192 : Int32) + (M2.1 84 35))]) (r := []) rfl (fun _ => rfl) (fun q hq o ho => ms_233 (by omega) hq ho) (fun r4 M5 h => ?_)
    show mm_Runs L xs (d + 1) 238 (94, [some (.ref 84), some (.long v1), none, some (.int ((M.1 84 4) &&& ((mm_shl (1 : Int32) (M.1 84 39)) - (1 : Int32)))), some (.int (1 : Int32)), none, none, none, none], [.int r4], M5) o
    refine mm_R_zne (t := 218) rfl rfl rfl (fun hc => ?_) (fun hc => ?_)
    · replace h := mm_ip hc h
      refine mm_Runs.seq (l := [(97, .aload_n 0, 1), (98, .sipush 432, 3), (101, .iload_n 3, 1)]) (S2 := (102, [some (.ref 84), some (.long v1), none, some (.int ((M.1 84 4) &&& ((mm_shl (1 : Int32) (M.1 84 39)) - (1 : Int32)))), some (.int (1 : Int32)), none, none, none, none], [.int ((M.1 84 4) &&& ((mm_shl (1 : Int32) (M.1 84 39)) - (1 : Int32))), .int (432 : Int32), .ref 84], M5)) (by decide +kernel) (hO := mm_own_238) rfl ?_
      refine mm_R_call (v := mm_wi) h hA (k2 := 242) (as := [.ref 84, .int (432 : Int32), .int ((M.1 84 4) &&& ((mm_shl (1 : Int32) (M.1 84 39)) - (1 : Int32)))]) (r := []) rfl (fun _ => rfl) (fun q hq o ho => ms_242 (by omega) hq ho) (fun r6 M7 h => ?_)
      show mm_Runs L xs (d + 1) 238 (105, [some (.ref 84), some (.long v1), none, some (.int ((M.1 84 4) &&& ((mm_shl (1 : Int32) (M.1 84 39)) - (1 : Int32)))), some (.int (1 : Int32)), none, none, none, none], [.int r6], M7) o
      refine mm_Runs.seq (l := [(105, .istore 4, 2), (107, .aload_n 0, 1), (108, .iload 4, 2), (110, .lload_n 1, 1)]) (S2 := (111, [some (.ref 84), some (.long v1), none, some (.int ((M.1 84 4) &&& ((mm_shl (1 : Int32) (M.1 84 39)) - (1 : Int32)))), some (.int r6), none, none, none, none], [.long v1, .int r6, .ref 84], M7)) (by decide +kernel) (hO := mm_own_238) rfl ?_
      refine mm_R_call (v := mm_wv) h hA (k2 := 240) (as := [.ref 84, .int r6, .long v1]) (r := []) rfl (fun _ => rfl) (fun q hq o ho => ms_240 (by omega) hq ho) (fun _ M8 h => ?_)
      show mm_Runs L xs (d + 1) 238 (114, [some (.ref 84), some (.long v1), none, some (.int ((M.1 84 4) &&& ((mm_shl (1 : Int32) (M.1 84 39)) - (1 : Int32)))), some (.int r6), none, none, none, none], [], M8) o
      refine mm_Runs.seq (l := [(114, .aload_n 0, 1), (115, .getfield 154, 3)]) (S2 := (118, [some (.ref 84), some (.long v1), none, some (.int ((M.1 84 4) &&& ((mm_shl (1 : Int32) (M.1 84 39)) - (1 : Int32)))), some (.int r6), none, none, none, none], [.int (M8.1 84 7)], M8)) (by decide +kernel) (hO := mm_own_238) rfl ?_
      refine mm_R_zeq (t := 125) rfl rfl rfl (fun hc => ?_) (fun hc => ?_)
      · replace h := mm_ip hc h
        refine mm_Runs.seq (l := [(125, .aload_n 0, 1), (126, .iload 4, 2)]) (S2 := (128, [some (.ref 84), some (.long v1), none, some (.int ((M.1 84 4) &&& ((mm_shl (1 : Int32) (M.1 84 39)) - (1 : Int32)))), some (.int r6), none, none, none, none], [.int r6, .ref 84], M8)) (by decide +kernel) (hO := mm_own_238) rfl ?_
        refine mm_R_call (v := mm_wl) h hA (k2 := 243) (as := [.ref 84, .int r6]) (r := []) rfl (fun _ => rfl) (fun q hq o ho => ms_243 (by omega) hq ho) (fun r9 M10 h => ?_)
        show mm_Runs L xs (d + 1) 238 (131, [some (.ref 84), some (.long v1), none, some (.int ((M.1 84 4) &&& ((mm_shl (1 : Int32) (M.1 84 39)) - (1 : Int32)))), some (.int r6), none, none, none, none], [.long r9], M10) o
        refine mm_Runs.seq (l := [(131, .lstore 5, 2), (133, .iconst 3, 1), (134, .istore 7, 2)]) (S2 := (136, [some (.ref 84), some (.long v1), none, some (.int ((M.1 84 4) &&& ((mm_shl (1 : Int32) (M.1 84 39)) - (1 : Int32)))), some (.int r6), some (.long r9), none, some (.int (3 : Int32)), none], [], M10)) (by decide +kernel) (hO := mm_own_238) rfl ?_
        have hp : mp_238_136 L xs (d + 1) v1 r6 r9 (3 : Int32) M10 o := by
          refine ms_238_L136 hd h hA (fun r12 M11 h => ?_)
          intro y13 y14 y15 y16 y17
          show mm_Runs L xs (d + 1) 238 (163, [some (.ref 84), some (.long v1), y13, y14, some (.int r6), some (.long r9), y15, y16, y17], [], M11) o
          exact (ms_238_j163 hd h hA : mp_238_163 L xs (d + 1) v1 r6 r9 M11 o) y13 y14 y15 y16 y17
        exact hp none (some (.int ((M.1 84 4) &&& ((mm_shl (1 : Int32) (M.1 84 39)) - (1 : Int32))))) none none
      · replace h := mm_iq hc h
        refine mm_Runs.seq (l := [(121, .lconst 1, 1), (122, .goto 9, 3), (131, .lstore 5, 2), (133, .iconst 3, 1), (134, .istore 7, 2)]) (S2 := (136, [some (.ref 84), some (.long v1), none, some (.int ((M.1 84 4) &&& ((mm_shl (1 : Int32) (M.1 84 39)) - (1 : Int32)))), some (.int r6), some (.long (1 : Int64)), none, some (.int (3 : Int32)), none], [], M8)) (by decide +kernel) (hO := mm_own_238) rfl ?_
        have hp : mp_238_136 L xs (d + 1) v1 r6 (1 : Int64) (3 : Int32) M8 o := by
          refine ms_238_L136 hd h hA (fun r19 M18 h => ?_)
          intro y20 y21 y22 y23 y24
          show mm_Runs L xs (d + 1) 238 (163, [some (.ref 84), some (.long v1), y20, y21, some (.int r6), some (.long (1 : Int64)), y22, y23, y24], [], M18) o
          exact (ms_238_j163 hd h hA : mp_238_163 L xs (d + 1) v1 r6 (1 : Int64) M18 o) y20 y21 y22 y23 y24
        exact hp none (some (.int ((M.1 84 4) &&& ((mm_shl (1 : Int32) (M.1 84 39)) - (1 : Int32))))) none none
    · replace h := mm_iq hc h
      refine mm_Runs.seq (l := [(218, .aload_n 0, 1), (219, .sipush 204, 3), (222, .aload_n 0, 1), (223, .getfield 349, 3), (226, .iadd, 1)]) (S2 := (227, [some (.ref 84), some (.long v1), none, some (.int ((M.1 84 4) &&& ((mm_shl (1 : Int32) (M.1 84 39)) - (1 : Int32)))), some (.int (1 : Int32)), none, none, none, none], [.int ((204 : Int32) + (M5.1 84 35)), .ref 84], M5)) (by decide +kernel) (hO := mm_own_238) rfl ?_
      refine mm_R_call (v := mm_wi) h hA (k2 := 233) (as := [.ref 84, .int ((204 : Int32) + (M5.1 84 35))]) (r := []) rfl (fun _ => rfl) (fun q hq o ho => ms_233 (by omega) hq ho) (fun r25 M26 h => ?_)
      show mm_Runs L xs (d + 1) 238 (230, [some (.ref 84), some (.long v1), none, some (.int ((M.1 84 4) &&& ((mm_shl (1 : Int32) (M.1 84 39)) - (1 : Int32)))), some (.int (1 : Int32)), none, none, none, none], [.int r25], M26) o
      refine mm_R_zne (t := 331) rfl rfl rfl (fun hc => ?_) (fun hc => ?_)
      · replace h := mm_ip hc h
        refine mm_Runs.seq (l := [(233, .aload_n 0, 1), (234, .iconst 0, 1)]) (S2 := (235, [some (.ref 84), some (.long v1), none, some (.int ((M.1 84 4) &&& ((mm_shl (1 : Int32) (M.1 84 39)) - (1 : Int32)))), some (.int (1 : Int32)), none, none, none, none], [.int (0 : Int32), .ref 84], M26)) (by decide +kernel) (hO := mm_own_238) rfl ?_
        refine mm_R_call (v := mm_wv) h hA (k2 := 239) (as := [.ref 84, .int (0 : Int32)]) (r := []) rfl (fun _ => rfl) (fun q hq o ho => ms_239 (by omega) hq ho) (fun _ M27 h => ?_)
        show mm_Runs L xs (d + 1) 238 (238, [some (.ref 84), some (.long v1), none, some (.int ((M.1 84 4) &&& ((mm_shl (1 : Int32) (M.1 84 39)) - (1 : Int32)))), some (.int (1 : Int32)), none, none, none, none], [], M27) o
        refine mm_Runs.seq (l := [(238, .aload_n 0, 1), (239, .sipush 216, 3), (242, .bipush 16, 2), (244, .aload_n 0, 1), (245, .getfield 349, 3), (248, .imul, 1), (249, .iadd, 1), (250, .iload_n 3, 1), (251, .iadd, 1)]) (S2 := (252, [some (.ref 84), some (.long v1), none, some (.int ((M.1 84 4) &&& ((mm_shl (1 : Int32) (M.1 84 39)) - (1 : Int32)))), some (.int (1 : Int32)), none, none, none, none], [.int (((216 : Int32) + ((16 : Int32) * (M27.1 84 35))) + ((M.1 84 4) &&& ((mm_shl (1 : Int32) (M.1 84 39)) - (1 : Int32)))), .ref 84], M27)) (by decide +kernel) (hO := mm_own_238) rfl ?_
        refine mm_R_call (v := mm_wi) h hA (k2 := 233) (as := [.ref 84, .int (((216 : Int32) + ((16 : Int32) * (M27.1 84 35))) + ((M.1 84 4) &&& ((mm_shl (1 : Int32) (M.1 84 39)) - (1 : Int32))))]) (r := []) rfl (fun _ => rfl) (fun q hq o ho => ms_233 (by omega) hq ho) (fun r28 M29 h => ?_)
        show mm_Runs L xs (d + 1) 238 (255, [some (.ref 84), some (.long v1), none, some (.int ((M.1 84 4) &&& ((mm_shl (1 : Int32) (M.1 84 39)) - (1 : Int32)))), some (.int (1 : Int32)), none, none, none, none], [.int r28], M29) o
        refine mm_R_zne (t := 262) rfl rfl rfl (fun hc => ?_) (fun hc => ?_)
        · replace h := mm_ip hc h
          refine mm_Runs.seq (l := [(258, .iconst 1, 1), (259, .goto 4, 3)]) (S2 := (263, [some (.ref 84), some (.long v1), none, some (.int ((M.1 84 4) &&& ((mm_shl (1 : Int32) (M.1 84 39)) - (1 : Int32)))), some (.int (1 : Int32)), none, none, none, none], [.int (1 : Int32)], M29)) (by decide +kernel) (hO := mm_own_238) rfl ?_
          exact (ms_238_j263 hd h hA : mp_238_263 L xs (d + 1) v1 ((M.1 84 4) &&& ((mm_shl (1 : Int32) (M.1 84 39)) - (1 : Int32))) (1 : Int32) M29 o) none (some (.int (1 : Int32))) none none none none
        · replace h := mm_iq hc h
          refine mm_Runs.seq (l := [(262, .iconst 0, 1)]) (S2 := (263, [some (.ref 84), some (.long v1), none, some (.int ((M.1 84 4) &&& ((mm_shl (1 : Int32) (M.1 84 39)) - (1 : Int32)))), some (.int (1 : Int32)), none, none, none, none], [.int (0 : Int32)], M29)) (by decide +kernel) (hO := mm_own_238) rfl ?_
          exact (ms_238_j263 hd h hA : mp_238_263 L xs (d + 1) v1 ((M.1 84 4) &&& ((mm_shl (1 : Int32) (M.1 84 39)) - (1 : Int32))) (0 : Int32) M29 o) none (some (.int (1 : Int32))) none none none none
      · replace h := mm_iq hc h
        refine mm_Runs.seq (l := [(331, .aload_n 0, 1), (332, .sipush 408, 3), (335, .aload_n 0, 1), (336, .getfield 349, 3), (339, .iadd, 1)]) (S2 := (340, [some (.ref 84), some (.long v1), none, some (.int ((M.1 84 4) &&& ((mm_shl (1 : Int32) (M.1 84 39)) - (1 : Int32)))), some (.int (1 : Int32)), none, none, none, none], [.int ((408 : Int32) + (M26.1 84 35)), .ref 84], M26)) (by decide +kernel) (hO := mm_own_238) rfl ?_
        refine mm_R_call (v := mm_wi) h hA (k2 := 233) (as := [.ref 84, .int ((408 : Int32) + (M26.1 84 35))]) (r := []) rfl (fun _ => rfl) (fun q hq o ho => ms_233 (by omega) hq ho) (fun r30 M31 h => ?_)
        show mm_Runs L xs (d + 1) 238 (343, [some (.ref 84), some (.long v1), none, some (.int ((M.1 84 4) &&& ((mm_shl (1 : Int32) (M.1 84 39)) - (1 : Int32)))), some (.int (1 : Int32)), none, none, none, none], [.int r30], M31) o
        refine mm_R_zne (t := 350) rfl rfl rfl (fun hc => ?_) (fun hc => ?_)
        · replace h := mm_ip hc h
          refine mm_Runs.seq (l := [(346, .iconst 1, 1), (347, .goto 17, 3)]) (S2 := (364, [some (.ref 84), some (.long v1), none, some (.int ((M.1 84 4) &&& ((mm_shl (1 : Int32) (M.1 84 39)) - (1 : Int32)))), some (.int (1 : Int32)), none, none, none, none], [.int (1 : Int32)], M31)) (by decide +kernel) (hO := mm_own_238) rfl ?_
          exact (ms_238_j364 hd h hA : mp_238_364 L xs (d + 1) v1 ((M.1 84 4) &&& ((mm_shl (1 : Int32) (M.1 84 39)) - (1 : Int32))) (1 : Int32) M31 o) none (some (.int (1 : Int32))) none none none none
        · replace h := mm_iq hc h
          refine mm_Runs.seq (l := [(350, .iconst 2, 1), (351, .aload_n 0, 1), (352, .sipush 420, 3), (355, .aload_n 0, 1), (356, .getfield 349, 3), (359, .iadd, 1)]) (S2 := (360, [some (.ref 84), some (.long v1), none, some (.int ((M.1 84 4) &&& ((mm_shl (1 : Int32) (M.1 84 39)) - (1 : Int32)))), some (.int (1 : Int32)), none, none, none, none], [.int ((420 : Int32) + (M31.1 84 35)), .ref 84, .int (2 : Int32)], M31)) (by decide +kernel) (hO := mm_own_238) rfl ?_
          refine mm_R_call (v := mm_wi) h hA (k2 := 233) (as := [.ref 84, .int ((420 : Int32) + (M31.1 84 35))]) (r := [.int (2 : Int32)]) rfl (fun _ => rfl) (fun q hq o ho => ms_233 (by omega) hq ho) (fun r32 M33 h => ?_)
          show mm_Runs L xs (d + 1) 238 (363, [some (.ref 84), some (.long v1), none, some (.int ((M.1 84 4) &&& ((mm_shl (1 : Int32) (M.1 84 39)) - (1 : Int32)))), some (.int (1 : Int32)), none, none, none, none], [.int r32, .int (2 : Int32)], M33) o
          refine mm_Runs.seq (l := [(363, .iadd, 1)]) (S2 := (364, [some (.ref 84), some (.long v1), none, some (.int ((M.1 84 4) &&& ((mm_shl (1 : Int32) (M.1 84 39)) - (1 : Int32)))), some (.int (1 : Int32)), none, none, none, none], [.int ((2 : Int32) + r32)], M33)) (by decide +kernel) (hO := mm_own_238) rfl ?_
          exact (ms_238_j364 hd h hA : mp_238_364 L xs (d + 1) v1 ((M.1 84 4) &&& ((mm_shl (1 : Int32) (M.1 84 39)) - (1 : Int32))) ((2 : Int32) + r32) M33 o) none (some (.int (1 : Int32))) none none none none
-- 237: PlainPacksModel.chancesTold()V (depth 7)
theorem mm_own_237 : mm_own 237 = 12 := rfl
def mp_237_34 (L : Nat) (xs : Nat → Int32) (d : Nat) (v1 : Int32) (M : mm_M) (o : mm_E) : Prop := ∀ z2 z3 z4 : Option Value, mm_Runs L xs d 237 (34, [some (.ref 84), some (.int v1), z2, z3, z4], [], M) o
def mp_237_38 (L : Nat) (xs : Nat → Int32) (d : Nat) (v1 : Int32) (M : mm_M) (o : mm_E) : Prop := ∀ z2 z3 z4 : Option Value, mm_Runs L xs d 237 (38, [some (.ref 84), some (.int v1), z2, z3, z4], [], M) o
def mp_237_74 (L : Nat) (xs : Nat → Int32) (d : Nat) (v1 : Int32) (v2 : Int64) (M : mm_M) (o : mm_E) : Prop := ∀ z3 z4 : Option Value, mm_Runs L xs d 237 (74, [some (.ref 84), some (.int v1), some (.long v2), z3, z4], [], M) o
def mp_237_78 (L : Nat) (xs : Nat → Int32) (d : Nat) (v1 : Int32) (v2 : Int64) (M : mm_M) (o : mm_E) : Prop := ∀ z3 z4 : Option Value, mm_Runs L xs d 237 (78, [some (.ref 84), some (.int v1), some (.long v2), z3, z4], [], M) o
def mp_237_98 (L : Nat) (xs : Nat → Int32) (d : Nat) (v1 : Int32) (v2 : Int64) (v4 : Int32) (M : mm_M) (o : mm_E) : Prop := ∀ z3 : Option Value, mm_Runs L xs d 237 (98, [some (.ref 84), some (.int v1), some (.long v2), z3, some (.int v4)], [], M) o
def mp_237_127 (L : Nat) (xs : Nat → Int32) (d : Nat) (v1 : Int32) (v2 : Int64) (M : mm_M) (o : mm_E) : Prop := ∀ z3 z4 : Option Value, mm_Runs L xs d 237 (127, [some (.ref 84), some (.int v1), some (.long v2), z3, z4], [], M) o
set_option maxRecDepth 8000 in
set_option maxHeartbeats 4000000 in
theorem ms_237_b98 {L : Nat} {xs : Nat → Int32} {d : Nat} (hd : 7 ≤ d) {v1 : Int32} {v2 : Int64} {v4 : Int32} {M : mm_M} {q : (((Int32) ⊕ (Unit)) ⊕ Nat) × mm_M} {o : mm_E} (h : mf_237_b98 v1 v2 v4 M = some q) (hA : mm_A (mm_K2 (fun s M o => mp_237_98 L xs (d) v1 v2 s M o) (fun r M o => mp_237_127 L xs (d) v1 v2 M o)) q o) : mp_237_98 L xs d v1 v2 v4 M o := by
  unfold mf_237_b98 at h
  obtain ⟨d, rfl⟩ := mm_d1 (n := 6) hd
  intro z3
  show mm_Runs L xs (d + 1) 237 (98, [some (.ref 84), some (.int v1), some (.long v2), z3, some (.int v4)], [], M) o
  refine mm_Runs.seq (l := [(98, .iload 4, 2), (100, .iconst 4, 1)]) (S2 := (101, [some (.ref 84), some (.int v1), some (.long v2), z3, some (.int v4)], [.int (4 : Int32), .int v4], M)) (by decide +kernel) (hO := mm_own_237) rfl ?_
  refine mm_R_ige (t := 127) rfl rfl rfl (fun hc => ?_) (fun hc => ?_)
  · replace h := mm_ip hc h
    refine mm_Runs.seq (l := [(104, .aload_n 0, 1), (105, .aload_n 0, 1), (106, .getfield 325, 3), (109, .bipush 8, 2), (111, .lshl, 1), (112, .aload_n 0, 1)]) (S2 := (113, [some (.ref 84), some (.int v1), some (.long v2), z3, some (.int v4)], [.ref 84, .long (mm_lshl (M.2.1 84 34) (8 : Int32)), .ref 84], M)) (by decide +kernel) (hO := mm_own_237) rfl ?_
    refine mm_R_call (v := mm_wi) h hA (k2 := 191) (as := [.ref 84]) (r := [.long (mm_lshl (M.2.1 84 34) (8 : Int32)), .ref 84]) rfl (fun _ => rfl) (fun q hq o ho => ms_191 (by omega) hq ho) (fun r1 M2 h => ?_)
    show mm_Runs L xs (d + 1) 237 (116, [some (.ref 84), some (.int v1), some (.long v2), z3, some (.int v4)], [.int r1, .long (mm_lshl (M.2.1 84 34) (8 : Int32)), .ref 84], M2) o
    refine mm_Runs.seq (l := [(116, .i2l, 1), (117, .lor, 1), (118, .putfield 325, 3), (121, .iinc 4 1, 3), (124, .goto (-26), 3)]) (S2 := (98, [some (.ref 84), some (.int v1), some (.long v2), (mm_no2 z3), some (.int (v4 + (1 : Int32)))], [], (mm_pl M2 84 34 ((mm_lshl (M.2.1 84 34) (8 : Int32)) ||| r1.toInt64)))) (by decide +kernel) (hO := mm_own_237) rfl ?_
    cases h
    exact (show mp_237_98 L xs (d + 1) v1 v2 (v4 + (1 : Int32)) (mm_pl M2 84 34 ((mm_lshl (M.2.1 84 34) (8 : Int32)) ||| r1.toInt64)) o from hA) ((mm_no2 z3))
  · replace h := mm_iq hc h
    cases h
    exact (show mp_237_127 L xs (d + 1) v1 v2 M o from hA) z3 (some (.int v4))
theorem ms_237_L98 {L : Nat} {xs : Nat → Int32} {d : Nat} (hd : 7 ≤ d) {v1 : Int32} {v2 : Int64} {v4 : Int32} {β : Type} {K : β → mm_M → mm_E → Prop} {F : (Unit) → mm_M → mm_O β} {M : mm_M} {q : (β ⊕ Nat) × mm_M} {o : mm_E} (h : mm_B (mf_237_L98 v1 v2 v4 M) F = some q) (hA : mm_A K q o) (hx : ∀ (r : (Unit)) (M2 : mm_M), F r M2 = some q → (fun r M o => mp_237_127 L xs (d) v1 v2 M o) r M2 o) : mp_237_98 L xs d v1 v2 v4 M o := by
  unfold mf_237_L98 at h
  exact mm_R_loop (step := (fun s M => mf_237_b98 v1 v2 s M)) (s := v4) (M := M) (P := (fun s M o => mp_237_98 L xs (d) v1 v2 s M o)) (X := (fun r M o => mp_237_127 L xs (d) v1 v2 M o)) h hA (fun s M q hq hA => ms_237_b98 (v1 := v1) (v2 := v2) (v4 := s) (M := M) (q := q) hd hq hA) hx
def mp_237_164 (L : Nat) (xs : Nat → Int32) (d : Nat) (v2 : Int64) (v4 : Int32) (M : mm_M) (o : mm_E) : Prop := ∀ z1 z3 : Option Value, mm_Runs L xs d 237 (164, [some (.ref 84), z1, some (.long v2), z3, some (.int v4)], [], M) o
def mp_237_188 (L : Nat) (xs : Nat → Int32) (d : Nat) (v2 : Int64) (M : mm_M) (o : mm_E) : Prop := ∀ z1 z3 z4 : Option Value, mm_Runs L xs d 237 (188, [some (.ref 84), z1, some (.long v2), z3, z4], [], M) o
set_option maxRecDepth 8000 in
set_option maxHeartbeats 4000000 in
theorem ms_237_b164 {L : Nat} {xs : Nat → Int32} {d : Nat} (hd : 7 ≤ d) {v2 : Int64} {v4 : Int32} {M : mm_M} {q : (((Int32) ⊕ (Unit)) ⊕ Nat) × mm_M} {o : mm_E} (h : mf_237_b164 v2 v4 M = some q) (hA : mm_A (mm_K2 (fun s M o => mp_237_164 L xs (d) v2 s M o) (fun r M o => mp_237_188 L xs (d) v2 M o)) q o) : mp_237_164 L xs d v2 v4 M o := by
  unfold mf_237_b164 at h
  obtain ⟨d, rfl⟩ := mm_d1 (n := 6) hd
  intro z1 z3
  show mm_Runs L xs (d + 1) 237 (164, [some (.ref 84), z1, some (.long v2), z3, some (.int v4)], [], M) o
  refine mm_Runs.seq (l := [(164, .iload 4, 2), (166, .sipush 14540, 3)]) (S2 := (169, [some (.ref 84), z1, some (.long v2), z3, some (.int v4)], [.int (14540 : Int32), .int v4], M)) (by decide +kernel) (hO := mm_own_237) rfl ?_
  refine mm_R_ige (t := 188) rfl rfl rfl (fun hc => ?_) (fun hc => ?_)
  · replace h := mm_ip hc h
    refine mm_Runs.seq (l := [(172, .aload_n 0, 1), (173, .getfield 50, 3), (176, .iload 4, 2), (178, .sipush 1024, 3)]) (S2 := (181, [some (.ref 84), z1, some (.long v2), z3, some (.int v4)], [.int (1024 : Int32), .int v4, .ref 98], M)) (by decide +kernel) (hO := mm_own_237) rfl ?_
    obtain ⟨hb, h⟩ := mm_gd h
    refine mm_R_iast rfl rfl hb ?_
    refine mm_Runs.seq (l := [(182, .iinc 4 1, 3), (185, .goto (-21), 3)]) (S2 := (164, [some (.ref 84), z1, some (.long v2), (mm_no2 z3), some (.int (v4 + (1 : Int32)))], [], (mm_pi M 98 v4.toNatClampNeg (1024 : Int32)))) (by decide +kernel) (hO := mm_own_237) rfl ?_
    cases h
    exact (show mp_237_164 L xs (d + 1) v2 (v4 + (1 : Int32)) (mm_pi M 98 v4.toNatClampNeg (1024 : Int32)) o from hA) z1 ((mm_no2 z3))
  · replace h := mm_iq hc h
    cases h
    exact (show mp_237_188 L xs (d + 1) v2 M o from hA) z1 z3 (some (.int v4))
theorem ms_237_L164 {L : Nat} {xs : Nat → Int32} {d : Nat} (hd : 7 ≤ d) {v2 : Int64} {v4 : Int32} {β : Type} {K : β → mm_M → mm_E → Prop} {F : (Unit) → mm_M → mm_O β} {M : mm_M} {q : (β ⊕ Nat) × mm_M} {o : mm_E} (h : mm_B (mf_237_L164 v2 v4 M) F = some q) (hA : mm_A K q o) (hx : ∀ (r : (Unit)) (M2 : mm_M), F r M2 = some q → (fun r M o => mp_237_188 L xs (d) v2 M o) r M2 o) : mp_237_164 L xs d v2 v4 M o := by
  unfold mf_237_L164 at h
  exact mm_R_loop (step := (fun s M => mf_237_b164 v2 s M)) (s := v4) (M := M) (P := (fun s M o => mp_237_164 L xs (d) v2 s M o)) (X := (fun r M o => mp_237_188 L xs (d) v2 M o)) h hA (fun s M q hq hA => ms_237_b164 (v2 := v2) (v4 := s) (M := M) (q := q) hd hq hA) hx
def mp_237_196 (L : Nat) (xs : Nat → Int32) (d : Nat) (v2 : Int64) (v4 : Int32) (M : mm_M) (o : mm_E) : Prop := ∀ z1 z3 : Option Value, mm_Runs L xs d 237 (196, [some (.ref 84), z1, some (.long v2), z3, some (.int v4)], [], M) o
def mp_237_216 (L : Nat) (xs : Nat → Int32) (d : Nat) (v2 : Int64) (M : mm_M) (o : mm_E) : Prop := ∀ z1 z3 z4 : Option Value, mm_Runs L xs d 237 (216, [some (.ref 84), z1, some (.long v2), z3, z4], [], M) o
set_option maxRecDepth 8000 in
set_option maxHeartbeats 4000000 in
theorem ms_237_b196 {L : Nat} {xs : Nat → Int32} {d : Nat} (hd : 7 ≤ d) {v2 : Int64} {v4 : Int32} {M : mm_M} {q : (((Int32) ⊕ (Unit)) ⊕ Nat) × mm_M} {o : mm_E} (h : mf_237_b196 v2 v4 M = some q) (hA : mm_A (mm_K2 (fun s M o => mp_237_196 L xs (d) v2 s M o) (fun r M o => mp_237_216 L xs (d) v2 M o)) q o) : mp_237_196 L xs d v2 v4 M o := by
  unfold mf_237_b196 at h
  obtain ⟨d, rfl⟩ := mm_d1 (n := 6) hd
  intro z1 z3
  show mm_Runs L xs (d + 1) 237 (196, [some (.ref 84), z1, some (.long v2), z3, some (.int v4)], [], M) o
  refine mm_Runs.seq (l := [(196, .iload 4, 2), (198, .iconst 4, 1)]) (S2 := (199, [some (.ref 84), z1, some (.long v2), z3, some (.int v4)], [.int (4 : Int32), .int v4], M)) (by decide +kernel) (hO := mm_own_237) rfl ?_
  refine mm_R_ige (t := 216) rfl rfl rfl (fun hc => ?_) (fun hc => ?_)
  · replace h := mm_ip hc h
    refine mm_Runs.seq (l := [(202, .aload_n 0, 1), (203, .getfield 53, 3), (206, .iload 4, 2), (208, .lconst 1, 1)]) (S2 := (209, [some (.ref 84), z1, some (.long v2), z3, some (.int v4)], [.long (1 : Int64), .int v4, .ref 99], M)) (by decide +kernel) (hO := mm_own_237) rfl ?_
    obtain ⟨hb, h⟩ := mm_gd h
    refine mm_R_last rfl rfl hb ?_
    refine mm_Runs.seq (l := [(210, .iinc 4 1, 3), (213, .goto (-17), 3)]) (S2 := (196, [some (.ref 84), z1, some (.long v2), (mm_no2 z3), some (.int (v4 + (1 : Int32)))], [], (mm_pl M 99 v4.toNatClampNeg (1 : Int64)))) (by decide +kernel) (hO := mm_own_237) rfl ?_
    cases h
    exact (show mp_237_196 L xs (d + 1) v2 (v4 + (1 : Int32)) (mm_pl M 99 v4.toNatClampNeg (1 : Int64)) o from hA) z1 ((mm_no2 z3))
  · replace h := mm_iq hc h
    cases h
    exact (show mp_237_216 L xs (d + 1) v2 M o from hA) z1 z3 (some (.int v4))
theorem ms_237_L196 {L : Nat} {xs : Nat → Int32} {d : Nat} (hd : 7 ≤ d) {v2 : Int64} {v4 : Int32} {β : Type} {K : β → mm_M → mm_E → Prop} {F : (Unit) → mm_M → mm_O β} {M : mm_M} {q : (β ⊕ Nat) × mm_M} {o : mm_E} (h : mm_B (mf_237_L196 v2 v4 M) F = some q) (hA : mm_A K q o) (hx : ∀ (r : (Unit)) (M2 : mm_M), F r M2 = some q → (fun r M o => mp_237_216 L xs (d) v2 M o) r M2 o) : mp_237_196 L xs d v2 v4 M o := by
  unfold mf_237_L196 at h
  exact mm_R_loop (step := (fun s M => mf_237_b196 v2 s M)) (s := v4) (M := M) (P := (fun s M o => mp_237_196 L xs (d) v2 s M o)) (X := (fun r M o => mp_237_216 L xs (d) v2 M o)) h hA (fun s M q hq hA => ms_237_b196 (v2 := v2) (v4 := s) (M := M) (q := q) hd hq hA) hx
def mp_237_219 (L : Nat) (xs : Nat → Int32) (d : Nat) (v2 : Int64) (v4 : Int32) (M : mm_M) (o : mm_E) : Prop := ∀ z1 z3 : Option Value, mm_Runs L xs d 237 (219, [some (.ref 84), z1, some (.long v2), z3, some (.int v4)], [], M) o
def mp_237_251 (L : Nat) (xs : Nat → Int32) (d : Nat) (M : mm_M) (o : mm_E) : Prop := ∀ z1 z2 z3 z4 : Option Value, mm_Runs L xs d 237 (251, [some (.ref 84), z1, z2, z3, z4], [], M) o
set_option maxRecDepth 8000 in
set_option maxHeartbeats 4000000 in
theorem ms_237_b219 {L : Nat} {xs : Nat → Int32} {d : Nat} (hd : 7 ≤ d) {v2 : Int64} {v4 : Int32} {M : mm_M} {q : (((Int32) ⊕ (Unit)) ⊕ Nat) × mm_M} {o : mm_E} (h : mf_237_b219 v2 v4 M = some q) (hA : mm_A (mm_K2 (fun s M o => mp_237_219 L xs (d) v2 s M o) (fun r M o => mp_237_251 L xs (d) M o)) q o) : mp_237_219 L xs d v2 v4 M o := by
  unfold mf_237_b219 at h
  obtain ⟨d, rfl⟩ := mm_d1 (n := 6) hd
  intro z1 z3
  show mm_Runs L xs (d + 1) 237 (219, [some (.ref 84), z1, some (.long v2), z3, some (.int v4)], [], M) o
  refine mm_Runs.seq (l := [(219, .iload 4, 2)]) (S2 := (221, [some (.ref 84), z1, some (.long v2), z3, some (.int v4)], [.int v4], M)) (by decide +kernel) (hO := mm_own_237) rfl ?_
  refine mm_R_zeq (t := 251) rfl rfl rfl (fun hc => ?_) (fun hc => ?_)
  · replace h := mm_ip hc h
    cases h
    exact (show mp_237_251 L xs (d + 1) M o from hA) z1 (some (.long v2)) z3 (some (.int v4))
  · replace h := mm_iq hc h
    refine mm_Runs.seq (l := [(224, .aload_n 0, 1), (225, .getfield 154, 3)]) (S2 := (228, [some (.ref 84), z1, some (.long v2), z3, some (.int v4)], [.int (M.1 84 7)], M)) (by decide +kernel) (hO := mm_own_237) rfl ?_
    refine mm_R_zne (t := 251) rfl rfl rfl (fun hc => ?_) (fun hc => ?_)
    · replace h := mm_ip hc h
      refine mm_Runs.seq (l := [(231, .aload_n 0, 1), (232, .getfield 98, 3), (235, .i2l, 1), (236, .lload_n 2, 1)]) (S2 := (237, [some (.ref 84), z1, some (.long v2), z3, some (.int v4)], [.long v2, .long (M.1 84 4).toInt64], M)) (by decide +kernel) (hO := mm_own_237) rfl ?_
      refine mm_R_leq (t := 251) rfl rfl rfl rfl (fun hc => ?_) (fun hc => ?_)
      · replace h := mm_ip hc h
        cases h
        exact (show mp_237_251 L xs (d + 1) M o from hA) z1 (some (.long v2)) z3 (some (.int v4))
      · replace h := mm_iq hc h
        refine mm_Runs.seq (l := [(241, .aload_n 0, 1), (242, .lload_n 2, 1)]) (S2 := (243, [some (.ref 84), z1, some (.long v2), z3, some (.int v4)], [.long v2, .ref 84], M)) (by decide +kernel) (hO := mm_own_237) rfl ?_
        refine mm_R_call (v := mm_wi) h hA (k2 := 238) (as := [.ref 84, .long v2]) (r := []) rfl (fun _ => rfl) (fun q hq o ho => ms_238 (by omega) hq ho) (fun r1 M2 h => ?_)
        show mm_Runs L xs (d + 1) 237 (246, [some (.ref 84), z1, some (.long v2), z3, some (.int v4)], [.int r1], M2) o
        refine mm_Runs.seq (l := [(246, .istore 4, 2), (248, .goto (-29), 3)]) (S2 := (219, [some (.ref 84), z1, some (.long v2), (mm_no2 z3), some (.int r1)], [], M2)) (by decide +kernel) (hO := mm_own_237) rfl ?_
        cases h
        exact (show mp_237_219 L xs (d + 1) v2 r1 M2 o from hA) z1 ((mm_no2 z3))
    · replace h := mm_iq hc h
      cases h
      exact (show mp_237_251 L xs (d + 1) M o from hA) z1 (some (.long v2)) z3 (some (.int v4))
theorem ms_237_L219 {L : Nat} {xs : Nat → Int32} {d : Nat} (hd : 7 ≤ d) {v2 : Int64} {v4 : Int32} {β : Type} {K : β → mm_M → mm_E → Prop} {F : (Unit) → mm_M → mm_O β} {M : mm_M} {q : (β ⊕ Nat) × mm_M} {o : mm_E} (h : mm_B (mf_237_L219 v2 v4 M) F = some q) (hA : mm_A K q o) (hx : ∀ (r : (Unit)) (M2 : mm_M), F r M2 = some q → (fun r M o => mp_237_251 L xs (d) M o) r M2 o) : mp_237_219 L xs d v2 v4 M o := by
  unfold mf_237_L219 at h
  exact mm_R_loop (step := (fun s M => mf_237_b219 v2 s M)) (s := v4) (M := M) (P := (fun s M o => mp_237_219 L xs (d) v2 s M o)) (X := (fun r M o => mp_237_251 L xs (d) M o)) h hA (fun s M q hq hA => ms_237_b219 (v2 := v2) (v4 := s) (M := M) (q := q) hd hq hA) hx
set_option maxRecDepth 8000 in
set_option maxHeartbeats 4000000 in
theorem ms_237_j251 {L : Nat} {xs : Nat → Int32} {d : Nat} (hd : 7 ≤ d) {M : mm_M} {q : (Unit ⊕ Nat) × mm_M} {o : mm_E} (h : mf_237_j251 M = some q) (hA : mm_A (mm_Kr mm_wv) q o) : mp_237_251 L xs d M o := by
  unfold mf_237_j251 at h
  obtain ⟨d, rfl⟩ := mm_d1 (n := 6) hd
  intro z1 z2 z3 z4
  show mm_Runs L xs (d + 1) 237 (251, [some (.ref 84), z1, z2, z3, z4], [], M) o
  refine mm_Runs.seq (l := [(251, .aload_n 0, 1), (252, .getfield 154, 3)]) (S2 := (255, [some (.ref 84), z1, z2, z3, z4], [.int (M.1 84 7)], M)) (by decide +kernel) (hO := mm_own_237) rfl ?_
  refine mm_R_zne (t := 271) rfl rfl rfl (fun hc => ?_) (fun hc => ?_)
  · replace h := mm_ip hc h
    refine mm_Runs.seq (l := [(258, .aload_n 0, 1), (259, .getfield 325, 3), (262, .lconst 0, 1)]) (S2 := (263, [some (.ref 84), z1, z2, z3, z4], [.long (0 : Int64), .long (M.2.1 84 34)], M)) (by decide +kernel) (hO := mm_own_237) rfl ?_
    refine mm_R_leq (t := 271) rfl rfl rfl rfl (fun hc => ?_) (fun hc => ?_)
    · replace h := mm_ip hc h
      cases h
      exact mm_R_retv rfl rfl hA
    · replace h := mm_iq hc h
      refine mm_Runs.seq (l := [(267, .aload_n 0, 1)]) (S2 := (268, [some (.ref 84), z1, z2, z3, z4], [.ref 84], M)) (by decide +kernel) (hO := mm_own_237) rfl ?_
      refine mm_R_call (v := mm_wv) h hA (k2 := 190) (as := [.ref 84]) (r := []) rfl (fun _ => rfl) (fun q hq o ho => ms_190 (by omega) hq ho) (fun _ M1 h => ?_)
      show mm_Runs L xs (d + 1) 237 (271, [some (.ref 84), z1, z2, z3, z4], [], M1) o
      cases h
      exact mm_R_retv rfl rfl hA
  · replace h := mm_iq hc h
    cases h
    exact mm_R_retv rfl rfl hA
set_option maxRecDepth 8000 in
set_option maxHeartbeats 4000000 in
theorem ms_237_j127 {L : Nat} {xs : Nat → Int32} {d : Nat} (hd : 7 ≤ d) {v1 : Int32} {v2 : Int64} {M : mm_M} {q : (Unit ⊕ Nat) × mm_M} {o : mm_E} (h : mf_237_j127 v1 v2 M = some q) (hA : mm_A (mm_Kr mm_wv) q o) : mp_237_127 L xs d v1 v2 M o := by
  unfold mf_237_j127 at h
  obtain ⟨d, rfl⟩ := mm_d1 (n := 6) hd
  intro z3 z4
  show mm_Runs L xs (d + 1) 237 (127, [some (.ref 84), some (.int v1), some (.long v2), z3, z4], [], M) o
  refine mm_Runs.seq (l := [(127, .aload_n 0, 1), (128, .getfield 154, 3)]) (S2 := (131, [some (.ref 84), some (.int v1), some (.long v2), z3, z4], [.int (M.1 84 7)], M)) (by decide +kernel) (hO := mm_own_237) rfl ?_
  refine mm_R_zeq (t := 135) rfl rfl rfl (fun hc => ?_) (fun hc => ?_)
  · replace h := mm_ip hc h
    refine mm_Runs.seq (l := [(135, .aload_n 0, 1), (136, .iload_n 1, 1), (137, .bipush 9, 2), (139, .irem, 1), (140, .putfield 340, 3), (143, .aload_n 0, 1), (144, .iload_n 1, 1), (145, .bipush 9, 2), (147, .idiv, 1), (148, .iconst 5, 1), (149, .irem, 1), (150, .putfield 343, 3), (153, .aload_n 0, 1), (154, .iload_n 1, 1), (155, .bipush 45, 2), (157, .idiv, 1), (158, .putfield 346, 3), (161, .iconst 0, 1), (162, .istore 4, 2)]) (S2 := (164, [some (.ref 84), some (.int v1), some (.long v2), (mm_no2 z3), some (.int (0 : Int32))], [], (mm_pi (mm_pi (mm_pi M 84 37 (mm_rem v1 (9 : Int32))) 84 38 (mm_rem (v1 / (9 : Int32)) (5 : Int32))) 84 39 (v1 / (45 : Int32))))) (by decide +kernel) (hO := mm_own_237) rfl ?_
    have hp : mp_237_164 L xs (d + 1) v2 (0 : Int32) (mm_pi (mm_pi (mm_pi M 84 37 (mm_rem v1 (9 : Int32))) 84 38 (mm_rem (v1 / (9 : Int32)) (5 : Int32))) 84 39 (v1 / (45 : Int32))) o := by
      refine ms_237_L164 hd h hA (fun r2 M1 h => ?_)
      intro y3 y4 y5
      show mm_Runs L xs (d + 1) 237 (188, [some (.ref 84), y3, some (.long v2), y4, y5], [], M1) o
      refine mm_Runs.seq (l := [(188, .aload_n 0, 1), (189, .iconst 0, 1), (190, .putfield 349, 3), (193, .iconst 0, 1), (194, .istore 4, 2)]) (S2 := (196, [some (.ref 84), y3, some (.long v2), (mm_no2 y4), some (.int (0 : Int32))], [], (mm_pi M1 84 35 (0 : Int32)))) (by decide +kernel) (hO := mm_own_237) rfl ?_
      have hp : mp_237_196 L xs (d + 1) v2 (0 : Int32) (mm_pi M1 84 35 (0 : Int32)) o := by
        refine ms_237_L196 hd h hA (fun r7 M6 h => ?_)
        intro y8 y9 y10
        show mm_Runs L xs (d + 1) 237 (216, [some (.ref 84), y8, some (.long v2), y9, y10], [], M6) o
        refine mm_Runs.seq (l := [(216, .iconst 1, 1), (217, .istore 4, 2)]) (S2 := (219, [some (.ref 84), y8, some (.long v2), (mm_no2 y9), some (.int (1 : Int32))], [], M6)) (by decide +kernel) (hO := mm_own_237) rfl ?_
        have hp : mp_237_219 L xs (d + 1) v2 (1 : Int32) M6 o := by
          refine ms_237_L219 hd h hA (fun r12 M11 h => ?_)
          intro y13 y14 y15 y16
          show mm_Runs L xs (d + 1) 237 (251, [some (.ref 84), y13, y14, y15, y16], [], M11) o
          exact (ms_237_j251 hd h hA : mp_237_251 L xs (d + 1) M11 o) y13 y14 y15 y16
        exact hp y8 ((mm_no2 y9))
      exact hp y3 ((mm_no2 y4))
    exact hp (some (.int v1)) ((mm_no2 z3))
  · replace h := mm_iq hc h
    cases h
    exact mm_R_retv rfl rfl hA
set_option maxRecDepth 8000 in
set_option maxHeartbeats 4000000 in
theorem ms_237_j78 {L : Nat} {xs : Nat → Int32} {d : Nat} (hd : 7 ≤ d) {v1 : Int32} {v2 : Int64} {M : mm_M} {q : (Unit ⊕ Nat) × mm_M} {o : mm_E} (h : mf_237_j78 v1 v2 M = some q) (hA : mm_A (mm_Kr mm_wv) q o) : mp_237_78 L xs d v1 v2 M o := by
  unfold mf_237_j78 at h
  obtain ⟨d, rfl⟩ := mm_d1 (n := 6) hd
  intro z3 z4
  show mm_Runs L xs (d + 1) 237 (78, [some (.ref 84), some (.int v1), some (.long v2), z3, z4], [], M) o
  refine mm_Runs.seq (l := [(78, .aload_n 0, 1), (79, .iconst 0, 1)]) (S2 := (80, [some (.ref 84), some (.int v1), some (.long v2), z3, z4], [.int (0 : Int32), .ref 84], M)) (by decide +kernel) (hO := mm_own_237) rfl ?_
  refine mm_R_call (v := mm_wv) h hA (k2 := 192) (as := [.ref 84, .int (0 : Int32)]) (r := []) rfl (fun _ => rfl) (fun q hq o ho => ms_192 (by omega) hq ho) (fun _ M1 h => ?_)
  show mm_Runs L xs (d + 1) 237 (83, [some (.ref 84), some (.int v1), some (.long v2), z3, z4], [], M1) o
  refine mm_Runs.seq (l := [(83, .aload_n 0, 1), (84, .ldc2_w 272, 3), (87, .putfield 319, 3), (90, .aload_n 0, 1), (91, .lconst 0, 1), (92, .putfield 325, 3), (95, .iconst 0, 1), (96, .istore 4, 2)]) (S2 := (98, [some (.ref 84), some (.int v1), some (.long v2), (mm_no2 z3), some (.int (0 : Int32))], [], (mm_pl (mm_pl M1 84 33 (4294967295 : Int64)) 84 34 (0 : Int64)))) (by decide +kernel) (hO := mm_own_237) rfl ?_
  have hp : mp_237_98 L xs (d + 1) v1 v2 (0 : Int32) (mm_pl (mm_pl M1 84 33 (4294967295 : Int64)) 84 34 (0 : Int64)) o := by
    refine ms_237_L98 hd h hA (fun r3 M2 h => ?_)
    intro y4 y5
    show mm_Runs L xs (d + 1) 237 (127, [some (.ref 84), some (.int v1), some (.long v2), y4, y5], [], M2) o
    exact (ms_237_j127 hd h hA : mp_237_127 L xs (d + 1) v1 v2 M2 o) y4 y5
  exact hp ((mm_no2 z3))
set_option maxRecDepth 8000 in
set_option maxHeartbeats 4000000 in
theorem ms_237_j74 {L : Nat} {xs : Nat → Int32} {d : Nat} (hd : 7 ≤ d) {v1 : Int32} {v2 : Int64} {M : mm_M} {q : (Unit ⊕ Nat) × mm_M} {o : mm_E} (h : mf_237_j74 v1 v2 M = some q) (hA : mm_A (mm_Kr mm_wv) q o) : mp_237_74 L xs d v1 v2 M o := by
  unfold mf_237_j74 at h
  obtain ⟨d, rfl⟩ := mm_d1 (n := 6) hd
  intro z3 z4
  show mm_Runs L xs (d + 1) 237 (74, [some (.ref 84), some (.int v1), some (.long v2), z3, z4], [], M) o
  refine mm_Runs.seq (l := [(74, .aload_n 0, 1)]) (S2 := (75, [some (.ref 84), some (.int v1), some (.long v2), z3, z4], [.ref 84], M)) (by decide +kernel) (hO := mm_own_237) rfl ?_
  refine mm_R_call (v := mm_wv) h hA (k2 := 190) (as := [.ref 84]) (r := []) rfl (fun _ => rfl) (fun q hq o ho => ms_190 (by omega) hq ho) (fun _ M1 h => ?_)
  show mm_Runs L xs (d + 1) 237 (78, [some (.ref 84), some (.int v1), some (.long v2), z3, z4], [], M1) o
  exact (ms_237_j78 hd h hA : mp_237_78 L xs (d + 1) v1 v2 M1 o) z3 z4
set_option maxRecDepth 8000 in
set_option maxHeartbeats 4000000 in
theorem ms_237_j38 {L : Nat} {xs : Nat → Int32} {d : Nat} (hd : 7 ≤ d) {v1 : Int32} {M : mm_M} {q : (Unit ⊕ Nat) × mm_M} {o : mm_E} (h : mf_237_j38 v1 M = some q) (hA : mm_A (mm_Kr mm_wv) q o) : mp_237_38 L xs d v1 M o := by
  unfold mf_237_j38 at h
  obtain ⟨d, rfl⟩ := mm_d1 (n := 6) hd
  intro z2 z3 z4
  show mm_Runs L xs (d + 1) 237 (38, [some (.ref 84), some (.int v1), z2, z3, z4], [], M) o
  refine mm_Runs.seq (l := [(38, .aload_n 0, 1), (39, .iconst 4, 1)]) (S2 := (40, [some (.ref 84), some (.int v1), z2, z3, z4], [.int (4 : Int32), .ref 84], M)) (by decide +kernel) (hO := mm_own_237) rfl ?_
  refine mm_R_call (v := mm_wl) h hA (k2 := 193) (as := [.ref 84, .int (4 : Int32)]) (r := []) rfl (fun _ => rfl) (fun q hq o ho => ms_193 (by omega) hq ho) (fun r1 M2 h => ?_)
  show mm_Runs L xs (d + 1) 237 (43, [some (.ref 84), some (.int v1), z2, z3, z4], [.long r1], M2) o
  refine mm_Runs.seq (l := [(43, .pop2, 1), (44, .aload_n 0, 1), (45, .bipush 8, 2)]) (S2 := (47, [some (.ref 84), some (.int v1), z2, z3, z4], [.int (8 : Int32), .ref 84], M2)) (by decide +kernel) (hO := mm_own_237) rfl ?_
  refine mm_R_call (v := mm_wl) h hA (k2 := 193) (as := [.ref 84, .int (8 : Int32)]) (r := []) rfl (fun _ => rfl) (fun q hq o ho => ms_193 (by omega) hq ho) (fun r3 M4 h => ?_)
  show mm_Runs L xs (d + 1) 237 (50, [some (.ref 84), some (.int v1), z2, z3, z4], [.long r3], M4) o
  refine mm_Runs.seq (l := [(50, .lstore_n 2, 1), (51, .aload_n 0, 1), (52, .getfield 154, 3)]) (S2 := (55, [some (.ref 84), some (.int v1), some (.long r3), none, z4], [.int (M4.1 84 7)], M4)) (by decide +kernel) (hO := mm_own_237) rfl ?_
  refine mm_R_zne (t := 78) rfl rfl rfl (fun hc => ?_) (fun hc => ?_)
  · replace h := mm_ip hc h
    refine mm_Runs.seq (l := [(58, .lload_n 2, 1), (59, .ldc2_w 338, 3)]) (S2 := (62, [some (.ref 84), some (.int v1), some (.long r3), none, z4], [.long (-1 : Int64), .long r3], M4)) (by decide +kernel) (hO := mm_own_237) rfl ?_
    refine mm_R_llt (t := 74) rfl rfl rfl rfl (fun hc => ?_) (fun hc => ?_)
    · replace h := mm_ip hc h
      exact (ms_237_j74 hd h hA : mp_237_74 L xs (d + 1) v1 r3 M4 o) none z4
    · replace h := mm_iq hc h
      refine mm_Runs.seq (l := [(66, .lload_n 2, 1), (67, .ldc2_w 274, 3)]) (S2 := (70, [some (.ref 84), some (.int v1), some (.long r3), none, z4], [.long (16384 : Int64), .long r3], M4)) (by decide +kernel) (hO := mm_own_237) rfl ?_
      refine mm_R_lle (t := 78) rfl rfl rfl rfl (fun hc => ?_) (fun hc => ?_)
      · replace h := mm_ip hc h
        exact (ms_237_j74 hd h hA : mp_237_74 L xs (d + 1) v1 r3 M4 o) none z4
      · replace h := mm_iq hc h
        exact (ms_237_j78 hd h hA : mp_237_78 L xs (d + 1) v1 r3 M4 o) none z4
  · replace h := mm_iq hc h
    exact (ms_237_j78 hd h hA : mp_237_78 L xs (d + 1) v1 r3 M4 o) none z4
set_option maxRecDepth 8000 in
set_option maxHeartbeats 4000000 in
theorem ms_237_j34 {L : Nat} {xs : Nat → Int32} {d : Nat} (hd : 7 ≤ d) {v1 : Int32} {M : mm_M} {q : (Unit ⊕ Nat) × mm_M} {o : mm_E} (h : mf_237_j34 v1 M = some q) (hA : mm_A (mm_Kr mm_wv) q o) : mp_237_34 L xs d v1 M o := by
  unfold mf_237_j34 at h
  obtain ⟨d, rfl⟩ := mm_d1 (n := 6) hd
  intro z2 z3 z4
  show mm_Runs L xs (d + 1) 237 (34, [some (.ref 84), some (.int v1), z2, z3, z4], [], M) o
  refine mm_Runs.seq (l := [(34, .aload_n 0, 1)]) (S2 := (35, [some (.ref 84), some (.int v1), z2, z3, z4], [.ref 84], M)) (by decide +kernel) (hO := mm_own_237) rfl ?_
  refine mm_R_call (v := mm_wv) h hA (k2 := 190) (as := [.ref 84]) (r := []) rfl (fun _ => rfl) (fun q hq o ho => ms_190 (by omega) hq ho) (fun _ M1 h => ?_)
  show mm_Runs L xs (d + 1) 237 (38, [some (.ref 84), some (.int v1), z2, z3, z4], [], M1) o
  exact (ms_237_j38 hd h hA : mp_237_38 L xs (d + 1) v1 M1 o) z2 z3 z4
set_option maxRecDepth 8000 in
set_option maxHeartbeats 4000000 in
theorem ms_237 {L : Nat} {xs : Nat → Int32} {d : Nat} (hd : 7 ≤ d) {M : mm_M} {q : (Unit ⊕ Nat) × mm_M} {o : mm_E} (h : mf_237 M = some q) (hA : mm_A (mm_Kr mm_wv) q o) : mm_Runs L xs d 237 (0, mm_ent (mm_ml 237) [.ref 84], [], M) o := by
  unfold mf_237 at h
  obtain ⟨d, rfl⟩ := mm_d1 (n := 6) hd
  show mm_Runs L xs (d + 1) 237 (0, [some (.ref 84), none, none, none, none], [], M) o
  refine mm_Runs.seq (l := [(0, .aload_n 0, 1)]) (S2 := (1, [some (.ref 84), none, none, none, none], [.ref 84], M)) (by decide +kernel) (hO := mm_own_237) rfl ?_
  refine mm_R_call (v := mm_wi) h hA (k2 := 191) (as := [.ref 84]) (r := []) rfl (fun _ => rfl) (fun q hq o ho => ms_191 (by omega) hq ho) (fun r1 M2 h => ?_)
  show mm_Runs L xs (d + 1) 237 (4, [some (.ref 84), none, none, none, none], [.int r1], M2) o
  refine mm_Runs.seq (l := [(4, .istore_n 1, 1), (5, .aload_n 0, 1), (6, .getfield 154, 3)]) (S2 := (9, [some (.ref 84), some (.int r1), none, none, none], [.int (M2.1 84 7)], M2)) (by decide +kernel) (hO := mm_own_237) rfl ?_
  refine mm_R_zne (t := 38) rfl rfl rfl (fun hc => ?_) (fun hc => ?_)
  · replace h := mm_ip hc h
    refine mm_Runs.seq (l := [(12, .iload_n 1, 1), (13, .sipush 224, 3)]) (S2 := (16, [some (.ref 84), some (.int r1), none, none, none], [.int (224 : Int32), .int r1], M2)) (by decide +kernel) (hO := mm_own_237) rfl ?_
    refine mm_R_igt (t := 34) rfl rfl rfl (fun hc => ?_) (fun hc => ?_)
    · replace h := mm_ip hc h
      exact (ms_237_j34 hd h hA : mp_237_34 L xs (d + 1) r1 M2 o) none none none
    · replace h := mm_iq hc h
      refine mm_Runs.seq (l := [(19, .iload_n 1, 1), (20, .bipush 9, 2), (22, .irem, 1), (23, .iload_n 1, 1), (24, .bipush 9, 2), (26, .idiv, 1), (27, .iconst 5, 1), (28, .irem, 1), (29, .iadd, 1), (30, .iconst 4, 1)]) (S2 := (31, [some (.ref 84), some (.int r1), none, none, none], [.int (4 : Int32), .int ((mm_rem r1 (9 : Int32)) + (mm_rem (r1 / (9 : Int32)) (5 : Int32)))], M2)) (by decide +kernel) (hO := mm_own_237) rfl ?_
      refine mm_R_ile (t := 38) rfl rfl rfl (fun hc => ?_) (fun hc => ?_)
      · replace h := mm_ip hc h
        exact (ms_237_j34 hd h hA : mp_237_34 L xs (d + 1) r1 M2 o) none none none
      · replace h := mm_iq hc h
        exact (ms_237_j38 hd h hA : mp_237_38 L xs (d + 1) r1 M2 o) none none none
  · replace h := mm_iq hc h
    exact (ms_237_j38 hd h hA : mp_237_38 L xs (d + 1) r1 M2 o) none none none
