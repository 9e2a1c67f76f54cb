/-! MEANINGS ARE SOUND 2 -/
-- 51: PlainPacks$Sink.put(I)V (depth 7)
theorem mm_own_51 : mm_own 51 = 2 := rfl
set_option maxRecDepth 8000 in
set_option maxHeartbeats 4000000 in
theorem ms_51 {L : Nat} {xs : Nat → Int32} {d : Nat} (hd : 7 ≤ d) {v1 : Int32} {M : mm_M} {q : (Unit ⊕ Nat) × mm_M} {o : mm_E} (h : mf_51 v1 M = some q) (hA : mm_A (mm_Kr mm_wv) q o) : mm_Runs L xs d 51 (0, mm_ent (mm_ml 51) [.ref 3, .int v1], [], M) o := by
  unfold mf_51 at h
  show mm_Runs L xs (d) 51 (0, [some (.ref 3), some (.int v1)], [], M) o
  refine mm_Runs.seq (l := [(0, .aload_n 0, 1), (1, .getfield 15, 3), (4, .sipush 16384, 3)]) (S2 := (7, [some (.ref 3), some (.int v1)], [.int (16384 : Int32), .int (M.1 3 1)], M)) (by decide +kernel) (hO := mm_own_51) rfl ?_
  refine mm_R_ilt (t := 20) rfl rfl rfl (fun hc => ?_) (fun hc => ?_)
  · replace h := mm_ip hc h
    refine mm_Runs.seq (l := [(20, .aload_n 0, 1), (21, .getfield 9, 3), (24, .aload_n 0, 1), (25, .getfield 15, 3), (28, .iload_n 1, 1)]) (S2 := (29, [some (.ref 3), some (.int v1)], [.int v1, .int (M.1 3 1), .ref 4], M)) (by decide +kernel) (hO := mm_own_51) rfl ?_
    obtain ⟨hb, h⟩ := mm_gd h
    refine mm_R_iast rfl rfl hb ?_
    refine mm_Runs.seq (l := [(30, .aload_n 0, 1), (31, .dup, 1), (32, .getfield 15, 3), (35, .iconst 1, 1), (36, .iadd, 1), (37, .putfield 15, 3)]) (S2 := (40, [some (.ref 3), some (.int v1)], [], (mm_pi (mm_pi M 4 (M.1 3 1).toNatClampNeg v1) 3 1 ((M.1 3 1) + (1 : Int32))))) (by decide +kernel) (hO := mm_own_51) rfl ?_
    cases h
    exact mm_R_retv rfl rfl hA
  · replace h := mm_iq hc h
    cases h
    exact mm_R_thr rfl rfl rfl (by omega) hA
-- 117: PlainPacks$Pieces.readRuns()V (depth 8)
theorem mm_own_117 : mm_own 117 = 9 := rfl
def mp_117_2 (L : Nat) (xs : Nat → Int32) (d : Nat) (v1 : Int32) (M : mm_M) (o : mm_E) : Prop := ∀ z2 z3 z4 : Option Value, mm_Runs L xs d 117 (2, [some (.ref 41), some (.int v1), z2, z3, z4], [], M) o
def mp_117_111 (L : Nat) (xs : Nat → Int32) (d : Nat) (M : mm_M) (o : mm_E) : Prop := ∀ z0 z1 z2 z3 z4 : Option Value, mm_Runs L xs d 117 (111, [z0, z1, z2, z3, z4], [], M) o
def mp_117_35 (L : Nat) (xs : Nat → Int32) (d : Nat) (v1 : Int32) (v2 : Int32) (v3 : Int32) (M : mm_M) (o : mm_E) : Prop := ∀ z4 : Option Value, mm_Runs L xs d 117 (35, [some (.ref 41), some (.int v1), some (.int v2), some (.int v3), z4], [], M) o
def mp_117_60 (L : Nat) (xs : Nat → Int32) (d : Nat) (v1 : Int32) (M : mm_M) (o : mm_E) : Prop := ∀ z2 z3 z4 : Option Value, mm_Runs L xs d 117 (60, [some (.ref 41), some (.int v1), z2, z3, z4], [], M) o
set_option maxRecDepth 8000 in
set_option maxHeartbeats 4000000 in
theorem ms_117_b35 {L : Nat} {xs : Nat → Int32} {d : Nat} (hd : 8 ≤ d) {v1 : Int32} {v2 : Int32} {v3 : Int32} {M : mm_M} {q : (((Int32) ⊕ (Unit)) ⊕ Nat) × mm_M} {o : mm_E} (h : mf_117_b35 v1 v2 v3 M = some q) (hA : mm_A (mm_K2 (fun s M o => mp_117_35 L xs (d) v1 v2 s M o) (fun r M o => mp_117_60 L xs (d) v1 M o)) q o) : mp_117_35 L xs d v1 v2 v3 M o := by
  unfold mf_117_b35 at h
  obtain ⟨d, rfl⟩ := mm_d1 (n := 7) hd
  intro z4
  show mm_Runs L xs (d + 1) 117 (35, [some (.ref 41), some (.int v1), some (.int v2), some (.int v3), z4], [], M) o
  refine mm_Runs.seq (l := [(35, .iload_n 3, 1), (36, .iload_n 2, 1)]) (S2 := (37, [some (.ref 41), some (.int v1), some (.int v2), some (.int v3), z4], [.int v2, .int v3], M)) (by decide +kernel) (hO := mm_own_117) rfl ?_
  refine mm_R_igt (t := 60) rfl rfl rfl (fun hc => ?_) (fun hc => ?_)
  · replace h := mm_ip hc h
    cases h
    exact (show mp_117_60 L xs (d + 1) v1 M o from hA) (some (.int v2)) (some (.int v3)) z4
  · replace h := mm_iq hc h
    refine mm_Runs.seq (l := [(40, .aload_n 0, 1), (41, .getfield 15, 3), (44, .aload_n 0, 1), (45, .getfield 9, 3)]) (S2 := (48, [some (.ref 41), some (.int v1), some (.int v2), some (.int v3), z4], [.ref 1, .ref 3], M)) (by decide +kernel) (hO := mm_own_117) rfl ?_
    refine mm_R_call (v := mm_wi) h hA (k2 := 44) (as := [.ref 1]) (r := [.ref 3]) rfl (fun _ => rfl) (fun q hq o ho => ms_44 (by omega) hq ho) (fun r1 M2 h => ?_)
    show mm_Runs L xs (d + 1) 117 (51, [some (.ref 41), some (.int v1), some (.int v2), some (.int v3), z4], [.int r1, .ref 3], M2) o
    refine mm_R_call (v := mm_wv) h hA (k2 := 51) (as := [.ref 3, .int r1]) (r := []) rfl (fun _ => rfl) (fun q hq o ho => ms_51 (by omega) hq ho) (fun _ M3 h => ?_)
    show mm_Runs L xs (d + 1) 117 (54, [some (.ref 41), some (.int v1), some (.int v2), some (.int v3), z4], [], M3) o
    refine mm_Runs.seq (l := [(54, .iinc 3 1, 3), (57, .goto (-22), 3)]) (S2 := (35, [some (.ref 41), some (.int v1), some (.int v2), some (.int (v3 + (1 : Int32))), z4], [], M3)) (by decide +kernel) (hO := mm_own_117) rfl ?_
    cases h
    exact (show mp_117_35 L xs (d + 1) v1 v2 (v3 + (1 : Int32)) M3 o from hA) z4
theorem ms_117_L35 {L : Nat} {xs : Nat → Int32} {d : Nat} (hd : 8 ≤ d) {v1 : Int32} {v2 : Int32} {v3 : Int32} {β : Type} {K : β → mm_M → mm_E → Prop} {F : (Unit) → mm_M → mm_O β} {M : mm_M} {q : (β ⊕ Nat) × mm_M} {o : mm_E} (h : mm_B (mf_117_L35 v1 v2 v3 M) F = some q) (hA : mm_A K q o) (hx : ∀ (r : (Unit)) (M2 : mm_M), F r M2 = some q → (fun r M o => mp_117_60 L xs (d) v1 M o) r M2 o) : mp_117_35 L xs d v1 v2 v3 M o := by
  unfold mf_117_L35 at h
  exact mm_R_loop (step := (fun s M => mf_117_b35 v1 v2 s M)) (s := v3) (M := M) (P := (fun s M o => mp_117_35 L xs (d) v1 v2 s M o)) (X := (fun r M o => mp_117_60 L xs (d) v1 M o)) h hA (fun s M q hq hA => ms_117_b35 (v1 := v1) (v2 := v2) (v3 := s) (M := M) (q := q) hd hq hA) hx
def mp_117_81 (L : Nat) (xs : Nat → Int32) (d : Nat) (v1 : Int32) (v2 : Int32) (v3 : Int32) (v4 : Int32) (M : mm_M) (o : mm_E) : Prop := mm_Runs L xs d 117 (81, [some (.ref 41), some (.int v1), some (.int v2), some (.int v3), some (.int v4)], [], M) o
def mp_117_105 (L : Nat) (xs : Nat → Int32) (d : Nat) (v1 : Int32) (M : mm_M) (o : mm_E) : Prop := ∀ z2 z3 z4 : Option Value, mm_Runs L xs d 117 (105, [some (.ref 41), some (.int v1), z2, z3, z4], [], M) o
set_option maxRecDepth 8000 in
set_option maxHeartbeats 4000000 in
theorem ms_117_b81 {L : Nat} {xs : Nat → Int32} {d : Nat} (hd : 8 ≤ d) {v1 : Int32} {v2 : Int32} {v3 : Int32} {v4 : Int32} {M : mm_M} {q : (((Int32) ⊕ (Unit)) ⊕ Nat) × mm_M} {o : mm_E} (h : mf_117_b81 v1 v2 v3 v4 M = some q) (hA : mm_A (mm_K2 (fun s M o => mp_117_81 L xs (d) v1 v2 v3 s M o) (fun r M o => mp_117_105 L xs (d) v1 M o)) q o) : mp_117_81 L xs d v1 v2 v3 v4 M o := by
  unfold mf_117_b81 at h
  obtain ⟨d, rfl⟩ := mm_d1 (n := 7) hd
  show mm_Runs L xs (d + 1) 117 (81, [some (.ref 41), some (.int v1), some (.int v2), some (.int v3), some (.int v4)], [], M) o
  refine mm_Runs.seq (l := [(81, .iload 4, 2), (83, .sipush 257, 3), (86, .iload_n 2, 1), (87, .isub, 1)]) (S2 := (88, [some (.ref 41), some (.int v1), some (.int v2), some (.int v3), some (.int v4)], [.int ((257 : Int32) - v2), .int v4], M)) (by decide +kernel) (hO := mm_own_117) rfl ?_
  refine mm_R_ige (t := 105) rfl rfl rfl (fun hc => ?_) (fun hc => ?_)
  · replace h := mm_ip hc h
    refine mm_Runs.seq (l := [(91, .aload_n 0, 1), (92, .getfield 15, 3), (95, .iload_n 3, 1)]) (S2 := (96, [some (.ref 41), some (.int v1), some (.int v2), some (.int v3), some (.int v4)], [.int v3, .ref 3], M)) (by decide +kernel) (hO := mm_own_117) rfl ?_
    refine mm_R_call (v := mm_wv) h hA (k2 := 51) (as := [.ref 3, .int v3]) (r := []) rfl (fun _ => rfl) (fun q hq o ho => ms_51 (by omega) hq ho) (fun _ M1 h => ?_)
    show mm_Runs L xs (d + 1) 117 (99, [some (.ref 41), some (.int v1), some (.int v2), some (.int v3), some (.int v4)], [], M1) o
    refine mm_Runs.seq (l := [(99, .iinc 4 1, 3), (102, .goto (-21), 3)]) (S2 := (81, [some (.ref 41), some (.int v1), some (.int v2), some (.int v3), some (.int (v4 + (1 : Int32)))], [], M1)) (by decide +kernel) (hO := mm_own_117) rfl ?_
    cases h
    exact (show mp_117_81 L xs (d + 1) v1 v2 v3 (v4 + (1 : Int32)) M1 o from hA)
  · replace h := mm_iq hc h
    cases h
    exact (show mp_117_105 L xs (d + 1) v1 M o from hA) (some (.int v2)) (some (.int v3)) (some (.int v4))
theorem ms_117_L81 {L : Nat} {xs : Nat → Int32} {d : Nat} (hd : 8 ≤ d) {v1 : Int32} {v2 : Int32} {v3 : Int32} {v4 : Int32} {β : Type} {K : β → mm_M → mm_E → Prop} {F : (Unit) → mm_M → mm_O β} {M : mm_M} {q : (β ⊕ Nat) × mm_M} {o : mm_E} (h : mm_B (mf_117_L81 v1 v2 v3 v4 M) F = some q) (hA : mm_A K q o) (hx : ∀ (r : (Unit)) (M2 : mm_M), F r M2 = some q → (fun r M o => mp_117_105 L xs (d) v1 M o) r M2 o) : mp_117_81 L xs d v1 v2 v3 v4 M o := by
  unfold mf_117_L81 at h
  exact mm_R_loop (step := (fun s M => mf_117_b81 v1 v2 v3 s M)) (s := v4) (M := M) (P := (fun s M o => mp_117_81 L xs (d) v1 v2 v3 s M o)) (X := (fun r M o => mp_117_105 L xs (d) v1 M o)) h hA (fun s M q hq hA => ms_117_b81 (v1 := v1) (v2 := v2) (v3 := v3) (v4 := s) (M := M) (q := q) hd hq hA) hx
set_option maxRecDepth 8000 in
set_option maxHeartbeats 4000000 in
theorem ms_117_b2 {L : Nat} {xs : Nat → Int32} {d : Nat} (hd : 8 ≤ d) {v1 : Int32} {M : mm_M} {q : (((Int32) ⊕ (Unit)) ⊕ Nat) × mm_M} {o : mm_E} (h : mf_117_b2 v1 M = some q) (hA : mm_A (mm_K2 (fun s M o => mp_117_2 L xs (d) s M o) (fun r M o => mp_117_111 L xs (d) M o)) q o) : mp_117_2 L xs d v1 M o := by
  unfold mf_117_b2 at h
  obtain ⟨d, rfl⟩ := mm_d1 (n := 7) hd
  intro z2 z3 z4
  show mm_Runs L xs (d + 1) 117 (2, [some (.ref 41), some (.int v1), z2, z3, z4], [], M) o
  refine mm_Runs.seq (l := [(2, .iload_n 1, 1), (3, .ldc 27, 2)]) (S2 := (5, [some (.ref 41), some (.int v1), z2, z3, z4], [.int (1000000 : Int32), .int v1], M)) (by decide +kernel) (hO := mm_own_117) rfl ?_
  refine mm_R_ige (t := 111) rfl rfl rfl (fun hc => ?_) (fun hc => ?_)
  · replace h := mm_ip hc h
    refine mm_Runs.seq (l := [(8, .aload_n 0, 1), (9, .getfield 9, 3)]) (S2 := (12, [some (.ref 41), some (.int v1), z2, z3, z4], [.ref 1], M)) (by decide +kernel) (hO := mm_own_117) rfl ?_
    refine mm_R_call (v := mm_wi) h hA (k2 := 43) (as := [.ref 1]) (r := []) rfl (fun _ => rfl) (fun q hq o ho => ms_43 (by omega) hq ho) (fun r1 M2 h => ?_)
    show mm_Runs L xs (d + 1) 117 (15, [some (.ref 41), some (.int v1), z2, z3, z4], [.int r1], M2) o
    refine mm_R_zne (t := 111) rfl rfl rfl (fun hc => ?_) (fun hc => ?_)
    · replace h := mm_ip hc h
      refine mm_Runs.seq (l := [(18, .aload_n 0, 1), (19, .getfield 9, 3)]) (S2 := (22, [some (.ref 41), some (.int v1), z2, z3, z4], [.ref 1], M2)) (by decide +kernel) (hO := mm_own_117) rfl ?_
      refine mm_R_call (v := mm_wi) h hA (k2 := 44) (as := [.ref 1]) (r := []) rfl (fun _ => rfl) (fun q hq o ho => ms_44 (by omega) hq ho) (fun r3 M4 h => ?_)
      show mm_Runs L xs (d + 1) 117 (25, [some (.ref 41), some (.int v1), z2, z3, z4], [.int r3], M4) o
      refine mm_Runs.seq (l := [(25, .istore_n 2, 1), (26, .iload_n 2, 1), (27, .sipush 128, 3)]) (S2 := (30, [some (.ref 41), some (.int v1), some (.int r3), z3, z4], [.int (128 : Int32), .int r3], M4)) (by decide +kernel) (hO := mm_own_117) rfl ?_
      refine mm_R_ige (t := 63) rfl rfl rfl (fun hc => ?_) (fun hc => ?_)
      · replace h := mm_ip hc h
        refine mm_Runs.seq (l := [(33, .iconst 0, 1), (34, .istore_n 3, 1)]) (S2 := (35, [some (.ref 41), some (.int v1), some (.int r3), some (.int (0 : Int32)), z4], [], M4)) (by decide +kernel) (hO := mm_own_117) rfl ?_
        have hp : mp_117_35 L xs (d + 1) v1 r3 (0 : Int32) M4 o := by
          refine ms_117_L35 hd h hA (fun r6 M5 h => ?_)
          intro y7 y8 y9
          show mm_Runs L xs (d + 1) 117 (60, [some (.ref 41), some (.int v1), y7, y8, y9], [], M5) o
          refine mm_Runs.seq (l := [(60, .goto 45, 3), (105, .iinc 1 1, 3), (108, .goto (-106), 3)]) (S2 := (2, [some (.ref 41), some (.int (v1 + (1 : Int32))), y7, y8, y9], [], M5)) (by decide +kernel) (hO := mm_own_117) rfl ?_
          cases h
          exact (show mp_117_2 L xs (d + 1) (v1 + (1 : Int32)) M5 o from hA) y7 y8 y9
        exact hp z4
      · replace h := mm_iq hc h
        refine mm_Runs.seq (l := [(63, .iload_n 2, 1), (64, .sipush 128, 3)]) (S2 := (67, [some (.ref 41), some (.int v1), some (.int r3), z3, z4], [.int (128 : Int32), .int r3], M4)) (by decide +kernel) (hO := mm_own_117) rfl ?_
        refine mm_R_ile (t := 105) rfl rfl rfl (fun hc => ?_) (fun hc => ?_)
        · replace h := mm_ip hc h
          refine mm_Runs.seq (l := [(70, .aload_n 0, 1), (71, .getfield 9, 3)]) (S2 := (74, [some (.ref 41), some (.int v1), some (.int r3), z3, z4], [.ref 1], M4)) (by decide +kernel) (hO := mm_own_117) rfl ?_
          refine mm_R_call (v := mm_wi) h hA (k2 := 44) (as := [.ref 1]) (r := []) rfl (fun _ => rfl) (fun q hq o ho => ms_44 (by omega) hq ho) (fun r10 M11 h => ?_)
          show mm_Runs L xs (d + 1) 117 (77, [some (.ref 41), some (.int v1), some (.int r3), z3, z4], [.int r10], M11) o
          refine mm_Runs.seq (l := [(77, .istore_n 3, 1), (78, .iconst 0, 1), (79, .istore 4, 2)]) (S2 := (81, [some (.ref 41), some (.int v1), some (.int r3), some (.int r10), some (.int (0 : Int32))], [], M11)) (by decide +kernel) (hO := mm_own_117) rfl ?_
          have hp : mp_117_81 L xs (d + 1) v1 r3 r10 (0 : Int32) M11 o := by
            refine ms_117_L81 hd h hA (fun r13 M12 h => ?_)
            intro y14 y15 y16
            show mm_Runs L xs (d + 1) 117 (105, [some (.ref 41), some (.int v1), y14, y15, y16], [], M12) o
            refine mm_Runs.seq (l := [(105, .iinc 1 1, 3), (108, .goto (-106), 3)]) (S2 := (2, [some (.ref 41), some (.int (v1 + (1 : Int32))), y14, y15, y16], [], M12)) (by decide +kernel) (hO := mm_own_117) rfl ?_
            cases h
            exact (show mp_117_2 L xs (d + 1) (v1 + (1 : Int32)) M12 o from hA) y14 y15 y16
          exact hp
        · replace h := mm_iq hc h
          refine mm_Runs.seq (l := [(105, .iinc 1 1, 3), (108, .goto (-106), 3)]) (S2 := (2, [some (.ref 41), some (.int (v1 + (1 : Int32))), some (.int r3), z3, z4], [], M4)) (by decide +kernel) (hO := mm_own_117) rfl ?_
          cases h
          exact (show mp_117_2 L xs (d + 1) (v1 + (1 : Int32)) M4 o from hA) (some (.int r3)) z3 z4
    · replace h := mm_iq hc h
      cases h
      exact (show mp_117_111 L xs (d + 1) M2 o from hA) (some (.ref 41)) (some (.int v1)) z2 z3 z4
  · replace h := mm_iq hc h
    cases h
    exact (show mp_117_111 L xs (d + 1) M o from hA) (some (.ref 41)) (some (.int v1)) z2 z3 z4
theorem ms_117_L2 {L : Nat} {xs : Nat → Int32} {d : Nat} (hd : 8 ≤ d) {v1 : Int32} {β : Type} {K : β → mm_M → mm_E → Prop} {F : (Unit) → mm_M → mm_O β} {M : mm_M} {q : (β ⊕ Nat) × mm_M} {o : mm_E} (h : mm_B (mf_117_L2 v1 M) F = some q) (hA : mm_A K q o) (hx : ∀ (r : (Unit)) (M2 : mm_M), F r M2 = some q → (fun r M o => mp_117_111 L xs (d) M o) r M2 o) : mp_117_2 L xs d v1 M o := by
  unfold mf_117_L2 at h
  exact mm_R_loop (step := (fun s M => mf_117_b2 s M)) (s := v1) (M := M) (P := (fun s M o => mp_117_2 L xs (d) s M o)) (X := (fun r M o => mp_117_111 L xs (d) M o)) h hA (fun s M q hq hA => ms_117_b2 (v1 := s) (M := M) (q := q) hd hq hA) hx
set_option maxRecDepth 8000 in
set_option maxHeartbeats 4000000 in
theorem ms_117 {L : Nat} {xs : Nat → Int32} {d : Nat} (hd : 8 ≤ d) {M : mm_M} {q : (Unit ⊕ Nat) × mm_M} {o : mm_E} (h : mf_117 M = some q) (hA : mm_A (mm_Kr mm_wv) q o) : mm_Runs L xs d 117 (0, mm_ent (mm_ml 117) [.ref 41], [], M) o := by
  unfold mf_117 at h
  obtain ⟨d, rfl⟩ := mm_d1 (n := 7) hd
  show mm_Runs L xs (d + 1) 117 (0, [some (.ref 41), none, none, none, none], [], M) o
  refine mm_Runs.seq (l := [(0, .iconst 0, 1), (1, .istore_n 1, 1)]) (S2 := (2, [some (.ref 41), some (.int (0 : Int32)), none, none, none], [], M)) (by decide +kernel) (hO := mm_own_117) rfl ?_
  have hp : mp_117_2 L xs (d + 1) (0 : Int32) M o := by
    refine ms_117_L2 hd h hA (fun r2 M1 h => ?_)
    intro y3 y4 y5 y6 y7
    show mm_Runs L xs (d + 1) 117 (111, [y3, y4, y5, y6, y7], [], M1) o
    cases h
    exact mm_R_retv rfl rfl hA
  exact hp none none none
-- 45: PlainPacks$Source.bit()I (depth 7)
theorem mm_own_45 : mm_own 45 = 1 := rfl
def mp_45_57 (L : Nat) (xs : Nat → Int32) (d : Nat) (M : mm_M) (o : mm_E) : Prop := mm_Runs L xs d 45 (57, [some (.ref 1)], [], M) o
set_option maxRecDepth 8000 in
set_option maxHeartbeats 4000000 in
theorem ms_45_j57 {L : Nat} {xs : Nat → Int32} {d : Nat} (hd : 7 ≤ d) {M : mm_M} {q : (Int32 ⊕ Nat) × mm_M} {o : mm_E} (h : mf_45_j57 M = some q) (hA : mm_A (mm_Kr mm_wi) q o) : mp_45_57 L xs d M o := by
  unfold mf_45_j57 at h
  show mm_Runs L xs (d) 45 (57, [some (.ref 1)], [], M) o
  refine mm_Runs.seq (l := [(57, .aload_n 0, 1), (58, .dup, 1), (59, .getfield 32, 3), (62, .iconst 1, 1), (63, .isub, 1), (64, .putfield 32, 3), (67, .aload_n 0, 1), (68, .getfield 25, 3)]) (S2 := (71, [some (.ref 1)], [.int (M.1 1 4)], (mm_pi M 1 6 ((M.1 1 6) - (1 : Int32))))) (by decide +kernel) (hO := mm_own_45) rfl ?_
  refine mm_R_zeq (t := 88) rfl rfl rfl (fun hc => ?_) (fun hc => ?_)
  · replace h := mm_ip hc h
    refine mm_Runs.seq (l := [(88, .aload_n 0, 1), (89, .getfield 29, 3), (92, .bipush 7, 2), (94, .aload_n 0, 1), (95, .getfield 32, 3), (98, .isub, 1), (99, .ishr, 1), (100, .iconst 1, 1), (101, .iand, 1)]) (S2 := (102, [some (.ref 1)], [.int ((mm_shr (M.1 1 5) ((7 : Int32) - ((M.1 1 6) - (1 : Int32)))) &&& (1 : Int32))], (mm_pi M 1 6 ((M.1 1 6) - (1 : Int32))))) (by decide +kernel) (hO := mm_own_45) rfl ?_
    cases h
    exact mm_R_reti rfl rfl hA
  · replace h := mm_iq hc h
    refine mm_Runs.seq (l := [(74, .aload_n 0, 1), (75, .getfield 29, 3), (78, .aload_n 0, 1), (79, .getfield 32, 3), (82, .ishr, 1), (83, .iconst 1, 1), (84, .iand, 1), (85, .goto 17, 3)]) (S2 := (102, [some (.ref 1)], [.int ((mm_shr (M.1 1 5) ((M.1 1 6) - (1 : Int32))) &&& (1 : Int32))], (mm_pi M 1 6 ((M.1 1 6) - (1 : Int32))))) (by decide +kernel) (hO := mm_own_45) rfl ?_
    cases h
    exact mm_R_reti rfl rfl hA
set_option maxRecDepth 8000 in
set_option maxHeartbeats 4000000 in
theorem ms_45 {L : Nat} {xs : Nat → Int32} {d : Nat} (hd : 7 ≤ d) {M : mm_M} {q : (Int32 ⊕ Nat) × mm_M} {o : mm_E} (h : mf_45 M = some q) (hA : mm_A (mm_Kr mm_wi) q o) : mm_Runs L xs d 45 (0, mm_ent (mm_ml 45) [.ref 1], [], M) o := by
  unfold mf_45 at h
  show mm_Runs L xs (d) 45 (0, [some (.ref 1)], [], M) o
  refine mm_Runs.seq (l := [(0, .aload_n 0, 1), (1, .getfield 32, 3)]) (S2 := (4, [some (.ref 1)], [.int (M.1 1 6)], M)) (by decide +kernel) (hO := mm_own_45) rfl ?_
  refine mm_R_zne (t := 57) rfl rfl rfl (fun hc => ?_) (fun hc => ?_)
  · replace h := mm_ip hc h
    refine mm_Runs.seq (l := [(7, .aload_n 0, 1), (8, .getfield 19, 3), (11, .aload_n 0, 1), (12, .getfield 22, 3)]) (S2 := (15, [some (.ref 1)], [.int (M.1 1 3), .int (M.1 1 2)], M)) (by decide +kernel) (hO := mm_own_45) rfl ?_
    refine mm_R_ilt (t := 28) rfl rfl rfl (fun hc => ?_) (fun hc => ?_)
    · replace h := mm_ip hc h
      refine mm_Runs.seq (l := [(28, .aload_n 0, 1), (29, .aload_n 0, 1), (30, .getfield 9, 3), (33, .aload_n 0, 1), (34, .getfield 19, 3)]) (S2 := (37, [some (.ref 1)], [.int (M.1 1 2), .ref 2, .ref 1], M)) (by decide +kernel) (hO := mm_own_45) rfl ?_
      obtain ⟨hb, h⟩ := mm_gd h
      refine mm_R_iald rfl rfl hb ?_
      refine mm_Runs.seq (l := [(38, .putfield 29, 3), (41, .aload_n 0, 1), (42, .dup, 1), (43, .getfield 19, 3), (46, .iconst 1, 1), (47, .iadd, 1), (48, .putfield 19, 3), (51, .aload_n 0, 1), (52, .bipush 8, 2), (54, .putfield 32, 3)]) (S2 := (57, [some (.ref 1)], [], (mm_pi (mm_pi (mm_pi M 1 5 (M.1 2 (M.1 1 2).toNatClampNeg)) 1 2 ((M.1 1 2) + (1 : Int32))) 1 6 (8 : Int32)))) (by decide +kernel) (hO := mm_own_45) rfl ?_
      exact (ms_45_j57 hd h hA : mp_45_57 L xs (d) (mm_pi (mm_pi (mm_pi M 1 5 (M.1 2 (M.1 1 2).toNatClampNeg)) 1 2 ((M.1 1 2) + (1 : Int32))) 1 6 (8 : Int32)) o)
    · replace h := mm_iq hc h
      cases h
      exact mm_R_thr rfl rfl rfl (by omega) hA
  · replace h := mm_iq hc h
    exact (ms_45_j57 hd h hA : mp_45_57 L xs (d) M o)
-- 46: PlainPacks$Source.bits(I)J (depth 8)
theorem mm_own_46 : mm_own 46 = 1 := rfl
def mp_46_5 (L : Nat) (xs : Nat → Int32) (d : Nat) (v1 : Int32) (v2 : Int64) (v4 : Int32) (M : mm_M) (o : mm_E) : Prop := ∀ z3 z5 z6 : Option Value, mm_Runs L xs d 46 (5, [some (.ref 1), some (.int v1), some (.long v2), z3, some (.int v4), z5, z6], [], M) o
def mp_46_48 (L : Nat) (xs : Nat → Int32) (d : Nat) (v2 : Int64) (M : mm_M) (o : mm_E) : Prop := ∀ z0 z1 z3 z4 z5 z6 : Option Value, mm_Runs L xs d 46 (48, [z0, z1, some (.long v2), z3, z4, z5, z6], [], M) o
set_option maxRecDepth 8000 in
set_option maxHeartbeats 4000000 in
theorem ms_46_b5 {L : Nat} {xs : Nat → Int32} {d : Nat} (hd : 8 ≤ d) {v1 : Int32} {v2 : Int64} {v4 : Int32} {M : mm_M} {q : (((Int64 × Int32) ⊕ (Int64)) ⊕ Nat) × mm_M} {o : mm_E} (h : mf_46_b5 v1 v2 v4 M = some q) (hA : mm_A (mm_K2 (fun s M o => mp_46_5 L xs (d) v1 s.1 s.2 M o) (fun r M o => mp_46_48 L xs (d) r M o)) q o) : mp_46_5 L xs d v1 v2 v4 M o := by
  unfold mf_46_b5 at h
  obtain ⟨d, rfl⟩ := mm_d1 (n := 7) hd
  intro z3 z5 z6
  show mm_Runs L xs (d + 1) 46 (5, [some (.ref 1), some (.int v1), some (.long v2), z3, some (.int v4), z5, z6], [], M) o
  refine mm_Runs.seq (l := [(5, .iload 4, 2), (7, .iload_n 1, 1)]) (S2 := (8, [some (.ref 1), some (.int v1), some (.long v2), z3, some (.int v4), z5, z6], [.int v1, .int v4], M)) (by decide +kernel) (hO := mm_own_46) rfl ?_
  refine mm_R_ige (t := 48) rfl rfl rfl (fun hc => ?_) (fun hc => ?_)
  · replace h := mm_ip hc h
    refine mm_Runs.seq (l := [(11, .aload_n 0, 1)]) (S2 := (12, [some (.ref 1), some (.int v1), some (.long v2), z3, some (.int v4), z5, z6], [.ref 1], M)) (by decide +kernel) (hO := mm_own_46) rfl ?_
    refine mm_R_call (v := mm_wi) h hA (k2 := 45) (as := [.ref 1]) (r := []) rfl (fun _ => rfl) (fun q hq o ho => ms_45 (by omega) hq ho) (fun r1 M2 h => ?_)
    show mm_Runs L xs (d + 1) 46 (15, [some (.ref 1), some (.int v1), some (.long v2), z3, some (.int v4), z5, z6], [.int r1], M2) o
    refine mm_Runs.seq (l := [(15, .i2l, 1), (16, .lstore 5, 2), (18, .aload_n 0, 1), (19, .getfield 25, 3)]) (S2 := (22, [some (.ref 1), some (.int v1), some (.long v2), z3, some (.int v4), some (.long r1.toInt64), none], [.int (M2.1 1 4)], M2)) (by decide +kernel) (hO := mm_own_46) rfl ?_
    refine mm_R_zeq (t := 34) rfl rfl rfl (fun hc => ?_) (fun hc => ?_)
    · replace h := mm_ip hc h
      refine mm_Runs.seq (l := [(34, .lload_n 2, 1), (35, .lload 5, 2), (37, .iload 4, 2), (39, .lshl, 1), (40, .lor, 1), (41, .lstore_n 2, 1), (42, .iinc 4 1, 3), (45, .goto (-40), 3)]) (S2 := (5, [some (.ref 1), some (.int v1), some (.long (v2 ||| (mm_lshl r1.toInt64 v4))), none, some (.int (v4 + (1 : Int32))), some (.long r1.toInt64), none], [], M2)) (by decide +kernel) (hO := mm_own_46) rfl ?_
      cases h
      exact (show mp_46_5 L xs (d + 1) v1 (v2 ||| (mm_lshl r1.toInt64 v4)) (v4 + (1 : Int32)) M2 o from hA) none (some (.long r1.toInt64)) none
    · replace h := mm_iq hc h
      refine mm_Runs.seq (l := [(25, .lload_n 2, 1), (26, .iconst 1, 1), (27, .lshl, 1), (28, .lload 5, 2), (30, .lor, 1), (31, .goto 10, 3), (41, .lstore_n 2, 1), (42, .iinc 4 1, 3), (45, .goto (-40), 3)]) (S2 := (5, [some (.ref 1), some (.int v1), some (.long ((mm_lshl v2 (1 : Int32)) ||| r1.toInt64)), none, some (.int (v4 + (1 : Int32))), some (.long r1.toInt64), none], [], M2)) (by decide +kernel) (hO := mm_own_46) rfl ?_
      cases h
      exact (show mp_46_5 L xs (d + 1) v1 ((mm_lshl v2 (1 : Int32)) ||| r1.toInt64) (v4 + (1 : Int32)) M2 o from hA) none (some (.long r1.toInt64)) none
  · replace h := mm_iq hc h
    cases h
    exact (show mp_46_48 L xs (d + 1) v2 M o from hA) (some (.ref 1)) (some (.int v1)) z3 (some (.int v4)) z5 z6
theorem ms_46_L5 {L : Nat} {xs : Nat → Int32} {d : Nat} (hd : 8 ≤ d) {v1 : Int32} {v2 : Int64} {v4 : Int32} {β : Type} {K : β → mm_M → mm_E → Prop} {F : (Int64) → mm_M → mm_O β} {M : mm_M} {q : (β ⊕ Nat) × mm_M} {o : mm_E} (h : mm_B (mf_46_L5 v1 (v2, v4) M) F = some q) (hA : mm_A K q o) (hx : ∀ (r : (Int64)) (M2 : mm_M), F r M2 = some q → (fun r M o => mp_46_48 L xs (d) r M o) r M2 o) : mp_46_5 L xs d v1 v2 v4 M o := by
  unfold mf_46_L5 at h
  exact mm_R_loop (step := (fun s M => mf_46_b5 v1 s.1 s.2 M)) (s := (v2, v4)) (M := M) (P := (fun s M o => mp_46_5 L xs (d) v1 s.1 s.2 M o)) (X := (fun r M o => mp_46_48 L xs (d) r M o)) h hA (fun s M q hq hA => ms_46_b5 (v1 := v1) (v2 := s.1) (v4 := s.2) (M := M) (q := q) hd hq hA) hx
set_option maxRecDepth 8000 in
set_option maxHeartbeats 4000000 in
theorem ms_46 {L : Nat} {xs : Nat → Int32} {d : Nat} (hd : 8 ≤ d) {v1 : Int32} {M : mm_M} {q : (Int64 ⊕ Nat) × mm_M} {o : mm_E} (h : mf_46 v1 M = some q) (hA : mm_A (mm_Kr mm_wl) q o) : mm_Runs L xs d 46 (0, mm_ent (mm_ml 46) [.ref 1, .int v1], [], M) o := by
  unfold mf_46 at h
  obtain ⟨d, rfl⟩ := mm_d1 (n := 7) hd
  show mm_Runs L xs (d + 1) 46 (0, [some (.ref 1), some (.int v1), none, none, none, none, none], [], M) o
  refine mm_Runs.seq (l := [(0, .lconst 0, 1), (1, .lstore_n 2, 1), (2, .iconst 0, 1), (3, .istore 4, 2)]) (S2 := (5, [some (.ref 1), some (.int v1), some (.long (0 : Int64)), none, some (.int (0 : Int32)), none, none], [], M)) (by decide +kernel) (hO := mm_own_46) rfl ?_
  have hp : mp_46_5 L xs (d + 1) v1 (0 : Int64) (0 : Int32) M o := by
    refine ms_46_L5 hd h hA (fun r2 M1 h => ?_)
    intro y3 y4 y5 y6 y7 y8
    show mm_Runs L xs (d + 1) 46 (48, [y3, y4, some (.long r2), y5, y6, y7, y8], [], M1) o
    refine mm_Runs.seq (l := [(48, .lload_n 2, 1)]) (S2 := (49, [y3, y4, some (.long r2), y5, y6, y7, y8], [.long r2], M1)) (by decide +kernel) (hO := mm_own_46) rfl ?_
    cases h
    exact mm_R_retl rfl rfl hA
  exact hp none none none
-- 27: PlainPacks.wrongIf(Z)V (depth 7)
theorem mm_own_27 : mm_own 27 = 0 := rfl
set_option maxRecDepth 8000 in
set_option maxHeartbeats 4000000 in
theorem ms_27 {L : Nat} {xs : Nat → Int32} {d : Nat} (hd : 7 ≤ d) {v0 : Int32} {M : mm_M} {q : (Unit ⊕ Nat) × mm_M} {o : mm_E} (h : mf_27 v0 M = some q) (hA : mm_A (mm_Kr mm_wv) q o) : mm_Runs L xs d 27 (0, mm_ent (mm_ml 27) [.int v0], [], M) o := by
  unfold mf_27 at h
  show mm_Runs L xs (d) 27 (0, [some (.int v0)], [], M) o
  refine mm_Runs.seq (l := [(0, .iload_n 0, 1)]) (S2 := (1, [some (.int v0)], [.int v0], M)) (by decide +kernel) (hO := mm_own_27) rfl ?_
  refine mm_R_zeq (t := 15) rfl rfl rfl (fun hc => ?_) (fun hc => ?_)
  · replace h := mm_ip hc h
    cases h
    exact mm_R_retv rfl rfl hA
  · replace h := mm_iq hc h
    cases h
    exact mm_R_thr rfl rfl rfl (by omega) hA
-- 47: PlainPacks$Source.low(I)J (depth 8)
theorem mm_own_47 : mm_own 47 = 1 := rfl
def mp_47_5 (L : Nat) (xs : Nat → Int32) (d : Nat) (v1 : Int32) (v2 : Int64) (v4 : Int32) (M : mm_M) (o : mm_E) : Prop := ∀ z3 : Option Value, mm_Runs L xs d 47 (5, [some (.ref 1), some (.int v1), some (.long v2), z3, some (.int v4)], [], M) o
def mp_47_31 (L : Nat) (xs : Nat → Int32) (d : Nat) (v2 : Int64) (M : mm_M) (o : mm_E) : Prop := ∀ z0 z1 z3 z4 : Option Value, mm_Runs L xs d 47 (31, [z0, z1, some (.long v2), z3, z4], [], M) o
set_option maxRecDepth 8000 in
set_option maxHeartbeats 4000000 in
theorem ms_47_b5 {L : Nat} {xs : Nat → Int32} {d : Nat} (hd : 8 ≤ d) {v1 : Int32} {v2 : Int64} {v4 : Int32} {M : mm_M} {q : (((Int64 × Int32) ⊕ (Int64)) ⊕ Nat) × mm_M} {o : mm_E} (h : mf_47_b5 v1 v2 v4 M = some q) (hA : mm_A (mm_K2 (fun s M o => mp_47_5 L xs (d) v1 s.1 s.2 M o) (fun r M o => mp_47_31 L xs (d) r M o)) q o) : mp_47_5 L xs d v1 v2 v4 M o := by
  unfold mf_47_b5 at h
  obtain ⟨d, rfl⟩ := mm_d1 (n := 7) hd
  intro z3
  show mm_Runs L xs (d + 1) 47 (5, [some (.ref 1), some (.int v1), some (.long v2), z3, some (.int v4)], [], M) o
  refine mm_Runs.seq (l := [(5, .iload 4, 2), (7, .iload_n 1, 1)]) (S2 := (8, [some (.ref 1), some (.int v1), some (.long v2), z3, some (.int v4)], [.int v1, .int v4], M)) (by decide +kernel) (hO := mm_own_47) rfl ?_
  refine mm_R_ige (t := 31) rfl rfl rfl (fun hc => ?_) (fun hc => ?_)
  · replace h := mm_ip hc h
    refine mm_Runs.seq (l := [(11, .lload_n 2, 1), (12, .aload_n 0, 1)]) (S2 := (13, [some (.ref 1), some (.int v1), some (.long v2), z3, some (.int v4)], [.ref 1, .long v2], M)) (by decide +kernel) (hO := mm_own_47) rfl ?_
    refine mm_R_call (v := mm_wi) h hA (k2 := 44) (as := [.ref 1]) (r := [.long v2]) rfl (fun _ => rfl) (fun q hq o ho => ms_44 (by omega) hq ho) (fun r1 M2 h => ?_)
    show mm_Runs L xs (d + 1) 47 (16, [some (.ref 1), some (.int v1), some (.long v2), z3, some (.int v4)], [.int r1, .long v2], M2) o
    refine mm_Runs.seq (l := [(16, .i2l, 1), (17, .bipush 8, 2), (19, .iload 4, 2), (21, .imul, 1), (22, .lshl, 1), (23, .lor, 1), (24, .lstore_n 2, 1), (25, .iinc 4 1, 3), (28, .goto (-23), 3)]) (S2 := (5, [some (.ref 1), some (.int v1), some (.long (v2 ||| (mm_lshl r1.toInt64 ((8 : Int32) * v4)))), none, some (.int (v4 + (1 : Int32)))], [], M2)) (by decide +kernel) (hO := mm_own_47) rfl ?_
    cases h
    exact (show mp_47_5 L xs (d + 1) v1 (v2 ||| (mm_lshl r1.toInt64 ((8 : Int32) * v4))) (v4 + (1 : Int32)) M2 o from hA) none
  · replace h := mm_iq hc h
    cases h
    exact (show mp_47_31 L xs (d + 1) v2 M o from hA) (some (.ref 1)) (some (.int v1)) z3 (some (.int v4))
theorem ms_47_L5 {L : Nat} {xs : Nat → Int32} {d : Nat} (hd : 8 ≤ d) {v1 : Int32} {v2 : Int64} {v4 : Int32} {β : Type} {K : β → mm_M → mm_E → Prop} {F : (Int64) → mm_M → mm_O β} {M : mm_M} {q : (β ⊕ Nat) × mm_M} {o : mm_E} (h : mm_B (mf_47_L5 v1 (v2, v4) M) F = some q) (hA : mm_A K q o) (hx : ∀ (r : (Int64)) (M2 : mm_M), F r M2 = some q → (fun r M o => mp_47_31 L xs (d) r M o) r M2 o) : mp_47_5 L xs d v1 v2 v4 M o := by
  unfold mf_47_L5 at h
  exact mm_R_loop (step := (fun s M => mf_47_b5 v1 s.1 s.2 M)) (s := (v2, v4)) (M := M) (P := (fun s M o => mp_47_5 L xs (d) v1 s.1 s.2 M o)) (X := (fun r M o => mp_47_31 L xs (d) r M o)) h hA (fun s M q hq hA => ms_47_b5 (v1 := v1) (v2 := s.1) (v4 := s.2) (M := M) (q := q) hd hq hA) hx
set_option maxRecDepth 8000 in
set_option maxHeartbeats 4000000 in
theorem ms_47 {L : Nat} {xs : Nat → Int32} {d : Nat} (hd : 8 ≤ d) {v1 : Int32} {M : mm_M} {q : (Int64 ⊕ Nat) × mm_M} {o : mm_E} (h : mf_47 v1 M = some q) (hA : mm_A (mm_Kr mm_wl) q o) : mm_Runs L xs d 47 (0, mm_ent (mm_ml 47) [.ref 1, .int v1], [], M) o := by
  unfold mf_47 at h
  obtain ⟨d, rfl⟩ := mm_d1 (n := 7) hd
  show mm_Runs L xs (d + 1) 47 (0, [some (.ref 1), some (.int v1), none, none, none], [], M) o
  refine mm_Runs.seq (l := [(0, .lconst 0, 1), (1, .lstore_n 2, 1), (2, .iconst 0, 1), (3, .istore 4, 2)]) (S2 := (5, [some (.ref 1), some (.int v1), some (.long (0 : Int64)), none, some (.int (0 : Int32))], [], M)) (by decide +kernel) (hO := mm_own_47) rfl ?_
  have hp : mp_47_5 L xs (d + 1) v1 (0 : Int64) (0 : Int32) M o := by
    refine ms_47_L5 hd h hA (fun r2 M1 h => ?_)
    intro y3 y4 y5 y6
    show mm_Runs L xs (d + 1) 47 (31, [y3, y4, some (.long r2), y5, y6], [], M1) o
    refine mm_Runs.seq (l := [(31, .lload_n 2, 1)]) (S2 := (32, [y3, y4, some (.long r2), y5, y6], [.long r2], M1)) (by decide +kernel) (hO := mm_own_47) rfl ?_
    cases h
    exact mm_R_retl rfl rfl hA
  exact hp none
-- 52: PlainPacks$Sink.putPlain(I)V (depth 8)
theorem mm_own_52 : mm_own 52 = 2 := rfl
set_option maxRecDepth 8000 in
set_option maxHeartbeats 4000000 in
theorem ms_52 {L : Nat} {xs : Nat → Int32} {d : Nat} (hd : 8 ≤ d) {v1 : Int32} {M : mm_M} {q : (Unit ⊕ Nat) × mm_M} {o : mm_E} (h : mf_52 v1 M = some q) (hA : mm_A (mm_Kr mm_wv) q o) : mm_Runs L xs d 52 (0, mm_ent (mm_ml 52) [.ref 3, .int v1], [], M) o := by
  unfold mf_52 at h
  obtain ⟨d, rfl⟩ := mm_d1 (n := 7) hd
  show mm_Runs L xs (d + 1) 52 (0, [some (.ref 3), some (.int v1)], [], M) o
  refine mm_Runs.seq (l := [(0, .aload_n 0, 1), (1, .iload_n 1, 1)]) (S2 := (2, [some (.ref 3), some (.int v1)], [.int v1, .ref 3], M)) (by decide +kernel) (hO := mm_own_52) rfl ?_
  refine mm_R_call (v := mm_wv) h hA (k2 := 51) (as := [.ref 3, .int v1]) (r := []) rfl (fun _ => rfl) (fun q hq o ho => ms_51 (by omega) hq ho) (fun _ M1 h => ?_)
  show mm_Runs L xs (d + 1) 52 (5, [some (.ref 3), some (.int v1)], [], M1) o
  refine mm_Runs.seq (l := [(5, .aload_n 0, 1), (6, .dup, 1), (7, .getfield 19, 3), (10, .iconst 1, 1), (11, .iadd, 1), (12, .putfield 19, 3)]) (S2 := (15, [some (.ref 3), some (.int v1)], [], (mm_pi M1 3 2 ((M1.1 3 2) + (1 : Int32))))) (by decide +kernel) (hO := mm_own_52) rfl ?_
  cases h
  exact mm_R_retv rfl rfl hA
-- 80: PlainPacks$Blocks.readPlain()V (depth 9)
theorem mm_own_80 : mm_own 80 = 6 := rfl
def mp_80_31 (L : Nat) (xs : Nat → Int32) (d : Nat) (v1 : Int32) (s0 : Int32) (M : mm_M) (o : mm_E) : Prop := ∀ z2 : Option Value, mm_Runs L xs d 80 (31, [some (.ref 16), some (.int v1), z2], [.int s0], M) o
def mp_80_36 (L : Nat) (xs : Nat → Int32) (d : Nat) (v1 : Int32) (v2 : Int32) (M : mm_M) (o : mm_E) : Prop := mm_Runs L xs d 80 (36, [some (.ref 16), some (.int v1), some (.int v2)], [], M) o
def mp_80_61 (L : Nat) (xs : Nat → Int32) (d : Nat) (M : mm_M) (o : mm_E) : Prop := ∀ z0 z1 z2 : Option Value, mm_Runs L xs d 80 (61, [z0, z1, z2], [], M) o
set_option maxRecDepth 8000 in
set_option maxHeartbeats 4000000 in
theorem ms_80_b36 {L : Nat} {xs : Nat → Int32} {d : Nat} (hd : 9 ≤ d) {v1 : Int32} {v2 : Int32} {M : mm_M} {q : (((Int32) ⊕ (Unit)) ⊕ Nat) × mm_M} {o : mm_E} (h : mf_80_b36 v1 v2 M = some q) (hA : mm_A (mm_K2 (fun s M o => mp_80_36 L xs (d) v1 s M o) (fun r M o => mp_80_61 L xs (d) M o)) q o) : mp_80_36 L xs d v1 v2 M o := by
  unfold mf_80_b36 at h
  obtain ⟨d, rfl⟩ := mm_d1 (n := 8) hd
  show mm_Runs L xs (d + 1) 80 (36, [some (.ref 16), some (.int v1), some (.int v2)], [], M) o
  refine mm_Runs.seq (l := [(36, .iload_n 2, 1), (37, .iload_n 1, 1)]) (S2 := (38, [some (.ref 16), some (.int v1), some (.int v2)], [.int v1, .int v2], M)) (by decide +kernel) (hO := mm_own_80) rfl ?_
  refine mm_R_ige (t := 61) rfl rfl rfl (fun hc => ?_) (fun hc => ?_)
  · replace h := mm_ip hc h
    refine mm_Runs.seq (l := [(41, .aload_n 0, 1), (42, .getfield 43, 3), (45, .aload_n 0, 1), (46, .getfield 39, 3)]) (S2 := (49, [some (.ref 16), some (.int v1), some (.int v2)], [.ref 1, .ref 3], M)) (by decide +kernel) (hO := mm_own_80) rfl ?_
    refine mm_R_call (v := mm_wi) h hA (k2 := 44) (as := [.ref 1]) (r := [.ref 3]) rfl (fun _ => rfl) (fun q hq o ho => ms_44 (by omega) hq ho) (fun r1 M2 h => ?_)
    show mm_Runs L xs (d + 1) 80 (52, [some (.ref 16), some (.int v1), some (.int v2)], [.int r1, .ref 3], M2) o
    refine mm_R_call (v := mm_wv) h hA (k2 := 52) (as := [.ref 3, .int r1]) (r := []) rfl (fun _ => rfl) (fun q hq o ho => ms_52 (by omega) hq ho) (fun _ M3 h => ?_)
    show mm_Runs L xs (d + 1) 80 (55, [some (.ref 16), some (.int v1), some (.int v2)], [], M3) o
    refine mm_Runs.seq (l := [(55, .iinc 2 1, 3), (58, .goto (-22), 3)]) (S2 := (36, [some (.ref 16), some (.int v1), some (.int (v2 + (1 : Int32)))], [], M3)) (by decide +kernel) (hO := mm_own_80) rfl ?_
    cases h
    exact (show mp_80_36 L xs (d + 1) v1 (v2 + (1 : Int32)) M3 o from hA)
  · replace h := mm_iq hc h
    cases h
    exact (show mp_80_61 L xs (d + 1) M o from hA) (some (.ref 16)) (some (.int v1)) (some (.int v2))
theorem ms_80_L36 {L : Nat} {xs : Nat → Int32} {d : Nat} (hd : 9 ≤ d) {v1 : Int32} {v2 : Int32} {β : Type} {K : β → mm_M → mm_E → Prop} {F : (Unit) → mm_M → mm_O β} {M : mm_M} {q : (β ⊕ Nat) × mm_M} {o : mm_E} (h : mm_B (mf_80_L36 v1 v2 M) F = some q) (hA : mm_A K q o) (hx : ∀ (r : (Unit)) (M2 : mm_M), F r M2 = some q → (fun r M o => mp_80_61 L xs (d) M o) r M2 o) : mp_80_36 L xs d v1 v2 M o := by
  unfold mf_80_L36 at h
  exact mm_R_loop (step := (fun s M => mf_80_b36 v1 s M)) (s := v2) (M := M) (P := (fun s M o => mp_80_36 L xs (d) v1 s M o)) (X := (fun r M o => mp_80_61 L xs (d) M o)) h hA (fun s M q hq hA => ms_80_b36 (v1 := v1) (v2 := s) (M := M) (q := q) hd hq hA) hx
set_option maxRecDepth 8000 in
set_option maxHeartbeats 4000000 in
theorem ms_80_j31 {L : Nat} {xs : Nat → Int32} {d : Nat} (hd : 9 ≤ d) {v1 : Int32} {s0 : Int32} {M : mm_M} {q : (Unit ⊕ Nat) × mm_M} {o : mm_E} (h : mf_80_j31 v1 s0 M = some q) (hA : mm_A (mm_Kr mm_wv) q o) : mp_80_31 L xs d v1 s0 M o := by
  unfold mf_80_j31 at h
  obtain ⟨d, rfl⟩ := mm_d1 (n := 8) hd
  intro z2
  show mm_Runs L xs (d + 1) 80 (31, [some (.ref 16), some (.int v1), z2], [.int s0], M) o
  refine mm_R_call (v := mm_wv) h hA (k2 := 27) (as := [.int s0]) (r := []) rfl (fun _ => rfl) (fun q hq o ho => ms_27 (by omega) hq ho) (fun _ M1 h => ?_)
  show mm_Runs L xs (d + 1) 80 (34, [some (.ref 16), some (.int v1), z2], [], M1) o
  refine mm_Runs.seq (l := [(34, .iconst 0, 1), (35, .istore_n 2, 1)]) (S2 := (36, [some (.ref 16), some (.int v1), some (.int (0 : Int32))], [], M1)) (by decide +kernel) (hO := mm_own_80) rfl ?_
  have hp : mp_80_36 L xs (d + 1) v1 (0 : Int32) M1 o := by
    refine ms_80_L36 hd h hA (fun r3 M2 h => ?_)
    intro y4 y5 y6
    show mm_Runs L xs (d + 1) 80 (61, [y4, y5, y6], [], M2) o
    cases h
    exact mm_R_retv rfl rfl hA
  exact hp
set_option maxRecDepth 8000 in
set_option maxHeartbeats 4000000 in
theorem ms_80 {L : Nat} {xs : Nat → Int32} {d : Nat} (hd : 9 ≤ d) {M : mm_M} {q : (Unit ⊕ Nat) × mm_M} {o : mm_E} (h : mf_80 M = some q) (hA : mm_A (mm_Kr mm_wv) q o) : mm_Runs L xs d 80 (0, mm_ent (mm_ml 80) [.ref 16], [], M) o := by
  unfold mf_80 at h
  obtain ⟨d, rfl⟩ := mm_d1 (n := 8) hd
  show mm_Runs L xs (d + 1) 80 (0, [some (.ref 16), none, none], [], M) o
  refine mm_Runs.seq (l := [(0, .aload_n 0, 1), (1, .getfield 39, 3), (4, .iconst 2, 1)]) (S2 := (5, [some (.ref 16), none, none], [.int (2 : Int32), .ref 1], M)) (by decide +kernel) (hO := mm_own_80) rfl ?_
  refine mm_R_call (v := mm_wl) h hA (k2 := 47) (as := [.ref 1, .int (2 : Int32)]) (r := []) rfl (fun _ => rfl) (fun q hq o ho => ms_47 (by omega) hq ho) (fun r1 M2 h => ?_)
  show mm_Runs L xs (d + 1) 80 (8, [some (.ref 16), none, none], [.long r1], M2) o
  refine mm_Runs.seq (l := [(8, .l2i, 1), (9, .istore_n 1, 1), (10, .aload_n 0, 1), (11, .getfield 39, 3), (14, .iconst 2, 1)]) (S2 := (15, [some (.ref 16), some (.int r1.toInt32), none], [.int (2 : Int32), .ref 1], M2)) (by decide +kernel) (hO := mm_own_80) rfl ?_
  refine mm_R_call (v := mm_wl) h hA (k2 := 47) (as := [.ref 1, .int (2 : Int32)]) (r := []) rfl (fun _ => rfl) (fun q hq o ho => ms_47 (by omega) hq ho) (fun r3 M4 h => ?_)
  show mm_Runs L xs (d + 1) 80 (18, [some (.ref 16), some (.int r1.toInt32), none], [.long r3], M4) o
  refine mm_Runs.seq (l := [(18, .l2i, 1), (19, .ldc 101, 2), (21, .iload_n 1, 1), (22, .isub, 1)]) (S2 := (23, [some (.ref 16), some (.int r1.toInt32), none], [.int ((65535 : Int32) - r1.toInt32), .int r3.toInt32], M4)) (by decide +kernel) (hO := mm_own_80) rfl ?_
  refine mm_R_ieq (t := 30) rfl rfl rfl (fun hc => ?_) (fun hc => ?_)
  · replace h := mm_ip hc h
    refine mm_Runs.seq (l := [(30, .iconst 0, 1)]) (S2 := (31, [some (.ref 16), some (.int r1.toInt32), none], [.int (0 : Int32)], M4)) (by decide +kernel) (hO := mm_own_80) rfl ?_
    exact (ms_80_j31 hd h hA : mp_80_31 L xs (d + 1) r1.toInt32 (0 : Int32) M4 o) none
  · replace h := mm_iq hc h
    refine mm_Runs.seq (l := [(26, .iconst 1, 1), (27, .goto 4, 3)]) (S2 := (31, [some (.ref 16), some (.int r1.toInt32), none], [.int (1 : Int32)], M4)) (by decide +kernel) (hO := mm_own_80) rfl ?_
    exact (ms_80_j31 hd h hA : mp_80_31 L xs (d + 1) r1.toInt32 (1 : Int32) M4 o) none
-- 82: PlainPacks$Blocks.knownLength(I)I (depth 0)
theorem mm_own_82 : mm_own 82 = 6 := rfl
set_option maxRecDepth 8000 in
set_option maxHeartbeats 4000000 in
theorem ms_82 {L : Nat} {xs : Nat → Int32} {d : Nat} (hd : 0 ≤ d) {v0 : Int32} {M : mm_M} {q : (Int32 ⊕ Nat) × mm_M} {o : mm_E} (h : mf_82 v0 M = some q) (hA : mm_A (mm_Kr mm_wi) q o) : mm_Runs L xs d 82 (0, mm_ent (mm_ml 82) [.int v0], [], M) o := by
  unfold mf_82 at h
  show mm_Runs L xs (d) 82 (0, [some (.int v0)], [], M) o
  refine mm_Runs.seq (l := [(0, .iload_n 0, 1), (1, .sipush 144, 3)]) (S2 := (4, [some (.int v0)], [.int (144 : Int32), .int v0], M)) (by decide +kernel) (hO := mm_own_82) rfl ?_
  refine mm_R_ige (t := 10) rfl rfl rfl (fun hc => ?_) (fun hc => ?_)
  · replace h := mm_ip hc h
    refine mm_Runs.seq (l := [(7, .bipush 8, 2)]) (S2 := (9, [some (.int v0)], [.int (8 : Int32)], M)) (by decide +kernel) (hO := mm_own_82) rfl ?_
    cases h
    exact mm_R_reti rfl rfl hA
  · replace h := mm_iq hc h
    refine mm_Runs.seq (l := [(10, .iload_n 0, 1), (11, .sipush 256, 3)]) (S2 := (14, [some (.int v0)], [.int (256 : Int32), .int v0], M)) (by decide +kernel) (hO := mm_own_82) rfl ?_
    refine mm_R_ige (t := 20) rfl rfl rfl (fun hc => ?_) (fun hc => ?_)
    · replace h := mm_ip hc h
      refine mm_Runs.seq (l := [(17, .bipush 9, 2)]) (S2 := (19, [some (.int v0)], [.int (9 : Int32)], M)) (by decide +kernel) (hO := mm_own_82) rfl ?_
      cases h
      exact mm_R_reti rfl rfl hA
    · replace h := mm_iq hc h
      refine mm_Runs.seq (l := [(20, .iload_n 0, 1), (21, .sipush 280, 3)]) (S2 := (24, [some (.int v0)], [.int (280 : Int32), .int v0], M)) (by decide +kernel) (hO := mm_own_82) rfl ?_
      refine mm_R_ige (t := 32) rfl rfl rfl (fun hc => ?_) (fun hc => ?_)
      · replace h := mm_ip hc h
        refine mm_Runs.seq (l := [(27, .bipush 7, 2), (29, .goto 5, 3)]) (S2 := (34, [some (.int v0)], [.int (7 : Int32)], M)) (by decide +kernel) (hO := mm_own_82) rfl ?_
        cases h
        exact mm_R_reti rfl rfl hA
      · replace h := mm_iq hc h
        refine mm_Runs.seq (l := [(32, .bipush 8, 2)]) (S2 := (34, [some (.int v0)], [.int (8 : Int32)], M)) (by decide +kernel) (hO := mm_own_82) rfl ?_
        cases h
        exact mm_R_reti rfl rfl hA
-- 290: java/util/Arrays.fill([II)V (depth 0)
theorem mm_own_290 : mm_own 290 = 15 := rfl
def mp_290_5 (L : Nat) (xs : Nat → Int32) (p : Nat) (n : Nat) (d : Nat) (v1 : Int32) (v2 : Int32) (v3 : Int32) (M : mm_M) (o : mm_E) : Prop := mm_Runs L xs d 290 (5, [some (.ref p), some (.int v1), some (.int v2), some (.int v3)], [], M) o
def mp_290_20 (L : Nat) (xs : Nat → Int32) (p : Nat) (n : Nat) (d : Nat) (M : mm_M) (o : mm_E) : Prop := ∀ z0 z1 z2 z3 : Option Value, mm_Runs L xs d 290 (20, [z0, z1, z2, z3], [], M) o
set_option maxRecDepth 8000 in
set_option maxHeartbeats 4000000 in
theorem ms_290_b5 {L : Nat} {xs : Nat → Int32} {p : Nat} {n : Nat} {d : Nat} (ha : mm_aat 0 p = some n) (hd : 0 ≤ d) {v1 : Int32} {v2 : Int32} {v3 : Int32} {M : mm_M} {q : (((Int32) ⊕ (Unit)) ⊕ Nat) × mm_M} {o : mm_E} (h : mf_290_b5 p n v1 v2 v3 M = some q) (hA : mm_A (mm_K2 (fun s M o => mp_290_5 L xs p n (d) v1 s v3 M o) (fun r M o => mp_290_20 L xs p n (d) M o)) q o) : mp_290_5 L xs p n d v1 v2 v3 M o := by
  unfold mf_290_b5 at h
  show mm_Runs L xs (d) 290 (5, [some (.ref p), some (.int v1), some (.int v2), some (.int v3)], [], M) o
  refine mm_Runs.seq (l := [(5, .iload_n 2, 1), (6, .iload_n 3, 1)]) (S2 := (7, [some (.ref p), some (.int v1), some (.int v2), some (.int v3)], [.int v3, .int v2], M)) (by decide +kernel) (hO := mm_own_290) rfl ?_
  refine mm_R_ige (t := 20) rfl rfl rfl (fun hc => ?_) (fun hc => ?_)
  · replace h := mm_ip hc h
    refine mm_Runs.seq (l := [(10, .aload_n 0, 1), (11, .iload_n 2, 1), (12, .iload_n 1, 1)]) (S2 := (13, [some (.ref p), some (.int v1), some (.int v2), some (.int v3)], [.int v1, .int v2, .ref p], M)) (by decide +kernel) (hO := mm_own_290) rfl ?_
    obtain ⟨hb, h⟩ := mm_gd h
    refine mm_R_iast rfl ha hb ?_
    refine mm_Runs.seq (l := [(14, .iinc 2 1, 3), (17, .goto (-12), 3)]) (S2 := (5, [some (.ref p), some (.int v1), some (.int (v2 + (1 : Int32))), some (.int v3)], [], (mm_pi M p v2.toNatClampNeg v1))) (by decide +kernel) (hO := mm_own_290) rfl ?_
    cases h
    exact (show mp_290_5 L xs p n (d) v1 (v2 + (1 : Int32)) v3 (mm_pi M p v2.toNatClampNeg v1) o from hA)
  · replace h := mm_iq hc h
    cases h
    exact (show mp_290_20 L xs p n (d) M o from hA) (some (.ref p)) (some (.int v1)) (some (.int v2)) (some (.int v3))
theorem ms_290_L5 {L : Nat} {xs : Nat → Int32} {p : Nat} {n : Nat} {d : Nat} (ha : mm_aat 0 p = some n) (hd : 0 ≤ d) {v1 : Int32} {v2 : Int32} {v3 : Int32} {β : Type} {K : β → mm_M → mm_E → Prop} {F : (Unit) → mm_M → mm_O β} {M : mm_M} {q : (β ⊕ Nat) × mm_M} {o : mm_E} (h : mm_B (mf_290_L5 p n v1 v3 v2 M) F = some q) (hA : mm_A K q o) (hx : ∀ (r : (Unit)) (M2 : mm_M), F r M2 = some q → (fun r M o => mp_290_20 L xs p n (d) M o) r M2 o) : mp_290_5 L xs p n d v1 v2 v3 M o := by
  unfold mf_290_L5 at h
  exact mm_R_loop (step := (fun s M => mf_290_b5 p n v1 s v3 M)) (s := v2) (M := M) (P := (fun s M o => mp_290_5 L xs p n (d) v1 s v3 M o)) (X := (fun r M o => mp_290_20 L xs p n (d) M o)) h hA (fun s M q hq hA => ms_290_b5 ha (v1 := v1) (v2 := s) (v3 := v3) (M := M) (q := q) hd hq hA) hx
set_option maxRecDepth 8000 in
set_option maxHeartbeats 4000000 in
theorem ms_290 {L : Nat} {xs : Nat → Int32} {p : Nat} {n : Nat} {d : Nat} (ha : mm_aat 0 p = some n) (hd : 0 ≤ d) {v1 : Int32} {M : mm_M} {q : (Unit ⊕ Nat) × mm_M} {o : mm_E} (h : mf_290 p n v1 M = some q) (hA : mm_A (mm_Kr mm_wv) q o) : mm_Runs L xs d 290 (0, mm_ent (mm_ml 290) [.ref p, .int v1], [], M) o := by
  unfold mf_290 at h
  show mm_Runs L xs (d) 290 (0, [some (.ref p), some (.int v1), none, none], [], M) o
  refine mm_Runs.seq (l := [(0, .iconst 0, 1), (1, .istore_n 2, 1), (2, .aload_n 0, 1)]) (S2 := (3, [some (.ref p), some (.int v1), some (.int (0 : Int32)), none], [.ref p], M)) (by decide +kernel) (hO := mm_own_290) rfl ?_
  refine mm_R_alen rfl ha ?_
  refine mm_Runs.seq (l := [(4, .istore_n 3, 1)]) (S2 := (5, [some (.ref p), some (.int v1), some (.int (0 : Int32)), some (.int (Int32.ofNat n))], [], M)) (by decide +kernel) (hO := mm_own_290) rfl ?_
  have hp : mp_290_5 L xs p n (d) v1 (0 : Int32) (Int32.ofNat n) M o := by
    refine ms_290_L5 ha hd h hA (fun r2 M1 h => ?_)
    intro y3 y4 y5 y6
    show mm_Runs L xs (d) 290 (20, [y3, y4, y5, y6], [], M1) o
    cases h
    exact mm_R_retv rfl rfl hA
  exact hp
-- 99: PlainPacks$Codes.make(I)V (depth 2)
theorem mm_own_99 : mm_own 99 = 7 := rfl
def mp_99_30 (L : Nat) (xs : Nat → Int32) (p : Nat) (n : Nat) (d : Nat) (v2 : Int32) (v3 : Int32) (M : mm_M) (o : mm_E) : Prop := ∀ z1 z4 : Option Value, mm_Runs L xs d 99 (30, [some (.ref p), z1, some (.int v2), some (.int v3), z4], [], M) o
def mp_99_96 (L : Nat) (xs : Nat → Int32) (p : Nat) (n : Nat) (d : Nat) (v2 : Int32) (M : mm_M) (o : mm_E) : Prop := ∀ z1 z3 z4 : Option Value, mm_Runs L xs d 99 (96, [some (.ref p), z1, some (.int v2), z3, z4], [], M) o
set_option maxRecDepth 8000 in
set_option maxHeartbeats 4000000 in
theorem ms_99_b30 {L : Nat} {xs : Nat → Int32} {p : Nat} {n : Nat} {d : Nat} (hC : mm_isC p n) (hd : 2 ≤ d) {v2 : Int32} {v3 : Int32} {M : mm_M} {q : (((Int32) ⊕ (Unit)) ⊕ Nat) × mm_M} {o : mm_E} (h : mf_99_b30 p n v2 v3 M = some q) (hA : mm_A (mm_K2 (fun s M o => mp_99_30 L xs p n (d) v2 s M o) (fun r M o => mp_99_96 L xs p n (d) v2 M o)) q o) : mp_99_30 L xs p n d v2 v3 M o := by
  unfold mf_99_b30 at h
  obtain ⟨d, rfl⟩ := mm_d1 (n := 1) hd
  intro z1 z4
  show mm_Runs L xs (d + 1) 99 (30, [some (.ref p), z1, some (.int v2), some (.int v3), z4], [], M) o
  refine mm_Runs.seq (l := [(30, .iload_n 3, 1), (31, .iload_n 2, 1)]) (S2 := (32, [some (.ref p), z1, some (.int v2), some (.int v3), z4], [.int v2, .int v3], M)) (by decide +kernel) (hO := mm_own_99) rfl ?_
  refine mm_R_ige (t := 96) rfl rfl rfl (fun hc => ?_) (fun hc => ?_)
  · replace h := mm_ip hc h
    refine mm_Runs.seq (l := [(35, .aload_n 0, 1)]) (S2 := (36, [some (.ref p), z1, some (.int v2), some (.int v3), z4], [.ref p], M)) (by decide +kernel) (hO := mm_own_99) rfl ?_
    refine mm_R_getf (ci := 7) (j := 0) (f := .inl (p + 1)) rfl rfl (mm_isC_f0 hC) ?_
    show mm_Runs L xs (d + 1) 99 (39, [some (.ref p), z1, some (.int v2), some (.int v3), z4], [.ref (p + 1)], M) o
    refine mm_Runs.seq (l := [(39, .iload_n 3, 1)]) (S2 := (40, [some (.ref p), z1, some (.int v2), some (.int v3), z4], [.int v3, .ref (p + 1)], M)) (by decide +kernel) (hO := mm_own_99) rfl ?_
    obtain ⟨hb, h⟩ := mm_gd h
    refine mm_R_iald rfl (mm_isC_a1 hC) hb ?_
    refine mm_Runs.seq (l := [(41, .istore 4, 2), (43, .iload 4, 2)]) (S2 := (45, [some (.ref p), z1, some (.int v2), some (.int v3), some (.int (M.1 (p + 1) v3.toNatClampNeg))], [.int (M.1 (p + 1) v3.toNatClampNeg)], M)) (by decide +kernel) (hO := mm_own_99) rfl ?_
    refine mm_R_zle (t := 90) rfl rfl rfl (fun hc => ?_) (fun hc => ?_)
    · replace h := mm_ip hc h
      refine mm_Runs.seq (l := [(48, .iload 4, 2), (50, .bipush 20, 2)]) (S2 := (52, [some (.ref p), z1, some (.int v2), some (.int v3), some (.int (M.1 (p + 1) v3.toNatClampNeg))], [.int (20 : Int32), .int (M.1 (p + 1) v3.toNatClampNeg)], M)) (by decide +kernel) (hO := mm_own_99) rfl ?_
      refine mm_R_igt (t := 90) rfl rfl rfl (fun hc => ?_) (fun hc => ?_)
      · replace h := mm_ip hc h
        refine mm_Runs.seq (l := [(90, .iinc 3 1, 3), (93, .goto (-63), 3)]) (S2 := (30, [some (.ref p), z1, some (.int v2), some (.int (v3 + (1 : Int32))), some (.int (M.1 (p + 1) v3.toNatClampNeg))], [], M)) (by decide +kernel) (hO := mm_own_99) rfl ?_
        cases h
        exact (show mp_99_30 L xs p n (d + 1) v2 (v3 + (1 : Int32)) M o from hA) z1 (some (.int (M.1 (p + 1) v3.toNatClampNeg)))
      · replace h := mm_iq hc h
        refine mm_Runs.seq (l := [(55, .aload_n 0, 1)]) (S2 := (56, [some (.ref p), z1, some (.int v2), some (.int v3), some (.int (M.1 (p + 1) v3.toNatClampNeg))], [.ref p], M)) (by decide +kernel) (hO := mm_own_99) rfl ?_
        refine mm_R_getf (ci := 7) (j := 2) (f := .inl (p + 3)) rfl rfl (mm_isC_f2 hC) ?_
        show mm_Runs L xs (d + 1) 99 (59, [some (.ref p), z1, some (.int v2), some (.int v3), some (.int (M.1 (p + 1) v3.toNatClampNeg))], [.ref (p + 3)], M) o
        refine mm_Runs.seq (l := [(59, .iload 4, 2), (61, .dup2, 1)]) (S2 := (62, [some (.ref p), z1, some (.int v2), some (.int v3), some (.int (M.1 (p + 1) v3.toNatClampNeg))], [.int (M.1 (p + 1) v3.toNatClampNeg), .ref (p + 3), .int (M.1 (p + 1) v3.toNatClampNeg), .ref (p + 3)], M)) (by decide +kernel) (hO := mm_own_99) rfl ?_
        obtain ⟨hb, h⟩ := mm_gd h
        refine mm_R_iald rfl (mm_isC_a3 hC) hb ?_
        refine mm_Runs.seq (l := [(63, .iconst 1, 1), (64, .iadd, 1)]) (S2 := (65, [some (.ref p), z1, some (.int v2), some (.int v3), some (.int (M.1 (p + 1) v3.toNatClampNeg))], [.int ((M.1 (p + 3) (M.1 (p + 1) v3.toNatClampNeg).toNatClampNeg) + (1 : Int32)), .int (M.1 (p + 1) v3.toNatClampNeg), .ref (p + 3)], M)) (by decide +kernel) (hO := mm_own_99) rfl ?_
        obtain ⟨hb, h⟩ := mm_gd h
        refine mm_R_iast rfl (mm_isC_a3 hC) hb ?_
        refine mm_Runs.seq (l := [(66, .aload_n 0, 1), (67, .dup, 1)]) (S2 := (68, [some (.ref p), z1, some (.int v2), some (.int v3), some (.int (M.1 (p + 1) v3.toNatClampNeg))], [.ref p, .ref p], (mm_pi M (p + 3) (M.1 (p + 1) v3.toNatClampNeg).toNatClampNeg ((M.1 (p + 3) (M.1 (p + 1) v3.toNatClampNeg).toNatClampNeg) + (1 : Int32))))) (by decide +kernel) (hO := mm_own_99) rfl ?_
        refine mm_R_getf (ci := 7) (j := 4) (f := .inr .int) rfl rfl (mm_isC_f4 hC) ?_
        show mm_Runs L xs (d + 1) 99 (71, [some (.ref p), z1, some (.int v2), some (.int v3), some (.int (M.1 (p + 1) v3.toNatClampNeg))], [.int ((mm_pi M (p + 3) (M.1 (p + 1) v3.toNatClampNeg).toNatClampNeg ((M.1 (p + 3) (M.1 (p + 1) v3.toNatClampNeg).toNatClampNeg) + (1 : Int32))).1 p 4), .ref p], (mm_pi M (p + 3) (M.1 (p + 1) v3.toNatClampNeg).toNatClampNeg ((M.1 (p + 3) (M.1 (p + 1) v3.toNatClampNeg).toNatClampNeg) + (1 : Int32)))) o
        refine mm_Runs.seq (l := [(71, .iconst 1, 1), (72, .iadd, 1)]) (S2 := (73, [some (.ref p), z1, some (.int v2), some (.int v3), some (.int (M.1 (p + 1) v3.toNatClampNeg))], [.int (((mm_pi M (p + 3) (M.1 (p + 1) v3.toNatClampNeg).toNatClampNeg ((M.1 (p + 3) (M.1 (p + 1) v3.toNatClampNeg).toNatClampNeg) + (1 : Int32))).1 p 4) + (1 : Int32)), .ref p], (mm_pi M (p + 3) (M.1 (p + 1) v3.toNatClampNeg).toNatClampNeg ((M.1 (p + 3) (M.1 (p + 1) v3.toNatClampNeg).toNatClampNeg) + (1 : Int32))))) (by decide +kernel) (hO := mm_own_99) rfl ?_
        refine mm_R_putf (ci := 7) (j := 4) rfl rfl (mm_isC_f4 hC) ?_
        refine mm_Runs.seq (l := [(76, .aload_n 0, 1), (77, .dup, 1)]) (S2 := (78, [some (.ref p), z1, some (.int v2), some (.int v3), some (.int (M.1 (p + 1) v3.toNatClampNeg))], [.ref p, .ref p], (mm_pi (mm_pi M (p + 3) (M.1 (p + 1) v3.toNatClampNeg).toNatClampNeg ((M.1 (p + 3) (M.1 (p + 1) v3.toNatClampNeg).toNatClampNeg) + (1 : Int32))) p 4 (((mm_pi M (p + 3) (M.1 (p + 1) v3.toNatClampNeg).toNatClampNeg ((M.1 (p + 3) (M.1 (p + 1) v3.toNatClampNeg).toNatClampNeg) + (1 : Int32))).1 p 4) + (1 : Int32))))) (by decide +kernel) (hO := mm_own_99) rfl ?_
        refine mm_R_getf (ci := 7) (j := 5) (f := .inr .int) rfl rfl (mm_isC_f5 hC) ?_
        show mm_Runs L xs (d + 1) 99 (81, [some (.ref p), z1, some (.int v2), some (.int v3), some (.int (M.1 (p + 1) v3.toNatClampNeg))], [.int ((mm_pi (mm_pi M (p + 3) (M.1 (p + 1) v3.toNatClampNeg).toNatClampNeg ((M.1 (p + 3) (M.1 (p + 1) v3.toNatClampNeg).toNatClampNeg) + (1 : Int32))) p 4 (((mm_pi M (p + 3) (M.1 (p + 1) v3.toNatClampNeg).toNatClampNeg ((M.1 (p + 3) (M.1 (p + 1) v3.toNatClampNeg).toNatClampNeg) + (1 : Int32))).1 p 4) + (1 : Int32))).1 p 5), .ref p], (mm_pi (mm_pi M (p + 3) (M.1 (p + 1) v3.toNatClampNeg).toNatClampNeg ((M.1 (p + 3) (M.1 (p + 1) v3.toNatClampNeg).toNatClampNeg) + (1 : Int32))) p 4 (((mm_pi M (p + 3) (M.1 (p + 1) v3.toNatClampNeg).toNatClampNeg ((M.1 (p + 3) (M.1 (p + 1) v3.toNatClampNeg).toNatClampNeg) + (1 : Int32))).1 p 4) + (1 : Int32)))) o
        refine mm_Runs.seq (l := [(81, .ldc 41, 2), (83, .iload 4, 2), (85, .ishr, 1), (86, .iadd, 1)]) (S2 := (87, [some (.ref p), z1, some (.int v2), some (.int v3), some (.int (M.1 (p + 1) v3.toNatClampNeg))], [.int (((mm_pi (mm_pi M (p + 3) (M.1 (p + 1) v3.toNatClampNeg).toNatClampNeg ((M.1 (p + 3) (M.1 (p + 1) v3.toNatClampNeg).toNatClampNeg) + (1 : Int32))) p 4 (((mm_pi M (p + 3) (M.1 (p + 1) v3.toNatClampNeg).toNatClampNeg ((M.1 (p + 3) (M.1 (p + 1) v3.toNatClampNeg).toNatClampNeg) + (1 : Int32))).1 p 4) + (1 : Int32))).1 p 5) + (mm_shr (1048576 : Int32) (M.1 (p + 1) v3.toNatClampNeg))), .ref p], (mm_pi (mm_pi M (p + 3) (M.1 (p + 1) v3.toNatClampNeg).toNatClampNeg ((M.1 (p + 3) (M.1 (p + 1) v3.toNatClampNeg).toNatClampNeg) + (1 : Int32))) p 4 (((mm_pi M (p + 3) (M.1 (p + 1) v3.toNatClampNeg).toNatClampNeg ((M.1 (p + 3) (M.1 (p + 1) v3.toNatClampNeg).toNatClampNeg) + (1 : Int32))).1 p 4) + (1 : Int32))))) (by decide +kernel) (hO := mm_own_99) rfl ?_
        refine mm_R_putf (ci := 7) (j := 5) rfl rfl (mm_isC_f5 hC) ?_
        refine mm_Runs.seq (l := [(90, .iinc 3 1, 3), (93, .goto (-63), 3)]) (S2 := (30, [some (.ref p), z1, some (.int v2), some (.int (v3 + (1 : Int32))), some (.int (M.1 (p + 1) v3.toNatClampNeg))], [], (mm_pi (mm_pi (mm_pi M (p + 3) (M.1 (p + 1) v3.toNatClampNeg).toNatClampNeg ((M.1 (p + 3) (M.1 (p + 1) v3.toNatClampNeg).toNatClampNeg) + (1 : Int32))) p 4 (((mm_pi M (p + 3) (M.1 (p + 1) v3.toNatClampNeg).toNatClampNeg ((M.1 (p + 3) (M.1 (p + 1) v3.toNatClampNeg).toNatClampNeg) + (1 : Int32))).1 p 4) + (1 : Int32))) p 5 (((mm_pi (mm_pi M (p + 3) (M.1 (p + 1) v3.toNatClampNeg).toNatClampNeg ((M.1 (p + 3) (M.1 (p + 1) v3.toNatClampNeg).toNatClampNeg) + (1 : Int32))) p 4 (((mm_pi M (p + 3) (M.1 (p + 1) v3.toNatClampNeg).toNatClampNeg ((M.1 (p + 3) (M.1 (p + 1) v3.toNatClampNeg).toNatClampNeg) + (1 : Int32))).1 p 4) + (1 : Int32))).1 p 5) + (mm_shr (1048576 : Int32) (M.1 (p + 1) v3.toNatClampNeg)))))) (by decide +kernel) (hO := mm_own_99) rfl ?_
        cases h
        exact (show mp_99_30 L xs p n (d + 1) v2 (v3 + (1 : Int32)) (mm_pi (mm_pi (mm_pi M (p + 3) (M.1 (p + 1) v3.toNatClampNeg).toNatClampNeg ((M.1 (p + 3) (M.1 (p + 1) v3.toNatClampNeg).toNatClampNeg) + (1 : Int32))) p 4 (((mm_pi M (p + 3) (M.1 (p + 1) v3.toNatClampNeg).toNatClampNeg ((M.1 (p + 3) (M.1 (p + 1) v3.toNatClampNeg).toNatClampNeg) + (1 : Int32))).1 p 4) + (1 : Int32))) p 5 (((mm_pi (mm_pi M (p + 3) (M.1 (p + 1) v3.toNatClampNeg).toNatClampNeg ((M.1 (p + 3) (M.1 (p + 1) v3.toNatClampNeg).toNatClampNeg) + (1 : Int32))) p 4 (((mm_pi M (p + 3) (M.1 (p + 1) v3.toNatClampNeg).toNatClampNeg ((M.1 (p + 3) (M.1 (p + 1) v3.toNatClampNeg).toNatClampNeg) + (1 : Int32))).1 p 4) + (1 : Int32))).1 p 5) + (mm_shr (1048576 : Int32) (M.1 (p + 1) v3.toNatClampNeg)))) o from hA) z1 (some (.int (M.1 (p + 1) v3.toNatClampNeg)))
    · replace h := mm_iq hc h
      refine mm_Runs.seq (l := [(90, .iinc 3 1, 3), (93, .goto (-63), 3)]) (S2 := (30, [some (.ref p), z1, some (.int v2), some (.int (v3 + (1 : Int32))), some (.int (M.1 (p + 1) v3.toNatClampNeg))], [], M)) (by decide +kernel) (hO := mm_own_99) rfl ?_
      cases h
      exact (show mp_99_30 L xs p n (d + 1) v2 (v3 + (1 : Int32)) M o from hA) z1 (some (.int (M.1 (p + 1) v3.toNatClampNeg)))
  · replace h := mm_iq hc h
    cases h
    exact (show mp_99_96 L xs p n (d + 1) v2 M o from hA) z1 (some (.int v3)) z4
theorem ms_99_L30 {L : Nat} {xs : Nat → Int32} {p : Nat} {n : Nat} {d : Nat} (hC : mm_isC p n) (hd : 2 ≤ d) {v2 : Int32} {v3 : Int32} {β : Type} {K : β → mm_M → mm_E → Prop} {F : (Unit) → mm_M → mm_O β} {M : mm_M} {q : (β ⊕ Nat) × mm_M} {o : mm_E} (h : mm_B (mf_99_L30 p n v2 v3 M) F = some q) (hA : mm_A K q o) (hx : ∀ (r : (Unit)) (M2 : mm_M), F r M2 = some q → (fun r M o => mp_99_96 L xs p n (d) v2 M o) r M2 o) : mp_99_30 L xs p n d v2 v3 M o := by
  unfold mf_99_L30 at h
  exact mm_R_loop (step := (fun s M => mf_99_b30 p n v2 s M)) (s := v3) (M := M) (P := (fun s M o => mp_99_30 L xs p n (d) v2 s M o)) (X := (fun r M o => mp_99_96 L xs p n (d) v2 M o)) h hA (fun s M q hq hA => ms_99_b30 hC (v2 := v2) (v3 := s) (M := M) (q := q) hd hq hA) hx
def mp_99_105 (L : Nat) (xs : Nat → Int32) (p : Nat) (n : Nat) (d : Nat) (v2 : Int32) (v3 : Int32) (M : mm_M) (o : mm_E) : Prop := ∀ z1 z4 : Option Value, mm_Runs L xs d 99 (105, [some (.ref p), z1, some (.int v2), some (.int v3), z4], [], M) o
def mp_99_149 (L : Nat) (xs : Nat → Int32) (p : Nat) (n : Nat) (d : Nat) (v2 : Int32) (M : mm_M) (o : mm_E) : Prop := ∀ z1 z3 z4 : Option Value, mm_Runs L xs d 99 (149, [some (.ref p), z1, some (.int v2), z3, z4], [], M) o
def mp_99_141 (L : Nat) (xs : Nat → Int32) (p : Nat) (n : Nat) (d : Nat) (v2 : Int32) (v3 : Int32) (s1 : Int32) (s2 : Int32) (s3 : Int32) (M : mm_M) (o : mm_E) : Prop := ∀ z1 z4 : Option Value, mm_Runs L xs d 99 (141, [some (.ref p), z1, some (.int v2), some (.int v3), z4], [.int s3, .int s2, .int s1, .ref (p + 4)], M) o
set_option maxRecDepth 8000 in
set_option maxHeartbeats 4000000 in
theorem ms_99_j141 {L : Nat} {xs : Nat → Int32} {p : Nat} {n : Nat} {d : Nat} (hC : mm_isC p n) (hd : 2 ≤ d) {v2 : Int32} {v3 : Int32} {s1 : Int32} {s2 : Int32} {s3 : Int32} {M : mm_M} {q : (((Int32) ⊕ (Unit)) ⊕ Nat) × mm_M} {o : mm_E} (h : mf_99_j141 p n v2 v3 s1 s2 s3 M = some q) (hA : mm_A (mm_K2 (fun s M o => mp_99_105 L xs p n (d) v2 s M o) (fun r M o => mp_99_149 L xs p n (d) v2 M o)) q o) : mp_99_141 L xs p n d v2 v3 s1 s2 s3 M o := by
  unfold mf_99_j141 at h
  obtain ⟨d, rfl⟩ := mm_d1 (n := 1) hd
  intro z1 z4
  show mm_Runs L xs (d + 1) 99 (141, [some (.ref p), z1, some (.int v2), some (.int v3), z4], [.int s3, .int s2, .int s1, .ref (p + 4)], M) o
  refine mm_Runs.seq (l := [(141, .iadd, 1)]) (S2 := (142, [some (.ref p), z1, some (.int v2), some (.int v3), z4], [.int (s2 + s3), .int s1, .ref (p + 4)], M)) (by decide +kernel) (hO := mm_own_99) rfl ?_
  obtain ⟨hb, h⟩ := mm_gd h
  refine mm_R_iast rfl (mm_isC_a4 hC) hb ?_
  refine mm_Runs.seq (l := [(143, .iinc 3 1, 3), (146, .goto (-41), 3)]) (S2 := (105, [some (.ref p), z1, some (.int v2), some (.int (v3 + (1 : Int32))), z4], [], (mm_pi M (p + 4) s1.toNatClampNeg (s2 + s3)))) (by decide +kernel) (hO := mm_own_99) rfl ?_
  cases h
  exact (show mp_99_105 L xs p n (d + 1) v2 (v3 + (1 : Int32)) (mm_pi M (p + 4) s1.toNatClampNeg (s2 + s3)) o from hA) z1 z4
set_option maxRecDepth 8000 in
set_option maxHeartbeats 4000000 in
theorem ms_99_b105 {L : Nat} {xs : Nat → Int32} {p : Nat} {n : Nat} {d : Nat} (hC : mm_isC p n) (hd : 2 ≤ d) {v2 : Int32} {v3 : Int32} {M : mm_M} {q : (((Int32) ⊕ (Unit)) ⊕ Nat) × mm_M} {o : mm_E} (h : mf_99_b105 p n v2 v3 M = some q) (hA : mm_A (mm_K2 (fun s M o => mp_99_105 L xs p n (d) v2 s M o) (fun r M o => mp_99_149 L xs p n (d) v2 M o)) q o) : mp_99_105 L xs p n d v2 v3 M o := by
  unfold mf_99_b105 at h
  obtain ⟨d, rfl⟩ := mm_d1 (n := 1) hd
  intro z1 z4
  show mm_Runs L xs (d + 1) 99 (105, [some (.ref p), z1, some (.int v2), some (.int v3), z4], [], M) o
  refine mm_Runs.seq (l := [(105, .iload_n 3, 1), (106, .bipush 20, 2)]) (S2 := (108, [some (.ref p), z1, some (.int v2), some (.int v3), z4], [.int (20 : Int32), .int v3], M)) (by decide +kernel) (hO := mm_own_99) rfl ?_
  refine mm_R_igt (t := 149) rfl rfl rfl (fun hc => ?_) (fun hc => ?_)
  · replace h := mm_ip hc h
    cases h
    exact (show mp_99_149 L xs p n (d + 1) v2 M o from hA) z1 (some (.int v3)) z4
  · replace h := mm_iq hc h
    refine mm_Runs.seq (l := [(111, .aload_n 0, 1)]) (S2 := (112, [some (.ref p), z1, some (.int v2), some (.int v3), z4], [.ref p], M)) (by decide +kernel) (hO := mm_own_99) rfl ?_
    refine mm_R_getf (ci := 7) (j := 3) (f := .inl (p + 4)) rfl rfl (mm_isC_f3 hC) ?_
    show mm_Runs L xs (d + 1) 99 (115, [some (.ref p), z1, some (.int v2), some (.int v3), z4], [.ref (p + 4)], M) o
    refine mm_Runs.seq (l := [(115, .iload_n 3, 1), (116, .aload_n 0, 1)]) (S2 := (117, [some (.ref p), z1, some (.int v2), some (.int v3), z4], [.ref p, .int v3, .ref (p + 4)], M)) (by decide +kernel) (hO := mm_own_99) rfl ?_
    refine mm_R_getf (ci := 7) (j := 3) (f := .inl (p + 4)) rfl rfl (mm_isC_f3 hC) ?_
    show mm_Runs L xs (d + 1) 99 (120, [some (.ref p), z1, some (.int v2), some (.int v3), z4], [.ref (p + 4), .int v3, .ref (p + 4)], M) o
    refine mm_Runs.seq (l := [(120, .iload_n 3, 1), (121, .iconst 1, 1), (122, .isub, 1)]) (S2 := (123, [some (.ref p), z1, some (.int v2), some (.int v3), z4], [.int (v3 - (1 : Int32)), .ref (p + 4), .int v3, .ref (p + 4)], M)) (by decide +kernel) (hO := mm_own_99) rfl ?_
    obtain ⟨hb, h⟩ := mm_gd h
    refine mm_R_iald rfl (mm_isC_a4 hC) hb ?_
    refine mm_Runs.seq (l := [(124, .iload_n 3, 1), (125, .iconst 1, 1)]) (S2 := (126, [some (.ref p), z1, some (.int v2), some (.int v3), z4], [.int (1 : Int32), .int v3, .int (M.1 (p + 4) (v3 - (1 : Int32)).toNatClampNeg), .int v3, .ref (p + 4)], M)) (by decide +kernel) (hO := mm_own_99) rfl ?_
    refine mm_R_ile (t := 140) rfl rfl rfl (fun hc => ?_) (fun hc => ?_)
    · replace h := mm_ip hc h
      refine mm_Runs.seq (l := [(129, .aload_n 0, 1)]) (S2 := (130, [some (.ref p), z1, some (.int v2), some (.int v3), z4], [.ref p, .int (M.1 (p + 4) (v3 - (1 : Int32)).toNatClampNeg), .int v3, .ref (p + 4)], M)) (by decide +kernel) (hO := mm_own_99) rfl ?_
      refine mm_R_getf (ci := 7) (j := 2) (f := .inl (p + 3)) rfl rfl (mm_isC_f2 hC) ?_
      show mm_Runs L xs (d + 1) 99 (133, [some (.ref p), z1, some (.int v2), some (.int v3), z4], [.ref (p + 3), .int (M.1 (p + 4) (v3 - (1 : Int32)).toNatClampNeg), .int v3, .ref (p + 4)], M) o
      refine mm_Runs.seq (l := [(133, .iload_n 3, 1), (134, .iconst 1, 1), (135, .isub, 1)]) (S2 := (136, [some (.ref p), z1, some (.int v2), some (.int v3), z4], [.int (v3 - (1 : Int32)), .ref (p + 3), .int (M.1 (p + 4) (v3 - (1 : Int32)).toNatClampNeg), .int v3, .ref (p + 4)], M)) (by decide +kernel) (hO := mm_own_99) rfl ?_
      obtain ⟨hb, h⟩ := mm_gd h
      refine mm_R_iald rfl (mm_isC_a3 hC) hb ?_
      refine mm_Runs.seq (l := [(137, .goto 4, 3)]) (S2 := (141, [some (.ref p), z1, some (.int v2), some (.int v3), z4], [.int (M.1 (p + 3) (v3 - (1 : Int32)).toNatClampNeg), .int (M.1 (p + 4) (v3 - (1 : Int32)).toNatClampNeg), .int v3, .ref (p + 4)], M)) (by decide +kernel) (hO := mm_own_99) rfl ?_
      exact (ms_99_j141 hC hd h hA : mp_99_141 L xs p n (d + 1) v2 v3 v3 (M.1 (p + 4) (v3 - (1 : Int32)).toNatClampNeg) (M.1 (p + 3) (v3 - (1 : Int32)).toNatClampNeg) M o) z1 z4
    · replace h := mm_iq hc h
      refine mm_Runs.seq (l := [(140, .iconst 0, 1)]) (S2 := (141, [some (.ref p), z1, some (.int v2), some (.int v3), z4], [.int (0 : Int32), .int (M.1 (p + 4) (v3 - (1 : Int32)).toNatClampNeg), .int v3, .ref (p + 4)], M)) (by decide +kernel) (hO := mm_own_99) rfl ?_
      exact (ms_99_j141 hC hd h hA : mp_99_141 L xs p n (d + 1) v2 v3 v3 (M.1 (p + 4) (v3 - (1 : Int32)).toNatClampNeg) (0 : Int32) M o) z1 z4
theorem ms_99_L105 {L : Nat} {xs : Nat → Int32} {p : Nat} {n : Nat} {d : Nat} (hC : mm_isC p n) (hd : 2 ≤ d) {v2 : Int32} {v3 : Int32} {β : Type} {K : β → mm_M → mm_E → Prop} {F : (Unit) → mm_M → mm_O β} {M : mm_M} {q : (β ⊕ Nat) × mm_M} {o : mm_E} (h : mm_B (mf_99_L105 p n v2 v3 M) F = some q) (hA : mm_A K q o) (hx : ∀ (r : (Unit)) (M2 : mm_M), F r M2 = some q → (fun r M o => mp_99_149 L xs p n (d) v2 M o) r M2 o) : mp_99_105 L xs p n d v2 v3 M o := by
  unfold mf_99_L105 at h
  exact mm_R_loop (step := (fun s M => mf_99_b105 p n v2 s M)) (s := v3) (M := M) (P := (fun s M o => mp_99_105 L xs p n (d) v2 s M o)) (X := (fun r M o => mp_99_149 L xs p n (d) v2 M o)) h hA (fun s M q hq hA => ms_99_b105 hC (v2 := v2) (v3 := s) (M := M) (q := q) hd hq hA) hx
def mp_99_151 (L : Nat) (xs : Nat → Int32) (p : Nat) (n : Nat) (d : Nat) (v2 : Int32) (v3 : Int32) (M : mm_M) (o : mm_E) : Prop := ∀ z1 z4 : Option Value, mm_Runs L xs d 99 (151, [some (.ref p), z1, some (.int v2), some (.int v3), z4], [], M) o
def mp_99_206 (L : Nat) (xs : Nat → Int32) (p : Nat) (n : Nat) (d : Nat) (M : mm_M) (o : mm_E) : Prop := ∀ z0 z1 z2 z3 z4 : Option Value, mm_Runs L xs d 99 (206, [z0, z1, z2, z3, z4], [], M) o
set_option maxRecDepth 8000 in
set_option maxHeartbeats 4000000 in
theorem ms_99_b151 {L : Nat} {xs : Nat → Int32} {p : Nat} {n : Nat} {d : Nat} (hC : mm_isC p n) (hd : 2 ≤ d) {v2 : Int32} {v3 : Int32} {M : mm_M} {q : (((Int32) ⊕ (Unit)) ⊕ Nat) × mm_M} {o : mm_E} (h : mf_99_b151 p n v2 v3 M = some q) (hA : mm_A (mm_K2 (fun s M o => mp_99_151 L xs p n (d) v2 s M o) (fun r M o => mp_99_206 L xs p n (d) M o)) q o) : mp_99_151 L xs p n d v2 v3 M o := by
  unfold mf_99_b151 at h
  obtain ⟨d, rfl⟩ := mm_d1 (n := 1) hd
  intro z1 z4
  show mm_Runs L xs (d + 1) 99 (151, [some (.ref p), z1, some (.int v2), some (.int v3), z4], [], M) o
  refine mm_Runs.seq (l := [(151, .iload_n 3, 1), (152, .iload_n 2, 1)]) (S2 := (153, [some (.ref p), z1, some (.int v2), some (.int v3), z4], [.int v2, .int v3], M)) (by decide +kernel) (hO := mm_own_99) rfl ?_
  refine mm_R_ige (t := 206) rfl rfl rfl (fun hc => ?_) (fun hc => ?_)
  · replace h := mm_ip hc h
    refine mm_Runs.seq (l := [(156, .aload_n 0, 1)]) (S2 := (157, [some (.ref p), z1, some (.int v2), some (.int v3), z4], [.ref p], M)) (by decide +kernel) (hO := mm_own_99) rfl ?_
    refine mm_R_getf (ci := 7) (j := 0) (f := .inl (p + 1)) rfl rfl (mm_isC_f0 hC) ?_
    show mm_Runs L xs (d + 1) 99 (160, [some (.ref p), z1, some (.int v2), some (.int v3), z4], [.ref (p + 1)], M) o
    refine mm_Runs.seq (l := [(160, .iload_n 3, 1)]) (S2 := (161, [some (.ref p), z1, some (.int v2), some (.int v3), z4], [.int v3, .ref (p + 1)], M)) (by decide +kernel) (hO := mm_own_99) rfl ?_
    obtain ⟨hb, h⟩ := mm_gd h
    refine mm_R_iald rfl (mm_isC_a1 hC) hb ?_
    refine mm_Runs.seq (l := [(162, .istore 4, 2), (164, .iload 4, 2)]) (S2 := (166, [some (.ref p), z1, some (.int v2), some (.int v3), some (.int (M.1 (p + 1) v3.toNatClampNeg))], [.int (M.1 (p + 1) v3.toNatClampNeg)], M)) (by decide +kernel) (hO := mm_own_99) rfl ?_
    refine mm_R_zle (t := 200) rfl rfl rfl (fun hc => ?_) (fun hc => ?_)
    · replace h := mm_ip hc h
      refine mm_Runs.seq (l := [(169, .iload 4, 2), (171, .bipush 20, 2)]) (S2 := (173, [some (.ref p), z1, some (.int v2), some (.int v3), some (.int (M.1 (p + 1) v3.toNatClampNeg))], [.int (20 : Int32), .int (M.1 (p + 1) v3.toNatClampNeg)], M)) (by decide +kernel) (hO := mm_own_99) rfl ?_
      refine mm_R_igt (t := 200) rfl rfl rfl (fun hc => ?_) (fun hc => ?_)
      · replace h := mm_ip hc h
        refine mm_Runs.seq (l := [(200, .iinc 3 1, 3), (203, .goto (-52), 3)]) (S2 := (151, [some (.ref p), z1, some (.int v2), some (.int (v3 + (1 : Int32))), some (.int (M.1 (p + 1) v3.toNatClampNeg))], [], M)) (by decide +kernel) (hO := mm_own_99) rfl ?_
        cases h
        exact (show mp_99_151 L xs p n (d + 1) v2 (v3 + (1 : Int32)) M o from hA) z1 (some (.int (M.1 (p + 1) v3.toNatClampNeg)))
      · replace h := mm_iq hc h
        refine mm_Runs.seq (l := [(176, .aload_n 0, 1)]) (S2 := (177, [some (.ref p), z1, some (.int v2), some (.int v3), some (.int (M.1 (p + 1) v3.toNatClampNeg))], [.ref p], M)) (by decide +kernel) (hO := mm_own_99) rfl ?_
        refine mm_R_getf (ci := 7) (j := 1) (f := .inl (p + 2)) rfl rfl (mm_isC_f1 hC) ?_
        show mm_Runs L xs (d + 1) 99 (180, [some (.ref p), z1, some (.int v2), some (.int v3), some (.int (M.1 (p + 1) v3.toNatClampNeg))], [.ref (p + 2)], M) o
        refine mm_Runs.seq (l := [(180, .aload_n 0, 1)]) (S2 := (181, [some (.ref p), z1, some (.int v2), some (.int v3), some (.int (M.1 (p + 1) v3.toNatClampNeg))], [.ref p, .ref (p + 2)], M)) (by decide +kernel) (hO := mm_own_99) rfl ?_
        refine mm_R_getf (ci := 7) (j := 3) (f := .inl (p + 4)) rfl rfl (mm_isC_f3 hC) ?_
        show mm_Runs L xs (d + 1) 99 (184, [some (.ref p), z1, some (.int v2), some (.int v3), some (.int (M.1 (p + 1) v3.toNatClampNeg))], [.ref (p + 4), .ref (p + 2)], M) o
        refine mm_Runs.seq (l := [(184, .iload 4, 2)]) (S2 := (186, [some (.ref p), z1, some (.int v2), some (.int v3), some (.int (M.1 (p + 1) v3.toNatClampNeg))], [.int (M.1 (p + 1) v3.toNatClampNeg), .ref (p + 4), .ref (p + 2)], M)) (by decide +kernel) (hO := mm_own_99) rfl ?_
        obtain ⟨hb, h⟩ := mm_gd h
        refine mm_R_iald rfl (mm_isC_a4 hC) hb ?_
        refine mm_Runs.seq (l := [(187, .iload_n 3, 1)]) (S2 := (188, [some (.ref p), z1, some (.int v2), some (.int v3), some (.int (M.1 (p + 1) v3.toNatClampNeg))], [.int v3, .int (M.1 (p + 4) (M.1 (p + 1) v3.toNatClampNeg).toNatClampNeg), .ref (p + 2)], M)) (by decide +kernel) (hO := mm_own_99) rfl ?_
        obtain ⟨hb, h⟩ := mm_gd h
        refine mm_R_iast rfl (mm_isC_a2 hC) hb ?_
        refine mm_Runs.seq (l := [(189, .aload_n 0, 1)]) (S2 := (190, [some (.ref p), z1, some (.int v2), some (.int v3), some (.int (M.1 (p + 1) v3.toNatClampNeg))], [.ref p], (mm_pi M (p + 2) (M.1 (p + 4) (M.1 (p + 1) v3.toNatClampNeg).toNatClampNeg).toNatClampNeg v3))) (by decide +kernel) (hO := mm_own_99) rfl ?_
        refine mm_R_getf (ci := 7) (j := 3) (f := .inl (p + 4)) rfl rfl (mm_isC_f3 hC) ?_
        show mm_Runs L xs (d + 1) 99 (193, [some (.ref p), z1, some (.int v2), some (.int v3), some (.int (M.1 (p + 1) v3.toNatClampNeg))], [.ref (p + 4)], (mm_pi M (p + 2) (M.1 (p + 4) (M.1 (p + 1) v3.toNatClampNeg).toNatClampNeg).toNatClampNeg v3)) o
        refine mm_Runs.seq (l := [(193, .iload 4, 2), (195, .dup2, 1)]) (S2 := (196, [some (.ref p), z1, some (.int v2), some (.int v3), some (.int (M.1 (p + 1) v3.toNatClampNeg))], [.int (M.1 (p + 1) v3.toNatClampNeg), .ref (p + 4), .int (M.1 (p + 1) v3.toNatClampNeg), .ref (p + 4)], (mm_pi M (p + 2) (M.1 (p + 4) (M.1 (p + 1) v3.toNatClampNeg).toNatClampNeg).toNatClampNeg v3))) (by decide +kernel) (hO := mm_own_99) rfl ?_
        obtain ⟨hb, h⟩ := mm_gd h
        refine mm_R_iald rfl (mm_isC_a4 hC) hb ?_
        refine mm_Runs.seq (l := [(197, .iconst 1, 1), (198, .iadd, 1)]) (S2 := (199, [some (.ref p), z1, some (.int v2), some (.int v3), some (.int (M.1 (p + 1) v3.toNatClampNeg))], [.int (((mm_pi M (p + 2) (M.1 (p + 4) (M.1 (p + 1) v3.toNatClampNeg).toNatClampNeg).toNatClampNeg v3).1 (p + 4) (M.1 (p + 1) v3.toNatClampNeg).toNatClampNeg) + (1 : Int32)), .int (M.1 (p + 1) v3.toNatClampNeg), .ref (p + 4)], (mm_pi M (p + 2) (M.1 (p + 4) (M.1 (p + 1) v3.toNatClampNeg).toNatClampNeg).toNatClampNeg v3))) (by decide +kernel) (hO := mm_own_99) rfl ?_
        obtain ⟨hb, h⟩ := mm_gd h
        refine mm_R_iast rfl (mm_isC_a4 hC) hb ?_
        refine mm_Runs.seq (l := [(200, .iinc 3 1, 3), (203, .goto (-52), 3)]) (S2 := (151, [some (.ref p), z1, some (.int v2), some (.int (v3 + (1 : Int32))), some (.int (M.1 (p + 1) v3.toNatClampNeg))], [], (mm_pi (mm_pi M (p + 2) (M.1 (p + 4) (M.1 (p + 1) v3.toNatClampNeg).toNatClampNeg).toNatClampNeg v3) (p + 4) (M.1 (p + 1) v3.toNatClampNeg).toNatClampNeg (((mm_pi M (p + 2) (M.1 (p + 4) (M.1 (p + 1) v3.toNatClampNeg).toNatClampNeg).toNatClampNeg v3).1 (p + 4) (M.1 (p + 1) v3.toNatClampNeg).toNatClampNeg) + (1 : Int32))))) (by decide +kernel) (hO := mm_own_99) rfl ?_
        cases h
        exact (show mp_99_151 L xs p n (d + 1) v2 (v3 + (1 : Int32)) (mm_pi (mm_pi M (p + 2) (M.1 (p + 4) (M.1 (p + 1) v3.toNatClampNeg).toNatClampNeg).toNatClampNeg v3) (p + 4) (M.1 (p + 1) v3.toNatClampNeg).toNatClampNeg (((mm_pi M (p + 2) (M.1 (p + 4) (M.1 (p + 1) v3.toNatClampNeg).toNatClampNeg).toNatClampNeg v3).1 (p + 4) (M.1 (p + 1) v3.toNatClampNeg).toNatClampNeg) + (1 : Int32))) o from hA) z1 (some (.int (M.1 (p + 1) v3.toNatClampNeg)))
    · replace h := mm_iq hc h
      refine mm_Runs.seq (l := [(200, .iinc 3 1, 3), (203, .goto (-52), 3)]) (S2 := (151, [some (.ref p), z1, some (.int v2), some (.int (v3 + (1 : Int32))), some (.int (M.1 (p + 1) v3.toNatClampNeg))], [], M)) (by decide +kernel) (hO := mm_own_99) rfl ?_
      cases h
      exact (show mp_99_151 L xs p n (d + 1) v2 (v3 + (1 : Int32)) M o from hA) z1 (some (.int (M.1 (p + 1) v3.toNatClampNeg)))
  · replace h := mm_iq hc h
    cases h
    exact (show mp_99_206 L xs p n (d + 1) M o from hA) (some (.ref p)) z1 (some (.int v2)) (some (.int v3)) z4
theorem ms_99_L151 {L : Nat} {xs : Nat → Int32} {p : Nat} {n : Nat} {d : Nat} (hC : mm_isC p n) (hd : 2 ≤ d) {v2 : Int32} {v3 : Int32} {β : Type} {K : β → mm_M → mm_E → Prop} {F : (Unit) → mm_M → mm_O β} {M : mm_M} {q : (β ⊕ Nat) × mm_M} {o : mm_E} (h : mm_B (mf_99_L151 p n v2 v3 M) F = some q) (hA : mm_A K q o) (hx : ∀ (r : (Unit)) (M2 : mm_M), F r M2 = some q → (fun r M o => mp_99_206 L xs p n (d) M o) r M2 o) : mp_99_151 L xs p n d v2 v3 M o := by
  unfold mf_99_L151 at h
  exact mm_R_loop (step := (fun s M => mf_99_b151 p n v2 s M)) (s := v3) (M := M) (P := (fun s M o => mp_99_151 L xs p n (d) v2 s M o)) (X := (fun r M o => mp_99_206 L xs p n (d) M o)) h hA (fun s M q hq hA => ms_99_b151 hC (v2 := v2) (v3 := s) (M := M) (q := q) hd hq hA) hx
set_option maxRecDepth 8000 in
set_option maxHeartbeats 4000000 in
theorem ms_99_j96 {L : Nat} {xs : Nat → Int32} {p : Nat} {n : Nat} {d : Nat} (hC : mm_isC p n) (hd : 2 ≤ d) {v2 : Int32} {M : mm_M} {q : (Unit ⊕ Nat) × mm_M} {o : mm_E} (h : mf_99_j96 p n v2 M = some q) (hA : mm_A (mm_Kr mm_wv) q o) : mp_99_96 L xs p n d v2 M o := by
  unfold mf_99_j96 at h
  obtain ⟨d, rfl⟩ := mm_d1 (n := 1) hd
  intro z1 z3 z4
  show mm_Runs L xs (d + 1) 99 (96, [some (.ref p), z1, some (.int v2), z3, z4], [], M) o
  refine mm_Runs.seq (l := [(96, .aload_n 0, 1)]) (S2 := (97, [some (.ref p), z1, some (.int v2), z3, z4], [.ref p], M)) (by decide +kernel) (hO := mm_own_99) rfl ?_
  refine mm_R_getf (ci := 7) (j := 3) (f := .inl (p + 4)) rfl rfl (mm_isC_f3 hC) ?_
  show mm_Runs L xs (d + 1) 99 (100, [some (.ref p), z1, some (.int v2), z3, z4], [.ref (p + 4)], M) o
  refine mm_Runs.seq (l := [(100, .iconst 0, 1), (101, .iconst 0, 1)]) (S2 := (102, [some (.ref p), z1, some (.int v2), z3, z4], [.int (0 : Int32), .int (0 : Int32), .ref (p + 4)], M)) (by decide +kernel) (hO := mm_own_99) rfl ?_
  obtain ⟨hb, h⟩ := mm_gd h
  refine mm_R_iast rfl (mm_isC_a4 hC) hb ?_
  refine mm_Runs.seq (l := [(103, .iconst 1, 1), (104, .istore_n 3, 1)]) (S2 := (105, [some (.ref p), z1, some (.int v2), some (.int (1 : Int32)), z4], [], (mm_pi M (p + 4) (0 : Int32).toNatClampNeg (0 : Int32)))) (by decide +kernel) (hO := mm_own_99) rfl ?_
  have hp : mp_99_105 L xs p n (d + 1) v2 (1 : Int32) (mm_pi M (p + 4) (0 : Int32).toNatClampNeg (0 : Int32)) o := by
    refine ms_99_L105 hC hd h hA (fun r2 M1 h => ?_)
    intro y3 y4 y5
    show mm_Runs L xs (d + 1) 99 (149, [some (.ref p), y3, some (.int v2), y4, y5], [], M1) o
    refine mm_Runs.seq (l := [(149, .iconst 0, 1), (150, .istore_n 3, 1)]) (S2 := (151, [some (.ref p), y3, some (.int v2), some (.int (0 : Int32)), y5], [], M1)) (by decide +kernel) (hO := mm_own_99) rfl ?_
    have hp : mp_99_151 L xs p n (d + 1) v2 (0 : Int32) M1 o := by
      refine ms_99_L151 hC hd h hA (fun r7 M6 h => ?_)
      intro y8 y9 y10 y11 y12
      show mm_Runs L xs (d + 1) 99 (206, [y8, y9, y10, y11, y12], [], M6) o
      cases h
      exact mm_R_retv rfl rfl hA
    exact hp y3 y5
  exact hp z1 z4
set_option maxRecDepth 8000 in
set_option maxHeartbeats 4000000 in
theorem ms_99 {L : Nat} {xs : Nat → Int32} {p : Nat} {n : Nat} {d : Nat} (hC : mm_isC p n) (hd : 2 ≤ d) {v1 : Int32} {M : mm_M} {q : (Unit ⊕ Nat) × mm_M} {o : mm_E} (h : mf_99 p n v1 M = some q) (hA : mm_A (mm_Kr mm_wv) q o) : mm_Runs L xs d 99 (0, mm_ent (mm_ml 99) [.ref p, .int v1], [], M) o := by
  unfold mf_99 at h
  obtain ⟨d, rfl⟩ := mm_d1 (n := 1) hd
  show mm_Runs L xs (d + 1) 99 (0, [some (.ref p), some (.int v1), none, none, none], [], M) o
  refine mm_Runs.seq (l := [(0, .iload_n 1, 1), (1, .aload_n 0, 1)]) (S2 := (2, [some (.ref p), some (.int v1), none, none, none], [.ref p, .int v1], M)) (by decide +kernel) (hO := mm_own_99) rfl ?_
  refine mm_R_getf (ci := 7) (j := 0) (f := .inl (p + 1)) rfl rfl (mm_isC_f0 hC) ?_
  show mm_Runs L xs (d + 1) 99 (5, [some (.ref p), some (.int v1), none, none, none], [.ref (p + 1), .int v1], M) o
  refine mm_R_alen rfl (mm_isC_a1 hC) ?_
  refine mm_R_intr (st2 := [.int (mm_min v1 (Int32.ofNat n))]) (M2 := M) rfl rfl (by omega) ?_
  refine mm_Runs.seq (l := [(9, .istore_n 2, 1), (10, .aload_n 0, 1)]) (S2 := (11, [some (.ref p), some (.int v1), some (.int (mm_min v1 (Int32.ofNat n))), none, none], [.ref p], M)) (by decide +kernel) (hO := mm_own_99) rfl ?_
  refine mm_R_getf (ci := 7) (j := 2) (f := .inl (p + 3)) rfl rfl (mm_isC_f2 hC) ?_
  show mm_Runs L xs (d + 1) 99 (14, [some (.ref p), some (.int v1), some (.int (mm_min v1 (Int32.ofNat n))), none, none], [.ref (p + 3)], M) o
  refine mm_Runs.seq (l := [(14, .iconst 0, 1)]) (S2 := (15, [some (.ref p), some (.int v1), some (.int (mm_min v1 (Int32.ofNat n))), none, none], [.int (0 : Int32), .ref (p + 3)], M)) (by decide +kernel) (hO := mm_own_99) rfl ?_
  refine mm_R_call (v := mm_wv) h hA (k2 := 290) (as := [.ref (p + 3), .int (0 : Int32)]) (r := []) rfl (fun _ => rfl) (fun q hq o ho => ms_290 (mm_isC_a3 hC) (by omega) hq ho) (fun _ M1 h => ?_)
  show mm_Runs L xs (d + 1) 99 (18, [some (.ref p), some (.int v1), some (.int (mm_min v1 (Int32.ofNat n))), none, none], [], M1) o
  refine mm_Runs.seq (l := [(18, .aload_n 0, 1), (19, .iconst 0, 1)]) (S2 := (20, [some (.ref p), some (.int v1), some (.int (mm_min v1 (Int32.ofNat n))), none, none], [.int (0 : Int32), .ref p], M1)) (by decide +kernel) (hO := mm_own_99) rfl ?_
  refine mm_R_putf (ci := 7) (j := 4) rfl rfl (mm_isC_f4 hC) ?_
  refine mm_Runs.seq (l := [(23, .aload_n 0, 1), (24, .iconst 0, 1)]) (S2 := (25, [some (.ref p), some (.int v1), some (.int (mm_min v1 (Int32.ofNat n))), none, none], [.int (0 : Int32), .ref p], (mm_pi M1 p 4 (0 : Int32)))) (by decide +kernel) (hO := mm_own_99) rfl ?_
  refine mm_R_putf (ci := 7) (j := 5) rfl rfl (mm_isC_f5 hC) ?_
  refine mm_Runs.seq (l := [(28, .iconst 0, 1), (29, .istore_n 3, 1)]) (S2 := (30, [some (.ref p), some (.int v1), some (.int (mm_min v1 (Int32.ofNat n))), some (.int (0 : Int32)), none], [], (mm_pi (mm_pi M1 p 4 (0 : Int32)) p 5 (0 : Int32)))) (by decide +kernel) (hO := mm_own_99) rfl ?_
  have hp : mp_99_30 L xs p n (d + 1) (mm_min v1 (Int32.ofNat n)) (0 : Int32) (mm_pi (mm_pi M1 p 4 (0 : Int32)) p 5 (0 : Int32)) o := by
    refine ms_99_L30 hC hd h hA (fun r3 M2 h => ?_)
    intro y4 y5 y6
    show mm_Runs L xs (d + 1) 99 (96, [some (.ref p), y4, some (.int (mm_min v1 (Int32.ofNat n))), y5, y6], [], M2) o
    exact (ms_99_j96 hC hd h hA : mp_99_96 L xs p n (d + 1) (mm_min v1 (Int32.ofNat n)) M2 o) y4 y5 y6
  exact hp (some (.int v1)) none
