/-! MEANINGS 24 -/
-- 223: PlainPacksModel.sorted()V (depth 6)
theorem mm_own_223 : mm_own 223 = 12 := rfl
def mp_223_42 (L : Nat) (xs : Nat → Int32) (d : Nat) (M : mm_M) (o : mm_E) : Prop := ∀ z1 z2 z3 z4 z5 z6 : Option Value, mm_Runs L xs d 223 (42, [some (.ref 84), z1, z2, z3, z4, z5, z6], [], M) o
def mp_223_60 (L : Nat) (xs : Nat → Int32) (d : Nat) (v2 : Int32) (v3 : Int32) (M : mm_M) (o : mm_E) : Prop := ∀ z1 z4 z5 z6 : Option Value, mm_Runs L xs d 223 (60, [some (.ref 84), z1, some (.int v2), some (.int v3), z4, z5, z6], [], M) o
def mp_223_141 (L : Nat) (xs : Nat → Int32) (d : Nat) (v2 : Int32) (M : mm_M) (o : mm_E) : Prop := ∀ z1 z3 z4 z5 z6 : Option Value, mm_Runs L xs d 223 (141, [some (.ref 84), z1, some (.int v2), z3, z4, z5, z6], [], M) o
def mp_223_116 (L : Nat) (xs : Nat → Int32) (d : Nat) (v2 : Int32) (v3 : Int32) (M : mm_M) (o : mm_E) : Prop := ∀ z1 z4 z5 z6 : Option Value, mm_Runs L xs d 223 (116, [some (.ref 84), z1, some (.int v2), some (.int v3), z4, z5, z6], [], M) o
noncomputable def mf_223_j116 (v2 : Int32) (v3 : Int32) (M : mm_M) : mm_O ((Int32 × Int32) ⊕ (Int32)) := if (M.1 84 7) = 0 then (mm_B (mf_224 M) (fun r1 M2 => mm_B (mf_185 v2 (1 : Int32) M2) (fun r3 M4 => some (.inl (.inl ((r3 ^^^ r1), v3)), M4)))) else (some (.inl (.inl (v2, v3)), M))
set_option maxRecDepth 8000 in
set_option maxHeartbeats 4000000 in
theorem ms_223_j116 {L : Nat} {xs : Nat → Int32} {d : Nat} (hd : 6 ≤ d) {v2 : Int32} {v3 : Int32} {M : mm_M} {q : (((Int32 × Int32) ⊕ (Int32)) ⊕ Nat) × mm_M} {o : mm_E} (h : mf_223_j116 v2 v3 M = some q) (hA : mm_A (mm_K2 (fun s M o => mp_223_60 L xs (d) s.1 s.2 M o) (fun r M o => mp_223_141 L xs (d) r M o)) q o) : mp_223_116 L xs d v2 v3 M o := by
  unfold mf_223_j116 at h
  obtain ⟨d, rfl⟩ := mm_d1 (n := 5) hd
  intro z1 z4 z5 z6
  show mm_Runs L xs (d + 1) 223 (116, [some (.ref 84), z1, some (.int v2), some (.int v3), z4, z5, z6], [], M) o
  refine mm_Runs.seq (l := [(116, .aload_n 0, 1), (117, .getfield 154, 3)]) (S2 := (120, [some (.ref 84), z1, some (.int v2), some (.int v3), z4, z5, z6], [.int (M.1 84 7)], M)) (by decide +kernel) (hO := mm_own_223) rfl ?_
  refine mm_R_zne (t := 138) rfl rfl rfl (fun hc => ?_) (fun hc => ?_)
  · replace h := mm_ip hc h
    refine mm_Runs.seq (l := [(123, .aload_n 0, 1)]) (S2 := (124, [some (.ref 84), z1, some (.int v2), some (.int v3), z4, z5, z6], [.ref 84], M)) (by decide +kernel) (hO := mm_own_223) rfl ?_
    refine mm_R_call (v := mm_wi) h hA (k2 := 224) (as := [.ref 84]) (r := []) rfl (fun _ => rfl) (fun q hq o ho => ms_224 (by omega) hq ho) (fun r1 M2 h => ?_)
    show mm_Runs L xs (d + 1) 223 (127, [some (.ref 84), z1, some (.int v2), some (.int v3), z4, z5, z6], [.int r1], M2) o
    refine mm_Runs.seq (l := [(127, .istore 6, 2), (129, .iload_n 2, 1), (130, .iconst 1, 1)]) (S2 := (131, [some (.ref 84), z1, some (.int v2), some (.int v3), z4, (mm_no2 z5), some (.int r1)], [.int (1 : Int32), .int v2], M2)) (by decide +kernel) (hO := mm_own_223) rfl ?_
    refine mm_R_call (v := mm_wi) h hA (k2 := 185) (as := [.int v2, .int (1 : Int32)]) (r := []) rfl (fun _ => rfl) (fun q hq o ho => ms_185 (by omega) hq ho) (fun r3 M4 h => ?_)
    show mm_Runs L xs (d + 1) 223 (134, [some (.ref 84), z1, some (.int v2), some (.int v3), z4, (mm_no2 z5), some (.int r1)], [.int r3], M4) o
    refine mm_Runs.seq (l := [(134, .iload 6, 2), (136, .ixor, 1), (137, .istore_n 2, 1), (138, .goto (-78), 3)]) (S2 := (60, [some (.ref 84), (mm_no2 z1), some (.int (r3 ^^^ r1)), some (.int v3), z4, (mm_no2 z5), some (.int r1)], [], M4)) (by decide +kernel) (hO := mm_own_223) rfl ?_
    cases h
    exact (show mp_223_60 L xs (d + 1) (r3 ^^^ r1) v3 M4 o from hA) ((mm_no2 z1)) z4 ((mm_no2 z5)) (some (.int r1))
  · replace h := mm_iq hc h
    refine mm_Runs.seq (l := [(138, .goto (-78), 3)]) (S2 := (60, [some (.ref 84), z1, some (.int v2), some (.int v3), z4, z5, z6], [], M)) (by decide +kernel) (hO := mm_own_223) rfl ?_
    cases h
    exact (show mp_223_60 L xs (d + 1) v2 v3 M o from hA) z1 z4 z5 z6
noncomputable def mf_223_b60 (v2 : Int32) (v3 : Int32) (M : mm_M) : mm_O ((Int32 × Int32) ⊕ (Int32)) := if v3 = 0 then (some (.inl (.inr v2), M)) else (if (M.1 84 7) = 0 then (mm_B (mf_198 (48 : Int32) M) (fun r1 M2 => if r1 = (25779555029136 : Int64) then (some (.inl (.inl (v2, (0 : Int32))), M2)) else (if (M2.1 84 7) = 0 then (if r1 = (54156738319193 : Int64) then (mf_223_j116 v2 v3 M2) else (mm_B (mf_190 M2) (fun _ M3 => some (.inl (.inl (v2, v3)), M3)))) else (mf_223_j116 v2 v3 M2)))) else (some (.inl (.inr v2), M)))
noncomputable def mf_223_L60 (s : Int32 × Int32) (M : mm_M) : mm_O (Int32) := mm_L (fun s M => mf_223_b60 s.1 s.2 M) s M
set_option maxRecDepth 8000 in
set_option maxHeartbeats 4000000 in
theorem ms_223_b60 {L : Nat} {xs : Nat → Int32} {d : Nat} (hd : 6 ≤ d) {v2 : Int32} {v3 : Int32} {M : mm_M} {q : (((Int32 × Int32) ⊕ (Int32)) ⊕ Nat) × mm_M} {o : mm_E} (h : mf_223_b60 v2 v3 M = some q) (hA : mm_A (mm_K2 (fun s M o => mp_223_60 L xs (d) s.1 s.2 M o) (fun r M o => mp_223_141 L xs (d) r M o)) q o) : mp_223_60 L xs d v2 v3 M o := by
  unfold mf_223_b60 at h
  obtain ⟨d, rfl⟩ := mm_d1 (n := 5) hd
  intro z1 z4 z5 z6
  show mm_Runs L xs (d + 1) 223 (60, [some (.ref 84), z1, some (.int v2), some (.int v3), z4, z5, z6], [], M) o
  refine mm_Runs.seq (l := [(60, .iload_n 3, 1)]) (S2 := (61, [some (.ref 84), z1, some (.int v2), some (.int v3), z4, z5, z6], [.int v3], M)) (by decide +kernel) (hO := mm_own_223) rfl ?_
  refine mm_R_zeq (t := 141) rfl rfl rfl (fun hc => ?_) (fun hc => ?_)
  · replace h := mm_ip hc h
    cases h
    exact (show mp_223_141 L xs (d + 1) v2 M o from hA) z1 (some (.int v3)) z4 z5 z6
  · replace h := mm_iq hc h
    refine mm_Runs.seq (l := [(64, .aload_n 0, 1), (65, .getfield 154, 3)]) (S2 := (68, [some (.ref 84), z1, some (.int v2), some (.int v3), z4, z5, z6], [.int (M.1 84 7)], M)) (by decide +kernel) (hO := mm_own_223) rfl ?_
    refine mm_R_zne (t := 141) rfl rfl rfl (fun hc => ?_) (fun hc => ?_)
    · replace h := mm_ip hc h
      refine mm_Runs.seq (l := [(71, .aload_n 0, 1), (72, .bipush 48, 2)]) (S2 := (74, [some (.ref 84), z1, some (.int v2), some (.int v3), z4, z5, z6], [.int (48 : Int32), .ref 84], M)) (by decide +kernel) (hO := mm_own_223) rfl ?_
      refine mm_R_call (v := mm_wl) h hA (k2 := 198) (as := [.ref 84, .int (48 : Int32)]) (r := []) rfl (fun _ => rfl) (fun q hq o ho => ms_198 (by omega) hq ho) (fun r1 M2 h => ?_)
      show mm_Runs L xs (d + 1) 223 (77, [some (.ref 84), z1, some (.int v2), some (.int v3), z4, z5, z6], [.long r1], M2) o
      refine mm_Runs.seq (l := [(77, .lstore 4, 2), (79, .lload 4, 2), (81, .ldc2_w 282, 3)]) (S2 := (84, [some (.ref 84), z1, some (.int v2), some (.int v3), some (.long r1), none, z6], [.long (25779555029136 : Int64), .long r1], M2)) (by decide +kernel) (hO := mm_own_223) rfl ?_
      refine mm_R_lne (t := 93) rfl rfl rfl rfl (fun hc => ?_) (fun hc => ?_)
      · replace h := mm_ip hc h
        refine mm_Runs.seq (l := [(88, .iconst 0, 1), (89, .istore_n 3, 1), (90, .goto 48, 3), (138, .goto (-78), 3)]) (S2 := (60, [some (.ref 84), z1, some (.int v2), some (.int (0 : Int32)), some (.long r1), none, z6], [], M2)) (by decide +kernel) (hO := mm_own_223) rfl ?_
        cases h
        exact (show mp_223_60 L xs (d + 1) v2 (0 : Int32) M2 o from hA) z1 (some (.long r1)) none z6
      · replace h := mm_iq hc h
        refine mm_Runs.seq (l := [(93, .aload_n 0, 1), (94, .getfield 154, 3)]) (S2 := (97, [some (.ref 84), z1, some (.int v2), some (.int v3), some (.long r1), none, z6], [.int (M2.1 84 7)], M2)) (by decide +kernel) (hO := mm_own_223) rfl ?_
        refine mm_R_zne (t := 116) rfl rfl rfl (fun hc => ?_) (fun hc => ?_)
        · replace h := mm_ip hc h
          refine mm_Runs.seq (l := [(100, .lload 4, 2), (102, .ldc2_w 284, 3)]) (S2 := (105, [some (.ref 84), z1, some (.int v2), some (.int v3), some (.long r1), none, z6], [.long (54156738319193 : Int64), .long r1], M2)) (by decide +kernel) (hO := mm_own_223) rfl ?_
          refine mm_R_leq (t := 116) rfl rfl rfl rfl (fun hc => ?_) (fun hc => ?_)
          · replace h := mm_ip hc h
            exact (ms_223_j116 hd h hA : mp_223_116 L xs (d + 1) v2 v3 M2 o) z1 (some (.long r1)) none z6
          · replace h := mm_iq hc h
            refine mm_Runs.seq (l := [(109, .aload_n 0, 1)]) (S2 := (110, [some (.ref 84), z1, some (.int v2), some (.int v3), some (.long r1), none, z6], [.ref 84], M2)) (by decide +kernel) (hO := mm_own_223) rfl ?_
            refine mm_R_call (v := mm_wv) h hA (k2 := 190) (as := [.ref 84]) (r := []) rfl (fun _ => rfl) (fun q hq o ho => ms_190 (by omega) hq ho) (fun _ M3 h => ?_)
            show mm_Runs L xs (d + 1) 223 (113, [some (.ref 84), z1, some (.int v2), some (.int v3), some (.long r1), none, z6], [], M3) o
            refine mm_Runs.seq (l := [(113, .goto 25, 3), (138, .goto (-78), 3)]) (S2 := (60, [some (.ref 84), z1, some (.int v2), some (.int v3), some (.long r1), none, z6], [], M3)) (by decide +kernel) (hO := mm_own_223) rfl ?_
            cases h
            exact (show mp_223_60 L xs (d + 1) v2 v3 M3 o from hA) z1 (some (.long r1)) none z6
        · replace h := mm_iq hc h
          exact (ms_223_j116 hd h hA : mp_223_116 L xs (d + 1) v2 v3 M2 o) z1 (some (.long r1)) none z6
    · replace h := mm_iq hc h
      cases h
      exact (show mp_223_141 L xs (d + 1) v2 M o from hA) z1 (some (.int v3)) z4 z5 z6
theorem ms_223_L60 {L : Nat} {xs : Nat → Int32} {d : Nat} (hd : 6 ≤ d) {v2 : Int32} {v3 : Int32} {β : Type} {K : β → mm_M → mm_E → Prop} {F : (Int32) → mm_M → mm_O β} {M : mm_M} {q : (β ⊕ Nat) × mm_M} {o : mm_E} (h : mm_B (mf_223_L60 (v2, v3) M) F = some q) (hA : mm_A K q o) (hx : ∀ (r : (Int32)) (M2 : mm_M), F r M2 = some q → (fun r M o => mp_223_141 L xs (d) r M o) r M2 o) : mp_223_60 L xs d v2 v3 M o := mm_R_loop (s := (v2, v3)) (M := M) (P := (fun s M o => mp_223_60 L xs (d) s.1 s.2 M o)) (X := (fun r M o => mp_223_141 L xs (d) r M o)) h hA (fun s M q hq hA => ms_223_b60 hd hq hA) hx
noncomputable def mf_223_j141 (v2 : Int32) (M : mm_M) : mm_O Unit := mm_B (mf_198 (32 : Int32) M) (fun r1 M2 => if (M2.1 84 7) = 0 then (if r1.toInt32 = v2 then (some (.inl (), M2)) else (mm_B (mf_190 M2) (fun _ M3 => some (.inl (), M3)))) else (some (.inl (), M2)))
set_option maxRecDepth 8000 in
set_option maxHeartbeats 4000000 in
theorem ms_223_j141 {L : Nat} {xs : Nat → Int32} {d : Nat} (hd : 6 ≤ d) {v2 : Int32} {M : mm_M} {q : (Unit ⊕ Nat) × mm_M} {o : mm_E} (h : mf_223_j141 v2 M = some q) (hA : mm_A (mm_Kr mm_wv) q o) : mp_223_141 L xs d v2 M o := by
  unfold mf_223_j141 at h
  obtain ⟨d, rfl⟩ := mm_d1 (n := 5) hd
  intro z1 z3 z4 z5 z6
  show mm_Runs L xs (d + 1) 223 (141, [some (.ref 84), z1, some (.int v2), z3, z4, z5, z6], [], M) o
  refine mm_Runs.seq (l := [(141, .aload_n 0, 1), (142, .bipush 32, 2)]) (S2 := (144, [some (.ref 84), z1, some (.int v2), z3, z4, z5, z6], [.int (32 : Int32), .ref 84], M)) (by decide +kernel) (hO := mm_own_223) rfl ?_
  refine mm_R_call (v := mm_wl) h hA (k2 := 198) (as := [.ref 84, .int (32 : Int32)]) (r := []) rfl (fun _ => rfl) (fun q hq o ho => ms_198 (by omega) hq ho) (fun r1 M2 h => ?_)
  show mm_Runs L xs (d + 1) 223 (147, [some (.ref 84), z1, some (.int v2), z3, z4, z5, z6], [.long r1], M2) o
  refine mm_Runs.seq (l := [(147, .l2i, 1), (148, .istore 4, 2), (150, .aload_n 0, 1), (151, .getfield 154, 3)]) (S2 := (154, [some (.ref 84), z1, some (.int v2), (mm_no2 z3), some (.int r1.toInt32), z5, z6], [.int (M2.1 84 7)], M2)) (by decide +kernel) (hO := mm_own_223) rfl ?_
  refine mm_R_zne (t := 167) rfl rfl rfl (fun hc => ?_) (fun hc => ?_)
  · replace h := mm_ip hc h
    refine mm_Runs.seq (l := [(157, .iload 4, 2), (159, .iload_n 2, 1)]) (S2 := (160, [some (.ref 84), z1, some (.int v2), (mm_no2 z3), some (.int r1.toInt32), z5, z6], [.int v2, .int r1.toInt32], M2)) (by decide +kernel) (hO := mm_own_223) rfl ?_
    refine mm_R_ieq (t := 167) rfl rfl rfl (fun hc => ?_) (fun hc => ?_)
    · replace h := mm_ip hc h
      cases h
      exact mm_R_retv rfl rfl hA
    · replace h := mm_iq hc h
      refine mm_Runs.seq (l := [(163, .aload_n 0, 1)]) (S2 := (164, [some (.ref 84), z1, some (.int v2), (mm_no2 z3), some (.int r1.toInt32), z5, z6], [.ref 84], M2)) (by decide +kernel) (hO := mm_own_223) rfl ?_
      refine mm_R_call (v := mm_wv) h hA (k2 := 190) (as := [.ref 84]) (r := []) rfl (fun _ => rfl) (fun q hq o ho => ms_190 (by omega) hq ho) (fun _ M3 h => ?_)
      show mm_Runs L xs (d + 1) 223 (167, [some (.ref 84), z1, some (.int v2), (mm_no2 z3), some (.int r1.toInt32), z5, z6], [], M3) o
      cases h
      exact mm_R_retv rfl rfl hA
  · replace h := mm_iq hc h
    cases h
    exact mm_R_retv rfl rfl hA
noncomputable def mf_223_j42 (M : mm_M) : mm_O Unit := mm_B (mf_190 M) (fun _ M1 => mm_B (mf_223_L60 ((0 : Int32), (1 : Int32)) (mm_pi (mm_pi M1 84 13 (1 : Int32)) 84 15 (0 : Int32))) (fun r3 M2 => mf_223_j141 r3 M2))
set_option maxRecDepth 8000 in
set_option maxHeartbeats 4000000 in
theorem ms_223_j42 {L : Nat} {xs : Nat → Int32} {d : Nat} (hd : 6 ≤ d) {M : mm_M} {q : (Unit ⊕ Nat) × mm_M} {o : mm_E} (h : mf_223_j42 M = some q) (hA : mm_A (mm_Kr mm_wv) q o) : mp_223_42 L xs d M o := by
  unfold mf_223_j42 at h
  obtain ⟨d, rfl⟩ := mm_d1 (n := 5) hd
  intro z1 z2 z3 z4 z5 z6
  show mm_Runs L xs (d + 1) 223 (42, [some (.ref 84), z1, z2, z3, z4, z5, z6], [], M) o
  refine mm_Runs.seq (l := [(42, .aload_n 0, 1)]) (S2 := (43, [some (.ref 84), z1, z2, z3, z4, z5, z6], [.ref 84], M)) (by decide +kernel) (hO := mm_own_223) rfl ?_
  refine mm_R_call (v := mm_wv) h hA (k2 := 190) (as := [.ref 84]) (r := []) rfl (fun _ => rfl) (fun q hq o ho => ms_190 (by omega) hq ho) (fun _ M1 h => ?_)
  show mm_Runs L xs (d + 1) 223 (46, [some (.ref 84), z1, z2, z3, z4, z5, z6], [], M1) o
  refine mm_Runs.seq (l := [(46, .aload_n 0, 1), (47, .iconst 1, 1), (48, .putfield 178, 3), (51, .aload_n 0, 1), (52, .iconst 0, 1), (53, .putfield 172, 3), (56, .iconst 0, 1), (57, .istore_n 2, 1), (58, .iconst 1, 1), (59, .istore_n 3, 1)]) (S2 := (60, [some (.ref 84), (mm_no2 z1), some (.int (0 : Int32)), some (.int (1 : Int32)), z4, z5, z6], [], (mm_pi (mm_pi M1 84 13 (1 : Int32)) 84 15 (0 : Int32)))) (by decide +kernel) (hO := mm_own_223) rfl ?_
  have hp : mp_223_60 L xs (d + 1) (0 : Int32) (1 : Int32) (mm_pi (mm_pi M1 84 13 (1 : Int32)) 84 15 (0 : Int32)) o := by
    refine ms_223_L60 hd h hA (fun r3 M2 h => ?_)
    intro y4 y5 y6 y7 y8
    show mm_Runs L xs (d + 1) 223 (141, [some (.ref 84), y4, some (.int r3), y5, y6, y7, y8], [], M2) o
    exact (ms_223_j141 hd h hA : mp_223_141 L xs (d + 1) r3 M2 o) y4 y5 y6 y7 y8
  exact hp ((mm_no2 z1)) z4 z5 z6
noncomputable def mf_223 (M : mm_M) : mm_O Unit := mm_B (mf_192 (66 : Int32) M) (fun _ M1 => mm_B (mf_192 (90 : Int32) M1) (fun _ M2 => mm_B (mf_192 (104 : Int32) M2) (fun _ M3 => mm_B (mf_191 M3) (fun r4 M5 => if (M5.1 84 7) = 0 then (if r4 < (49 : Int32) then (mf_223_j42 M5) else (if (57 : Int32) < r4 then (mf_223_j42 M5) else (mm_B (mf_223_L60 ((0 : Int32), (1 : Int32)) (mm_pi (mm_pi M5 84 13 (1 : Int32)) 84 15 (0 : Int32))) (fun r7 M6 => mf_223_j141 r7 M6)))) else (mm_B (mf_223_L60 ((0 : Int32), (1 : Int32)) (mm_pi (mm_pi M5 84 13 (1 : Int32)) 84 15 (0 : Int32))) (fun r14 M13 => mf_223_j141 r14 M13))))))
set_option maxRecDepth 8000 in
set_option maxHeartbeats 4000000 in
theorem ms_223 {L : Nat} {xs : Nat → Int32} {d : Nat} (hd : 6 ≤ d) {M : mm_M} {q : (Unit ⊕ Nat) × mm_M} {o : mm_E} (h : mf_223 M = some q) (hA : mm_A (mm_Kr mm_wv) q o) : mm_Runs L xs d 223 (0, mm_ent (mm_ml 223) [.ref 84], [], M) o := by
  unfold mf_223 at h
  obtain ⟨d, rfl⟩ := mm_d1 (n := 5) hd
  show mm_Runs L xs (d + 1) 223 (0, [some (.ref 84), none, none, none, none, none, none], [], M) o
  refine mm_Runs.seq (l := [(0, .aload_n 0, 1), (1, .bipush 66, 2)]) (S2 := (3, [some (.ref 84), none, none, none, none, none, none], [.int (66 : Int32), .ref 84], M)) (by decide +kernel) (hO := mm_own_223) rfl ?_
  refine mm_R_call (v := mm_wv) h hA (k2 := 192) (as := [.ref 84, .int (66 : Int32)]) (r := []) rfl (fun _ => rfl) (fun q hq o ho => ms_192 (by omega) hq ho) (fun _ M1 h => ?_)
  show mm_Runs L xs (d + 1) 223 (6, [some (.ref 84), none, none, none, none, none, none], [], M1) o
  refine mm_Runs.seq (l := [(6, .aload_n 0, 1), (7, .bipush 90, 2)]) (S2 := (9, [some (.ref 84), none, none, none, none, none, none], [.int (90 : Int32), .ref 84], M1)) (by decide +kernel) (hO := mm_own_223) rfl ?_
  refine mm_R_call (v := mm_wv) h hA (k2 := 192) (as := [.ref 84, .int (90 : Int32)]) (r := []) rfl (fun _ => rfl) (fun q hq o ho => ms_192 (by omega) hq ho) (fun _ M2 h => ?_)
  show mm_Runs L xs (d + 1) 223 (12, [some (.ref 84), none, none, none, none, none, none], [], M2) o
  refine mm_Runs.seq (l := [(12, .aload_n 0, 1), (13, .bipush 104, 2)]) (S2 := (15, [some (.ref 84), none, none, none, none, none, none], [.int (104 : Int32), .ref 84], M2)) (by decide +kernel) (hO := mm_own_223) rfl ?_
  refine mm_R_call (v := mm_wv) h hA (k2 := 192) (as := [.ref 84, .int (104 : Int32)]) (r := []) rfl (fun _ => rfl) (fun q hq o ho => ms_192 (by omega) hq ho) (fun _ M3 h => ?_)
  show mm_Runs L xs (d + 1) 223 (18, [some (.ref 84), none, none, none, none, none, none], [], M3) o
  refine mm_Runs.seq (l := [(18, .aload_n 0, 1)]) (S2 := (19, [some (.ref 84), none, none, none, none, none, none], [.ref 84], M3)) (by decide +kernel) (hO := mm_own_223) rfl ?_
  refine mm_R_call (v := mm_wi) h hA (k2 := 191) (as := [.ref 84]) (r := []) rfl (fun _ => rfl) (fun q hq o ho => ms_191 (by omega) hq ho) (fun r4 M5 h => ?_)
  show mm_Runs L xs (d + 1) 223 (22, [some (.ref 84), none, none, none, none, none, none], [.int r4], M5) o
  refine mm_Runs.seq (l := [(22, .istore_n 1, 1), (23, .aload_n 0, 1), (24, .getfield 154, 3)]) (S2 := (27, [some (.ref 84), some (.int r4), none, none, none, none, none], [.int (M5.1 84 7)], M5)) (by decide +kernel) (hO := mm_own_223) rfl ?_
  refine mm_R_zne (t := 46) rfl rfl rfl (fun hc => ?_) (fun hc => ?_)
  · replace h := mm_ip hc h
    refine mm_Runs.seq (l := [(30, .iload_n 1, 1), (31, .bipush 49, 2)]) (S2 := (33, [some (.ref 84), some (.int r4), none, none, none, none, none], [.int (49 : Int32), .int r4], M5)) (by decide +kernel) (hO := mm_own_223) rfl ?_
    refine mm_R_ilt (t := 42) rfl rfl rfl (fun hc => ?_) (fun hc => ?_)
    · replace h := mm_ip hc h
      exact (ms_223_j42 hd h hA : mp_223_42 L xs (d + 1) M5 o) (some (.int r4)) none none none none none
    · replace h := mm_iq hc h
      refine mm_Runs.seq (l := [(36, .iload_n 1, 1), (37, .bipush 57, 2)]) (S2 := (39, [some (.ref 84), some (.int r4), none, none, none, none, none], [.int (57 : Int32), .int r4], M5)) (by decide +kernel) (hO := mm_own_223) rfl ?_
      refine mm_R_ile (t := 46) rfl rfl rfl (fun hc => ?_) (fun hc => ?_)
      · replace h := mm_ip hc h
        exact (ms_223_j42 hd h hA : mp_223_42 L xs (d + 1) M5 o) (some (.int r4)) none none none none none
      · replace h := mm_iq hc h
        refine mm_Runs.seq (l := [(46, .aload_n 0, 1), (47, .iconst 1, 1), (48, .putfield 178, 3), (51, .aload_n 0, 1), (52, .iconst 0, 1), (53, .putfield 172, 3), (56, .iconst 0, 1), (57, .istore_n 2, 1), (58, .iconst 1, 1), (59, .istore_n 3, 1)]) (S2 := (60, [some (.ref 84), some (.int r4), some (.int (0 : Int32)), some (.int (1 : Int32)), none, none, none], [], (mm_pi (mm_pi M5 84 13 (1 : Int32)) 84 15 (0 : Int32)))) (by decide +kernel) (hO := mm_own_223) rfl ?_
        have hp : mp_223_60 L xs (d + 1) (0 : Int32) (1 : Int32) (mm_pi (mm_pi M5 84 13 (1 : Int32)) 84 15 (0 : Int32)) o := by
          refine ms_223_L60 hd h hA (fun r7 M6 h => ?_)
          intro y8 y9 y10 y11 y12
          show mm_Runs L xs (d + 1) 223 (141, [some (.ref 84), y8, some (.int r7), y9, y10, y11, y12], [], M6) o
          exact (ms_223_j141 hd h hA : mp_223_141 L xs (d + 1) r7 M6 o) y8 y9 y10 y11 y12
        exact hp (some (.int r4)) none none none
  · replace h := mm_iq hc h
    refine mm_Runs.seq (l := [(46, .aload_n 0, 1), (47, .iconst 1, 1), (48, .putfield 178, 3), (51, .aload_n 0, 1), (52, .iconst 0, 1), (53, .putfield 172, 3), (56, .iconst 0, 1), (57, .istore_n 2, 1), (58, .iconst 1, 1), (59, .istore_n 3, 1)]) (S2 := (60, [some (.ref 84), some (.int r4), some (.int (0 : Int32)), some (.int (1 : Int32)), none, none, none], [], (mm_pi (mm_pi M5 84 13 (1 : Int32)) 84 15 (0 : Int32)))) (by decide +kernel) (hO := mm_own_223) rfl ?_
    have hp : mp_223_60 L xs (d + 1) (0 : Int32) (1 : Int32) (mm_pi (mm_pi M5 84 13 (1 : Int32)) 84 15 (0 : Int32)) o := by
      refine ms_223_L60 hd h hA (fun r14 M13 h => ?_)
      intro y15 y16 y17 y18 y19
      show mm_Runs L xs (d + 1) 223 (141, [some (.ref 84), y15, some (.int r14), y16, y17, y18, y19], [], M13) o
      exact (ms_223_j141 hd h hA : mp_223_141 L xs (d + 1) r14 M13 o) y15 y16 y17 y18 y19
    exact hp (some (.int r4)) none none none
-- 232: PlainPacksModel.grow()V (depth 2)
theorem mm_own_232 : mm_own 232 = 12 := rfl
noncomputable def mf_232 (M : mm_M) : mm_O Unit := if (M.2.1 84 33) < (16777216 : Int64) then (mm_B (mf_191 (mm_pl M 84 33 (mm_lshl (M.2.1 84 33) (8 : Int32)))) (fun r1 M2 => some (.inl (), (mm_pl M2 84 34 (((mm_lshl (M.2.1 84 34) (8 : Int32)) ||| r1.toInt64) &&& (4294967295 : Int64)))))) else (some (.inl (), M))
set_option maxRecDepth 8000 in
set_option maxHeartbeats 4000000 in
theorem ms_232 {L : Nat} {xs : Nat → Int32} {d : Nat} (hd : 2 ≤ d) {M : mm_M} {q : (Unit ⊕ Nat) × mm_M} {o : mm_E} (h : mf_232 M = some q) (hA : mm_A (mm_Kr mm_wv) q o) : mm_Runs L xs d 232 (0, mm_ent (mm_ml 232) [.ref 84], [], M) o := by
  unfold mf_232 at h
  obtain ⟨d, rfl⟩ := mm_d1 (n := 1) hd
  show mm_Runs L xs (d + 1) 232 (0, [some (.ref 84)], [], M) o
  refine mm_Runs.seq (l := [(0, .aload_n 0, 1), (1, .getfield 319, 3), (4, .ldc2_w 323, 3)]) (S2 := (7, [some (.ref 84)], [.long (16777216 : Int64), .long (M.2.1 84 33)], M)) (by decide +kernel) (hO := mm_own_232) rfl ?_
  refine mm_R_lge (t := 43) rfl rfl rfl rfl (fun hc => ?_) (fun hc => ?_)
  · replace h := mm_ip hc h
    refine mm_Runs.seq (l := [(11, .aload_n 0, 1), (12, .dup, 1), (13, .getfield 319, 3), (16, .bipush 8, 2), (18, .lshl, 1), (19, .putfield 319, 3), (22, .aload_n 0, 1), (23, .aload_n 0, 1), (24, .getfield 325, 3), (27, .bipush 8, 2), (29, .lshl, 1), (30, .aload_n 0, 1)]) (S2 := (31, [some (.ref 84)], [.ref 84, .long (mm_lshl (M.2.1 84 34) (8 : Int32)), .ref 84], (mm_pl M 84 33 (mm_lshl (M.2.1 84 33) (8 : Int32))))) (by decide +kernel) (hO := mm_own_232) rfl ?_
    refine mm_R_call (v := mm_wi) h hA (k2 := 191) (as := [.ref 84]) (r := [.long (mm_lshl (M.2.1 84 34) (8 : Int32)), .ref 84]) rfl (fun _ => rfl) (fun q hq o ho => ms_191 (by omega) hq ho) (fun r1 M2 h => ?_)
    show mm_Runs L xs (d + 1) 232 (34, [some (.ref 84)], [.int r1, .long (mm_lshl (M.2.1 84 34) (8 : Int32)), .ref 84], M2) o
    refine mm_Runs.seq (l := [(34, .i2l, 1), (35, .lor, 1), (36, .ldc2_w 272, 3), (39, .land, 1), (40, .putfield 325, 3)]) (S2 := (43, [some (.ref 84)], [], (mm_pl M2 84 34 (((mm_lshl (M.2.1 84 34) (8 : Int32)) ||| r1.toInt64) &&& (4294967295 : Int64))))) (by decide +kernel) (hO := mm_own_232) rfl ?_
    cases h
    exact mm_R_retv rfl rfl hA
  · replace h := mm_iq hc h
    cases h
    exact mm_R_retv rfl rfl hA
-- 233: PlainPacksModel.chance(I)I (depth 3)
theorem mm_own_233 : mm_own 233 = 12 := rfl
def mp_233_40 (L : Nat) (xs : Nat → Int32) (d : Nat) (v1 : Int32) (v2 : Int64) (s0 : Int32) (M : mm_M) (o : mm_E) : Prop := ∀ z3 z4 : Option Value, mm_Runs L xs d 233 (40, [some (.ref 84), some (.int v1), some (.long v2), z3, z4], [.int s0], M) o
def mp_233_115 (L : Nat) (xs : Nat → Int32) (d : Nat) (v4 : Int32) (M : mm_M) (o : mm_E) : Prop := ∀ z1 z2 z3 : Option Value, mm_Runs L xs d 233 (115, [some (.ref 84), z1, z2, z3, some (.int v4)], [], M) o
noncomputable def mf_233_j115 (v4 : Int32) (M : mm_M) : mm_O Int32 := mm_B (mf_232 M) (fun _ M1 => some (.inl v4, M1))
set_option maxRecDepth 8000 in
set_option maxHeartbeats 4000000 in
theorem ms_233_j115 {L : Nat} {xs : Nat → Int32} {d : Nat} (hd : 3 ≤ d) {v4 : Int32} {M : mm_M} {q : (Int32 ⊕ Nat) × mm_M} {o : mm_E} (h : mf_233_j115 v4 M = some q) (hA : mm_A (mm_Kr mm_wi) q o) : mp_233_115 L xs d v4 M o := by
  unfold mf_233_j115 at h
  obtain ⟨d, rfl⟩ := mm_d1 (n := 2) hd
  intro z1 z2 z3
  show mm_Runs L xs (d + 1) 233 (115, [some (.ref 84), z1, z2, z3, some (.int v4)], [], M) o
  refine mm_Runs.seq (l := [(115, .aload_n 0, 1)]) (S2 := (116, [some (.ref 84), z1, z2, z3, some (.int v4)], [.ref 84], M)) (by decide +kernel) (hO := mm_own_233) rfl ?_
  refine mm_R_call (v := mm_wv) h hA (k2 := 232) (as := [.ref 84]) (r := []) rfl (fun _ => rfl) (fun q hq o ho => ms_232 (by omega) hq ho) (fun _ M1 h => ?_)
  show mm_Runs L xs (d + 1) 233 (119, [some (.ref 84), z1, z2, z3, some (.int v4)], [], M1) o
  refine mm_Runs.seq (l := [(119, .iload 4, 2)]) (S2 := (121, [some (.ref 84), z1, z2, z3, some (.int v4)], [.int v4], M1)) (by decide +kernel) (hO := mm_own_233) rfl ?_
  cases h
  exact mm_R_reti rfl rfl hA
noncomputable def mf_233_j40 (v1 : Int32) (v2 : Int64) (s0 : Int32) (M : mm_M) : mm_O Int32 := if s0 = 0 then (if mm_in v1 14540 then if mm_in v1 14540 then if mm_in v1 14540 then mf_233_j115 s0 (mm_pi (mm_pl M 84 33 v2) 98 v1.toNatClampNeg ((M.1 98 v1.toNatClampNeg) + (((2048 : Int32) - (M.1 98 v1.toNatClampNeg)) / (32 : Int32)))) else none else none else none) else (if mm_in v1 14540 then if mm_in v1 14540 then if mm_in v1 14540 then mf_233_j115 s0 (mm_pi (mm_pl (mm_pl M 84 34 ((M.2.1 84 34) - v2)) 84 33 ((M.2.1 84 33) - v2)) 98 v1.toNatClampNeg ((M.1 98 v1.toNatClampNeg) - ((M.1 98 v1.toNatClampNeg) / (32 : Int32)))) else none else none else none)
set_option maxRecDepth 8000 in
set_option maxHeartbeats 4000000 in
theorem ms_233_j40 {L : Nat} {xs : Nat → Int32} {d : Nat} (hd : 3 ≤ d) {v1 : Int32} {v2 : Int64} {s0 : Int32} {M : mm_M} {q : (Int32 ⊕ Nat) × mm_M} {o : mm_E} (h : mf_233_j40 v1 v2 s0 M = some q) (hA : mm_A (mm_Kr mm_wi) q o) : mp_233_40 L xs d v1 v2 s0 M o := by
  unfold mf_233_j40 at h
  obtain ⟨d, rfl⟩ := mm_d1 (n := 2) hd
  intro z3 z4
  show mm_Runs L xs (d + 1) 233 (40, [some (.ref 84), some (.int v1), some (.long v2), z3, z4], [.int s0], M) o
  refine mm_Runs.seq (l := [(40, .istore 4, 2), (42, .iload 4, 2)]) (S2 := (44, [some (.ref 84), some (.int v1), some (.long v2), (mm_no2 z3), some (.int s0)], [.int s0], M)) (by decide +kernel) (hO := mm_own_233) rfl ?_
  refine mm_R_zne (t := 77) rfl rfl rfl (fun hc => ?_) (fun hc => ?_)
  · replace h := mm_ip hc h
    refine mm_Runs.seq (l := [(47, .aload_n 0, 1), (48, .lload_n 2, 1), (49, .putfield 319, 3), (52, .aload_n 0, 1), (53, .getfield 50, 3), (56, .iload_n 1, 1), (57, .dup2, 1)]) (S2 := (58, [some (.ref 84), some (.int v1), some (.long v2), (mm_no2 z3), some (.int s0)], [.int v1, .ref 98, .int v1, .ref 98], (mm_pl M 84 33 v2))) (by decide +kernel) (hO := mm_own_233) rfl ?_
    obtain ⟨hb, h⟩ := mm_gd h
    refine mm_R_iald rfl rfl hb ?_
    refine mm_Runs.seq (l := [(59, .sipush 2048, 3), (62, .aload_n 0, 1), (63, .getfield 50, 3), (66, .iload_n 1, 1)]) (S2 := (67, [some (.ref 84), some (.int v1), some (.long v2), (mm_no2 z3), some (.int s0)], [.int v1, .ref 98, .int (2048 : Int32), .int (M.1 98 v1.toNatClampNeg), .int v1, .ref 98], (mm_pl M 84 33 v2))) (by decide +kernel) (hO := mm_own_233) rfl ?_
    obtain ⟨hb, h⟩ := mm_gd h
    refine mm_R_iald rfl rfl hb ?_
    refine mm_Runs.seq (l := [(68, .isub, 1), (69, .bipush 32, 2), (71, .idiv, 1), (72, .iadd, 1)]) (S2 := (73, [some (.ref 84), some (.int v1), some (.long v2), (mm_no2 z3), some (.int s0)], [.int ((M.1 98 v1.toNatClampNeg) + (((2048 : Int32) - (M.1 98 v1.toNatClampNeg)) / (32 : Int32))), .int v1, .ref 98], (mm_pl M 84 33 v2))) (by decide +kernel) (hO := mm_own_233) rfl ?_
    obtain ⟨hb, h⟩ := mm_gd h
    refine mm_R_iast rfl rfl hb ?_
    refine mm_Runs.seq (l := [(74, .goto 41, 3)]) (S2 := (115, [some (.ref 84), some (.int v1), some (.long v2), (mm_no2 z3), some (.int s0)], [], (mm_pi (mm_pl M 84 33 v2) 98 v1.toNatClampNeg ((M.1 98 v1.toNatClampNeg) + (((2048 : Int32) - (M.1 98 v1.toNatClampNeg)) / (32 : Int32)))))) (by decide +kernel) (hO := mm_own_233) rfl ?_
    exact (ms_233_j115 hd h hA : mp_233_115 L xs (d + 1) s0 (mm_pi (mm_pl M 84 33 v2) 98 v1.toNatClampNeg ((M.1 98 v1.toNatClampNeg) + (((2048 : Int32) - (M.1 98 v1.toNatClampNeg)) / (32 : Int32)))) o) (some (.int v1)) (some (.long v2)) ((mm_no2 z3))
  · replace h := mm_iq hc h
    refine mm_Runs.seq (l := [(77, .aload_n 0, 1), (78, .dup, 1), (79, .getfield 325, 3), (82, .lload_n 2, 1), (83, .lsub, 1), (84, .putfield 325, 3), (87, .aload_n 0, 1), (88, .dup, 1), (89, .getfield 319, 3), (92, .lload_n 2, 1), (93, .lsub, 1), (94, .putfield 319, 3), (97, .aload_n 0, 1), (98, .getfield 50, 3), (101, .iload_n 1, 1), (102, .dup2, 1)]) (S2 := (103, [some (.ref 84), some (.int v1), some (.long v2), (mm_no2 z3), some (.int s0)], [.int v1, .ref 98, .int v1, .ref 98], (mm_pl (mm_pl M 84 34 ((M.2.1 84 34) - v2)) 84 33 ((M.2.1 84 33) - v2)))) (by decide +kernel) (hO := mm_own_233) rfl ?_
    obtain ⟨hb, h⟩ := mm_gd h
    refine mm_R_iald rfl rfl hb ?_
    refine mm_Runs.seq (l := [(104, .aload_n 0, 1), (105, .getfield 50, 3), (108, .iload_n 1, 1)]) (S2 := (109, [some (.ref 84), some (.int v1), some (.long v2), (mm_no2 z3), some (.int s0)], [.int v1, .ref 98, .int (M.1 98 v1.toNatClampNeg), .int v1, .ref 98], (mm_pl (mm_pl M 84 34 ((M.2.1 84 34) - v2)) 84 33 ((M.2.1 84 33) - v2)))) (by decide +kernel) (hO := mm_own_233) rfl ?_
    obtain ⟨hb, h⟩ := mm_gd h
    refine mm_R_iald rfl rfl hb ?_
    refine mm_Runs.seq (l := [(110, .bipush 32, 2), (112, .idiv, 1), (113, .isub, 1)]) (S2 := (114, [some (.ref 84), some (.int v1), some (.long v2), (mm_no2 z3), some (.int s0)], [.int ((M.1 98 v1.toNatClampNeg) - ((M.1 98 v1.toNatClampNeg) / (32 : Int32))), .int v1, .ref 98], (mm_pl (mm_pl M 84 34 ((M.2.1 84 34) - v2)) 84 33 ((M.2.1 84 33) - v2)))) (by decide +kernel) (hO := mm_own_233) rfl ?_
    obtain ⟨hb, h⟩ := mm_gd h
    refine mm_R_iast rfl rfl hb ?_
    exact (ms_233_j115 hd h hA : mp_233_115 L xs (d + 1) s0 (mm_pi (mm_pl (mm_pl M 84 34 ((M.2.1 84 34) - v2)) 84 33 ((M.2.1 84 33) - v2)) 98 v1.toNatClampNeg ((M.1 98 v1.toNatClampNeg) - ((M.1 98 v1.toNatClampNeg) / (32 : Int32)))) o) (some (.int v1)) (some (.long v2)) ((mm_no2 z3))
noncomputable def mf_233 (v1 : Int32) (M : mm_M) : mm_O Int32 := if (M.1 84 7) = 0 then (if mm_in v1 14540 then if (M.2.1 84 34) < (((M.2.1 84 33) / (2048 : Int64)) * (M.1 98 v1.toNatClampNeg).toInt64) then (mf_233_j40 v1 (((M.2.1 84 33) / (2048 : Int64)) * (M.1 98 v1.toNatClampNeg).toInt64) (0 : Int32) M) else (mf_233_j40 v1 (((M.2.1 84 33) / (2048 : Int64)) * (M.1 98 v1.toNatClampNeg).toInt64) (1 : Int32) M) else none) else (some (.inl (0 : Int32), M))
set_option maxRecDepth 8000 in
set_option maxHeartbeats 4000000 in
theorem ms_233 {L : Nat} {xs : Nat → Int32} {d : Nat} (hd : 3 ≤ d) {v1 : Int32} {M : mm_M} {q : (Int32 ⊕ Nat) × mm_M} {o : mm_E} (h : mf_233 v1 M = some q) (hA : mm_A (mm_Kr mm_wi) q o) : mm_Runs L xs d 233 (0, mm_ent (mm_ml 233) [.ref 84, .int v1], [], M) o := by
  unfold mf_233 at h
  obtain ⟨d, rfl⟩ := mm_d1 (n := 2) hd
  show mm_Runs L xs (d + 1) 233 (0, [some (.ref 84), some (.int v1), none, none, none], [], M) o
  refine mm_Runs.seq (l := [(0, .aload_n 0, 1), (1, .getfield 154, 3)]) (S2 := (4, [some (.ref 84), some (.int v1), none, none, none], [.int (M.1 84 7)], M)) (by decide +kernel) (hO := mm_own_233) rfl ?_
  refine mm_R_zeq (t := 9) rfl rfl rfl (fun hc => ?_) (fun hc => ?_)
  · replace h := mm_ip hc h
    refine mm_Runs.seq (l := [(9, .aload_n 0, 1), (10, .getfield 319, 3), (13, .ldc2_w 328, 3), (16, .ldiv, 1), (17, .aload_n 0, 1), (18, .getfield 50, 3), (21, .iload_n 1, 1)]) (S2 := (22, [some (.ref 84), some (.int v1), none, none, none], [.int v1, .ref 98, .long ((M.2.1 84 33) / (2048 : Int64))], M)) (by decide +kernel) (hO := mm_own_233) rfl ?_
    obtain ⟨hb, h⟩ := mm_gd h
    refine mm_R_iald rfl rfl hb ?_
    refine mm_Runs.seq (l := [(23, .i2l, 1), (24, .lmul, 1), (25, .lstore_n 2, 1), (26, .aload_n 0, 1), (27, .getfield 325, 3), (30, .lload_n 2, 1)]) (S2 := (31, [some (.ref 84), some (.int v1), some (.long (((M.2.1 84 33) / (2048 : Int64)) * (M.1 98 v1.toNatClampNeg).toInt64)), none, none], [.long (((M.2.1 84 33) / (2048 : Int64)) * (M.1 98 v1.toNatClampNeg).toInt64), .long (M.2.1 84 34)], M)) (by decide +kernel) (hO := mm_own_233) rfl ?_
    refine mm_R_lge (t := 39) rfl rfl rfl rfl (fun hc => ?_) (fun hc => ?_)
    · replace h := mm_ip hc h
      refine mm_Runs.seq (l := [(35, .iconst 0, 1), (36, .goto 4, 3)]) (S2 := (40, [some (.ref 84), some (.int v1), some (.long (((M.2.1 84 33) / (2048 : Int64)) * (M.1 98 v1.toNatClampNeg).toInt64)), none, none], [.int (0 : Int32)], M)) (by decide +kernel) (hO := mm_own_233) rfl ?_
      exact (ms_233_j40 hd h hA : mp_233_40 L xs (d + 1) v1 (((M.2.1 84 33) / (2048 : Int64)) * (M.1 98 v1.toNatClampNeg).toInt64) (0 : Int32) M o) none none
    · replace h := mm_iq hc h
      refine mm_Runs.seq (l := [(39, .iconst 1, 1)]) (S2 := (40, [some (.ref 84), some (.int v1), some (.long (((M.2.1 84 33) / (2048 : Int64)) * (M.1 98 v1.toNatClampNeg).toInt64)), none, none], [.int (1 : Int32)], M)) (by decide +kernel) (hO := mm_own_233) rfl ?_
      exact (ms_233_j40 hd h hA : mp_233_40 L xs (d + 1) v1 (((M.2.1 84 33) / (2048 : Int64)) * (M.1 98 v1.toNatClampNeg).toInt64) (1 : Int32) M o) none none
  · replace h := mm_iq hc h
    refine mm_Runs.seq (l := [(7, .iconst 0, 1)]) (S2 := (8, [some (.ref 84), some (.int v1), none, none, none], [.int (0 : Int32)], M)) (by decide +kernel) (hO := mm_own_233) rfl ?_
    cases h
    exact mm_R_reti rfl rfl hA
-- 241: PlainPacksModel.byByte()V (depth 4)
theorem mm_own_241 : mm_own 241 = 12 := rfl
def mp_241_22 (L : Nat) (xs : Nat → Int32) (d : Nat) (s0 : Int32) (M : mm_M) (o : mm_E) : Prop := ∀ z1 z2 z3 z4 z5 z6 z7 z8 : Option Value, mm_Runs L xs d 241 (22, [some (.ref 84), z1, z2, z3, z4, z5, z6, z7, z8], [.int s0], M) o
def mp_241_76 (L : Nat) (xs : Nat → Int32) (d : Nat) (v2 : Int32) (s0 : Int32) (M : mm_M) (o : mm_E) : Prop := ∀ z1 z3 z4 z5 z6 z7 z8 : Option Value, mm_Runs L xs d 241 (76, [some (.ref 84), z1, some (.int v2), z3, z4, z5, z6, z7, z8], [.int s0], M) o
def mp_241_118 (L : Nat) (xs : Nat → Int32) (d : Nat) (v2 : Int32) (v3 : Int32) (v4 : Int32) (v5 : Int32) (v6 : Int32) (M : mm_M) (o : mm_E) : Prop := ∀ z1 z7 z8 : Option Value, mm_Runs L xs d 241 (118, [some (.ref 84), z1, some (.int v2), some (.int v3), some (.int v4), some (.int v5), some (.int v6), z7, z8], [], M) o
def mp_241_193 (L : Nat) (xs : Nat → Int32) (d : Nat) (v5 : Int32) (M : mm_M) (o : mm_E) : Prop := ∀ z1 z2 z3 z4 z6 z7 z8 : Option Value, mm_Runs L xs d 241 (193, [some (.ref 84), z1, z2, z3, z4, some (.int v5), z6, z7, z8], [], M) o
def mp_241_152 (L : Nat) (xs : Nat → Int32) (d : Nat) (v2 : Int32) (v3 : Int32) (v4 : Int32) (v5 : Int32) (v6 : Int32) (v7 : Int32) (s1 : Int32) (s2 : Int32) (M : mm_M) (o : mm_E) : Prop := ∀ z1 z8 : Option Value, mm_Runs L xs d 241 (152, [some (.ref 84), z1, some (.int v2), some (.int v3), some (.int v4), some (.int v5), some (.int v6), some (.int v7), z8], [.int s2, .int s1, .ref 84], M) o
noncomputable def mf_241_j152 (v2 : Int32) (v3 : Int32) (v4 : Int32) (v5 : Int32) (v6 : Int32) (v7 : Int32) (s1 : Int32) (s2 : Int32) (M : mm_M) : mm_O ((Int32 × Int32 × Int32) ⊕ (Int32)) := mm_B (mf_233 ((s1 + s2) + v5) M) (fun r1 M2 => if v3 = 0 then (some (.inl (.inl ((0 : Int32), (((2 : Int32) * v5) + r1), (v6 + (-1 : Int32)))), M2)) else (if r1 = v7 then (some (.inl (.inl ((1 : Int32), (((2 : Int32) * v5) + r1), (v6 + (-1 : Int32)))), M2)) else (some (.inl (.inl ((0 : Int32), (((2 : Int32) * v5) + r1), (v6 + (-1 : Int32)))), M2))))
set_option maxRecDepth 8000 in
set_option maxHeartbeats 4000000 in
theorem ms_241_j152 {L : Nat} {xs : Nat → Int32} {d : Nat} (hd : 4 ≤ d) {v2 : Int32} {v3 : Int32} {v4 : Int32} {v5 : Int32} {v6 : Int32} {v7 : Int32} {s1 : Int32} {s2 : Int32} {M : mm_M} {q : (((Int32 × Int32 × Int32) ⊕ (Int32)) ⊕ Nat) × mm_M} {o : mm_E} (h : mf_241_j152 v2 v3 v4 v5 v6 v7 s1 s2 M = some q) (hA : mm_A (mm_K2 (fun s M o => mp_241_118 L xs (d) v2 s.1 v4 s.2.1 s.2.2 M o) (fun r M o => mp_241_193 L xs (d) r M o)) q o) : mp_241_152 L xs d v2 v3 v4 v5 v6 v7 s1 s2 M o := by
  unfold mf_241_j152 at h
  obtain ⟨d, rfl⟩ := mm_d1 (n := 3) hd
  intro z1 z8
  show mm_Runs L xs (d + 1) 241 (152, [some (.ref 84), z1, some (.int v2), some (.int v3), some (.int v4), some (.int v5), some (.int v6), some (.int v7), z8], [.int s2, .int s1, .ref 84], M) o
  refine mm_Runs.seq (l := [(152, .iadd, 1), (153, .iload 5, 2), (155, .iadd, 1)]) (S2 := (156, [some (.ref 84), z1, some (.int v2), some (.int v3), some (.int v4), some (.int v5), some (.int v6), some (.int v7), z8], [.int ((s1 + s2) + v5), .ref 84], M)) (by decide +kernel) (hO := mm_own_241) rfl ?_
  refine mm_R_call (v := mm_wi) h hA (k2 := 233) (as := [.ref 84, .int ((s1 + s2) + v5)]) (r := []) rfl (fun _ => rfl) (fun q hq o ho => ms_233 (by omega) hq ho) (fun r1 M2 h => ?_)
  show mm_Runs L xs (d + 1) 241 (159, [some (.ref 84), z1, some (.int v2), some (.int v3), some (.int v4), some (.int v5), some (.int v6), some (.int v7), z8], [.int r1], M2) o
  refine mm_Runs.seq (l := [(159, .istore 8, 2), (161, .iload_n 3, 1)]) (S2 := (162, [some (.ref 84), z1, some (.int v2), some (.int v3), some (.int v4), some (.int v5), some (.int v6), some (.int v7), some (.int r1)], [.int v3], M2)) (by decide +kernel) (hO := mm_own_241) rfl ?_
  refine mm_R_zeq (t := 176) rfl rfl rfl (fun hc => ?_) (fun hc => ?_)
  · replace h := mm_ip hc h
    refine mm_Runs.seq (l := [(176, .iconst 0, 1), (177, .istore_n 3, 1), (178, .iconst 2, 1), (179, .iload 5, 2), (181, .imul, 1), (182, .iload 8, 2), (184, .iadd, 1), (185, .istore 5, 2), (187, .iinc 6 (-1), 3), (190, .goto (-72), 3)]) (S2 := (118, [some (.ref 84), z1, some (.int v2), some (.int (0 : Int32)), some (.int v4), some (.int (((2 : Int32) * v5) + r1)), some (.int (v6 + (-1 : Int32))), some (.int v7), some (.int r1)], [], M2)) (by decide +kernel) (hO := mm_own_241) rfl ?_
    cases h
    exact (show mp_241_118 L xs (d + 1) v2 (0 : Int32) v4 (((2 : Int32) * v5) + r1) (v6 + (-1 : Int32)) M2 o from hA) z1 (some (.int v7)) (some (.int r1))
  · replace h := mm_iq hc h
    refine mm_Runs.seq (l := [(165, .iload 8, 2), (167, .iload 7, 2)]) (S2 := (169, [some (.ref 84), z1, some (.int v2), some (.int v3), some (.int v4), some (.int v5), some (.int v6), some (.int v7), some (.int r1)], [.int v7, .int r1], M2)) (by decide +kernel) (hO := mm_own_241) rfl ?_
    refine mm_R_ine (t := 176) rfl rfl rfl (fun hc => ?_) (fun hc => ?_)
    · replace h := mm_ip hc h
      refine mm_Runs.seq (l := [(172, .iconst 1, 1), (173, .goto 4, 3), (177, .istore_n 3, 1), (178, .iconst 2, 1), (179, .iload 5, 2), (181, .imul, 1), (182, .iload 8, 2), (184, .iadd, 1), (185, .istore 5, 2), (187, .iinc 6 (-1), 3), (190, .goto (-72), 3)]) (S2 := (118, [some (.ref 84), z1, some (.int v2), some (.int (1 : Int32)), some (.int v4), some (.int (((2 : Int32) * v5) + r1)), some (.int (v6 + (-1 : Int32))), some (.int v7), some (.int r1)], [], M2)) (by decide +kernel) (hO := mm_own_241) rfl ?_
      cases h
      exact (show mp_241_118 L xs (d + 1) v2 (1 : Int32) v4 (((2 : Int32) * v5) + r1) (v6 + (-1 : Int32)) M2 o from hA) z1 (some (.int v7)) (some (.int r1))
    · replace h := mm_iq hc h
      refine mm_Runs.seq (l := [(176, .iconst 0, 1), (177, .istore_n 3, 1), (178, .iconst 2, 1), (179, .iload 5, 2), (181, .imul, 1), (182, .iload 8, 2), (184, .iadd, 1), (185, .istore 5, 2), (187, .iinc 6 (-1), 3), (190, .goto (-72), 3)]) (S2 := (118, [some (.ref 84), z1, some (.int v2), some (.int (0 : Int32)), some (.int v4), some (.int (((2 : Int32) * v5) + r1)), some (.int (v6 + (-1 : Int32))), some (.int v7), some (.int r1)], [], M2)) (by decide +kernel) (hO := mm_own_241) rfl ?_
      cases h
      exact (show mp_241_118 L xs (d + 1) v2 (0 : Int32) v4 (((2 : Int32) * v5) + r1) (v6 + (-1 : Int32)) M2 o from hA) z1 (some (.int v7)) (some (.int r1))
noncomputable def mf_241_b118 (v2 : Int32) (v3 : Int32) (v4 : Int32) (v5 : Int32) (v6 : Int32) (M : mm_M) : mm_O ((Int32 × Int32 × Int32) ⊕ (Int32)) := if v6 < 0 then (some (.inl (.inr v5), M)) else (if v3 = 0 then (mf_241_j152 v2 v3 v4 v5 v6 ((mm_shr v4 v6) &&& (1 : Int32)) v2 (0 : Int32) M) else (mf_241_j152 v2 v3 v4 v5 v6 ((mm_shr v4 v6) &&& (1 : Int32)) v2 ((256 : Int32) + ((256 : Int32) * ((mm_shr v4 v6) &&& (1 : Int32)))) M))
noncomputable def mf_241_L118 (v2 : Int32) (v4 : Int32) (s : Int32 × Int32 × Int32) (M : mm_M) : mm_O (Int32) := mm_L (fun s M => mf_241_b118 v2 s.1 v4 s.2.1 s.2.2 M) s M
set_option maxRecDepth 8000 in
set_option maxHeartbeats 4000000 in
theorem ms_241_b118 {L : Nat} {xs : Nat → Int32} {d : Nat} (hd : 4 ≤ d) {v2 : Int32} {v3 : Int32} {v4 : Int32} {v5 : Int32} {v6 : Int32} {M : mm_M} {q : (((Int32 × Int32 × Int32) ⊕ (Int32)) ⊕ Nat) × mm_M} {o : mm_E} (h : mf_241_b118 v2 v3 v4 v5 v6 M = some q) (hA : mm_A (mm_K2 (fun s M o => mp_241_118 L xs (d) v2 s.1 v4 s.2.1 s.2.2 M o) (fun r M o => mp_241_193 L xs (d) r M o)) q o) : mp_241_118 L xs d v2 v3 v4 v5 v6 M o := by
  unfold mf_241_b118 at h
  obtain ⟨d, rfl⟩ := mm_d1 (n := 3) hd
  intro z1 z7 z8
  show mm_Runs L xs (d + 1) 241 (118, [some (.ref 84), z1, some (.int v2), some (.int v3), some (.int v4), some (.int v5), some (.int v6), z7, z8], [], M) o
  refine mm_Runs.seq (l := [(118, .iload 6, 2)]) (S2 := (120, [some (.ref 84), z1, some (.int v2), some (.int v3), some (.int v4), some (.int v5), some (.int v6), z7, z8], [.int v6], M)) (by decide +kernel) (hO := mm_own_241) rfl ?_
  refine mm_R_zlt (t := 193) rfl rfl rfl (fun hc => ?_) (fun hc => ?_)
  · replace h := mm_ip hc h
    cases h
    exact (show mp_241_193 L xs (d + 1) v5 M o from hA) z1 (some (.int v2)) (some (.int v3)) (some (.int v4)) (some (.int v6)) z7 z8
  · replace h := mm_iq hc h
    refine mm_Runs.seq (l := [(123, .iload 4, 2), (125, .iload 6, 2), (127, .ishr, 1), (128, .iconst 1, 1), (129, .iand, 1), (130, .istore 7, 2), (132, .aload_n 0, 1), (133, .iload_n 2, 1), (134, .iload_n 3, 1)]) (S2 := (135, [some (.ref 84), z1, some (.int v2), some (.int v3), some (.int v4), some (.int v5), some (.int v6), some (.int ((mm_shr v4 v6) &&& (1 : Int32))), z8], [.int v3, .int v2, .ref 84], M)) (by decide +kernel) (hO := mm_own_241) rfl ?_
    refine mm_R_zeq (t := 151) rfl rfl rfl (fun hc => ?_) (fun hc => ?_)
    · replace h := mm_ip hc h
      refine mm_Runs.seq (l := [(151, .iconst 0, 1)]) (S2 := (152, [some (.ref 84), z1, some (.int v2), some (.int v3), some (.int v4), some (.int v5), some (.int v6), some (.int ((mm_shr v4 v6) &&& (1 : Int32))), z8], [.int (0 : Int32), .int v2, .ref 84], M)) (by decide +kernel) (hO := mm_own_241) rfl ?_
      exact (ms_241_j152 hd h hA : mp_241_152 L xs (d + 1) v2 v3 v4 v5 v6 ((mm_shr v4 v6) &&& (1 : Int32)) v2 (0 : Int32) M o) z1 z8
    · replace h := mm_iq hc h
      refine mm_Runs.seq (l := [(138, .sipush 256, 3), (141, .sipush 256, 3), (144, .iload 7, 2), (146, .imul, 1), (147, .iadd, 1), (148, .goto 4, 3)]) (S2 := (152, [some (.ref 84), z1, some (.int v2), some (.int v3), some (.int v4), some (.int v5), some (.int v6), some (.int ((mm_shr v4 v6) &&& (1 : Int32))), z8], [.int ((256 : Int32) + ((256 : Int32) * ((mm_shr v4 v6) &&& (1 : Int32)))), .int v2, .ref 84], M)) (by decide +kernel) (hO := mm_own_241) rfl ?_
      exact (ms_241_j152 hd h hA : mp_241_152 L xs (d + 1) v2 v3 v4 v5 v6 ((mm_shr v4 v6) &&& (1 : Int32)) v2 ((256 : Int32) + ((256 : Int32) * ((mm_shr v4 v6) &&& (1 : Int32)))) M o) z1 z8
theorem ms_241_L118 {L : Nat} {xs : Nat → Int32} {d : Nat} (hd : 4 ≤ d) {v2 : Int32} {v3 : Int32} {v4 : Int32} {v5 : Int32} {v6 : Int32} {β : Type} {K : β → mm_M → mm_E → Prop} {F : (Int32) → mm_M → mm_O β} {M : mm_M} {q : (β ⊕ Nat) × mm_M} {o : mm_E} (h : mm_B (mf_241_L118 v2 v4 (v3, v5, v6) M) F = some q) (hA : mm_A K q o) (hx : ∀ (r : (Int32)) (M2 : mm_M), F r M2 = some q → (fun r M o => mp_241_193 L xs (d) r M o) r M2 o) : mp_241_118 L xs d v2 v3 v4 v5 v6 M o := mm_R_loop (s := (v3, v5, v6)) (M := M) (P := (fun s M o => mp_241_118 L xs (d) v2 s.1 v4 s.2.1 s.2.2 M o)) (X := (fun r M o => mp_241_193 L xs (d) r M o)) h hA (fun s M q hq hA => ms_241_b118 hd hq hA) hx
noncomputable def mf_241_j193 (v5 : Int32) (M : mm_M) : mm_O Unit := mm_B (mf_194 (v5 &&& (255 : Int32)) M) (fun r1 M2 => if r1 = 0 then (some (.inl (), (mm_pi M2 84 8 ((M.1 84 8) + (0 : Int32))))) else (some (.inl (), (mm_pi M2 84 8 ((M.1 84 8) + (1 : Int32))))))
set_option maxRecDepth 8000 in
set_option maxHeartbeats 4000000 in
theorem ms_241_j193 {L : Nat} {xs : Nat → Int32} {d : Nat} (hd : 4 ≤ d) {v5 : Int32} {M : mm_M} {q : (Unit ⊕ Nat) × mm_M} {o : mm_E} (h : mf_241_j193 v5 M = some q) (hA : mm_A (mm_Kr mm_wv) q o) : mp_241_193 L xs d v5 M o := by
  unfold mf_241_j193 at h
  obtain ⟨d, rfl⟩ := mm_d1 (n := 3) hd
  intro z1 z2 z3 z4 z6 z7 z8
  show mm_Runs L xs (d + 1) 241 (193, [some (.ref 84), z1, z2, z3, z4, some (.int v5), z6, z7, z8], [], M) o
  refine mm_Runs.seq (l := [(193, .aload_n 0, 1), (194, .dup, 1), (195, .getfield 104, 3), (198, .aload_n 0, 1), (199, .iload 5, 2), (201, .sipush 255, 3), (204, .iand, 1)]) (S2 := (205, [some (.ref 84), z1, z2, z3, z4, some (.int v5), z6, z7, z8], [.int (v5 &&& (255 : Int32)), .ref 84, .int (M.1 84 8), .ref 84], M)) (by decide +kernel) (hO := mm_own_241) rfl ?_
  refine mm_R_call (v := mm_wi) h hA (k2 := 194) (as := [.ref 84, .int (v5 &&& (255 : Int32))]) (r := [.int (M.1 84 8), .ref 84]) rfl (fun _ => rfl) (fun q hq o ho => ms_194 (by omega) hq ho) (fun r1 M2 h => ?_)
  show mm_Runs L xs (d + 1) 241 (208, [some (.ref 84), z1, z2, z3, z4, some (.int v5), z6, z7, z8], [.int r1, .int (M.1 84 8), .ref 84], M2) o
  refine mm_R_zeq (t := 215) rfl rfl rfl (fun hc => ?_) (fun hc => ?_)
  · replace h := mm_ip hc h
    refine mm_Runs.seq (l := [(215, .iconst 0, 1), (216, .iadd, 1), (217, .putfield 104, 3)]) (S2 := (220, [some (.ref 84), z1, z2, z3, z4, some (.int v5), z6, z7, z8], [], (mm_pi M2 84 8 ((M.1 84 8) + (0 : Int32))))) (by decide +kernel) (hO := mm_own_241) rfl ?_
    cases h
    exact mm_R_retv rfl rfl hA
  · replace h := mm_iq hc h
    refine mm_Runs.seq (l := [(211, .iconst 1, 1), (212, .goto 4, 3), (216, .iadd, 1), (217, .putfield 104, 3)]) (S2 := (220, [some (.ref 84), z1, z2, z3, z4, some (.int v5), z6, z7, z8], [], (mm_pi M2 84 8 ((M.1 84 8) + (1 : Int32))))) (by decide +kernel) (hO := mm_own_241) rfl ?_
    cases h
    exact mm_R_retv rfl rfl hA
noncomputable def mf_241_j76 (v2 : Int32) (s0 : Int32) (M : mm_M) : mm_O Unit := if s0 = 0 then (mm_B (mf_241_L118 v2 (0 : Int32) (s0, (1 : Int32), (7 : Int32)) M) (fun r2 M1 => mf_241_j193 r2 M1)) else (if (M.1 84 7) = 0 then (if mm_in (0 : Int32) 4 then if mm_in ((M.1 84 4) - (M.2.1 99 (0 : Int32).toNatClampNeg).toInt32) 16384 then mm_B (mf_241_L118 v2 (M.1 86 ((M.1 84 4) - (M.2.1 99 (0 : Int32).toNatClampNeg).toInt32).toNatClampNeg) (s0, (1 : Int32), (7 : Int32)) M) (fun r11 M10 => mf_241_j193 r11 M10) else none else none) else (mm_B (mf_241_L118 v2 (0 : Int32) (s0, (1 : Int32), (7 : Int32)) M) (fun r20 M19 => mf_241_j193 r20 M19)))
set_option maxRecDepth 8000 in
set_option maxHeartbeats 4000000 in
theorem ms_241_j76 {L : Nat} {xs : Nat → Int32} {d : Nat} (hd : 4 ≤ d) {v2 : Int32} {s0 : Int32} {M : mm_M} {q : (Unit ⊕ Nat) × mm_M} {o : mm_E} (h : mf_241_j76 v2 s0 M = some q) (hA : mm_A (mm_Kr mm_wv) q o) : mp_241_76 L xs d v2 s0 M o := by
  unfold mf_241_j76 at h
  obtain ⟨d, rfl⟩ := mm_d1 (n := 3) hd
  intro z1 z3 z4 z5 z6 z7 z8
  show mm_Runs L xs (d + 1) 241 (76, [some (.ref 84), z1, some (.int v2), z3, z4, z5, z6, z7, z8], [.int s0], M) o
  refine mm_Runs.seq (l := [(76, .istore_n 3, 1), (77, .iload_n 3, 1)]) (S2 := (78, [some (.ref 84), z1, some (.int v2), some (.int s0), z4, z5, z6, z7, z8], [.int s0], M)) (by decide +kernel) (hO := mm_own_241) rfl ?_
  refine mm_R_zeq (t := 108) rfl rfl rfl (fun hc => ?_) (fun hc => ?_)
  · replace h := mm_ip hc h
    refine mm_Runs.seq (l := [(108, .iconst 0, 1), (109, .istore 4, 2), (111, .iconst 1, 1), (112, .istore 5, 2), (114, .bipush 7, 2), (116, .istore 6, 2)]) (S2 := (118, [some (.ref 84), z1, some (.int v2), some (.int s0), some (.int (0 : Int32)), some (.int (1 : Int32)), some (.int (7 : Int32)), z7, z8], [], M)) (by decide +kernel) (hO := mm_own_241) rfl ?_
    have hp : mp_241_118 L xs (d + 1) v2 s0 (0 : Int32) (1 : Int32) (7 : Int32) M o := by
      refine ms_241_L118 hd h hA (fun r2 M1 h => ?_)
      intro y3 y4 y5 y6 y7 y8 y9
      show mm_Runs L xs (d + 1) 241 (193, [some (.ref 84), y3, y4, y5, y6, some (.int r2), y7, y8, y9], [], M1) o
      exact (ms_241_j193 hd h hA : mp_241_193 L xs (d + 1) r2 M1 o) y3 y4 y5 y6 y7 y8 y9
    exact hp z1 z7 z8
  · replace h := mm_iq hc h
    refine mm_Runs.seq (l := [(81, .aload_n 0, 1), (82, .getfield 154, 3)]) (S2 := (85, [some (.ref 84), z1, some (.int v2), some (.int s0), z4, z5, z6, z7, z8], [.int (M.1 84 7)], M)) (by decide +kernel) (hO := mm_own_241) rfl ?_
    refine mm_R_zne (t := 108) rfl rfl rfl (fun hc => ?_) (fun hc => ?_)
    · replace h := mm_ip hc h
      refine mm_Runs.seq (l := [(88, .aload_n 0, 1), (89, .getfield 13, 3), (92, .aload_n 0, 1), (93, .getfield 98, 3), (96, .aload_n 0, 1), (97, .getfield 53, 3), (100, .iconst 0, 1)]) (S2 := (101, [some (.ref 84), z1, some (.int v2), some (.int s0), z4, z5, z6, z7, z8], [.int (0 : Int32), .ref 99, .int (M.1 84 4), .ref 86], M)) (by decide +kernel) (hO := mm_own_241) rfl ?_
      obtain ⟨hb, h⟩ := mm_gd h
      refine mm_R_lald rfl rfl hb ?_
      refine mm_Runs.seq (l := [(102, .l2i, 1), (103, .isub, 1)]) (S2 := (104, [some (.ref 84), z1, some (.int v2), some (.int s0), z4, z5, z6, z7, z8], [.int ((M.1 84 4) - (M.2.1 99 (0 : Int32).toNatClampNeg).toInt32), .ref 86], M)) (by decide +kernel) (hO := mm_own_241) rfl ?_
      obtain ⟨hb, h⟩ := mm_gd h
      refine mm_R_iald rfl rfl hb ?_
      refine mm_Runs.seq (l := [(105, .goto 4, 3), (109, .istore 4, 2), (111, .iconst 1, 1), (112, .istore 5, 2), (114, .bipush 7, 2), (116, .istore 6, 2)]) (S2 := (118, [some (.ref 84), z1, some (.int v2), some (.int s0), some (.int (M.1 86 ((M.1 84 4) - (M.2.1 99 (0 : Int32).toNatClampNeg).toInt32).toNatClampNeg)), some (.int (1 : Int32)), some (.int (7 : Int32)), z7, z8], [], M)) (by decide +kernel) (hO := mm_own_241) rfl ?_
      have hp : mp_241_118 L xs (d + 1) v2 s0 (M.1 86 ((M.1 84 4) - (M.2.1 99 (0 : Int32).toNatClampNeg).toInt32).toNatClampNeg) (1 : Int32) (7 : Int32) M o := by
        refine ms_241_L118 hd h hA (fun r11 M10 h => ?_)
        intro y12 y13 y14 y15 y16 y17 y18
        show mm_Runs L xs (d + 1) 241 (193, [some (.ref 84), y12, y13, y14, y15, some (.int r11), y16, y17, y18], [], M10) o
        exact (ms_241_j193 hd h hA : mp_241_193 L xs (d + 1) r11 M10 o) y12 y13 y14 y15 y16 y17 y18
      exact hp z1 z7 z8
    · replace h := mm_iq hc h
      refine mm_Runs.seq (l := [(108, .iconst 0, 1), (109, .istore 4, 2), (111, .iconst 1, 1), (112, .istore 5, 2), (114, .bipush 7, 2), (116, .istore 6, 2)]) (S2 := (118, [some (.ref 84), z1, some (.int v2), some (.int s0), some (.int (0 : Int32)), some (.int (1 : Int32)), some (.int (7 : Int32)), z7, z8], [], M)) (by decide +kernel) (hO := mm_own_241) rfl ?_
      have hp : mp_241_118 L xs (d + 1) v2 s0 (0 : Int32) (1 : Int32) (7 : Int32) M o := by
        refine ms_241_L118 hd h hA (fun r20 M19 h => ?_)
        intro y21 y22 y23 y24 y25 y26 y27
        show mm_Runs L xs (d + 1) 241 (193, [some (.ref 84), y21, y22, y23, y24, some (.int r20), y25, y26, y27], [], M19) o
        exact (ms_241_j193 hd h hA : mp_241_193 L xs (d + 1) r20 M19 o) y21 y22 y23 y24 y25 y26 y27
      exact hp z1 z7 z8
noncomputable def mf_241_j22 (s0 : Int32) (M : mm_M) : mm_O Unit := if (6 : Int32) < (M.1 84 35) then (mf_241_j76 ((2244 : Int32) + ((768 : Int32) * ((((M.1 84 4) &&& ((mm_shl (1 : Int32) (M.1 84 38)) - (1 : Int32))) * (mm_shl (1 : Int32) (M.1 84 37))) + (mm_shr s0 ((8 : Int32) - (M.1 84 37)))))) (1 : Int32) M) else (mf_241_j76 ((2244 : Int32) + ((768 : Int32) * ((((M.1 84 4) &&& ((mm_shl (1 : Int32) (M.1 84 38)) - (1 : Int32))) * (mm_shl (1 : Int32) (M.1 84 37))) + (mm_shr s0 ((8 : Int32) - (M.1 84 37)))))) (0 : Int32) M)
set_option maxRecDepth 8000 in
set_option maxHeartbeats 4000000 in
theorem ms_241_j22 {L : Nat} {xs : Nat → Int32} {d : Nat} (hd : 4 ≤ d) {s0 : Int32} {M : mm_M} {q : (Unit ⊕ Nat) × mm_M} {o : mm_E} (h : mf_241_j22 s0 M = some q) (hA : mm_A (mm_Kr mm_wv) q o) : mp_241_22 L xs d s0 M o := by
  unfold mf_241_j22 at h
  obtain ⟨d, rfl⟩ := mm_d1 (n := 3) hd
  intro z1 z2 z3 z4 z5 z6 z7 z8
  show mm_Runs L xs (d + 1) 241 (22, [some (.ref 84), z1, z2, z3, z4, z5, z6, z7, z8], [.int s0], M) o
  refine mm_Runs.seq (l := [(22, .istore_n 1, 1), (23, .sipush 2244, 3), (26, .sipush 768, 3), (29, .aload_n 0, 1), (30, .getfield 98, 3), (33, .iconst 1, 1), (34, .aload_n 0, 1), (35, .getfield 343, 3), (38, .ishl, 1), (39, .iconst 1, 1), (40, .isub, 1), (41, .iand, 1), (42, .iconst 1, 1), (43, .aload_n 0, 1), (44, .getfield 340, 3), (47, .ishl, 1), (48, .imul, 1), (49, .iload_n 1, 1), (50, .bipush 8, 2), (52, .aload_n 0, 1), (53, .getfield 340, 3), (56, .isub, 1), (57, .ishr, 1), (58, .iadd, 1), (59, .imul, 1), (60, .iadd, 1), (61, .istore_n 2, 1), (62, .aload_n 0, 1), (63, .getfield 349, 3), (66, .bipush 6, 2)]) (S2 := (68, [some (.ref 84), some (.int s0), some (.int ((2244 : Int32) + ((768 : Int32) * ((((M.1 84 4) &&& ((mm_shl (1 : Int32) (M.1 84 38)) - (1 : Int32))) * (mm_shl (1 : Int32) (M.1 84 37))) + (mm_shr s0 ((8 : Int32) - (M.1 84 37))))))), z3, z4, z5, z6, z7, z8], [.int (6 : Int32), .int (M.1 84 35)], M)) (by decide +kernel) (hO := mm_own_241) rfl ?_
  refine mm_R_ile (t := 75) rfl rfl rfl (fun hc => ?_) (fun hc => ?_)
  · replace h := mm_ip hc h
    refine mm_Runs.seq (l := [(71, .iconst 1, 1), (72, .goto 4, 3)]) (S2 := (76, [some (.ref 84), some (.int s0), some (.int ((2244 : Int32) + ((768 : Int32) * ((((M.1 84 4) &&& ((mm_shl (1 : Int32) (M.1 84 38)) - (1 : Int32))) * (mm_shl (1 : Int32) (M.1 84 37))) + (mm_shr s0 ((8 : Int32) - (M.1 84 37))))))), z3, z4, z5, z6, z7, z8], [.int (1 : Int32)], M)) (by decide +kernel) (hO := mm_own_241) rfl ?_
    exact (ms_241_j76 hd h hA : mp_241_76 L xs (d + 1) ((2244 : Int32) + ((768 : Int32) * ((((M.1 84 4) &&& ((mm_shl (1 : Int32) (M.1 84 38)) - (1 : Int32))) * (mm_shl (1 : Int32) (M.1 84 37))) + (mm_shr s0 ((8 : Int32) - (M.1 84 37)))))) (1 : Int32) M o) (some (.int s0)) z3 z4 z5 z6 z7 z8
  · replace h := mm_iq hc h
    refine mm_Runs.seq (l := [(75, .iconst 0, 1)]) (S2 := (76, [some (.ref 84), some (.int s0), some (.int ((2244 : Int32) + ((768 : Int32) * ((((M.1 84 4) &&& ((mm_shl (1 : Int32) (M.1 84 38)) - (1 : Int32))) * (mm_shl (1 : Int32) (M.1 84 37))) + (mm_shr s0 ((8 : Int32) - (M.1 84 37))))))), z3, z4, z5, z6, z7, z8], [.int (0 : Int32)], M)) (by decide +kernel) (hO := mm_own_241) rfl ?_
    exact (ms_241_j76 hd h hA : mp_241_76 L xs (d + 1) ((2244 : Int32) + ((768 : Int32) * ((((M.1 84 4) &&& ((mm_shl (1 : Int32) (M.1 84 38)) - (1 : Int32))) * (mm_shl (1 : Int32) (M.1 84 37))) + (mm_shr s0 ((8 : Int32) - (M.1 84 37)))))) (0 : Int32) M o) (some (.int s0)) z3 z4 z5 z6 z7 z8
noncomputable def mf_241 (M : mm_M) : mm_O Unit := if (M.1 84 4) = 0 then (mf_241_j22 (0 : Int32) M) else (if mm_in ((M.1 84 4) - (1 : Int32)) 16384 then mf_241_j22 (M.1 86 ((M.1 84 4) - (1 : Int32)).toNatClampNeg) M else none)
set_option maxRecDepth 8000 in
set_option maxHeartbeats 4000000 in
theorem ms_241 {L : Nat} {xs : Nat → Int32} {d : Nat} (hd : 4 ≤ d) {M : mm_M} {q : (Unit ⊕ Nat) × mm_M} {o : mm_E} (h : mf_241 M = some q) (hA : mm_A (mm_Kr mm_wv) q o) : mm_Runs L xs d 241 (0, mm_ent (mm_ml 241) [.ref 84], [], M) o := by
  unfold mf_241 at h
  obtain ⟨d, rfl⟩ := mm_d1 (n := 3) hd
  show mm_Runs L xs (d + 1) 241 (0, [some (.ref 84), none, none, none, none, none, none, none, none], [], M) o
  refine mm_Runs.seq (l := [(0, .aload_n 0, 1), (1, .getfield 98, 3)]) (S2 := (4, [some (.ref 84), none, none, none, none, none, none, none, none], [.int (M.1 84 4)], M)) (by decide +kernel) (hO := mm_own_241) rfl ?_
  refine mm_R_zne (t := 11) rfl rfl rfl (fun hc => ?_) (fun hc => ?_)
  · replace h := mm_ip hc h
    refine mm_Runs.seq (l := [(7, .iconst 0, 1), (8, .goto 14, 3)]) (S2 := (22, [some (.ref 84), none, none, none, none, none, none, none, none], [.int (0 : Int32)], M)) (by decide +kernel) (hO := mm_own_241) rfl ?_
    exact (ms_241_j22 hd h hA : mp_241_22 L xs (d + 1) (0 : Int32) M o) none none none none none none none none
  · replace h := mm_iq hc h
    refine mm_Runs.seq (l := [(11, .aload_n 0, 1), (12, .getfield 13, 3), (15, .aload_n 0, 1), (16, .getfield 98, 3), (19, .iconst 1, 1), (20, .isub, 1)]) (S2 := (21, [some (.ref 84), none, none, none, none, none, none, none, none], [.int ((M.1 84 4) - (1 : Int32)), .ref 86], M)) (by decide +kernel) (hO := mm_own_241) rfl ?_
    obtain ⟨hb, h⟩ := mm_gd h
    refine mm_R_iald rfl rfl hb ?_
    exact (ms_241_j22 hd h hA : mp_241_22 L xs (d + 1) (M.1 86 ((M.1 84 4) - (1 : Int32)).toNatClampNeg) M o) none none none none none none none none
-- 234: PlainPacksModel.tree(II)I (depth 4)
theorem mm_own_234 : mm_own 234 = 12 := rfl
def mp_234_5 (L : Nat) (xs : Nat → Int32) (d : Nat) (v1 : Int32) (v2 : Int32) (v3 : Int32) (v4 : Int32) (M : mm_M) (o : mm_E) : Prop := mm_Runs L xs d 234 (5, [some (.ref 84), some (.int v1), some (.int v2), some (.int v3), some (.int v4)], [], M) o
def mp_234_29 (L : Nat) (xs : Nat → Int32) (d : Nat) (v2 : Int32) (v3 : Int32) (M : mm_M) (o : mm_E) : Prop := ∀ z0 z1 z4 : Option Value, mm_Runs L xs d 234 (29, [z0, z1, some (.int v2), some (.int v3), z4], [], M) o
noncomputable def mf_234_b5 (v1 : Int32) (v2 : Int32) (v3 : Int32) (v4 : Int32) (M : mm_M) : mm_O ((Int32 × Int32) ⊕ (Int32)) := if v4 < v2 then (mm_B (mf_233 (v1 + v3) M) (fun r1 M2 => some (.inl (.inl ((((2 : Int32) * v3) + r1), (v4 + (1 : Int32)))), M2))) else (some (.inl (.inr v3), M))
noncomputable def mf_234_L5 (v1 : Int32) (v2 : Int32) (s : Int32 × Int32) (M : mm_M) : mm_O (Int32) := mm_L (fun s M => mf_234_b5 v1 v2 s.1 s.2 M) s M
set_option maxRecDepth 8000 in
set_option maxHeartbeats 4000000 in
theorem ms_234_b5 {L : Nat} {xs : Nat → Int32} {d : Nat} (hd : 4 ≤ d) {v1 : Int32} {v2 : Int32} {v3 : Int32} {v4 : Int32} {M : mm_M} {q : (((Int32 × Int32) ⊕ (Int32)) ⊕ Nat) × mm_M} {o : mm_E} (h : mf_234_b5 v1 v2 v3 v4 M = some q) (hA : mm_A (mm_K2 (fun s M o => mp_234_5 L xs (d) v1 v2 s.1 s.2 M o) (fun r M o => mp_234_29 L xs (d) v2 r M o)) q o) : mp_234_5 L xs d v1 v2 v3 v4 M o := by
  unfold mf_234_b5 at h
  obtain ⟨d, rfl⟩ := mm_d1 (n := 3) hd
  show mm_Runs L xs (d + 1) 234 (5, [some (.ref 84), some (.int v1), some (.int v2), some (.int v3), some (.int v4)], [], M) o
  refine mm_Runs.seq (l := [(5, .iload 4, 2), (7, .iload_n 2, 1)]) (S2 := (8, [some (.ref 84), some (.int v1), some (.int v2), some (.int v3), some (.int v4)], [.int v2, .int v4], M)) (by decide +kernel) (hO := mm_own_234) rfl ?_
  refine mm_R_ige (t := 29) rfl rfl rfl (fun hc => ?_) (fun hc => ?_)
  · replace h := mm_ip hc h
    refine mm_Runs.seq (l := [(11, .iconst 2, 1), (12, .iload_n 3, 1), (13, .imul, 1), (14, .aload_n 0, 1), (15, .iload_n 1, 1), (16, .iload_n 3, 1), (17, .iadd, 1)]) (S2 := (18, [some (.ref 84), some (.int v1), some (.int v2), some (.int v3), some (.int v4)], [.int (v1 + v3), .ref 84, .int ((2 : Int32) * v3)], M)) (by decide +kernel) (hO := mm_own_234) rfl ?_
    refine mm_R_call (v := mm_wi) h hA (k2 := 233) (as := [.ref 84, .int (v1 + v3)]) (r := [.int ((2 : Int32) * v3)]) rfl (fun _ => rfl) (fun q hq o ho => ms_233 (by omega) hq ho) (fun r1 M2 h => ?_)
    show mm_Runs L xs (d + 1) 234 (21, [some (.ref 84), some (.int v1), some (.int v2), some (.int v3), some (.int v4)], [.int r1, .int ((2 : Int32) * v3)], M2) o
    refine mm_Runs.seq (l := [(21, .iadd, 1), (22, .istore_n 3, 1), (23, .iinc 4 1, 3), (26, .goto (-21), 3)]) (S2 := (5, [some (.ref 84), some (.int v1), some (.int v2), some (.int (((2 : Int32) * v3) + r1)), some (.int (v4 + (1 : Int32)))], [], M2)) (by decide +kernel) (hO := mm_own_234) rfl ?_
    cases h
    exact (show mp_234_5 L xs (d + 1) v1 v2 (((2 : Int32) * v3) + r1) (v4 + (1 : Int32)) M2 o from hA)
  · replace h := mm_iq hc h
    cases h
    exact (show mp_234_29 L xs (d + 1) v2 v3 M o from hA) (some (.ref 84)) (some (.int v1)) (some (.int v4))
theorem ms_234_L5 {L : Nat} {xs : Nat → Int32} {d : Nat} (hd : 4 ≤ d) {v1 : Int32} {v2 : Int32} {v3 : Int32} {v4 : Int32} {β : Type} {K : β → mm_M → mm_E → Prop} {F : (Int32) → mm_M → mm_O β} {M : mm_M} {q : (β ⊕ Nat) × mm_M} {o : mm_E} (h : mm_B (mf_234_L5 v1 v2 (v3, v4) M) F = some q) (hA : mm_A K q o) (hx : ∀ (r : (Int32)) (M2 : mm_M), F r M2 = some q → (fun r M o => mp_234_29 L xs (d) v2 r M o) r M2 o) : mp_234_5 L xs d v1 v2 v3 v4 M o := mm_R_loop (s := (v3, v4)) (M := M) (P := (fun s M o => mp_234_5 L xs (d) v1 v2 s.1 s.2 M o)) (X := (fun r M o => mp_234_29 L xs (d) v2 r M o)) h hA (fun s M q hq hA => ms_234_b5 hd hq hA) hx
noncomputable def mf_234 (v1 : Int32) (v2 : Int32) (M : mm_M) : mm_O Int32 := mm_B (mf_234_L5 v1 v2 ((1 : Int32), (0 : Int32)) M) (fun r2 M1 => some (.inl (r2 - (mm_shl (1 : Int32) v2)), M1))
set_option maxRecDepth 8000 in
set_option maxHeartbeats 4000000 in
theorem ms_234 {L : Nat} {xs : Nat → Int32} {d : Nat} (hd : 4 ≤ d) {v1 : Int32} {v2 : Int32} {M : mm_M} {q : (Int32 ⊕ Nat) × mm_M} {o : mm_E} (h : mf_234 v1 v2 M = some q) (hA : mm_A (mm_Kr mm_wi) q o) : mm_Runs L xs d 234 (0, mm_ent (mm_ml 234) [.ref 84, .int v1, .int v2], [], M) o := by
  unfold mf_234 at h
  obtain ⟨d, rfl⟩ := mm_d1 (n := 3) hd
  show mm_Runs L xs (d + 1) 234 (0, [some (.ref 84), some (.int v1), some (.int v2), none, none], [], M) o
  refine mm_Runs.seq (l := [(0, .iconst 1, 1), (1, .istore_n 3, 1), (2, .iconst 0, 1), (3, .istore 4, 2)]) (S2 := (5, [some (.ref 84), some (.int v1), some (.int v2), some (.int (1 : Int32)), some (.int (0 : Int32))], [], M)) (by decide +kernel) (hO := mm_own_234) rfl ?_
  have hp : mp_234_5 L xs (d + 1) v1 v2 (1 : Int32) (0 : Int32) M o := by
    refine ms_234_L5 hd h hA (fun r2 M1 h => ?_)
    intro y3 y4 y5
    show mm_Runs L xs (d + 1) 234 (29, [y3, y4, some (.int v2), some (.int r2), y5], [], M1) o
    refine mm_Runs.seq (l := [(29, .iload_n 3, 1), (30, .iconst 1, 1), (31, .iload_n 2, 1), (32, .ishl, 1), (33, .isub, 1)]) (S2 := (34, [y3, y4, some (.int v2), some (.int r2), y5], [.int (r2 - (mm_shl (1 : Int32) v2))], M1)) (by decide +kernel) (hO := mm_own_234) rfl ?_
    cases h
    exact mm_R_reti rfl rfl hA
  exact hp
