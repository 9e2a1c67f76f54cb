/-! MEANINGS 16 -/
-- 207: PlainPacksModel.rowOf(I)V (depth 4)
theorem mm_own_207 : mm_own 207 = 12 := rfl
def mp_207_2 (L : Nat) (xs : Nat → Int32) (d : Nat) (v1 : Int32) (v2 : Int32) (M : mm_M) (o : mm_E) : Prop := ∀ z3 z4 z5 z6 : Option Value, mm_Runs L xs d 207 (2, [some (.ref 84), some (.int v1), some (.int v2), z3, z4, z5, z6], [], M) o
def mp_207_184 (L : Nat) (xs : Nat → Int32) (d : Nat) (M : mm_M) (o : mm_E) : Prop := ∀ z0 z1 z2 z3 z4 z5 z6 : Option Value, mm_Runs L xs d 207 (184, [z0, z1, z2, z3, z4, z5, z6], [], M) o
def mp_207_49 (L : Nat) (xs : Nat → Int32) (d : Nat) (v1 : Int32) (v2 : Int32) (v3 : Int32) (v4 : Int32) (v5 : Int32) (M : mm_M) (o : mm_E) : Prop := ∀ z6 : Option Value, mm_Runs L xs d 207 (49, [some (.ref 84), some (.int v1), some (.int v2), some (.int v3), some (.int v4), some (.int v5), z6], [], M) o
def mp_207_80 (L : Nat) (xs : Nat → Int32) (d : Nat) (v1 : Int32) (v2 : Int32) (v3 : Int32) (s0 : Int32) (M : mm_M) (o : mm_E) : Prop := ∀ z4 z5 z6 : Option Value, mm_Runs L xs d 207 (80, [some (.ref 84), some (.int v1), some (.int v2), some (.int v3), z4, z5, z6], [.int s0], M) o
def mp_207_126 (L : Nat) (xs : Nat → Int32) (d : Nat) (v1 : Int32) (v2 : Int32) (v5 : Int32) (s0 : Int32) (M : mm_M) (o : mm_E) : Prop := ∀ z3 z4 z6 : Option Value, mm_Runs L xs d 207 (126, [some (.ref 84), some (.int v1), some (.int v2), z3, z4, some (.int v5), z6], [.int s0], M) o
def mp_207_128 (L : Nat) (xs : Nat → Int32) (d : Nat) (v1 : Int32) (v2 : Int32) (v4 : Int32) (v5 : Int32) (M : mm_M) (o : mm_E) : Prop := ∀ z3 z6 : Option Value, mm_Runs L xs d 207 (128, [some (.ref 84), some (.int v1), some (.int v2), z3, some (.int v4), some (.int v5), z6], [], M) o
def mp_207_150 (L : Nat) (xs : Nat → Int32) (d : Nat) (v1 : Int32) (v2 : Int32) (v4 : Int32) (v5 : Int32) (v6 : Int32) (M : mm_M) (o : mm_E) : Prop := ∀ z3 : Option Value, mm_Runs L xs d 207 (150, [some (.ref 84), some (.int v1), some (.int v2), z3, some (.int v4), some (.int v5), some (.int v6)], [], M) o
def mp_207_181 (L : Nat) (xs : Nat → Int32) (d : Nat) (v1 : Int32) (v2 : Int32) (M : mm_M) (o : mm_E) : Prop := ∀ z3 z4 z5 z6 : Option Value, mm_Runs L xs d 207 (181, [some (.ref 84), some (.int v1), some (.int v2), z3, z4, z5, z6], [], M) o
noncomputable def mf_207_b150 (v1 : Int32) (v2 : Int32) (v4 : Int32) (v5 : Int32) (v6 : Int32) (M : mm_M) : mm_O ((Int32 × Int32) ⊕ (Int32)) := if v6 < v4 then (if (M.1 84 7) = 0 then (if mm_in v2 640 then some (.inl (.inl ((v2 + (1 : Int32)), (v6 + (1 : Int32)))), (mm_pi M 90 v2.toNatClampNeg v5)) else none) else (some (.inl (.inr v2), M))) else (some (.inl (.inr v2), M))
noncomputable def mf_207_L150 (v1 : Int32) (v4 : Int32) (v5 : Int32) (s : Int32 × Int32) (M : mm_M) : mm_O (Int32) := mm_L (fun s M => mf_207_b150 v1 s.1 v4 v5 s.2 M) s M
set_option maxRecDepth 8000 in
set_option maxHeartbeats 4000000 in
theorem ms_207_b150 {L : Nat} {xs : Nat → Int32} {d : Nat} (hd : 4 ≤ d) {v1 : Int32} {v2 : Int32} {v4 : Int32} {v5 : Int32} {v6 : Int32} {M : mm_M} {q : (((Int32 × Int32) ⊕ (Int32)) ⊕ Nat) × mm_M} {o : mm_E} (h : mf_207_b150 v1 v2 v4 v5 v6 M = some q) (hA : mm_A (mm_K2 (fun s M o => mp_207_150 L xs (d) v1 s.1 v4 v5 s.2 M o) (fun r M o => mp_207_181 L xs (d) v1 r M o)) q o) : mp_207_150 L xs d v1 v2 v4 v5 v6 M o := by
  unfold mf_207_b150 at h
  obtain ⟨d, rfl⟩ := mm_d1 (n := 3) hd
  intro z3
  show mm_Runs L xs (d + 1) 207 (150, [some (.ref 84), some (.int v1), some (.int v2), z3, some (.int v4), some (.int v5), some (.int v6)], [], M) o
  refine mm_Runs.seq (l := [(150, .iload 6, 2), (152, .iload 4, 2)]) (S2 := (154, [some (.ref 84), some (.int v1), some (.int v2), z3, some (.int v4), some (.int v5), some (.int v6)], [.int v4, .int v6], M)) (by decide +kernel) (hO := mm_own_207) rfl ?_
  refine mm_R_ige (t := 181) rfl rfl rfl (fun hc => ?_) (fun hc => ?_)
  · replace h := mm_ip hc h
    refine mm_Runs.seq (l := [(157, .aload_n 0, 1), (158, .getfield 154, 3)]) (S2 := (161, [some (.ref 84), some (.int v1), some (.int v2), z3, some (.int v4), some (.int v5), some (.int v6)], [.int (M.1 84 7)], M)) (by decide +kernel) (hO := mm_own_207) rfl ?_
    refine mm_R_zne (t := 181) rfl rfl rfl (fun hc => ?_) (fun hc => ?_)
    · replace h := mm_ip hc h
      refine mm_Runs.seq (l := [(164, .aload_n 0, 1), (165, .getfield 25, 3), (168, .iload_n 2, 1), (169, .iload 5, 2)]) (S2 := (171, [some (.ref 84), some (.int v1), some (.int v2), z3, some (.int v4), some (.int v5), some (.int v6)], [.int v5, .int v2, .ref 90], M)) (by decide +kernel) (hO := mm_own_207) rfl ?_
      obtain ⟨hb, h⟩ := mm_gd h
      refine mm_R_iast rfl rfl hb ?_
      refine mm_Runs.seq (l := [(172, .iinc 2 1, 3), (175, .iinc 6 1, 3), (178, .goto (-28), 3)]) (S2 := (150, [some (.ref 84), some (.int v1), some (.int (v2 + (1 : Int32))), z3, some (.int v4), some (.int v5), some (.int (v6 + (1 : Int32)))], [], (mm_pi M 90 v2.toNatClampNeg v5))) (by decide +kernel) (hO := mm_own_207) rfl ?_
      cases h
      exact (show mp_207_150 L xs (d + 1) v1 (v2 + (1 : Int32)) v4 v5 (v6 + (1 : Int32)) (mm_pi M 90 v2.toNatClampNeg v5) o from hA) z3
    · replace h := mm_iq hc h
      cases h
      exact (show mp_207_181 L xs (d + 1) v1 v2 M o from hA) z3 (some (.int v4)) (some (.int v5)) (some (.int v6))
  · replace h := mm_iq hc h
    cases h
    exact (show mp_207_181 L xs (d + 1) v1 v2 M o from hA) z3 (some (.int v4)) (some (.int v5)) (some (.int v6))
theorem ms_207_L150 {L : Nat} {xs : Nat → Int32} {d : Nat} (hd : 4 ≤ d) {v1 : Int32} {v2 : Int32} {v4 : Int32} {v5 : Int32} {v6 : Int32} {β : Type} {K : β → mm_M → mm_E → Prop} {F : (Int32) → mm_M → mm_O β} {M : mm_M} {q : (β ⊕ Nat) × mm_M} {o : mm_E} (h : mm_B (mf_207_L150 v1 v4 v5 (v2, v6) M) F = some q) (hA : mm_A K q o) (hx : ∀ (r : (Int32)) (M2 : mm_M), F r M2 = some q → (fun r M o => mp_207_181 L xs (d) v1 r M o) r M2 o) : mp_207_150 L xs d v1 v2 v4 v5 v6 M o := mm_R_loop (s := (v2, v6)) (M := M) (P := (fun s M o => mp_207_150 L xs (d) v1 s.1 v4 v5 s.2 M o)) (X := (fun r M o => mp_207_181 L xs (d) v1 r M o)) h hA (fun s M q hq hA => ms_207_b150 hd hq hA) hx
noncomputable def mf_207_j128 (v1 : Int32) (v2 : Int32) (v4 : Int32) (v5 : Int32) (M : mm_M) : mm_O ((Int32) ⊕ (Unit)) := if (M.1 84 7) = 0 then (if v1 < (v2 + v4) then (mm_B (mf_190 M) (fun _ M1 => mm_B (mf_207_L150 v1 v4 v5 (v2, (0 : Int32)) M1) (fun r3 M2 => some (.inl (.inl r3), M2)))) else (mm_B (mf_207_L150 v1 v4 v5 (v2, (0 : Int32)) M) (fun r9 M8 => some (.inl (.inl r9), M8)))) else (mm_B (mf_207_L150 v1 v4 v5 (v2, (0 : Int32)) M) (fun r15 M14 => some (.inl (.inl r15), M14)))
set_option maxRecDepth 8000 in
set_option maxHeartbeats 4000000 in
theorem ms_207_j128 {L : Nat} {xs : Nat → Int32} {d : Nat} (hd : 4 ≤ d) {v1 : Int32} {v2 : Int32} {v4 : Int32} {v5 : Int32} {M : mm_M} {q : (((Int32) ⊕ (Unit)) ⊕ Nat) × mm_M} {o : mm_E} (h : mf_207_j128 v1 v2 v4 v5 M = some q) (hA : mm_A (mm_K2 (fun s M o => mp_207_2 L xs (d) v1 s M o) (fun r M o => mp_207_184 L xs (d) M o)) q o) : mp_207_128 L xs d v1 v2 v4 v5 M o := by
  unfold mf_207_j128 at h
  obtain ⟨d, rfl⟩ := mm_d1 (n := 3) hd
  intro z3 z6
  show mm_Runs L xs (d + 1) 207 (128, [some (.ref 84), some (.int v1), some (.int v2), z3, some (.int v4), some (.int v5), z6], [], M) o
  refine mm_Runs.seq (l := [(128, .aload_n 0, 1), (129, .getfield 154, 3)]) (S2 := (132, [some (.ref 84), some (.int v1), some (.int v2), z3, some (.int v4), some (.int v5), z6], [.int (M.1 84 7)], M)) (by decide +kernel) (hO := mm_own_207) rfl ?_
  refine mm_R_zne (t := 147) rfl rfl rfl (fun hc => ?_) (fun hc => ?_)
  · replace h := mm_ip hc h
    refine mm_Runs.seq (l := [(135, .iload_n 2, 1), (136, .iload 4, 2), (138, .iadd, 1), (139, .iload_n 1, 1)]) (S2 := (140, [some (.ref 84), some (.int v1), some (.int v2), z3, some (.int v4), some (.int v5), z6], [.int v1, .int (v2 + v4)], M)) (by decide +kernel) (hO := mm_own_207) rfl ?_
    refine mm_R_ile (t := 147) rfl rfl rfl (fun hc => ?_) (fun hc => ?_)
    · replace h := mm_ip hc h
      refine mm_Runs.seq (l := [(143, .aload_n 0, 1)]) (S2 := (144, [some (.ref 84), some (.int v1), some (.int v2), z3, some (.int v4), some (.int v5), z6], [.ref 84], M)) (by decide +kernel) (hO := mm_own_207) rfl ?_
      refine mm_R_call (v := mm_wv) h hA (k2 := 190) (as := [.ref 84]) (r := []) rfl (fun _ => rfl) (fun q hq o ho => ms_190 (by omega) hq ho) (fun _ M1 h => ?_)
      show mm_Runs L xs (d + 1) 207 (147, [some (.ref 84), some (.int v1), some (.int v2), z3, some (.int v4), some (.int v5), z6], [], M1) o
      refine mm_Runs.seq (l := [(147, .iconst 0, 1), (148, .istore 6, 2)]) (S2 := (150, [some (.ref 84), some (.int v1), some (.int v2), z3, some (.int v4), some (.int v5), some (.int (0 : Int32))], [], M1)) (by decide +kernel) (hO := mm_own_207) rfl ?_
      have hp : mp_207_150 L xs (d + 1) v1 v2 v4 v5 (0 : Int32) M1 o := by
        refine ms_207_L150 hd h hA (fun r3 M2 h => ?_)
        intro y4 y5 y6 y7
        show mm_Runs L xs (d + 1) 207 (181, [some (.ref 84), some (.int v1), some (.int r3), y4, y5, y6, y7], [], M2) o
        refine mm_Runs.seq (l := [(181, .goto (-179), 3)]) (S2 := (2, [some (.ref 84), some (.int v1), some (.int r3), y4, y5, y6, y7], [], M2)) (by decide +kernel) (hO := mm_own_207) rfl ?_
        cases h
        exact (show mp_207_2 L xs (d + 1) v1 r3 M2 o from hA) y4 y5 y6 y7
      exact hp z3
    · replace h := mm_iq hc h
      refine mm_Runs.seq (l := [(147, .iconst 0, 1), (148, .istore 6, 2)]) (S2 := (150, [some (.ref 84), some (.int v1), some (.int v2), z3, some (.int v4), some (.int v5), some (.int (0 : Int32))], [], M)) (by decide +kernel) (hO := mm_own_207) rfl ?_
      have hp : mp_207_150 L xs (d + 1) v1 v2 v4 v5 (0 : Int32) M o := by
        refine ms_207_L150 hd h hA (fun r9 M8 h => ?_)
        intro y10 y11 y12 y13
        show mm_Runs L xs (d + 1) 207 (181, [some (.ref 84), some (.int v1), some (.int r9), y10, y11, y12, y13], [], M8) o
        refine mm_Runs.seq (l := [(181, .goto (-179), 3)]) (S2 := (2, [some (.ref 84), some (.int v1), some (.int r9), y10, y11, y12, y13], [], M8)) (by decide +kernel) (hO := mm_own_207) rfl ?_
        cases h
        exact (show mp_207_2 L xs (d + 1) v1 r9 M8 o from hA) y10 y11 y12 y13
      exact hp z3
  · replace h := mm_iq hc h
    refine mm_Runs.seq (l := [(147, .iconst 0, 1), (148, .istore 6, 2)]) (S2 := (150, [some (.ref 84), some (.int v1), some (.int v2), z3, some (.int v4), some (.int v5), some (.int (0 : Int32))], [], M)) (by decide +kernel) (hO := mm_own_207) rfl ?_
    have hp : mp_207_150 L xs (d + 1) v1 v2 v4 v5 (0 : Int32) M o := by
      refine ms_207_L150 hd h hA (fun r15 M14 h => ?_)
      intro y16 y17 y18 y19
      show mm_Runs L xs (d + 1) 207 (181, [some (.ref 84), some (.int v1), some (.int r15), y16, y17, y18, y19], [], M14) o
      refine mm_Runs.seq (l := [(181, .goto (-179), 3)]) (S2 := (2, [some (.ref 84), some (.int v1), some (.int r15), y16, y17, y18, y19], [], M14)) (by decide +kernel) (hO := mm_own_207) rfl ?_
      cases h
      exact (show mp_207_2 L xs (d + 1) v1 r15 M14 o from hA) y16 y17 y18 y19
    exact hp z3
noncomputable def mf_207_j126 (v1 : Int32) (v2 : Int32) (v5 : Int32) (s0 : Int32) (M : mm_M) : mm_O ((Int32) ⊕ (Unit)) := mf_207_j128 v1 v2 s0 v5 M
set_option maxRecDepth 8000 in
set_option maxHeartbeats 4000000 in
theorem ms_207_j126 {L : Nat} {xs : Nat → Int32} {d : Nat} (hd : 4 ≤ d) {v1 : Int32} {v2 : Int32} {v5 : Int32} {s0 : Int32} {M : mm_M} {q : (((Int32) ⊕ (Unit)) ⊕ Nat) × mm_M} {o : mm_E} (h : mf_207_j126 v1 v2 v5 s0 M = some q) (hA : mm_A (mm_K2 (fun s M o => mp_207_2 L xs (d) v1 s M o) (fun r M o => mp_207_184 L xs (d) M o)) q o) : mp_207_126 L xs d v1 v2 v5 s0 M o := by
  unfold mf_207_j126 at h
  obtain ⟨d, rfl⟩ := mm_d1 (n := 3) hd
  intro z3 z4 z6
  show mm_Runs L xs (d + 1) 207 (126, [some (.ref 84), some (.int v1), some (.int v2), z3, z4, some (.int v5), z6], [.int s0], M) o
  refine mm_Runs.seq (l := [(126, .istore 4, 2)]) (S2 := (128, [some (.ref 84), some (.int v1), some (.int v2), (mm_no2 z3), some (.int s0), some (.int v5), z6], [], M)) (by decide +kernel) (hO := mm_own_207) rfl ?_
  exact (ms_207_j128 hd h hA : mp_207_128 L xs (d + 1) v1 v2 s0 v5 M o) ((mm_no2 z3)) z6
noncomputable def mf_207_j80 (v1 : Int32) (v2 : Int32) (v3 : Int32) (s0 : Int32) (M : mm_M) : mm_O ((Int32) ⊕ (Unit)) := if v3 = (16 : Int32) then (mm_B (mf_198 (2 : Int32) M) (fun r1 M2 => mf_207_j126 v1 v2 s0 ((3 : Int32) + r1.toInt32) M2)) else (if v3 = (17 : Int32) then (mm_B (mf_198 (3 : Int32) M) (fun r3 M4 => mf_207_j126 v1 v2 s0 ((3 : Int32) + r3.toInt32) M4)) else (mm_B (mf_198 (7 : Int32) M) (fun r5 M6 => mf_207_j126 v1 v2 s0 ((11 : Int32) + r5.toInt32) M6)))
set_option maxRecDepth 8000 in
set_option maxHeartbeats 4000000 in
theorem ms_207_j80 {L : Nat} {xs : Nat → Int32} {d : Nat} (hd : 4 ≤ d) {v1 : Int32} {v2 : Int32} {v3 : Int32} {s0 : Int32} {M : mm_M} {q : (((Int32) ⊕ (Unit)) ⊕ Nat) × mm_M} {o : mm_E} (h : mf_207_j80 v1 v2 v3 s0 M = some q) (hA : mm_A (mm_K2 (fun s M o => mp_207_2 L xs (d) v1 s M o) (fun r M o => mp_207_184 L xs (d) M o)) q o) : mp_207_80 L xs d v1 v2 v3 s0 M o := by
  unfold mf_207_j80 at h
  obtain ⟨d, rfl⟩ := mm_d1 (n := 3) hd
  intro z4 z5 z6
  show mm_Runs L xs (d + 1) 207 (80, [some (.ref 84), some (.int v1), some (.int v2), some (.int v3), z4, z5, z6], [.int s0], M) o
  refine mm_Runs.seq (l := [(80, .istore 5, 2), (82, .iload_n 3, 1), (83, .bipush 16, 2)]) (S2 := (85, [some (.ref 84), some (.int v1), some (.int v2), some (.int v3), (mm_no2 z4), some (.int s0), z6], [.int (16 : Int32), .int v3], M)) (by decide +kernel) (hO := mm_own_207) rfl ?_
  refine mm_R_ine (t := 99) rfl rfl rfl (fun hc => ?_) (fun hc => ?_)
  · replace h := mm_ip hc h
    refine mm_Runs.seq (l := [(88, .iconst 3, 1), (89, .aload_n 0, 1), (90, .iconst 2, 1)]) (S2 := (91, [some (.ref 84), some (.int v1), some (.int v2), some (.int v3), (mm_no2 z4), some (.int s0), z6], [.int (2 : Int32), .ref 84, .int (3 : Int32)], M)) (by decide +kernel) (hO := mm_own_207) rfl ?_
    refine mm_R_call (v := mm_wl) h hA (k2 := 198) (as := [.ref 84, .int (2 : Int32)]) (r := [.int (3 : Int32)]) rfl (fun _ => rfl) (fun q hq o ho => ms_198 (by omega) hq ho) (fun r1 M2 h => ?_)
    show mm_Runs L xs (d + 1) 207 (94, [some (.ref 84), some (.int v1), some (.int v2), some (.int v3), (mm_no2 z4), some (.int s0), z6], [.long r1, .int (3 : Int32)], M2) o
    refine mm_Runs.seq (l := [(94, .l2i, 1), (95, .iadd, 1), (96, .goto 30, 3)]) (S2 := (126, [some (.ref 84), some (.int v1), some (.int v2), some (.int v3), (mm_no2 z4), some (.int s0), z6], [.int ((3 : Int32) + r1.toInt32)], M2)) (by decide +kernel) (hO := mm_own_207) rfl ?_
    exact (ms_207_j126 hd h hA : mp_207_126 L xs (d + 1) v1 v2 s0 ((3 : Int32) + r1.toInt32) M2 o) (some (.int v3)) ((mm_no2 z4)) z6
  · replace h := mm_iq hc h
    refine mm_Runs.seq (l := [(99, .iload_n 3, 1), (100, .bipush 17, 2)]) (S2 := (102, [some (.ref 84), some (.int v1), some (.int v2), some (.int v3), (mm_no2 z4), some (.int s0), z6], [.int (17 : Int32), .int v3], M)) (by decide +kernel) (hO := mm_own_207) rfl ?_
    refine mm_R_ine (t := 116) rfl rfl rfl (fun hc => ?_) (fun hc => ?_)
    · replace h := mm_ip hc h
      refine mm_Runs.seq (l := [(105, .iconst 3, 1), (106, .aload_n 0, 1), (107, .iconst 3, 1)]) (S2 := (108, [some (.ref 84), some (.int v1), some (.int v2), some (.int v3), (mm_no2 z4), some (.int s0), z6], [.int (3 : Int32), .ref 84, .int (3 : Int32)], M)) (by decide +kernel) (hO := mm_own_207) rfl ?_
      refine mm_R_call (v := mm_wl) h hA (k2 := 198) (as := [.ref 84, .int (3 : Int32)]) (r := [.int (3 : Int32)]) rfl (fun _ => rfl) (fun q hq o ho => ms_198 (by omega) hq ho) (fun r3 M4 h => ?_)
      show mm_Runs L xs (d + 1) 207 (111, [some (.ref 84), some (.int v1), some (.int v2), some (.int v3), (mm_no2 z4), some (.int s0), z6], [.long r3, .int (3 : Int32)], M4) o
      refine mm_Runs.seq (l := [(111, .l2i, 1), (112, .iadd, 1), (113, .goto 13, 3)]) (S2 := (126, [some (.ref 84), some (.int v1), some (.int v2), some (.int v3), (mm_no2 z4), some (.int s0), z6], [.int ((3 : Int32) + r3.toInt32)], M4)) (by decide +kernel) (hO := mm_own_207) rfl ?_
      exact (ms_207_j126 hd h hA : mp_207_126 L xs (d + 1) v1 v2 s0 ((3 : Int32) + r3.toInt32) M4 o) (some (.int v3)) ((mm_no2 z4)) z6
    · replace h := mm_iq hc h
      refine mm_Runs.seq (l := [(116, .bipush 11, 2), (118, .aload_n 0, 1), (119, .bipush 7, 2)]) (S2 := (121, [some (.ref 84), some (.int v1), some (.int v2), some (.int v3), (mm_no2 z4), some (.int s0), z6], [.int (7 : Int32), .ref 84, .int (11 : Int32)], M)) (by decide +kernel) (hO := mm_own_207) rfl ?_
      refine mm_R_call (v := mm_wl) h hA (k2 := 198) (as := [.ref 84, .int (7 : Int32)]) (r := [.int (11 : Int32)]) rfl (fun _ => rfl) (fun q hq o ho => ms_198 (by omega) hq ho) (fun r5 M6 h => ?_)
      show mm_Runs L xs (d + 1) 207 (124, [some (.ref 84), some (.int v1), some (.int v2), some (.int v3), (mm_no2 z4), some (.int s0), z6], [.long r5, .int (11 : Int32)], M6) o
      refine mm_Runs.seq (l := [(124, .l2i, 1), (125, .iadd, 1)]) (S2 := (126, [some (.ref 84), some (.int v1), some (.int v2), some (.int v3), (mm_no2 z4), some (.int s0), z6], [.int ((11 : Int32) + r5.toInt32)], M6)) (by decide +kernel) (hO := mm_own_207) rfl ?_
      exact (ms_207_j126 hd h hA : mp_207_126 L xs (d + 1) v1 v2 s0 ((11 : Int32) + r5.toInt32) M6 o) (some (.int v3)) ((mm_no2 z4)) z6
noncomputable def mf_207_j49 (v1 : Int32) (v2 : Int32) (v3 : Int32) (v4 : Int32) (v5 : Int32) (M : mm_M) : mm_O ((Int32) ⊕ (Unit)) := if (M.1 84 7) = 0 then (if (15 : Int32) < v3 then (if v3 = (16 : Int32) then (if mm_in (v2 - (1 : Int32)) 640 then mf_207_j80 v1 v2 v3 (M.1 90 (v2 - (1 : Int32)).toNatClampNeg) M else none) else (mf_207_j80 v1 v2 v3 (0 : Int32) M)) else (mf_207_j128 v1 v2 v4 v5 M)) else (mf_207_j128 v1 v2 v4 v5 M)
set_option maxRecDepth 8000 in
set_option maxHeartbeats 4000000 in
theorem ms_207_j49 {L : Nat} {xs : Nat → Int32} {d : Nat} (hd : 4 ≤ d) {v1 : Int32} {v2 : Int32} {v3 : Int32} {v4 : Int32} {v5 : Int32} {M : mm_M} {q : (((Int32) ⊕ (Unit)) ⊕ Nat) × mm_M} {o : mm_E} (h : mf_207_j49 v1 v2 v3 v4 v5 M = some q) (hA : mm_A (mm_K2 (fun s M o => mp_207_2 L xs (d) v1 s M o) (fun r M o => mp_207_184 L xs (d) M o)) q o) : mp_207_49 L xs d v1 v2 v3 v4 v5 M o := by
  unfold mf_207_j49 at h
  obtain ⟨d, rfl⟩ := mm_d1 (n := 3) hd
  intro z6
  show mm_Runs L xs (d + 1) 207 (49, [some (.ref 84), some (.int v1), some (.int v2), some (.int v3), some (.int v4), some (.int v5), z6], [], M) o
  refine mm_Runs.seq (l := [(49, .aload_n 0, 1), (50, .getfield 154, 3)]) (S2 := (53, [some (.ref 84), some (.int v1), some (.int v2), some (.int v3), some (.int v4), some (.int v5), z6], [.int (M.1 84 7)], M)) (by decide +kernel) (hO := mm_own_207) rfl ?_
  refine mm_R_zne (t := 128) rfl rfl rfl (fun hc => ?_) (fun hc => ?_)
  · replace h := mm_ip hc h
    refine mm_Runs.seq (l := [(56, .iload_n 3, 1), (57, .bipush 15, 2)]) (S2 := (59, [some (.ref 84), some (.int v1), some (.int v2), some (.int v3), some (.int v4), some (.int v5), z6], [.int (15 : Int32), .int v3], M)) (by decide +kernel) (hO := mm_own_207) rfl ?_
    refine mm_R_ile (t := 128) rfl rfl rfl (fun hc => ?_) (fun hc => ?_)
    · replace h := mm_ip hc h
      refine mm_Runs.seq (l := [(62, .iload_n 3, 1), (63, .bipush 16, 2)]) (S2 := (65, [some (.ref 84), some (.int v1), some (.int v2), some (.int v3), some (.int v4), some (.int v5), z6], [.int (16 : Int32), .int v3], M)) (by decide +kernel) (hO := mm_own_207) rfl ?_
      refine mm_R_ine (t := 79) rfl rfl rfl (fun hc => ?_) (fun hc => ?_)
      · replace h := mm_ip hc h
        refine mm_Runs.seq (l := [(68, .aload_n 0, 1), (69, .getfield 25, 3), (72, .iload_n 2, 1), (73, .iconst 1, 1), (74, .isub, 1)]) (S2 := (75, [some (.ref 84), some (.int v1), some (.int v2), some (.int v3), some (.int v4), some (.int v5), z6], [.int (v2 - (1 : Int32)), .ref 90], M)) (by decide +kernel) (hO := mm_own_207) rfl ?_
        obtain ⟨hb, h⟩ := mm_gd h
        refine mm_R_iald rfl rfl hb ?_
        refine mm_Runs.seq (l := [(76, .goto 4, 3)]) (S2 := (80, [some (.ref 84), some (.int v1), some (.int v2), some (.int v3), some (.int v4), some (.int v5), z6], [.int (M.1 90 (v2 - (1 : Int32)).toNatClampNeg)], M)) (by decide +kernel) (hO := mm_own_207) rfl ?_
        exact (ms_207_j80 hd h hA : mp_207_80 L xs (d + 1) v1 v2 v3 (M.1 90 (v2 - (1 : Int32)).toNatClampNeg) M o) (some (.int v4)) (some (.int v5)) z6
      · replace h := mm_iq hc h
        refine mm_Runs.seq (l := [(79, .iconst 0, 1)]) (S2 := (80, [some (.ref 84), some (.int v1), some (.int v2), some (.int v3), some (.int v4), some (.int v5), z6], [.int (0 : Int32)], M)) (by decide +kernel) (hO := mm_own_207) rfl ?_
        exact (ms_207_j80 hd h hA : mp_207_80 L xs (d + 1) v1 v2 v3 (0 : Int32) M o) (some (.int v4)) (some (.int v5)) z6
    · replace h := mm_iq hc h
      exact (ms_207_j128 hd h hA : mp_207_128 L xs (d + 1) v1 v2 v4 v5 M o) (some (.int v3)) z6
  · replace h := mm_iq hc h
    exact (ms_207_j128 hd h hA : mp_207_128 L xs (d + 1) v1 v2 v4 v5 M o) (some (.int v3)) z6
noncomputable def mf_207_b2 (v1 : Int32) (v2 : Int32) (M : mm_M) : mm_O ((Int32) ⊕ (Unit)) := if v2 < v1 then (if (M.1 84 7) = 0 then (mm_B (mf_202 (2 : Int32) (19 : Int32) M) (fun r1 M2 => if (M2.1 84 7) = 0 then (if r1 = (16 : Int32) then (if v2 = 0 then (mm_B (mf_190 M2) (fun _ M3 => mf_207_j49 v1 v2 r1 (1 : Int32) r1 M3)) else (mf_207_j49 v1 v2 r1 (1 : Int32) r1 M2)) else (mf_207_j49 v1 v2 r1 (1 : Int32) r1 M2)) else (mf_207_j49 v1 v2 r1 (1 : Int32) r1 M2))) else (some (.inl (.inr ()), M))) else (some (.inl (.inr ()), M))
noncomputable def mf_207_L2 (v1 : Int32) (s : Int32) (M : mm_M) : mm_O (Unit) := mm_L (fun s M => mf_207_b2 v1 s M) s M
set_option maxRecDepth 8000 in
set_option maxHeartbeats 4000000 in
theorem ms_207_b2 {L : Nat} {xs : Nat → Int32} {d : Nat} (hd : 4 ≤ d) {v1 : Int32} {v2 : Int32} {M : mm_M} {q : (((Int32) ⊕ (Unit)) ⊕ Nat) × mm_M} {o : mm_E} (h : mf_207_b2 v1 v2 M = some q) (hA : mm_A (mm_K2 (fun s M o => mp_207_2 L xs (d) v1 s M o) (fun r M o => mp_207_184 L xs (d) M o)) q o) : mp_207_2 L xs d v1 v2 M o := by
  unfold mf_207_b2 at h
  obtain ⟨d, rfl⟩ := mm_d1 (n := 3) hd
  intro z3 z4 z5 z6
  show mm_Runs L xs (d + 1) 207 (2, [some (.ref 84), some (.int v1), some (.int v2), z3, z4, z5, z6], [], M) o
  refine mm_Runs.seq (l := [(2, .iload_n 2, 1), (3, .iload_n 1, 1)]) (S2 := (4, [some (.ref 84), some (.int v1), some (.int v2), z3, z4, z5, z6], [.int v1, .int v2], M)) (by decide +kernel) (hO := mm_own_207) rfl ?_
  refine mm_R_ige (t := 184) rfl rfl rfl (fun hc => ?_) (fun hc => ?_)
  · replace h := mm_ip hc h
    refine mm_Runs.seq (l := [(7, .aload_n 0, 1), (8, .getfield 154, 3)]) (S2 := (11, [some (.ref 84), some (.int v1), some (.int v2), z3, z4, z5, z6], [.int (M.1 84 7)], M)) (by decide +kernel) (hO := mm_own_207) rfl ?_
    refine mm_R_zne (t := 184) rfl rfl rfl (fun hc => ?_) (fun hc => ?_)
    · replace h := mm_ip hc h
      refine mm_Runs.seq (l := [(14, .aload_n 0, 1), (15, .iconst 2, 1), (16, .bipush 19, 2)]) (S2 := (18, [some (.ref 84), some (.int v1), some (.int v2), z3, z4, z5, z6], [.int (19 : Int32), .int (2 : Int32), .ref 84], M)) (by decide +kernel) (hO := mm_own_207) rfl ?_
      refine mm_R_call (v := mm_wi) h hA (k2 := 202) (as := [.ref 84, .int (2 : Int32), .int (19 : Int32)]) (r := []) rfl (fun _ => rfl) (fun q hq o ho => ms_202 (by omega) hq ho) (fun r1 M2 h => ?_)
      show mm_Runs L xs (d + 1) 207 (21, [some (.ref 84), some (.int v1), some (.int v2), z3, z4, z5, z6], [.int r1], M2) o
      refine mm_Runs.seq (l := [(21, .istore_n 3, 1), (22, .iconst 1, 1), (23, .istore 4, 2), (25, .iload_n 3, 1), (26, .istore 5, 2), (28, .aload_n 0, 1), (29, .getfield 154, 3)]) (S2 := (32, [some (.ref 84), some (.int v1), some (.int v2), some (.int r1), some (.int (1 : Int32)), some (.int r1), z6], [.int (M2.1 84 7)], M2)) (by decide +kernel) (hO := mm_own_207) rfl ?_
      refine mm_R_zne (t := 49) rfl rfl rfl (fun hc => ?_) (fun hc => ?_)
      · replace h := mm_ip hc h
        refine mm_Runs.seq (l := [(35, .iload_n 3, 1), (36, .bipush 16, 2)]) (S2 := (38, [some (.ref 84), some (.int v1), some (.int v2), some (.int r1), some (.int (1 : Int32)), some (.int r1), z6], [.int (16 : Int32), .int r1], M2)) (by decide +kernel) (hO := mm_own_207) rfl ?_
        refine mm_R_ine (t := 49) rfl rfl rfl (fun hc => ?_) (fun hc => ?_)
        · replace h := mm_ip hc h
          refine mm_Runs.seq (l := [(41, .iload_n 2, 1)]) (S2 := (42, [some (.ref 84), some (.int v1), some (.int v2), some (.int r1), some (.int (1 : Int32)), some (.int r1), z6], [.int v2], M2)) (by decide +kernel) (hO := mm_own_207) rfl ?_
          refine mm_R_zne (t := 49) rfl rfl rfl (fun hc => ?_) (fun hc => ?_)
          · replace h := mm_ip hc h
            refine mm_Runs.seq (l := [(45, .aload_n 0, 1)]) (S2 := (46, [some (.ref 84), some (.int v1), some (.int v2), some (.int r1), some (.int (1 : Int32)), some (.int r1), z6], [.ref 84], M2)) (by decide +kernel) (hO := mm_own_207) rfl ?_
            refine mm_R_call (v := mm_wv) h hA (k2 := 190) (as := [.ref 84]) (r := []) rfl (fun _ => rfl) (fun q hq o ho => ms_190 (by omega) hq ho) (fun _ M3 h => ?_)
            show mm_Runs L xs (d + 1) 207 (49, [some (.ref 84), some (.int v1), some (.int v2), some (.int r1), some (.int (1 : Int32)), some (.int r1), z6], [], M3) o
            exact (ms_207_j49 hd h hA : mp_207_49 L xs (d + 1) v1 v2 r1 (1 : Int32) r1 M3 o) z6
          · replace h := mm_iq hc h
            exact (ms_207_j49 hd h hA : mp_207_49 L xs (d + 1) v1 v2 r1 (1 : Int32) r1 M2 o) z6
        · replace h := mm_iq hc h
          exact (ms_207_j49 hd h hA : mp_207_49 L xs (d + 1) v1 v2 r1 (1 : Int32) r1 M2 o) z6
      · replace h := mm_iq hc h
        exact (ms_207_j49 hd h hA : mp_207_49 L xs (d + 1) v1 v2 r1 (1 : Int32) r1 M2 o) z6
    · replace h := mm_iq hc h
      cases h
      exact (show mp_207_184 L xs (d + 1) M o from hA) (some (.ref 84)) (some (.int v1)) (some (.int v2)) z3 z4 z5 z6
  · replace h := mm_iq hc h
    cases h
    exact (show mp_207_184 L xs (d + 1) M o from hA) (some (.ref 84)) (some (.int v1)) (some (.int v2)) z3 z4 z5 z6
theorem ms_207_L2 {L : Nat} {xs : Nat → Int32} {d : Nat} (hd : 4 ≤ d) {v1 : Int32} {v2 : Int32} {β : Type} {K : β → mm_M → mm_E → Prop} {F : (Unit) → mm_M → mm_O β} {M : mm_M} {q : (β ⊕ Nat) × mm_M} {o : mm_E} (h : mm_B (mf_207_L2 v1 v2 M) F = some q) (hA : mm_A K q o) (hx : ∀ (r : (Unit)) (M2 : mm_M), F r M2 = some q → (fun r M o => mp_207_184 L xs (d) M o) r M2 o) : mp_207_2 L xs d v1 v2 M o := mm_R_loop (s := v2) (M := M) (P := (fun s M o => mp_207_2 L xs (d) v1 s M o)) (X := (fun r M o => mp_207_184 L xs (d) M o)) h hA (fun s M q hq hA => ms_207_b2 hd hq hA) hx
noncomputable def mf_207 (v1 : Int32) (M : mm_M) : mm_O Unit := mm_B (mf_207_L2 v1 (0 : Int32) M) (fun r2 M1 => some (.inl (), M1))
set_option maxRecDepth 8000 in
set_option maxHeartbeats 4000000 in
theorem ms_207 {L : Nat} {xs : Nat → Int32} {d : Nat} (hd : 4 ≤ d) {v1 : Int32} {M : mm_M} {q : (Unit ⊕ Nat) × mm_M} {o : mm_E} (h : mf_207 v1 M = some q) (hA : mm_A (mm_Kr mm_wv) q o) : mm_Runs L xs d 207 (0, mm_ent (mm_ml 207) [.ref 84, .int v1], [], M) o := by
  unfold mf_207 at h
  obtain ⟨d, rfl⟩ := mm_d1 (n := 3) hd
  show mm_Runs L xs (d + 1) 207 (0, [some (.ref 84), some (.int v1), none, none, none, none, none], [], M) o
  refine mm_Runs.seq (l := [(0, .iconst 0, 1), (1, .istore_n 2, 1)]) (S2 := (2, [some (.ref 84), some (.int v1), some (.int (0 : Int32)), none, none, none, none], [], M)) (by decide +kernel) (hO := mm_own_207) rfl ?_
  have hp : mp_207_2 L xs (d + 1) v1 (0 : Int32) M o := by
    refine ms_207_L2 hd h hA (fun r2 M1 h => ?_)
    intro y3 y4 y5 y6 y7 y8 y9
    show mm_Runs L xs (d + 1) 207 (184, [y3, y4, y5, y6, y7, y8, y9], [], M1) o
    cases h
    exact mm_R_retv rfl rfl hA
  exact hp none none none none
-- 206: PlainPacksModel.dynamic()V (depth 5)
theorem mm_own_206 : mm_own 206 = 12 := rfl
def mp_206_35 (L : Nat) (xs : Nat → Int32) (d : Nat) (M : mm_M) (o : mm_E) : Prop := ∀ z1 z2 : Option Value, mm_Runs L xs d 206 (35, [some (.ref 84), z1, z2], [], M) o
def mp_206_67 (L : Nat) (xs : Nat → Int32) (d : Nat) (M : mm_M) (o : mm_E) : Prop := ∀ z1 z2 : Option Value, mm_Runs L xs d 206 (67, [some (.ref 84), z1, z2], [], M) o
def mp_206_78 (L : Nat) (xs : Nat → Int32) (d : Nat) (v1 : Int32) (v2 : Int32) (M : mm_M) (o : mm_E) : Prop := mm_Runs L xs d 206 (78, [some (.ref 84), some (.int v1), some (.int v2)], [], M) o
def mp_206_120 (L : Nat) (xs : Nat → Int32) (d : Nat) (M : mm_M) (o : mm_E) : Prop := ∀ z1 z2 : Option Value, mm_Runs L xs d 206 (120, [some (.ref 84), z1, z2], [], M) o
def mp_206_113 (L : Nat) (xs : Nat → Int32) (d : Nat) (v1 : Int32) (v2 : Int32) (s1 : Int32) (s2 : Int32) (M : mm_M) (o : mm_E) : Prop := mm_Runs L xs d 206 (113, [some (.ref 84), some (.int v1), some (.int v2)], [.int s2, .int s1, .ref 87], M) o
noncomputable def mf_206_j113 (v1 : Int32) (v2 : Int32) (s1 : Int32) (s2 : Int32) (M : mm_M) : mm_O ((Int32) ⊕ (Unit)) := if mm_in s1 2100 then some (.inl (.inl (v2 + (1 : Int32))), (mm_pi M 87 s1.toNatClampNeg s2)) else none
set_option maxRecDepth 8000 in
set_option maxHeartbeats 4000000 in
theorem ms_206_j113 {L : Nat} {xs : Nat → Int32} {d : Nat} (hd : 5 ≤ d) {v1 : Int32} {v2 : Int32} {s1 : Int32} {s2 : Int32} {M : mm_M} {q : (((Int32) ⊕ (Unit)) ⊕ Nat) × mm_M} {o : mm_E} (h : mf_206_j113 v1 v2 s1 s2 M = some q) (hA : mm_A (mm_K2 (fun s M o => mp_206_78 L xs (d) v1 s M o) (fun r M o => mp_206_120 L xs (d) M o)) q o) : mp_206_113 L xs d v1 v2 s1 s2 M o := by
  unfold mf_206_j113 at h
  obtain ⟨d, rfl⟩ := mm_d1 (n := 4) hd
  show mm_Runs L xs (d + 1) 206 (113, [some (.ref 84), some (.int v1), some (.int v2)], [.int s2, .int s1, .ref 87], M) o
  obtain ⟨hb, h⟩ := mm_gd h
  refine mm_R_iast rfl rfl hb ?_
  refine mm_Runs.seq (l := [(114, .iinc 2 1, 3), (117, .goto (-39), 3)]) (S2 := (78, [some (.ref 84), some (.int v1), some (.int (v2 + (1 : Int32)))], [], (mm_pi M 87 s1.toNatClampNeg s2))) (by decide +kernel) (hO := mm_own_206) rfl ?_
  cases h
  exact (show mp_206_78 L xs (d + 1) v1 (v2 + (1 : Int32)) (mm_pi M 87 s1.toNatClampNeg s2) o from hA)
noncomputable def mf_206_b78 (v1 : Int32) (v2 : Int32) (M : mm_M) : mm_O ((Int32) ⊕ (Unit)) := if v2 < (19 : Int32) then (if mm_in v2 19 then if v2 < v1 then (mm_B (mf_198 (3 : Int32) M) (fun r1 M2 => mf_206_j113 v1 v2 ((600 : Int32) + (M.1 89 v2.toNatClampNeg)) r1.toInt32 M2)) else (mf_206_j113 v1 v2 ((600 : Int32) + (M.1 89 v2.toNatClampNeg)) (0 : Int32) M) else none) else (some (.inl (.inr ()), M))
noncomputable def mf_206_L78 (v1 : Int32) (s : Int32) (M : mm_M) : mm_O (Unit) := mm_L (fun s M => mf_206_b78 v1 s M) s M
set_option maxRecDepth 8000 in
set_option maxHeartbeats 4000000 in
theorem ms_206_b78 {L : Nat} {xs : Nat → Int32} {d : Nat} (hd : 5 ≤ d) {v1 : Int32} {v2 : Int32} {M : mm_M} {q : (((Int32) ⊕ (Unit)) ⊕ Nat) × mm_M} {o : mm_E} (h : mf_206_b78 v1 v2 M = some q) (hA : mm_A (mm_K2 (fun s M o => mp_206_78 L xs (d) v1 s M o) (fun r M o => mp_206_120 L xs (d) M o)) q o) : mp_206_78 L xs d v1 v2 M o := by
  unfold mf_206_b78 at h
  obtain ⟨d, rfl⟩ := mm_d1 (n := 4) hd
  show mm_Runs L xs (d + 1) 206 (78, [some (.ref 84), some (.int v1), some (.int v2)], [], M) o
  refine mm_Runs.seq (l := [(78, .iload_n 2, 1), (79, .bipush 19, 2)]) (S2 := (81, [some (.ref 84), some (.int v1), some (.int v2)], [.int (19 : Int32), .int v2], M)) (by decide +kernel) (hO := mm_own_206) rfl ?_
  refine mm_R_ige (t := 120) rfl rfl rfl (fun hc => ?_) (fun hc => ?_)
  · replace h := mm_ip hc h
    refine mm_Runs.seq (l := [(84, .aload_n 0, 1), (85, .getfield 16, 3), (88, .sipush 600, 3), (91, .aload_n 0, 1), (92, .getfield 22, 3), (95, .iload_n 2, 1)]) (S2 := (96, [some (.ref 84), some (.int v1), some (.int v2)], [.int v2, .ref 89, .int (600 : Int32), .ref 87], M)) (by decide +kernel) (hO := mm_own_206) rfl ?_
    obtain ⟨hb, h⟩ := mm_gd h
    refine mm_R_iald rfl rfl hb ?_
    refine mm_Runs.seq (l := [(97, .iadd, 1), (98, .iload_n 2, 1), (99, .iload_n 1, 1)]) (S2 := (100, [some (.ref 84), some (.int v1), some (.int v2)], [.int v1, .int v2, .int ((600 : Int32) + (M.1 89 v2.toNatClampNeg)), .ref 87], M)) (by decide +kernel) (hO := mm_own_206) rfl ?_
    refine mm_R_ige (t := 112) rfl rfl rfl (fun hc => ?_) (fun hc => ?_)
    · replace h := mm_ip hc h
      refine mm_Runs.seq (l := [(103, .aload_n 0, 1), (104, .iconst 3, 1)]) (S2 := (105, [some (.ref 84), some (.int v1), some (.int v2)], [.int (3 : Int32), .ref 84, .int ((600 : Int32) + (M.1 89 v2.toNatClampNeg)), .ref 87], M)) (by decide +kernel) (hO := mm_own_206) rfl ?_
      refine mm_R_call (v := mm_wl) h hA (k2 := 198) (as := [.ref 84, .int (3 : Int32)]) (r := [.int ((600 : Int32) + (M.1 89 v2.toNatClampNeg)), .ref 87]) rfl (fun _ => rfl) (fun q hq o ho => ms_198 (by omega) hq ho) (fun r1 M2 h => ?_)
      show mm_Runs L xs (d + 1) 206 (108, [some (.ref 84), some (.int v1), some (.int v2)], [.long r1, .int ((600 : Int32) + (M.1 89 v2.toNatClampNeg)), .ref 87], M2) o
      refine mm_Runs.seq (l := [(108, .l2i, 1), (109, .goto 4, 3)]) (S2 := (113, [some (.ref 84), some (.int v1), some (.int v2)], [.int r1.toInt32, .int ((600 : Int32) + (M.1 89 v2.toNatClampNeg)), .ref 87], M2)) (by decide +kernel) (hO := mm_own_206) rfl ?_
      exact (ms_206_j113 hd h hA : mp_206_113 L xs (d + 1) v1 v2 ((600 : Int32) + (M.1 89 v2.toNatClampNeg)) r1.toInt32 M2 o)
    · replace h := mm_iq hc h
      refine mm_Runs.seq (l := [(112, .iconst 0, 1)]) (S2 := (113, [some (.ref 84), some (.int v1), some (.int v2)], [.int (0 : Int32), .int ((600 : Int32) + (M.1 89 v2.toNatClampNeg)), .ref 87], M)) (by decide +kernel) (hO := mm_own_206) rfl ?_
      exact (ms_206_j113 hd h hA : mp_206_113 L xs (d + 1) v1 v2 ((600 : Int32) + (M.1 89 v2.toNatClampNeg)) (0 : Int32) M o)
  · replace h := mm_iq hc h
    cases h
    exact (show mp_206_120 L xs (d + 1) M o from hA) (some (.int v1)) (some (.int v2))
theorem ms_206_L78 {L : Nat} {xs : Nat → Int32} {d : Nat} (hd : 5 ≤ d) {v1 : Int32} {v2 : Int32} {β : Type} {K : β → mm_M → mm_E → Prop} {F : (Unit) → mm_M → mm_O β} {M : mm_M} {q : (β ⊕ Nat) × mm_M} {o : mm_E} (h : mm_B (mf_206_L78 v1 v2 M) F = some q) (hA : mm_A K q o) (hx : ∀ (r : (Unit)) (M2 : mm_M), F r M2 = some q → (fun r M o => mp_206_120 L xs (d) M o) r M2 o) : mp_206_78 L xs d v1 v2 M o := mm_R_loop (s := v2) (M := M) (P := (fun s M o => mp_206_78 L xs (d) v1 s M o)) (X := (fun r M o => mp_206_120 L xs (d) M o)) h hA (fun s M q hq hA => ms_206_b78 hd hq hA) hx
def mp_206_142 (L : Nat) (xs : Nat → Int32) (d : Nat) (M : mm_M) (o : mm_E) : Prop := ∀ z1 z2 : Option Value, mm_Runs L xs d 206 (142, [some (.ref 84), z1, z2], [], M) o
def mp_206_172 (L : Nat) (xs : Nat → Int32) (d : Nat) (v2 : Int32) (M : mm_M) (o : mm_E) : Prop := ∀ z1 : Option Value, mm_Runs L xs d 206 (172, [some (.ref 84), z1, some (.int v2)], [], M) o
def mp_206_198 (L : Nat) (xs : Nat → Int32) (d : Nat) (M : mm_M) (o : mm_E) : Prop := ∀ z1 z2 : Option Value, mm_Runs L xs d 206 (198, [some (.ref 84), z1, z2], [], M) o
noncomputable def mf_206_b172 (v2 : Int32) (M : mm_M) : mm_O ((Int32) ⊕ (Unit)) := if v2 < (M.1 84 20) then (if mm_in v2 640 then if mm_in v2 2100 then some (.inl (.inl (v2 + (1 : Int32))), (mm_pi M 87 v2.toNatClampNeg (M.1 90 v2.toNatClampNeg))) else none else none) else (some (.inl (.inr ()), M))
noncomputable def mf_206_L172 (s : Int32) (M : mm_M) : mm_O (Unit) := mm_L (fun s M => mf_206_b172 s M) s M
set_option maxRecDepth 8000 in
set_option maxHeartbeats 4000000 in
theorem ms_206_b172 {L : Nat} {xs : Nat → Int32} {d : Nat} (hd : 5 ≤ d) {v2 : Int32} {M : mm_M} {q : (((Int32) ⊕ (Unit)) ⊕ Nat) × mm_M} {o : mm_E} (h : mf_206_b172 v2 M = some q) (hA : mm_A (mm_K2 (fun s M o => mp_206_172 L xs (d) s M o) (fun r M o => mp_206_198 L xs (d) M o)) q o) : mp_206_172 L xs d v2 M o := by
  unfold mf_206_b172 at h
  obtain ⟨d, rfl⟩ := mm_d1 (n := 4) hd
  intro z1
  show mm_Runs L xs (d + 1) 206 (172, [some (.ref 84), z1, some (.int v2)], [], M) o
  refine mm_Runs.seq (l := [(172, .iload_n 2, 1), (173, .aload_n 0, 1), (174, .getfield 215, 3)]) (S2 := (177, [some (.ref 84), z1, some (.int v2)], [.int (M.1 84 20), .int v2], M)) (by decide +kernel) (hO := mm_own_206) rfl ?_
  refine mm_R_ige (t := 198) rfl rfl rfl (fun hc => ?_) (fun hc => ?_)
  · replace h := mm_ip hc h
    refine mm_Runs.seq (l := [(180, .aload_n 0, 1), (181, .getfield 16, 3), (184, .iload_n 2, 1), (185, .aload_n 0, 1), (186, .getfield 25, 3), (189, .iload_n 2, 1)]) (S2 := (190, [some (.ref 84), z1, some (.int v2)], [.int v2, .ref 90, .int v2, .ref 87], M)) (by decide +kernel) (hO := mm_own_206) rfl ?_
    obtain ⟨hb, h⟩ := mm_gd h
    refine mm_R_iald rfl rfl hb ?_
    obtain ⟨hb, h⟩ := mm_gd h
    refine mm_R_iast rfl rfl hb ?_
    refine mm_Runs.seq (l := [(192, .iinc 2 1, 3), (195, .goto (-23), 3)]) (S2 := (172, [some (.ref 84), (mm_no2 z1), some (.int (v2 + (1 : Int32)))], [], (mm_pi M 87 v2.toNatClampNeg (M.1 90 v2.toNatClampNeg)))) (by decide +kernel) (hO := mm_own_206) rfl ?_
    cases h
    exact (show mp_206_172 L xs (d + 1) (v2 + (1 : Int32)) (mm_pi M 87 v2.toNatClampNeg (M.1 90 v2.toNatClampNeg)) o from hA) ((mm_no2 z1))
  · replace h := mm_iq hc h
    cases h
    exact (show mp_206_198 L xs (d + 1) M o from hA) z1 (some (.int v2))
theorem ms_206_L172 {L : Nat} {xs : Nat → Int32} {d : Nat} (hd : 5 ≤ d) {v2 : Int32} {β : Type} {K : β → mm_M → mm_E → Prop} {F : (Unit) → mm_M → mm_O β} {M : mm_M} {q : (β ⊕ Nat) × mm_M} {o : mm_E} (h : mm_B (mf_206_L172 v2 M) F = some q) (hA : mm_A K q o) (hx : ∀ (r : (Unit)) (M2 : mm_M), F r M2 = some q → (fun r M o => mp_206_198 L xs (d) M o) r M2 o) : mp_206_172 L xs d v2 M o := mm_R_loop (s := v2) (M := M) (P := (fun s M o => mp_206_172 L xs (d) s M o)) (X := (fun r M o => mp_206_198 L xs (d) M o)) h hA (fun s M q hq hA => ms_206_b172 hd hq hA) hx
def mp_206_200 (L : Nat) (xs : Nat → Int32) (d : Nat) (v2 : Int32) (M : mm_M) (o : mm_E) : Prop := ∀ z1 : Option Value, mm_Runs L xs d 206 (200, [some (.ref 84), z1, some (.int v2)], [], M) o
def mp_206_235 (L : Nat) (xs : Nat → Int32) (d : Nat) (M : mm_M) (o : mm_E) : Prop := ∀ z1 z2 : Option Value, mm_Runs L xs d 206 (235, [some (.ref 84), z1, z2], [], M) o
noncomputable def mf_206_b200 (v2 : Int32) (M : mm_M) : mm_O ((Int32) ⊕ (Unit)) := if v2 < (M.1 84 21) then (if mm_in ((M.1 84 20) + v2) 640 then if mm_in ((300 : Int32) + v2) 2100 then some (.inl (.inl (v2 + (1 : Int32))), (mm_pi M 87 ((300 : Int32) + v2).toNatClampNeg (M.1 90 ((M.1 84 20) + v2).toNatClampNeg))) else none else none) else (some (.inl (.inr ()), M))
noncomputable def mf_206_L200 (s : Int32) (M : mm_M) : mm_O (Unit) := mm_L (fun s M => mf_206_b200 s M) s M
set_option maxRecDepth 8000 in
set_option maxHeartbeats 4000000 in
theorem ms_206_b200 {L : Nat} {xs : Nat → Int32} {d : Nat} (hd : 5 ≤ d) {v2 : Int32} {M : mm_M} {q : (((Int32) ⊕ (Unit)) ⊕ Nat) × mm_M} {o : mm_E} (h : mf_206_b200 v2 M = some q) (hA : mm_A (mm_K2 (fun s M o => mp_206_200 L xs (d) s M o) (fun r M o => mp_206_235 L xs (d) M o)) q o) : mp_206_200 L xs d v2 M o := by
  unfold mf_206_b200 at h
  obtain ⟨d, rfl⟩ := mm_d1 (n := 4) hd
  intro z1
  show mm_Runs L xs (d + 1) 206 (200, [some (.ref 84), z1, some (.int v2)], [], M) o
  refine mm_Runs.seq (l := [(200, .iload_n 2, 1), (201, .aload_n 0, 1), (202, .getfield 218, 3)]) (S2 := (205, [some (.ref 84), z1, some (.int v2)], [.int (M.1 84 21), .int v2], M)) (by decide +kernel) (hO := mm_own_206) rfl ?_
  refine mm_R_ige (t := 235) rfl rfl rfl (fun hc => ?_) (fun hc => ?_)
  · replace h := mm_ip hc h
    refine mm_Runs.seq (l := [(208, .aload_n 0, 1), (209, .getfield 16, 3), (212, .sipush 300, 3), (215, .iload_n 2, 1), (216, .iadd, 1), (217, .aload_n 0, 1), (218, .getfield 25, 3), (221, .aload_n 0, 1), (222, .getfield 215, 3), (225, .iload_n 2, 1), (226, .iadd, 1)]) (S2 := (227, [some (.ref 84), z1, some (.int v2)], [.int ((M.1 84 20) + v2), .ref 90, .int ((300 : Int32) + v2), .ref 87], M)) (by decide +kernel) (hO := mm_own_206) rfl ?_
    obtain ⟨hb, h⟩ := mm_gd h
    refine mm_R_iald rfl rfl hb ?_
    obtain ⟨hb, h⟩ := mm_gd h
    refine mm_R_iast rfl rfl hb ?_
    refine mm_Runs.seq (l := [(229, .iinc 2 1, 3), (232, .goto (-32), 3)]) (S2 := (200, [some (.ref 84), (mm_no2 z1), some (.int (v2 + (1 : Int32)))], [], (mm_pi M 87 ((300 : Int32) + v2).toNatClampNeg (M.1 90 ((M.1 84 20) + v2).toNatClampNeg)))) (by decide +kernel) (hO := mm_own_206) rfl ?_
    cases h
    exact (show mp_206_200 L xs (d + 1) (v2 + (1 : Int32)) (mm_pi M 87 ((300 : Int32) + v2).toNatClampNeg (M.1 90 ((M.1 84 20) + v2).toNatClampNeg)) o from hA) ((mm_no2 z1))
  · replace h := mm_iq hc h
    cases h
    exact (show mp_206_235 L xs (d + 1) M o from hA) z1 (some (.int v2))
theorem ms_206_L200 {L : Nat} {xs : Nat → Int32} {d : Nat} (hd : 5 ≤ d) {v2 : Int32} {β : Type} {K : β → mm_M → mm_E → Prop} {F : (Unit) → mm_M → mm_O β} {M : mm_M} {q : (β ⊕ Nat) × mm_M} {o : mm_E} (h : mm_B (mf_206_L200 v2 M) F = some q) (hA : mm_A K q o) (hx : ∀ (r : (Unit)) (M2 : mm_M), F r M2 = some q → (fun r M o => mp_206_235 L xs (d) M o) r M2 o) : mp_206_200 L xs d v2 M o := mm_R_loop (s := v2) (M := M) (P := (fun s M o => mp_206_200 L xs (d) s M o)) (X := (fun r M o => mp_206_235 L xs (d) M o)) h hA (fun s M q hq hA => ms_206_b200 hd hq hA) hx
def mp_206_272 (L : Nat) (xs : Nat → Int32) (d : Nat) (M : mm_M) (o : mm_E) : Prop := ∀ z1 z2 : Option Value, mm_Runs L xs d 206 (272, [some (.ref 84), z1, z2], [], M) o
def mp_206_276 (L : Nat) (xs : Nat → Int32) (d : Nat) (M : mm_M) (o : mm_E) : Prop := ∀ z1 z2 : Option Value, mm_Runs L xs d 206 (276, [some (.ref 84), z1, z2], [], M) o
noncomputable def mf_206_j276 (M : mm_M) : mm_O Unit := mm_B (mf_199 (0 : Int32) (M.1 84 20) M) (fun _ M1 => mm_B (mf_199 (1 : Int32) (M1.1 84 21) M1) (fun _ M2 => some (.inl (), M2)))
set_option maxRecDepth 8000 in
set_option maxHeartbeats 4000000 in
theorem ms_206_j276 {L : Nat} {xs : Nat → Int32} {d : Nat} (hd : 5 ≤ d) {M : mm_M} {q : (Unit ⊕ Nat) × mm_M} {o : mm_E} (h : mf_206_j276 M = some q) (hA : mm_A (mm_Kr mm_wv) q o) : mp_206_276 L xs d M o := by
  unfold mf_206_j276 at h
  obtain ⟨d, rfl⟩ := mm_d1 (n := 4) hd
  intro z1 z2
  show mm_Runs L xs (d + 1) 206 (276, [some (.ref 84), z1, z2], [], M) o
  refine mm_Runs.seq (l := [(276, .aload_n 0, 1), (277, .iconst 0, 1), (278, .aload_n 0, 1), (279, .getfield 215, 3)]) (S2 := (282, [some (.ref 84), z1, z2], [.int (M.1 84 20), .int (0 : Int32), .ref 84], M)) (by decide +kernel) (hO := mm_own_206) rfl ?_
  refine mm_R_call (v := mm_wv) h hA (k2 := 199) (as := [.ref 84, .int (0 : Int32), .int (M.1 84 20)]) (r := []) rfl (fun _ => rfl) (fun q hq o ho => ms_199 (by omega) hq ho) (fun _ M1 h => ?_)
  show mm_Runs L xs (d + 1) 206 (285, [some (.ref 84), z1, z2], [], M1) o
  refine mm_Runs.seq (l := [(285, .aload_n 0, 1), (286, .iconst 1, 1), (287, .aload_n 0, 1), (288, .getfield 218, 3)]) (S2 := (291, [some (.ref 84), z1, z2], [.int (M1.1 84 21), .int (1 : Int32), .ref 84], M1)) (by decide +kernel) (hO := mm_own_206) rfl ?_
  refine mm_R_call (v := mm_wv) h hA (k2 := 199) (as := [.ref 84, .int (1 : Int32), .int (M1.1 84 21)]) (r := []) rfl (fun _ => rfl) (fun q hq o ho => ms_199 (by omega) hq ho) (fun _ M2 h => ?_)
  show mm_Runs L xs (d + 1) 206 (294, [some (.ref 84), z1, z2], [], M2) o
  cases h
  exact mm_R_retv rfl rfl hA
noncomputable def mf_206_j272 (M : mm_M) : mm_O Unit := mm_B (mf_190 M) (fun _ M1 => mf_206_j276 M1)
set_option maxRecDepth 8000 in
set_option maxHeartbeats 4000000 in
theorem ms_206_j272 {L : Nat} {xs : Nat → Int32} {d : Nat} (hd : 5 ≤ d) {M : mm_M} {q : (Unit ⊕ Nat) × mm_M} {o : mm_E} (h : mf_206_j272 M = some q) (hA : mm_A (mm_Kr mm_wv) q o) : mp_206_272 L xs d M o := by
  unfold mf_206_j272 at h
  obtain ⟨d, rfl⟩ := mm_d1 (n := 4) hd
  intro z1 z2
  show mm_Runs L xs (d + 1) 206 (272, [some (.ref 84), z1, z2], [], M) o
  refine mm_Runs.seq (l := [(272, .aload_n 0, 1)]) (S2 := (273, [some (.ref 84), z1, z2], [.ref 84], M)) (by decide +kernel) (hO := mm_own_206) rfl ?_
  refine mm_R_call (v := mm_wv) h hA (k2 := 190) (as := [.ref 84]) (r := []) rfl (fun _ => rfl) (fun q hq o ho => ms_190 (by omega) hq ho) (fun _ M1 h => ?_)
  show mm_Runs L xs (d + 1) 206 (276, [some (.ref 84), z1, z2], [], M1) o
  exact (ms_206_j276 hd h hA : mp_206_276 L xs (d + 1) M1 o) z1 z2
noncomputable def mf_206_j235 (M : mm_M) : mm_O Unit := if mm_in (256 : Int32) 640 then if (M.1 90 (256 : Int32).toNatClampNeg) = 0 then (mf_206_j272 M) else (mm_B (mf_201 (0 : Int32) (M.1 84 20) (0 : Int32) M) (fun r1 M2 => if r1 = 0 then (mf_206_j272 M2) else (mm_B (mf_201 (1 : Int32) (M2.1 84 21) (1 : Int32) M2) (fun r3 M4 => if r3 = 0 then (mf_206_j272 M4) else (mf_206_j276 M4))))) else none
set_option maxRecDepth 8000 in
set_option maxHeartbeats 4000000 in
theorem ms_206_j235 {L : Nat} {xs : Nat → Int32} {d : Nat} (hd : 5 ≤ d) {M : mm_M} {q : (Unit ⊕ Nat) × mm_M} {o : mm_E} (h : mf_206_j235 M = some q) (hA : mm_A (mm_Kr mm_wv) q o) : mp_206_235 L xs d M o := by
  unfold mf_206_j235 at h
  obtain ⟨d, rfl⟩ := mm_d1 (n := 4) hd
  intro z1 z2
  show mm_Runs L xs (d + 1) 206 (235, [some (.ref 84), z1, z2], [], M) o
  refine mm_Runs.seq (l := [(235, .aload_n 0, 1), (236, .getfield 25, 3), (239, .sipush 256, 3)]) (S2 := (242, [some (.ref 84), z1, z2], [.int (256 : Int32), .ref 90], M)) (by decide +kernel) (hO := mm_own_206) rfl ?_
  obtain ⟨hb, h⟩ := mm_gd h
  refine mm_R_iald rfl rfl hb ?_
  refine mm_R_zeq (t := 272) rfl rfl rfl (fun hc => ?_) (fun hc => ?_)
  · replace h := mm_ip hc h
    exact (ms_206_j272 hd h hA : mp_206_272 L xs (d + 1) M o) z1 z2
  · replace h := mm_iq hc h
    refine mm_Runs.seq (l := [(246, .aload_n 0, 1), (247, .iconst 0, 1), (248, .aload_n 0, 1), (249, .getfield 215, 3), (252, .iconst 0, 1)]) (S2 := (253, [some (.ref 84), z1, z2], [.int (0 : Int32), .int (M.1 84 20), .int (0 : Int32), .ref 84], M)) (by decide +kernel) (hO := mm_own_206) rfl ?_
    refine mm_R_call (v := mm_wi) h hA (k2 := 201) (as := [.ref 84, .int (0 : Int32), .int (M.1 84 20), .int (0 : Int32)]) (r := []) rfl (fun _ => rfl) (fun q hq o ho => ms_201 (by omega) hq ho) (fun r1 M2 h => ?_)
    show mm_Runs L xs (d + 1) 206 (256, [some (.ref 84), z1, z2], [.int r1], M2) o
    refine mm_R_zeq (t := 272) rfl rfl rfl (fun hc => ?_) (fun hc => ?_)
    · replace h := mm_ip hc h
      exact (ms_206_j272 hd h hA : mp_206_272 L xs (d + 1) M2 o) z1 z2
    · replace h := mm_iq hc h
      refine mm_Runs.seq (l := [(259, .aload_n 0, 1), (260, .iconst 1, 1), (261, .aload_n 0, 1), (262, .getfield 218, 3), (265, .iconst 1, 1)]) (S2 := (266, [some (.ref 84), z1, z2], [.int (1 : Int32), .int (M2.1 84 21), .int (1 : Int32), .ref 84], M2)) (by decide +kernel) (hO := mm_own_206) rfl ?_
      refine mm_R_call (v := mm_wi) h hA (k2 := 201) (as := [.ref 84, .int (1 : Int32), .int (M2.1 84 21), .int (1 : Int32)]) (r := []) rfl (fun _ => rfl) (fun q hq o ho => ms_201 (by omega) hq ho) (fun r3 M4 h => ?_)
      show mm_Runs L xs (d + 1) 206 (269, [some (.ref 84), z1, z2], [.int r3], M4) o
      refine mm_R_zne (t := 276) rfl rfl rfl (fun hc => ?_) (fun hc => ?_)
      · replace h := mm_ip hc h
        exact (ms_206_j272 hd h hA : mp_206_272 L xs (d + 1) M4 o) z1 z2
      · replace h := mm_iq hc h
        exact (ms_206_j276 hd h hA : mp_206_276 L xs (d + 1) M4 o) z1 z2
noncomputable def mf_206_j142 (M : mm_M) : mm_O Unit := mm_B (mf_199 (2 : Int32) (19 : Int32) M) (fun _ M1 => mm_B (mf_207 ((M1.1 84 20) + (M1.1 84 21)) M1) (fun _ M2 => if (M2.1 84 7) = 0 then (mm_B (mf_206_L172 (0 : Int32) M2) (fun r4 M3 => mm_B (mf_206_L200 (0 : Int32) M3) (fun r8 M7 => mf_206_j235 M7))) else (some (.inl (), M2))))
set_option maxRecDepth 8000 in
set_option maxHeartbeats 4000000 in
theorem ms_206_j142 {L : Nat} {xs : Nat → Int32} {d : Nat} (hd : 5 ≤ d) {M : mm_M} {q : (Unit ⊕ Nat) × mm_M} {o : mm_E} (h : mf_206_j142 M = some q) (hA : mm_A (mm_Kr mm_wv) q o) : mp_206_142 L xs d M o := by
  unfold mf_206_j142 at h
  obtain ⟨d, rfl⟩ := mm_d1 (n := 4) hd
  intro z1 z2
  show mm_Runs L xs (d + 1) 206 (142, [some (.ref 84), z1, z2], [], M) o
  refine mm_Runs.seq (l := [(142, .aload_n 0, 1), (143, .iconst 2, 1), (144, .bipush 19, 2)]) (S2 := (146, [some (.ref 84), z1, z2], [.int (19 : Int32), .int (2 : Int32), .ref 84], M)) (by decide +kernel) (hO := mm_own_206) rfl ?_
  refine mm_R_call (v := mm_wv) h hA (k2 := 199) (as := [.ref 84, .int (2 : Int32), .int (19 : Int32)]) (r := []) rfl (fun _ => rfl) (fun q hq o ho => ms_199 (by omega) hq ho) (fun _ M1 h => ?_)
  show mm_Runs L xs (d + 1) 206 (149, [some (.ref 84), z1, z2], [], M1) o
  refine mm_Runs.seq (l := [(149, .aload_n 0, 1), (150, .aload_n 0, 1), (151, .getfield 215, 3), (154, .aload_n 0, 1), (155, .getfield 218, 3), (158, .iadd, 1)]) (S2 := (159, [some (.ref 84), z1, z2], [.int ((M1.1 84 20) + (M1.1 84 21)), .ref 84], M1)) (by decide +kernel) (hO := mm_own_206) rfl ?_
  refine mm_R_call (v := mm_wv) h hA (k2 := 207) (as := [.ref 84, .int ((M1.1 84 20) + (M1.1 84 21))]) (r := []) rfl (fun _ => rfl) (fun q hq o ho => ms_207 (by omega) hq ho) (fun _ M2 h => ?_)
  show mm_Runs L xs (d + 1) 206 (162, [some (.ref 84), z1, z2], [], M2) o
  refine mm_Runs.seq (l := [(162, .aload_n 0, 1), (163, .getfield 154, 3)]) (S2 := (166, [some (.ref 84), z1, z2], [.int (M2.1 84 7)], M2)) (by decide +kernel) (hO := mm_own_206) rfl ?_
  refine mm_R_zeq (t := 170) rfl rfl rfl (fun hc => ?_) (fun hc => ?_)
  · replace h := mm_ip hc h
    refine mm_Runs.seq (l := [(170, .iconst 0, 1), (171, .istore_n 2, 1)]) (S2 := (172, [some (.ref 84), (mm_no2 z1), some (.int (0 : Int32))], [], M2)) (by decide +kernel) (hO := mm_own_206) rfl ?_
    have hp : mp_206_172 L xs (d + 1) (0 : Int32) M2 o := by
      refine ms_206_L172 hd h hA (fun r4 M3 h => ?_)
      intro y5 y6
      show mm_Runs L xs (d + 1) 206 (198, [some (.ref 84), y5, y6], [], M3) o
      refine mm_Runs.seq (l := [(198, .iconst 0, 1), (199, .istore_n 2, 1)]) (S2 := (200, [some (.ref 84), (mm_no2 y5), some (.int (0 : Int32))], [], M3)) (by decide +kernel) (hO := mm_own_206) rfl ?_
      have hp : mp_206_200 L xs (d + 1) (0 : Int32) M3 o := by
        refine ms_206_L200 hd h hA (fun r8 M7 h => ?_)
        intro y9 y10
        show mm_Runs L xs (d + 1) 206 (235, [some (.ref 84), y9, y10], [], M7) o
        exact (ms_206_j235 hd h hA : mp_206_235 L xs (d + 1) M7 o) y9 y10
      exact hp ((mm_no2 y5))
    exact hp ((mm_no2 z1))
  · replace h := mm_iq hc h
    cases h
    exact mm_R_retv rfl rfl hA
noncomputable def mf_206_j120 (M : mm_M) : mm_O Unit := if (M.1 84 7) = 0 then (mm_B (mf_201 (2 : Int32) (19 : Int32) (0 : Int32) M) (fun r1 M2 => if r1 = 0 then (mm_B (mf_190 M2) (fun _ M3 => mf_206_j142 M3)) else (mf_206_j142 M2))) else (mf_206_j142 M)
set_option maxRecDepth 8000 in
set_option maxHeartbeats 4000000 in
theorem ms_206_j120 {L : Nat} {xs : Nat → Int32} {d : Nat} (hd : 5 ≤ d) {M : mm_M} {q : (Unit ⊕ Nat) × mm_M} {o : mm_E} (h : mf_206_j120 M = some q) (hA : mm_A (mm_Kr mm_wv) q o) : mp_206_120 L xs d M o := by
  unfold mf_206_j120 at h
  obtain ⟨d, rfl⟩ := mm_d1 (n := 4) hd
  intro z1 z2
  show mm_Runs L xs (d + 1) 206 (120, [some (.ref 84), z1, z2], [], M) o
  refine mm_Runs.seq (l := [(120, .aload_n 0, 1), (121, .getfield 154, 3)]) (S2 := (124, [some (.ref 84), z1, z2], [.int (M.1 84 7)], M)) (by decide +kernel) (hO := mm_own_206) rfl ?_
  refine mm_R_zne (t := 142) rfl rfl rfl (fun hc => ?_) (fun hc => ?_)
  · replace h := mm_ip hc h
    refine mm_Runs.seq (l := [(127, .aload_n 0, 1), (128, .iconst 2, 1), (129, .bipush 19, 2), (131, .iconst 0, 1)]) (S2 := (132, [some (.ref 84), z1, z2], [.int (0 : Int32), .int (19 : Int32), .int (2 : Int32), .ref 84], M)) (by decide +kernel) (hO := mm_own_206) rfl ?_
    refine mm_R_call (v := mm_wi) h hA (k2 := 201) (as := [.ref 84, .int (2 : Int32), .int (19 : Int32), .int (0 : Int32)]) (r := []) rfl (fun _ => rfl) (fun q hq o ho => ms_201 (by omega) hq ho) (fun r1 M2 h => ?_)
    show mm_Runs L xs (d + 1) 206 (135, [some (.ref 84), z1, z2], [.int r1], M2) o
    refine mm_R_zne (t := 142) rfl rfl rfl (fun hc => ?_) (fun hc => ?_)
    · replace h := mm_ip hc h
      refine mm_Runs.seq (l := [(138, .aload_n 0, 1)]) (S2 := (139, [some (.ref 84), z1, z2], [.ref 84], M2)) (by decide +kernel) (hO := mm_own_206) rfl ?_
      refine mm_R_call (v := mm_wv) h hA (k2 := 190) (as := [.ref 84]) (r := []) rfl (fun _ => rfl) (fun q hq o ho => ms_190 (by omega) hq ho) (fun _ M3 h => ?_)
      show mm_Runs L xs (d + 1) 206 (142, [some (.ref 84), z1, z2], [], M3) o
      exact (ms_206_j142 hd h hA : mp_206_142 L xs (d + 1) M3 o) z1 z2
    · replace h := mm_iq hc h
      exact (ms_206_j142 hd h hA : mp_206_142 L xs (d + 1) M2 o) z1 z2
  · replace h := mm_iq hc h
    exact (ms_206_j142 hd h hA : mp_206_142 L xs (d + 1) M o) z1 z2
noncomputable def mf_206_j67 (M : mm_M) : mm_O Unit := mm_B (mf_198 (4 : Int32) M) (fun r1 M2 => mm_B (mf_206_L78 ((4 : Int32) + r1.toInt32) (0 : Int32) M2) (fun r4 M3 => mf_206_j120 M3))
set_option maxRecDepth 8000 in
set_option maxHeartbeats 4000000 in
theorem ms_206_j67 {L : Nat} {xs : Nat → Int32} {d : Nat} (hd : 5 ≤ d) {M : mm_M} {q : (Unit ⊕ Nat) × mm_M} {o : mm_E} (h : mf_206_j67 M = some q) (hA : mm_A (mm_Kr mm_wv) q o) : mp_206_67 L xs d M o := by
  unfold mf_206_j67 at h
  obtain ⟨d, rfl⟩ := mm_d1 (n := 4) hd
  intro z1 z2
  show mm_Runs L xs (d + 1) 206 (67, [some (.ref 84), z1, z2], [], M) o
  refine mm_Runs.seq (l := [(67, .iconst 4, 1), (68, .aload_n 0, 1), (69, .iconst 4, 1)]) (S2 := (70, [some (.ref 84), z1, z2], [.int (4 : Int32), .ref 84, .int (4 : Int32)], M)) (by decide +kernel) (hO := mm_own_206) rfl ?_
  refine mm_R_call (v := mm_wl) h hA (k2 := 198) (as := [.ref 84, .int (4 : Int32)]) (r := [.int (4 : Int32)]) rfl (fun _ => rfl) (fun q hq o ho => ms_198 (by omega) hq ho) (fun r1 M2 h => ?_)
  show mm_Runs L xs (d + 1) 206 (73, [some (.ref 84), z1, z2], [.long r1, .int (4 : Int32)], M2) o
  refine mm_Runs.seq (l := [(73, .l2i, 1), (74, .iadd, 1), (75, .istore_n 1, 1), (76, .iconst 0, 1), (77, .istore_n 2, 1)]) (S2 := (78, [some (.ref 84), some (.int ((4 : Int32) + r1.toInt32)), some (.int (0 : Int32))], [], M2)) (by decide +kernel) (hO := mm_own_206) rfl ?_
  have hp : mp_206_78 L xs (d + 1) ((4 : Int32) + r1.toInt32) (0 : Int32) M2 o := by
    refine ms_206_L78 hd h hA (fun r4 M3 h => ?_)
    intro y5 y6
    show mm_Runs L xs (d + 1) 206 (120, [some (.ref 84), y5, y6], [], M3) o
    exact (ms_206_j120 hd h hA : mp_206_120 L xs (d + 1) M3 o) y5 y6
  exact hp
noncomputable def mf_206_j35 (M : mm_M) : mm_O Unit := mm_B (mf_198 (5 : Int32) M) (fun r1 M2 => if (M2.1 84 7) = 0 then (if (30 : Int32) < ((1 : Int32) + r1.toInt32) then (mm_B (mf_190 (mm_pi M2 84 21 ((1 : Int32) + r1.toInt32))) (fun _ M3 => mf_206_j67 M3)) else (mf_206_j67 (mm_pi M2 84 21 ((1 : Int32) + r1.toInt32)))) else (mf_206_j67 (mm_pi M2 84 21 ((1 : Int32) + r1.toInt32))))
set_option maxRecDepth 8000 in
set_option maxHeartbeats 4000000 in
theorem ms_206_j35 {L : Nat} {xs : Nat → Int32} {d : Nat} (hd : 5 ≤ d) {M : mm_M} {q : (Unit ⊕ Nat) × mm_M} {o : mm_E} (h : mf_206_j35 M = some q) (hA : mm_A (mm_Kr mm_wv) q o) : mp_206_35 L xs d M o := by
  unfold mf_206_j35 at h
  obtain ⟨d, rfl⟩ := mm_d1 (n := 4) hd
  intro z1 z2
  show mm_Runs L xs (d + 1) 206 (35, [some (.ref 84), z1, z2], [], M) o
  refine mm_Runs.seq (l := [(35, .aload_n 0, 1), (36, .iconst 1, 1), (37, .aload_n 0, 1), (38, .iconst 5, 1)]) (S2 := (39, [some (.ref 84), z1, z2], [.int (5 : Int32), .ref 84, .int (1 : Int32), .ref 84], M)) (by decide +kernel) (hO := mm_own_206) rfl ?_
  refine mm_R_call (v := mm_wl) h hA (k2 := 198) (as := [.ref 84, .int (5 : Int32)]) (r := [.int (1 : Int32), .ref 84]) rfl (fun _ => rfl) (fun q hq o ho => ms_198 (by omega) hq ho) (fun r1 M2 h => ?_)
  show mm_Runs L xs (d + 1) 206 (42, [some (.ref 84), z1, z2], [.long r1, .int (1 : Int32), .ref 84], M2) o
  refine mm_Runs.seq (l := [(42, .l2i, 1), (43, .iadd, 1), (44, .putfield 218, 3), (47, .aload_n 0, 1), (48, .getfield 154, 3)]) (S2 := (51, [some (.ref 84), z1, z2], [.int (M2.1 84 7)], (mm_pi M2 84 21 ((1 : Int32) + r1.toInt32)))) (by decide +kernel) (hO := mm_own_206) rfl ?_
  refine mm_R_zne (t := 67) rfl rfl rfl (fun hc => ?_) (fun hc => ?_)
  · replace h := mm_ip hc h
    refine mm_Runs.seq (l := [(54, .aload_n 0, 1), (55, .getfield 218, 3), (58, .bipush 30, 2)]) (S2 := (60, [some (.ref 84), z1, z2], [.int (30 : Int32), .int ((1 : Int32) + r1.toInt32)], (mm_pi M2 84 21 ((1 : Int32) + r1.toInt32)))) (by decide +kernel) (hO := mm_own_206) rfl ?_
    refine mm_R_ile (t := 67) rfl rfl rfl (fun hc => ?_) (fun hc => ?_)
    · replace h := mm_ip hc h
      refine mm_Runs.seq (l := [(63, .aload_n 0, 1)]) (S2 := (64, [some (.ref 84), z1, z2], [.ref 84], (mm_pi M2 84 21 ((1 : Int32) + r1.toInt32)))) (by decide +kernel) (hO := mm_own_206) rfl ?_
      refine mm_R_call (v := mm_wv) h hA (k2 := 190) (as := [.ref 84]) (r := []) rfl (fun _ => rfl) (fun q hq o ho => ms_190 (by omega) hq ho) (fun _ M3 h => ?_)
      show mm_Runs L xs (d + 1) 206 (67, [some (.ref 84), z1, z2], [], M3) o
      exact (ms_206_j67 hd h hA : mp_206_67 L xs (d + 1) M3 o) z1 z2
    · replace h := mm_iq hc h
      exact (ms_206_j67 hd h hA : mp_206_67 L xs (d + 1) (mm_pi M2 84 21 ((1 : Int32) + r1.toInt32)) o) z1 z2
  · replace h := mm_iq hc h
    exact (ms_206_j67 hd h hA : mp_206_67 L xs (d + 1) (mm_pi M2 84 21 ((1 : Int32) + r1.toInt32)) o) z1 z2
noncomputable def mf_206 (M : mm_M) : mm_O Unit := mm_B (mf_198 (5 : Int32) M) (fun r1 M2 => if (M2.1 84 7) = 0 then (if (286 : Int32) < ((257 : Int32) + r1.toInt32) then (mm_B (mf_190 (mm_pi M2 84 20 ((257 : Int32) + r1.toInt32))) (fun _ M3 => mf_206_j35 M3)) else (mf_206_j35 (mm_pi M2 84 20 ((257 : Int32) + r1.toInt32)))) else (mf_206_j35 (mm_pi M2 84 20 ((257 : Int32) + r1.toInt32))))
set_option maxRecDepth 8000 in
set_option maxHeartbeats 4000000 in
theorem ms_206 {L : Nat} {xs : Nat → Int32} {d : Nat} (hd : 5 ≤ d) {M : mm_M} {q : (Unit ⊕ Nat) × mm_M} {o : mm_E} (h : mf_206 M = some q) (hA : mm_A (mm_Kr mm_wv) q o) : mm_Runs L xs d 206 (0, mm_ent (mm_ml 206) [.ref 84], [], M) o := by
  unfold mf_206 at h
  obtain ⟨d, rfl⟩ := mm_d1 (n := 4) hd
  show mm_Runs L xs (d + 1) 206 (0, [some (.ref 84), none, none], [], M) o
  refine mm_Runs.seq (l := [(0, .aload_n 0, 1), (1, .sipush 257, 3), (4, .aload_n 0, 1), (5, .iconst 5, 1)]) (S2 := (6, [some (.ref 84), none, none], [.int (5 : Int32), .ref 84, .int (257 : Int32), .ref 84], M)) (by decide +kernel) (hO := mm_own_206) rfl ?_
  refine mm_R_call (v := mm_wl) h hA (k2 := 198) (as := [.ref 84, .int (5 : Int32)]) (r := [.int (257 : Int32), .ref 84]) rfl (fun _ => rfl) (fun q hq o ho => ms_198 (by omega) hq ho) (fun r1 M2 h => ?_)
  show mm_Runs L xs (d + 1) 206 (9, [some (.ref 84), none, none], [.long r1, .int (257 : Int32), .ref 84], M2) o
  refine mm_Runs.seq (l := [(9, .l2i, 1), (10, .iadd, 1), (11, .putfield 215, 3), (14, .aload_n 0, 1), (15, .getfield 154, 3)]) (S2 := (18, [some (.ref 84), none, none], [.int (M2.1 84 7)], (mm_pi M2 84 20 ((257 : Int32) + r1.toInt32)))) (by decide +kernel) (hO := mm_own_206) rfl ?_
  refine mm_R_zne (t := 35) rfl rfl rfl (fun hc => ?_) (fun hc => ?_)
  · replace h := mm_ip hc h
    refine mm_Runs.seq (l := [(21, .aload_n 0, 1), (22, .getfield 215, 3), (25, .sipush 286, 3)]) (S2 := (28, [some (.ref 84), none, none], [.int (286 : Int32), .int ((257 : Int32) + r1.toInt32)], (mm_pi M2 84 20 ((257 : Int32) + r1.toInt32)))) (by decide +kernel) (hO := mm_own_206) rfl ?_
    refine mm_R_ile (t := 35) rfl rfl rfl (fun hc => ?_) (fun hc => ?_)
    · replace h := mm_ip hc h
      refine mm_Runs.seq (l := [(31, .aload_n 0, 1)]) (S2 := (32, [some (.ref 84), none, none], [.ref 84], (mm_pi M2 84 20 ((257 : Int32) + r1.toInt32)))) (by decide +kernel) (hO := mm_own_206) rfl ?_
      refine mm_R_call (v := mm_wv) h hA (k2 := 190) (as := [.ref 84]) (r := []) rfl (fun _ => rfl) (fun q hq o ho => ms_190 (by omega) hq ho) (fun _ M3 h => ?_)
      show mm_Runs L xs (d + 1) 206 (35, [some (.ref 84), none, none], [], M3) o
      exact (ms_206_j35 hd h hA : mp_206_35 L xs (d + 1) M3 o) none none
    · replace h := mm_iq hc h
      exact (ms_206_j35 hd h hA : mp_206_35 L xs (d + 1) (mm_pi M2 84 20 ((257 : Int32) + r1.toInt32)) o) none none
  · replace h := mm_iq hc h
    exact (ms_206_j35 hd h hA : mp_206_35 L xs (d + 1) (mm_pi M2 84 20 ((257 : Int32) + r1.toInt32)) o) none none
