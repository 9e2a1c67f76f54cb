/-! MEANINGS 8 -/
-- 121: PlainPacks$Pieces.readFrame()V (depth 12)
theorem mm_own_121 : mm_own 121 = 9 := rfl
def mp_121_16 (L : Nat) (xs : Nat → Int32) (d : Nat) (s0 : Int32) (M : mm_M) (o : mm_E) : Prop := ∀ z1 z2 z3 z4 z5 z6 : Option Value, mm_Runs L xs d 121 (16, [some (.ref 41), z1, z2, z3, z4, z5, z6], [.int s0], M) o
def mp_121_36 (L : Nat) (xs : Nat → Int32) (d : Nat) (s0 : Int32) (M : mm_M) (o : mm_E) : Prop := ∀ z1 z2 z3 z4 z5 z6 : Option Value, mm_Runs L xs d 121 (36, [some (.ref 41), z1, z2, z3, z4, z5, z6], [.int s0], M) o
def mp_121_56 (L : Nat) (xs : Nat → Int32) (d : Nat) (s0 : Int32) (M : mm_M) (o : mm_E) : Prop := ∀ z1 z2 z3 z4 z5 z6 : Option Value, mm_Runs L xs d 121 (56, [some (.ref 41), z1, z2, z3, z4, z5, z6], [.int s0], M) o
def mp_121_76 (L : Nat) (xs : Nat → Int32) (d : Nat) (s0 : Int32) (M : mm_M) (o : mm_E) : Prop := ∀ z1 z2 z3 z4 z5 z6 : Option Value, mm_Runs L xs d 121 (76, [some (.ref 41), z1, z2, z3, z4, z5, z6], [.int s0], M) o
def mp_121_89 (L : Nat) (xs : Nat → Int32) (d : Nat) (v1 : Int64) (v3 : Int32) (v4 : Int32) (M : mm_M) (o : mm_E) : Prop := ∀ z2 z5 z6 : Option Value, mm_Runs L xs d 121 (89, [some (.ref 41), some (.long v1), z2, some (.int v3), some (.int v4), z5, z6], [], M) o
def mp_121_139 (L : Nat) (xs : Nat → Int32) (d : Nat) (v1 : Int64) (M : mm_M) (o : mm_E) : Prop := ∀ z2 z3 z4 z5 z6 : Option Value, mm_Runs L xs d 121 (139, [some (.ref 41), some (.long v1), z2, z3, z4, z5, z6], [], M) o
def mp_121_122 (L : Nat) (xs : Nat → Int32) (d : Nat) (v1 : Int64) (v4 : Int32) (v5 : Int64) (s0 : Int32) (M : mm_M) (o : mm_E) : Prop := ∀ z2 z3 z6 : Option Value, mm_Runs L xs d 121 (122, [some (.ref 41), some (.long v1), z2, z3, some (.int v4), some (.long v5), z6], [.int s0], M) o
noncomputable def mf_121_j122 (v1 : Int64) (v4 : Int32) (v5 : Int64) (s0 : Int32) (M : mm_M) : mm_O ((Int32 × Int32) ⊕ (Unit)) := if s0 = 0 then (some (.inl (.inl (s0, (v4 + (1 : Int32)))), M)) else (mm_B (mf_123 v5 M) (fun _ M1 => some (.inl (.inl (s0, (v4 + (1 : Int32)))), M1)))
set_option maxRecDepth 8000 in
set_option maxHeartbeats 4000000 in
theorem ms_121_j122 {L : Nat} {xs : Nat → Int32} {d : Nat} (hd : 12 ≤ d) {v1 : Int64} {v4 : Int32} {v5 : Int64} {s0 : Int32} {M : mm_M} {q : (((Int32 × Int32) ⊕ (Unit)) ⊕ Nat) × mm_M} {o : mm_E} (h : mf_121_j122 v1 v4 v5 s0 M = some q) (hA : mm_A (mm_K2 (fun s M o => mp_121_89 L xs (d) v1 s.1 s.2 M o) (fun r M o => mp_121_139 L xs (d) v1 M o)) q o) : mp_121_122 L xs d v1 v4 v5 s0 M o := by
  unfold mf_121_j122 at h
  obtain ⟨d, rfl⟩ := mm_d1 (n := 11) hd
  intro z2 z3 z6
  show mm_Runs L xs (d + 1) 121 (122, [some (.ref 41), some (.long v1), z2, z3, some (.int v4), some (.long v5), z6], [.int s0], M) o
  refine mm_Runs.seq (l := [(122, .istore_n 3, 1), (123, .iload_n 3, 1)]) (S2 := (124, [some (.ref 41), some (.long v1), (mm_no2 z2), some (.int s0), some (.int v4), some (.long v5), z6], [.int s0], M)) (by decide +kernel) (hO := mm_own_121) rfl ?_
  refine mm_R_zeq (t := 133) rfl rfl rfl (fun hc => ?_) (fun hc => ?_)
  · replace h := mm_ip hc h
    refine mm_Runs.seq (l := [(133, .iinc 4 1, 3), (136, .goto (-47), 3)]) (S2 := (89, [some (.ref 41), some (.long v1), (mm_no2 z2), some (.int s0), some (.int (v4 + (1 : Int32))), some (.long v5), z6], [], M)) (by decide +kernel) (hO := mm_own_121) rfl ?_
    cases h
    exact (show mp_121_89 L xs (d + 1) v1 s0 (v4 + (1 : Int32)) M o from hA) ((mm_no2 z2)) (some (.long v5)) z6
  · replace h := mm_iq hc h
    refine mm_Runs.seq (l := [(127, .aload_n 0, 1), (128, .lload 5, 2)]) (S2 := (130, [some (.ref 41), some (.long v1), (mm_no2 z2), some (.int s0), some (.int v4), some (.long v5), z6], [.long v5, .ref 41], M)) (by decide +kernel) (hO := mm_own_121) rfl ?_
    refine mm_R_call (v := mm_wv) h hA (k2 := 123) (as := [.ref 41, .long v5]) (r := []) rfl (fun _ => rfl) (fun q hq o ho => ms_123 (by omega) hq ho) (fun _ M1 h => ?_)
    show mm_Runs L xs (d + 1) 121 (133, [some (.ref 41), some (.long v1), (mm_no2 z2), some (.int s0), some (.int v4), some (.long v5), z6], [], M1) o
    refine mm_Runs.seq (l := [(133, .iinc 4 1, 3), (136, .goto (-47), 3)]) (S2 := (89, [some (.ref 41), some (.long v1), (mm_no2 z2), some (.int s0), some (.int (v4 + (1 : Int32))), some (.long v5), z6], [], M1)) (by decide +kernel) (hO := mm_own_121) rfl ?_
    cases h
    exact (show mp_121_89 L xs (d + 1) v1 s0 (v4 + (1 : Int32)) M1 o from hA) ((mm_no2 z2)) (some (.long v5)) z6
noncomputable def mf_121_b89 (v1 : Int64) (v3 : Int32) (v4 : Int32) (M : mm_M) : mm_O ((Int32 × Int32) ⊕ (Unit)) := if v4 < (1000000 : Int32) then (if v3 = 0 then (some (.inl (.inr ()), M)) else (mm_B (mf_47 (4 : Int32) M) (fun r1 M2 => if r1 = (0 : Int64) then (mf_121_j122 v1 v4 r1 (0 : Int32) M2) else (mf_121_j122 v1 v4 r1 (1 : Int32) M2)))) else (some (.inl (.inr ()), M))
noncomputable def mf_121_L89 (v1 : Int64) (s : Int32 × Int32) (M : mm_M) : mm_O (Unit) := mm_L (fun s M => mf_121_b89 v1 s.1 s.2 M) s M
set_option maxRecDepth 8000 in
set_option maxHeartbeats 4000000 in
theorem ms_121_b89 {L : Nat} {xs : Nat → Int32} {d : Nat} (hd : 12 ≤ d) {v1 : Int64} {v3 : Int32} {v4 : Int32} {M : mm_M} {q : (((Int32 × Int32) ⊕ (Unit)) ⊕ Nat) × mm_M} {o : mm_E} (h : mf_121_b89 v1 v3 v4 M = some q) (hA : mm_A (mm_K2 (fun s M o => mp_121_89 L xs (d) v1 s.1 s.2 M o) (fun r M o => mp_121_139 L xs (d) v1 M o)) q o) : mp_121_89 L xs d v1 v3 v4 M o := by
  unfold mf_121_b89 at h
  obtain ⟨d, rfl⟩ := mm_d1 (n := 11) hd
  intro z2 z5 z6
  show mm_Runs L xs (d + 1) 121 (89, [some (.ref 41), some (.long v1), z2, some (.int v3), some (.int v4), z5, z6], [], M) o
  refine mm_Runs.seq (l := [(89, .iload 4, 2), (91, .ldc 27, 2)]) (S2 := (93, [some (.ref 41), some (.long v1), z2, some (.int v3), some (.int v4), z5, z6], [.int (1000000 : Int32), .int v4], M)) (by decide +kernel) (hO := mm_own_121) rfl ?_
  refine mm_R_ige (t := 139) rfl rfl rfl (fun hc => ?_) (fun hc => ?_)
  · replace h := mm_ip hc h
    refine mm_Runs.seq (l := [(96, .iload_n 3, 1)]) (S2 := (97, [some (.ref 41), some (.long v1), z2, some (.int v3), some (.int v4), z5, z6], [.int v3], M)) (by decide +kernel) (hO := mm_own_121) rfl ?_
    refine mm_R_zeq (t := 139) rfl rfl rfl (fun hc => ?_) (fun hc => ?_)
    · replace h := mm_ip hc h
      cases h
      exact (show mp_121_139 L xs (d + 1) v1 M o from hA) z2 (some (.int v3)) (some (.int v4)) z5 z6
    · replace h := mm_iq hc h
      refine mm_Runs.seq (l := [(100, .aload_n 0, 1), (101, .getfield 9, 3), (104, .iconst 4, 1)]) (S2 := (105, [some (.ref 41), some (.long v1), z2, some (.int v3), some (.int v4), z5, z6], [.int (4 : Int32), .ref 1], M)) (by decide +kernel) (hO := mm_own_121) rfl ?_
      refine mm_R_call (v := mm_wl) h hA (k2 := 47) (as := [.ref 1, .int (4 : Int32)]) (r := []) rfl (fun _ => rfl) (fun q hq o ho => ms_47 (by omega) hq ho) (fun r1 M2 h => ?_)
      show mm_Runs L xs (d + 1) 121 (108, [some (.ref 41), some (.long v1), z2, some (.int v3), some (.int v4), z5, z6], [.long r1], M2) o
      refine mm_Runs.seq (l := [(108, .lstore 5, 2), (110, .lload 5, 2), (112, .lconst 0, 1)]) (S2 := (113, [some (.ref 41), some (.long v1), z2, some (.int v3), some (.int v4), some (.long r1), none], [.long (0 : Int64), .long r1], M2)) (by decide +kernel) (hO := mm_own_121) rfl ?_
      refine mm_R_leq (t := 121) rfl rfl rfl rfl (fun hc => ?_) (fun hc => ?_)
      · replace h := mm_ip hc h
        refine mm_Runs.seq (l := [(121, .iconst 0, 1)]) (S2 := (122, [some (.ref 41), some (.long v1), z2, some (.int v3), some (.int v4), some (.long r1), none], [.int (0 : Int32)], M2)) (by decide +kernel) (hO := mm_own_121) rfl ?_
        exact (ms_121_j122 hd h hA : mp_121_122 L xs (d + 1) v1 v4 r1 (0 : Int32) M2 o) z2 (some (.int v3)) none
      · replace h := mm_iq hc h
        refine mm_Runs.seq (l := [(117, .iconst 1, 1), (118, .goto 4, 3)]) (S2 := (122, [some (.ref 41), some (.long v1), z2, some (.int v3), some (.int v4), some (.long r1), none], [.int (1 : Int32)], M2)) (by decide +kernel) (hO := mm_own_121) rfl ?_
        exact (ms_121_j122 hd h hA : mp_121_122 L xs (d + 1) v1 v4 r1 (1 : Int32) M2 o) z2 (some (.int v3)) none
  · replace h := mm_iq hc h
    cases h
    exact (show mp_121_139 L xs (d + 1) v1 M o from hA) z2 (some (.int v3)) (some (.int v4)) z5 z6
theorem ms_121_L89 {L : Nat} {xs : Nat → Int32} {d : Nat} (hd : 12 ≤ d) {v1 : Int64} {v3 : Int32} {v4 : Int32} {β : Type} {K : β → mm_M → mm_E → Prop} {F : (Unit) → mm_M → mm_O β} {M : mm_M} {q : (β ⊕ Nat) × mm_M} {o : mm_E} (h : mm_B (mf_121_L89 v1 (v3, v4) M) F = some q) (hA : mm_A K q o) (hx : ∀ (r : (Unit)) (M2 : mm_M), F r M2 = some q → (fun r M o => mp_121_139 L xs (d) v1 M o) r M2 o) : mp_121_89 L xs d v1 v3 v4 M o := mm_R_loop (s := (v3, v4)) (M := M) (P := (fun s M o => mp_121_89 L xs (d) v1 s.1 s.2 M o)) (X := (fun r M o => mp_121_139 L xs (d) v1 M o)) h hA (fun s M q hq hA => ms_121_b89 hd hq hA) hx
def mp_121_166 (L : Nat) (xs : Nat → Int32) (d : Nat) (M : mm_M) (o : mm_E) : Prop := ∀ z1 z2 z3 z4 z5 z6 : Option Value, mm_Runs L xs d 121 (166, [some (.ref 41), z1, z2, z3, z4, z5, z6], [], M) o
def mp_121_167 (L : Nat) (xs : Nat → Int32) (d : Nat) (s0 : Int32) (M : mm_M) (o : mm_E) : Prop := ∀ z1 z2 z3 z4 z5 z6 : Option Value, mm_Runs L xs d 121 (167, [some (.ref 41), z1, z2, z3, z4, z5, z6], [.int s0], M) o
def mp_121_214 (L : Nat) (xs : Nat → Int32) (d : Nat) (s0 : Int32) (M : mm_M) (o : mm_E) : Prop := ∀ z0 z1 z2 z3 z4 z5 z6 : Option Value, mm_Runs L xs d 121 (214, [z0, z1, z2, z3, z4, z5, z6], [.int s0], M) o
noncomputable def mf_121_j214 (s0 : Int32) (M : mm_M) : mm_O Unit := mm_B (mf_27 s0 M) (fun _ M1 => some (.inl (), M1))
set_option maxRecDepth 8000 in
set_option maxHeartbeats 4000000 in
theorem ms_121_j214 {L : Nat} {xs : Nat → Int32} {d : Nat} (hd : 12 ≤ d) {s0 : Int32} {M : mm_M} {q : (Unit ⊕ Nat) × mm_M} {o : mm_E} (h : mf_121_j214 s0 M = some q) (hA : mm_A (mm_Kr mm_wv) q o) : mp_121_214 L xs d s0 M o := by
  unfold mf_121_j214 at h
  obtain ⟨d, rfl⟩ := mm_d1 (n := 11) hd
  intro z0 z1 z2 z3 z4 z5 z6
  show mm_Runs L xs (d + 1) 121 (214, [z0, z1, z2, z3, z4, z5, z6], [.int s0], M) o
  refine mm_R_call (v := mm_wv) h hA (k2 := 27) (as := [.int s0]) (r := []) rfl (fun _ => rfl) (fun q hq o ho => ms_27 (by omega) hq ho) (fun _ M1 h => ?_)
  show mm_Runs L xs (d + 1) 121 (217, [z0, z1, z2, z3, z4, z5, z6], [], M1) o
  cases h
  exact mm_R_retv rfl rfl hA
noncomputable def mf_121_j167 (s0 : Int32) (M : mm_M) : mm_O Unit := mm_B (mf_27 s0 M) (fun _ M1 => if ((M1.1 41 4) &&& (4 : Int32)) = 0 then (some (.inl (), M1)) else (mm_B (mf_47 (4 : Int32) M1) (fun r2 M3 => mm_B (mf_31 4 16384 (0 : Int32) (M3.1 3 1) M3) (fun r4 M5 => if r2.toInt32 = r4 then (mf_121_j214 (0 : Int32) M5) else (mf_121_j214 (1 : Int32) M5)))))
set_option maxRecDepth 8000 in
set_option maxHeartbeats 4000000 in
theorem ms_121_j167 {L : Nat} {xs : Nat → Int32} {d : Nat} (hd : 12 ≤ d) {s0 : Int32} {M : mm_M} {q : (Unit ⊕ Nat) × mm_M} {o : mm_E} (h : mf_121_j167 s0 M = some q) (hA : mm_A (mm_Kr mm_wv) q o) : mp_121_167 L xs d s0 M o := by
  unfold mf_121_j167 at h
  obtain ⟨d, rfl⟩ := mm_d1 (n := 11) hd
  intro z1 z2 z3 z4 z5 z6
  show mm_Runs L xs (d + 1) 121 (167, [some (.ref 41), z1, z2, z3, z4, z5, z6], [.int s0], M) o
  refine mm_R_call (v := mm_wv) h hA (k2 := 27) (as := [.int s0]) (r := []) rfl (fun _ => rfl) (fun q hq o ho => ms_27 (by omega) hq ho) (fun _ M1 h => ?_)
  show mm_Runs L xs (d + 1) 121 (170, [some (.ref 41), z1, z2, z3, z4, z5, z6], [], M1) o
  refine mm_Runs.seq (l := [(170, .aload_n 0, 1), (171, .getfield 77, 3), (174, .iconst 4, 1), (175, .iand, 1)]) (S2 := (176, [some (.ref 41), z1, z2, z3, z4, z5, z6], [.int ((M1.1 41 4) &&& (4 : Int32))], M1)) (by decide +kernel) (hO := mm_own_121) rfl ?_
  refine mm_R_zeq (t := 217) rfl rfl rfl (fun hc => ?_) (fun hc => ?_)
  · replace h := mm_ip hc h
    cases h
    exact mm_R_retv rfl rfl hA
  · replace h := mm_iq hc h
    refine mm_Runs.seq (l := [(179, .aload_n 0, 1), (180, .getfield 9, 3), (183, .iconst 4, 1)]) (S2 := (184, [some (.ref 41), z1, z2, z3, z4, z5, z6], [.int (4 : Int32), .ref 1], M1)) (by decide +kernel) (hO := mm_own_121) rfl ?_
    refine mm_R_call (v := mm_wl) h hA (k2 := 47) (as := [.ref 1, .int (4 : Int32)]) (r := []) rfl (fun _ => rfl) (fun q hq o ho => ms_47 (by omega) hq ho) (fun r2 M3 h => ?_)
    show mm_Runs L xs (d + 1) 121 (187, [some (.ref 41), z1, z2, z3, z4, z5, z6], [.long r2], M3) o
    refine mm_Runs.seq (l := [(187, .l2i, 1), (188, .aload_n 0, 1), (189, .getfield 15, 3), (192, .getfield 80, 3), (195, .iconst 0, 1), (196, .aload_n 0, 1), (197, .getfield 15, 3), (200, .getfield 56, 3)]) (S2 := (203, [some (.ref 41), z1, z2, z3, z4, z5, z6], [.int (M3.1 3 1), .int (0 : Int32), .ref 4, .int r2.toInt32], M3)) (by decide +kernel) (hO := mm_own_121) rfl ?_
    refine mm_R_call (v := mm_wi) h hA (k2 := 31) (as := [.ref 4, .int (0 : Int32), .int (M3.1 3 1)]) (r := [.int r2.toInt32]) rfl (fun _ => rfl) (fun q hq o ho => ms_31 rfl (by omega) hq ho) (fun r4 M5 h => ?_)
    show mm_Runs L xs (d + 1) 121 (206, [some (.ref 41), z1, z2, z3, z4, z5, z6], [.int r4, .int r2.toInt32], M5) o
    refine mm_R_ieq (t := 213) rfl rfl rfl (fun hc => ?_) (fun hc => ?_)
    · replace h := mm_ip hc h
      refine mm_Runs.seq (l := [(213, .iconst 0, 1)]) (S2 := (214, [some (.ref 41), z1, z2, z3, z4, z5, z6], [.int (0 : Int32)], M5)) (by decide +kernel) (hO := mm_own_121) rfl ?_
      exact (ms_121_j214 hd h hA : mp_121_214 L xs (d + 1) (0 : Int32) M5 o) (some (.ref 41)) z1 z2 z3 z4 z5 z6
    · replace h := mm_iq hc h
      refine mm_Runs.seq (l := [(209, .iconst 1, 1), (210, .goto 4, 3)]) (S2 := (214, [some (.ref 41), z1, z2, z3, z4, z5, z6], [.int (1 : Int32)], M5)) (by decide +kernel) (hO := mm_own_121) rfl ?_
      exact (ms_121_j214 hd h hA : mp_121_214 L xs (d + 1) (1 : Int32) M5 o) (some (.ref 41)) z1 z2 z3 z4 z5 z6
noncomputable def mf_121_j166 (M : mm_M) : mm_O Unit := mf_121_j167 (0 : Int32) M
set_option maxRecDepth 8000 in
set_option maxHeartbeats 4000000 in
theorem ms_121_j166 {L : Nat} {xs : Nat → Int32} {d : Nat} (hd : 12 ≤ d) {M : mm_M} {q : (Unit ⊕ Nat) × mm_M} {o : mm_E} (h : mf_121_j166 M = some q) (hA : mm_A (mm_Kr mm_wv) q o) : mp_121_166 L xs d M o := by
  unfold mf_121_j166 at h
  obtain ⟨d, rfl⟩ := mm_d1 (n := 11) hd
  intro z1 z2 z3 z4 z5 z6
  show mm_Runs L xs (d + 1) 121 (166, [some (.ref 41), z1, z2, z3, z4, z5, z6], [], M) o
  refine mm_Runs.seq (l := [(166, .iconst 0, 1)]) (S2 := (167, [some (.ref 41), z1, z2, z3, z4, z5, z6], [.int (0 : Int32)], M)) (by decide +kernel) (hO := mm_own_121) rfl ?_
  exact (ms_121_j167 hd h hA : mp_121_167 L xs (d + 1) (0 : Int32) M o) z1 z2 z3 z4 z5 z6
noncomputable def mf_121_j139 (v1 : Int64) (M : mm_M) : mm_O Unit := if ((M.1 41 4) &&& (8 : Int32)) = 0 then (mf_121_j166 M) else (if v1 = (M.1 3 1).toInt64 then (mf_121_j166 M) else (mf_121_j167 (1 : Int32) M))
set_option maxRecDepth 8000 in
set_option maxHeartbeats 4000000 in
theorem ms_121_j139 {L : Nat} {xs : Nat → Int32} {d : Nat} (hd : 12 ≤ d) {v1 : Int64} {M : mm_M} {q : (Unit ⊕ Nat) × mm_M} {o : mm_E} (h : mf_121_j139 v1 M = some q) (hA : mm_A (mm_Kr mm_wv) q o) : mp_121_139 L xs d v1 M o := by
  unfold mf_121_j139 at h
  obtain ⟨d, rfl⟩ := mm_d1 (n := 11) hd
  intro z2 z3 z4 z5 z6
  show mm_Runs L xs (d + 1) 121 (139, [some (.ref 41), some (.long v1), z2, z3, z4, z5, z6], [], M) o
  refine mm_Runs.seq (l := [(139, .aload_n 0, 1), (140, .getfield 77, 3), (143, .bipush 8, 2), (145, .iand, 1)]) (S2 := (146, [some (.ref 41), some (.long v1), z2, z3, z4, z5, z6], [.int ((M.1 41 4) &&& (8 : Int32))], M)) (by decide +kernel) (hO := mm_own_121) rfl ?_
  refine mm_R_zeq (t := 166) rfl rfl rfl (fun hc => ?_) (fun hc => ?_)
  · replace h := mm_ip hc h
    exact (ms_121_j166 hd h hA : mp_121_166 L xs (d + 1) M o) (some (.long v1)) z2 z3 z4 z5 z6
  · replace h := mm_iq hc h
    refine mm_Runs.seq (l := [(149, .lload_n 1, 1), (150, .aload_n 0, 1), (151, .getfield 15, 3), (154, .getfield 56, 3), (157, .i2l, 1)]) (S2 := (158, [some (.ref 41), some (.long v1), z2, z3, z4, z5, z6], [.long (M.1 3 1).toInt64, .long v1], M)) (by decide +kernel) (hO := mm_own_121) rfl ?_
    refine mm_R_leq (t := 166) rfl rfl rfl rfl (fun hc => ?_) (fun hc => ?_)
    · replace h := mm_ip hc h
      exact (ms_121_j166 hd h hA : mp_121_166 L xs (d + 1) M o) (some (.long v1)) z2 z3 z4 z5 z6
    · replace h := mm_iq hc h
      refine mm_Runs.seq (l := [(162, .iconst 1, 1), (163, .goto 4, 3)]) (S2 := (167, [some (.ref 41), some (.long v1), z2, z3, z4, z5, z6], [.int (1 : Int32)], M)) (by decide +kernel) (hO := mm_own_121) rfl ?_
      exact (ms_121_j167 hd h hA : mp_121_167 L xs (d + 1) (1 : Int32) M o) (some (.long v1)) z2 z3 z4 z5 z6
noncomputable def mf_121_j76 (s0 : Int32) (M : mm_M) : mm_O Unit := mm_B (mf_27 s0 M) (fun _ M1 => mm_B (mf_122 M1) (fun r2 M3 => mm_B (mf_121_L89 r2 ((1 : Int32), (0 : Int32)) M3) (fun r5 M4 => mf_121_j139 r2 M4)))
set_option maxRecDepth 8000 in
set_option maxHeartbeats 4000000 in
theorem ms_121_j76 {L : Nat} {xs : Nat → Int32} {d : Nat} (hd : 12 ≤ d) {s0 : Int32} {M : mm_M} {q : (Unit ⊕ Nat) × mm_M} {o : mm_E} (h : mf_121_j76 s0 M = some q) (hA : mm_A (mm_Kr mm_wv) q o) : mp_121_76 L xs d s0 M o := by
  unfold mf_121_j76 at h
  obtain ⟨d, rfl⟩ := mm_d1 (n := 11) hd
  intro z1 z2 z3 z4 z5 z6
  show mm_Runs L xs (d + 1) 121 (76, [some (.ref 41), z1, z2, z3, z4, z5, z6], [.int s0], M) o
  refine mm_R_call (v := mm_wv) h hA (k2 := 27) (as := [.int s0]) (r := []) rfl (fun _ => rfl) (fun q hq o ho => ms_27 (by omega) hq ho) (fun _ M1 h => ?_)
  show mm_Runs L xs (d + 1) 121 (79, [some (.ref 41), z1, z2, z3, z4, z5, z6], [], M1) o
  refine mm_Runs.seq (l := [(79, .aload_n 0, 1)]) (S2 := (80, [some (.ref 41), z1, z2, z3, z4, z5, z6], [.ref 41], M1)) (by decide +kernel) (hO := mm_own_121) rfl ?_
  refine mm_R_call (v := mm_wl) h hA (k2 := 122) (as := [.ref 41]) (r := []) rfl (fun _ => rfl) (fun q hq o ho => ms_122 (by omega) hq ho) (fun r2 M3 h => ?_)
  show mm_Runs L xs (d + 1) 121 (83, [some (.ref 41), z1, z2, z3, z4, z5, z6], [.long r2], M3) o
  refine mm_Runs.seq (l := [(83, .lstore_n 1, 1), (84, .iconst 1, 1), (85, .istore_n 3, 1), (86, .iconst 0, 1), (87, .istore 4, 2)]) (S2 := (89, [some (.ref 41), some (.long r2), none, some (.int (1 : Int32)), some (.int (0 : Int32)), z5, z6], [], M3)) (by decide +kernel) (hO := mm_own_121) rfl ?_
  have hp : mp_121_89 L xs (d + 1) r2 (1 : Int32) (0 : Int32) M3 o := by
    refine ms_121_L89 hd h hA (fun r5 M4 h => ?_)
    intro y6 y7 y8 y9 y10
    show mm_Runs L xs (d + 1) 121 (139, [some (.ref 41), some (.long r2), y6, y7, y8, y9, y10], [], M4) o
    exact (ms_121_j139 hd h hA : mp_121_139 L xs (d + 1) r2 M4 o) y6 y7 y8 y9 y10
  exact hp none z5 z6
noncomputable def mf_121_j56 (s0 : Int32) (M : mm_M) : mm_O Unit := mm_B (mf_27 s0 M) (fun _ M1 => mm_B (mf_44 M1) (fun r2 M3 => if r2 = (24 : Int32) then (mf_121_j76 (0 : Int32) M3) else (mf_121_j76 (1 : Int32) M3)))
set_option maxRecDepth 8000 in
set_option maxHeartbeats 4000000 in
theorem ms_121_j56 {L : Nat} {xs : Nat → Int32} {d : Nat} (hd : 12 ≤ d) {s0 : Int32} {M : mm_M} {q : (Unit ⊕ Nat) × mm_M} {o : mm_E} (h : mf_121_j56 s0 M = some q) (hA : mm_A (mm_Kr mm_wv) q o) : mp_121_56 L xs d s0 M o := by
  unfold mf_121_j56 at h
  obtain ⟨d, rfl⟩ := mm_d1 (n := 11) hd
  intro z1 z2 z3 z4 z5 z6
  show mm_Runs L xs (d + 1) 121 (56, [some (.ref 41), z1, z2, z3, z4, z5, z6], [.int s0], M) o
  refine mm_R_call (v := mm_wv) h hA (k2 := 27) (as := [.int s0]) (r := []) rfl (fun _ => rfl) (fun q hq o ho => ms_27 (by omega) hq ho) (fun _ M1 h => ?_)
  show mm_Runs L xs (d + 1) 121 (59, [some (.ref 41), z1, z2, z3, z4, z5, z6], [], M1) o
  refine mm_Runs.seq (l := [(59, .aload_n 0, 1), (60, .getfield 9, 3)]) (S2 := (63, [some (.ref 41), z1, z2, z3, z4, z5, z6], [.ref 1], M1)) (by decide +kernel) (hO := mm_own_121) rfl ?_
  refine mm_R_call (v := mm_wi) h hA (k2 := 44) (as := [.ref 1]) (r := []) rfl (fun _ => rfl) (fun q hq o ho => ms_44 (by omega) hq ho) (fun r2 M3 h => ?_)
  show mm_Runs L xs (d + 1) 121 (66, [some (.ref 41), z1, z2, z3, z4, z5, z6], [.int r2], M3) o
  refine mm_Runs.seq (l := [(66, .bipush 24, 2)]) (S2 := (68, [some (.ref 41), z1, z2, z3, z4, z5, z6], [.int (24 : Int32), .int r2], M3)) (by decide +kernel) (hO := mm_own_121) rfl ?_
  refine mm_R_ieq (t := 75) rfl rfl rfl (fun hc => ?_) (fun hc => ?_)
  · replace h := mm_ip hc h
    refine mm_Runs.seq (l := [(75, .iconst 0, 1)]) (S2 := (76, [some (.ref 41), z1, z2, z3, z4, z5, z6], [.int (0 : Int32)], M3)) (by decide +kernel) (hO := mm_own_121) rfl ?_
    exact (ms_121_j76 hd h hA : mp_121_76 L xs (d + 1) (0 : Int32) M3 o) z1 z2 z3 z4 z5 z6
  · replace h := mm_iq hc h
    refine mm_Runs.seq (l := [(71, .iconst 1, 1), (72, .goto 4, 3)]) (S2 := (76, [some (.ref 41), z1, z2, z3, z4, z5, z6], [.int (1 : Int32)], M3)) (by decide +kernel) (hO := mm_own_121) rfl ?_
    exact (ms_121_j76 hd h hA : mp_121_76 L xs (d + 1) (1 : Int32) M3 o) z1 z2 z3 z4 z5 z6
noncomputable def mf_121_j36 (s0 : Int32) (M : mm_M) : mm_O Unit := mm_B (mf_27 s0 M) (fun _ M1 => mm_B (mf_44 M1) (fun r2 M3 => if r2 = (77 : Int32) then (mf_121_j56 (0 : Int32) M3) else (mf_121_j56 (1 : Int32) M3)))
set_option maxRecDepth 8000 in
set_option maxHeartbeats 4000000 in
theorem ms_121_j36 {L : Nat} {xs : Nat → Int32} {d : Nat} (hd : 12 ≤ d) {s0 : Int32} {M : mm_M} {q : (Unit ⊕ Nat) × mm_M} {o : mm_E} (h : mf_121_j36 s0 M = some q) (hA : mm_A (mm_Kr mm_wv) q o) : mp_121_36 L xs d s0 M o := by
  unfold mf_121_j36 at h
  obtain ⟨d, rfl⟩ := mm_d1 (n := 11) hd
  intro z1 z2 z3 z4 z5 z6
  show mm_Runs L xs (d + 1) 121 (36, [some (.ref 41), z1, z2, z3, z4, z5, z6], [.int s0], M) o
  refine mm_R_call (v := mm_wv) h hA (k2 := 27) (as := [.int s0]) (r := []) rfl (fun _ => rfl) (fun q hq o ho => ms_27 (by omega) hq ho) (fun _ M1 h => ?_)
  show mm_Runs L xs (d + 1) 121 (39, [some (.ref 41), z1, z2, z3, z4, z5, z6], [], M1) o
  refine mm_Runs.seq (l := [(39, .aload_n 0, 1), (40, .getfield 9, 3)]) (S2 := (43, [some (.ref 41), z1, z2, z3, z4, z5, z6], [.ref 1], M1)) (by decide +kernel) (hO := mm_own_121) rfl ?_
  refine mm_R_call (v := mm_wi) h hA (k2 := 44) (as := [.ref 1]) (r := []) rfl (fun _ => rfl) (fun q hq o ho => ms_44 (by omega) hq ho) (fun r2 M3 h => ?_)
  show mm_Runs L xs (d + 1) 121 (46, [some (.ref 41), z1, z2, z3, z4, z5, z6], [.int r2], M3) o
  refine mm_Runs.seq (l := [(46, .bipush 77, 2)]) (S2 := (48, [some (.ref 41), z1, z2, z3, z4, z5, z6], [.int (77 : Int32), .int r2], M3)) (by decide +kernel) (hO := mm_own_121) rfl ?_
  refine mm_R_ieq (t := 55) rfl rfl rfl (fun hc => ?_) (fun hc => ?_)
  · replace h := mm_ip hc h
    refine mm_Runs.seq (l := [(55, .iconst 0, 1)]) (S2 := (56, [some (.ref 41), z1, z2, z3, z4, z5, z6], [.int (0 : Int32)], M3)) (by decide +kernel) (hO := mm_own_121) rfl ?_
    exact (ms_121_j56 hd h hA : mp_121_56 L xs (d + 1) (0 : Int32) M3 o) z1 z2 z3 z4 z5 z6
  · replace h := mm_iq hc h
    refine mm_Runs.seq (l := [(51, .iconst 1, 1), (52, .goto 4, 3)]) (S2 := (56, [some (.ref 41), z1, z2, z3, z4, z5, z6], [.int (1 : Int32)], M3)) (by decide +kernel) (hO := mm_own_121) rfl ?_
    exact (ms_121_j56 hd h hA : mp_121_56 L xs (d + 1) (1 : Int32) M3 o) z1 z2 z3 z4 z5 z6
noncomputable def mf_121_j16 (s0 : Int32) (M : mm_M) : mm_O Unit := mm_B (mf_27 s0 M) (fun _ M1 => mm_B (mf_44 M1) (fun r2 M3 => if r2 = (34 : Int32) then (mf_121_j36 (0 : Int32) M3) else (mf_121_j36 (1 : Int32) M3)))
set_option maxRecDepth 8000 in
set_option maxHeartbeats 4000000 in
theorem ms_121_j16 {L : Nat} {xs : Nat → Int32} {d : Nat} (hd : 12 ≤ d) {s0 : Int32} {M : mm_M} {q : (Unit ⊕ Nat) × mm_M} {o : mm_E} (h : mf_121_j16 s0 M = some q) (hA : mm_A (mm_Kr mm_wv) q o) : mp_121_16 L xs d s0 M o := by
  unfold mf_121_j16 at h
  obtain ⟨d, rfl⟩ := mm_d1 (n := 11) hd
  intro z1 z2 z3 z4 z5 z6
  show mm_Runs L xs (d + 1) 121 (16, [some (.ref 41), z1, z2, z3, z4, z5, z6], [.int s0], M) o
  refine mm_R_call (v := mm_wv) h hA (k2 := 27) (as := [.int s0]) (r := []) rfl (fun _ => rfl) (fun q hq o ho => ms_27 (by omega) hq ho) (fun _ M1 h => ?_)
  show mm_Runs L xs (d + 1) 121 (19, [some (.ref 41), z1, z2, z3, z4, z5, z6], [], M1) o
  refine mm_Runs.seq (l := [(19, .aload_n 0, 1), (20, .getfield 9, 3)]) (S2 := (23, [some (.ref 41), z1, z2, z3, z4, z5, z6], [.ref 1], M1)) (by decide +kernel) (hO := mm_own_121) rfl ?_
  refine mm_R_call (v := mm_wi) h hA (k2 := 44) (as := [.ref 1]) (r := []) rfl (fun _ => rfl) (fun q hq o ho => ms_44 (by omega) hq ho) (fun r2 M3 h => ?_)
  show mm_Runs L xs (d + 1) 121 (26, [some (.ref 41), z1, z2, z3, z4, z5, z6], [.int r2], M3) o
  refine mm_Runs.seq (l := [(26, .bipush 34, 2)]) (S2 := (28, [some (.ref 41), z1, z2, z3, z4, z5, z6], [.int (34 : Int32), .int r2], M3)) (by decide +kernel) (hO := mm_own_121) rfl ?_
  refine mm_R_ieq (t := 35) rfl rfl rfl (fun hc => ?_) (fun hc => ?_)
  · replace h := mm_ip hc h
    refine mm_Runs.seq (l := [(35, .iconst 0, 1)]) (S2 := (36, [some (.ref 41), z1, z2, z3, z4, z5, z6], [.int (0 : Int32)], M3)) (by decide +kernel) (hO := mm_own_121) rfl ?_
    exact (ms_121_j36 hd h hA : mp_121_36 L xs (d + 1) (0 : Int32) M3 o) z1 z2 z3 z4 z5 z6
  · replace h := mm_iq hc h
    refine mm_Runs.seq (l := [(31, .iconst 1, 1), (32, .goto 4, 3)]) (S2 := (36, [some (.ref 41), z1, z2, z3, z4, z5, z6], [.int (1 : Int32)], M3)) (by decide +kernel) (hO := mm_own_121) rfl ?_
    exact (ms_121_j36 hd h hA : mp_121_36 L xs (d + 1) (1 : Int32) M3 o) z1 z2 z3 z4 z5 z6
noncomputable def mf_121 (M : mm_M) : mm_O Unit := mm_B (mf_44 M) (fun r1 M2 => if r1 = (4 : Int32) then (mf_121_j16 (0 : Int32) M2) else (mf_121_j16 (1 : Int32) M2))
set_option maxRecDepth 8000 in
set_option maxHeartbeats 4000000 in
theorem ms_121 {L : Nat} {xs : Nat → Int32} {d : Nat} (hd : 12 ≤ d) {M : mm_M} {q : (Unit ⊕ Nat) × mm_M} {o : mm_E} (h : mf_121 M = some q) (hA : mm_A (mm_Kr mm_wv) q o) : mm_Runs L xs d 121 (0, mm_ent (mm_ml 121) [.ref 41], [], M) o := by
  unfold mf_121 at h
  obtain ⟨d, rfl⟩ := mm_d1 (n := 11) hd
  show mm_Runs L xs (d + 1) 121 (0, [some (.ref 41), none, none, none, none, none, none], [], M) o
  refine mm_Runs.seq (l := [(0, .aload_n 0, 1), (1, .getfield 9, 3)]) (S2 := (4, [some (.ref 41), none, none, none, none, none, none], [.ref 1], M)) (by decide +kernel) (hO := mm_own_121) rfl ?_
  refine mm_R_call (v := mm_wi) h hA (k2 := 44) (as := [.ref 1]) (r := []) rfl (fun _ => rfl) (fun q hq o ho => ms_44 (by omega) hq ho) (fun r1 M2 h => ?_)
  show mm_Runs L xs (d + 1) 121 (7, [some (.ref 41), none, none, none, none, none, none], [.int r1], M2) o
  refine mm_Runs.seq (l := [(7, .iconst 4, 1)]) (S2 := (8, [some (.ref 41), none, none, none, none, none, none], [.int (4 : Int32), .int r1], M2)) (by decide +kernel) (hO := mm_own_121) rfl ?_
  refine mm_R_ieq (t := 15) rfl rfl rfl (fun hc => ?_) (fun hc => ?_)
  · replace h := mm_ip hc h
    refine mm_Runs.seq (l := [(15, .iconst 0, 1)]) (S2 := (16, [some (.ref 41), none, none, none, none, none, none], [.int (0 : Int32)], M2)) (by decide +kernel) (hO := mm_own_121) rfl ?_
    exact (ms_121_j16 hd h hA : mp_121_16 L xs (d + 1) (0 : Int32) M2 o) none none none none none none
  · replace h := mm_iq hc h
    refine mm_Runs.seq (l := [(11, .iconst 1, 1), (12, .goto 4, 3)]) (S2 := (16, [some (.ref 41), none, none, none, none, none, none], [.int (1 : Int32)], M2)) (by decide +kernel) (hO := mm_own_121) rfl ?_
    exact (ms_121_j16 hd h hA : mp_121_16 L xs (d + 1) (1 : Int32) M2 o) none none none none none none
-- 125: PlainPacks$Pieces.readTagCount()J (depth 8)
theorem mm_own_125 : mm_own 125 = 9 := rfl
def mp_125_7 (L : Nat) (xs : Nat → Int32) (d : Nat) (v1 : Int64) (v3 : Int32) (v4 : Int32) (M : mm_M) (o : mm_E) : Prop := ∀ z2 z5 : Option Value, mm_Runs L xs d 125 (7, [some (.ref 41), some (.long v1), z2, some (.int v3), some (.int v4), z5], [], M) o
def mp_125_61 (L : Nat) (xs : Nat → Int32) (d : Nat) (v1 : Int64) (v3 : Int32) (M : mm_M) (o : mm_E) : Prop := ∀ z0 z2 z4 z5 : Option Value, mm_Runs L xs d 125 (61, [z0, some (.long v1), z2, some (.int v3), z4, z5], [], M) o
noncomputable def mf_125_b7 (v1 : Int64) (v3 : Int32) (v4 : Int32) (M : mm_M) : mm_O ((Int64 × Int32 × Int32) ⊕ (Int64 × Int32)) := if v4 < (5 : Int32) then (if v3 = 0 then (some (.inl (.inr (v1, v3)), M)) else (mm_B (mf_44 M) (fun r1 M2 => if r1 < (128 : Int32) then (some (.inl (.inl ((v1 ||| (mm_lshl (r1 &&& (127 : Int32)).toInt64 ((7 : Int32) * v4))), (0 : Int32), (v4 + (1 : Int32)))), M2)) else (some (.inl (.inl ((v1 ||| (mm_lshl (r1 &&& (127 : Int32)).toInt64 ((7 : Int32) * v4))), (1 : Int32), (v4 + (1 : Int32)))), M2))))) else (some (.inl (.inr (v1, v3)), M))
noncomputable def mf_125_L7 (s : Int64 × Int32 × Int32) (M : mm_M) : mm_O (Int64 × Int32) := mm_L (fun s M => mf_125_b7 s.1 s.2.1 s.2.2 M) s M
set_option maxRecDepth 8000 in
set_option maxHeartbeats 4000000 in
theorem ms_125_b7 {L : Nat} {xs : Nat → Int32} {d : Nat} (hd : 8 ≤ d) {v1 : Int64} {v3 : Int32} {v4 : Int32} {M : mm_M} {q : (((Int64 × Int32 × Int32) ⊕ (Int64 × Int32)) ⊕ Nat) × mm_M} {o : mm_E} (h : mf_125_b7 v1 v3 v4 M = some q) (hA : mm_A (mm_K2 (fun s M o => mp_125_7 L xs (d) s.1 s.2.1 s.2.2 M o) (fun r M o => mp_125_61 L xs (d) r.1 r.2 M o)) q o) : mp_125_7 L xs d v1 v3 v4 M o := by
  unfold mf_125_b7 at h
  obtain ⟨d, rfl⟩ := mm_d1 (n := 7) hd
  intro z2 z5
  show mm_Runs L xs (d + 1) 125 (7, [some (.ref 41), some (.long v1), z2, some (.int v3), some (.int v4), z5], [], M) o
  refine mm_Runs.seq (l := [(7, .iload 4, 2), (9, .iconst 5, 1)]) (S2 := (10, [some (.ref 41), some (.long v1), z2, some (.int v3), some (.int v4), z5], [.int (5 : Int32), .int v4], M)) (by decide +kernel) (hO := mm_own_125) rfl ?_
  refine mm_R_ige (t := 61) rfl rfl rfl (fun hc => ?_) (fun hc => ?_)
  · replace h := mm_ip hc h
    refine mm_Runs.seq (l := [(13, .iload_n 3, 1)]) (S2 := (14, [some (.ref 41), some (.long v1), z2, some (.int v3), some (.int v4), z5], [.int v3], M)) (by decide +kernel) (hO := mm_own_125) rfl ?_
    refine mm_R_zeq (t := 61) rfl rfl rfl (fun hc => ?_) (fun hc => ?_)
    · replace h := mm_ip hc h
      cases h
      exact (show mp_125_61 L xs (d + 1) v1 v3 M o from hA) (some (.ref 41)) z2 (some (.int v4)) z5
    · replace h := mm_iq hc h
      refine mm_Runs.seq (l := [(17, .aload_n 0, 1), (18, .getfield 9, 3)]) (S2 := (21, [some (.ref 41), some (.long v1), z2, some (.int v3), some (.int v4), z5], [.ref 1], M)) (by decide +kernel) (hO := mm_own_125) rfl ?_
      refine mm_R_call (v := mm_wi) h hA (k2 := 44) (as := [.ref 1]) (r := []) rfl (fun _ => rfl) (fun q hq o ho => ms_44 (by omega) hq ho) (fun r1 M2 h => ?_)
      show mm_Runs L xs (d + 1) 125 (24, [some (.ref 41), some (.long v1), z2, some (.int v3), some (.int v4), z5], [.int r1], M2) o
      refine mm_Runs.seq (l := [(24, .istore 5, 2), (26, .lload_n 1, 1), (27, .iload 5, 2), (29, .bipush 127, 2), (31, .iand, 1), (32, .i2l, 1), (33, .bipush 7, 2), (35, .iload 4, 2), (37, .imul, 1), (38, .lshl, 1), (39, .lor, 1), (40, .lstore_n 1, 1), (41, .iload 5, 2), (43, .sipush 128, 3)]) (S2 := (46, [some (.ref 41), some (.long (v1 ||| (mm_lshl (r1 &&& (127 : Int32)).toInt64 ((7 : Int32) * v4)))), none, some (.int v3), some (.int v4), some (.int r1)], [.int (128 : Int32), .int r1], M2)) (by decide +kernel) (hO := mm_own_125) rfl ?_
      refine mm_R_ilt (t := 53) rfl rfl rfl (fun hc => ?_) (fun hc => ?_)
      · replace h := mm_ip hc h
        refine mm_Runs.seq (l := [(53, .iconst 0, 1), (54, .istore_n 3, 1), (55, .iinc 4 1, 3), (58, .goto (-51), 3)]) (S2 := (7, [some (.ref 41), some (.long (v1 ||| (mm_lshl (r1 &&& (127 : Int32)).toInt64 ((7 : Int32) * v4)))), none, some (.int (0 : Int32)), some (.int (v4 + (1 : Int32))), some (.int r1)], [], M2)) (by decide +kernel) (hO := mm_own_125) rfl ?_
        cases h
        exact (show mp_125_7 L xs (d + 1) (v1 ||| (mm_lshl (r1 &&& (127 : Int32)).toInt64 ((7 : Int32) * v4))) (0 : Int32) (v4 + (1 : Int32)) M2 o from hA) none (some (.int r1))
      · replace h := mm_iq hc h
        refine mm_Runs.seq (l := [(49, .iconst 1, 1), (50, .goto 4, 3), (54, .istore_n 3, 1), (55, .iinc 4 1, 3), (58, .goto (-51), 3)]) (S2 := (7, [some (.ref 41), some (.long (v1 ||| (mm_lshl (r1 &&& (127 : Int32)).toInt64 ((7 : Int32) * v4)))), none, some (.int (1 : Int32)), some (.int (v4 + (1 : Int32))), some (.int r1)], [], M2)) (by decide +kernel) (hO := mm_own_125) rfl ?_
        cases h
        exact (show mp_125_7 L xs (d + 1) (v1 ||| (mm_lshl (r1 &&& (127 : Int32)).toInt64 ((7 : Int32) * v4))) (1 : Int32) (v4 + (1 : Int32)) M2 o from hA) none (some (.int r1))
  · replace h := mm_iq hc h
    cases h
    exact (show mp_125_61 L xs (d + 1) v1 v3 M o from hA) (some (.ref 41)) z2 (some (.int v4)) z5
theorem ms_125_L7 {L : Nat} {xs : Nat → Int32} {d : Nat} (hd : 8 ≤ d) {v1 : Int64} {v3 : Int32} {v4 : Int32} {β : Type} {K : β → mm_M → mm_E → Prop} {F : (Int64 × Int32) → mm_M → mm_O β} {M : mm_M} {q : (β ⊕ Nat) × mm_M} {o : mm_E} (h : mm_B (mf_125_L7 (v1, v3, v4) M) F = some q) (hA : mm_A K q o) (hx : ∀ (r : (Int64 × Int32)) (M2 : mm_M), F r M2 = some q → (fun r M o => mp_125_61 L xs (d) r.1 r.2 M o) r M2 o) : mp_125_7 L xs d v1 v3 v4 M o := mm_R_loop (s := (v1, v3, v4)) (M := M) (P := (fun s M o => mp_125_7 L xs (d) s.1 s.2.1 s.2.2 M o)) (X := (fun r M o => mp_125_61 L xs (d) r.1 r.2 M o)) h hA (fun s M q hq hA => ms_125_b7 hd hq hA) hx
def mp_125_78 (L : Nat) (xs : Nat → Int32) (d : Nat) (v1 : Int64) (s0 : Int32) (M : mm_M) (o : mm_E) : Prop := ∀ z0 z2 z3 z4 z5 : Option Value, mm_Runs L xs d 125 (78, [z0, some (.long v1), z2, z3, z4, z5], [.int s0], M) o
noncomputable def mf_125_j78 (v1 : Int64) (s0 : Int32) (M : mm_M) : mm_O Int64 := mm_B (mf_27 s0 M) (fun _ M1 => some (.inl v1, M1))
set_option maxRecDepth 8000 in
set_option maxHeartbeats 4000000 in
theorem ms_125_j78 {L : Nat} {xs : Nat → Int32} {d : Nat} (hd : 8 ≤ d) {v1 : Int64} {s0 : Int32} {M : mm_M} {q : (Int64 ⊕ Nat) × mm_M} {o : mm_E} (h : mf_125_j78 v1 s0 M = some q) (hA : mm_A (mm_Kr mm_wl) q o) : mp_125_78 L xs d v1 s0 M o := by
  unfold mf_125_j78 at h
  obtain ⟨d, rfl⟩ := mm_d1 (n := 7) hd
  intro z0 z2 z3 z4 z5
  show mm_Runs L xs (d + 1) 125 (78, [z0, some (.long v1), z2, z3, z4, z5], [.int s0], M) o
  refine mm_R_call (v := mm_wv) h hA (k2 := 27) (as := [.int s0]) (r := []) rfl (fun _ => rfl) (fun q hq o ho => ms_27 (by omega) hq ho) (fun _ M1 h => ?_)
  show mm_Runs L xs (d + 1) 125 (81, [z0, some (.long v1), z2, z3, z4, z5], [], M1) o
  refine mm_Runs.seq (l := [(81, .lload_n 1, 1)]) (S2 := (82, [z0, some (.long v1), z2, z3, z4, z5], [.long v1], M1)) (by decide +kernel) (hO := mm_own_125) rfl ?_
  cases h
  exact mm_R_retl rfl rfl hA
noncomputable def mf_125_j61 (v1 : Int64) (v3 : Int32) (M : mm_M) : mm_O Int64 := if v3 = 0 then (if (4294967295 : Int64) < v1 then (mf_125_j78 v1 (1 : Int32) M) else (mf_125_j78 v1 (0 : Int32) M)) else (mf_125_j78 v1 (1 : Int32) M)
set_option maxRecDepth 8000 in
set_option maxHeartbeats 4000000 in
theorem ms_125_j61 {L : Nat} {xs : Nat → Int32} {d : Nat} (hd : 8 ≤ d) {v1 : Int64} {v3 : Int32} {M : mm_M} {q : (Int64 ⊕ Nat) × mm_M} {o : mm_E} (h : mf_125_j61 v1 v3 M = some q) (hA : mm_A (mm_Kr mm_wl) q o) : mp_125_61 L xs d v1 v3 M o := by
  unfold mf_125_j61 at h
  obtain ⟨d, rfl⟩ := mm_d1 (n := 7) hd
  intro z0 z2 z4 z5
  show mm_Runs L xs (d + 1) 125 (61, [z0, some (.long v1), z2, some (.int v3), z4, z5], [], M) o
  refine mm_Runs.seq (l := [(61, .iload_n 3, 1)]) (S2 := (62, [z0, some (.long v1), z2, some (.int v3), z4, z5], [.int v3], M)) (by decide +kernel) (hO := mm_own_125) rfl ?_
  refine mm_R_zne (t := 73) rfl rfl rfl (fun hc => ?_) (fun hc => ?_)
  · replace h := mm_ip hc h
    refine mm_Runs.seq (l := [(65, .lload_n 1, 1), (66, .ldc2_w 118, 3)]) (S2 := (69, [z0, some (.long v1), z2, some (.int v3), z4, z5], [.long (4294967295 : Int64), .long v1], M)) (by decide +kernel) (hO := mm_own_125) rfl ?_
    refine mm_R_lle (t := 77) rfl rfl rfl rfl (fun hc => ?_) (fun hc => ?_)
    · replace h := mm_ip hc h
      refine mm_Runs.seq (l := [(73, .iconst 1, 1), (74, .goto 4, 3)]) (S2 := (78, [z0, some (.long v1), z2, some (.int v3), z4, z5], [.int (1 : Int32)], M)) (by decide +kernel) (hO := mm_own_125) rfl ?_
      exact (ms_125_j78 hd h hA : mp_125_78 L xs (d + 1) v1 (1 : Int32) M o) z0 z2 (some (.int v3)) z4 z5
    · replace h := mm_iq hc h
      refine mm_Runs.seq (l := [(77, .iconst 0, 1)]) (S2 := (78, [z0, some (.long v1), z2, some (.int v3), z4, z5], [.int (0 : Int32)], M)) (by decide +kernel) (hO := mm_own_125) rfl ?_
      exact (ms_125_j78 hd h hA : mp_125_78 L xs (d + 1) v1 (0 : Int32) M o) z0 z2 (some (.int v3)) z4 z5
  · replace h := mm_iq hc h
    refine mm_Runs.seq (l := [(73, .iconst 1, 1), (74, .goto 4, 3)]) (S2 := (78, [z0, some (.long v1), z2, some (.int v3), z4, z5], [.int (1 : Int32)], M)) (by decide +kernel) (hO := mm_own_125) rfl ?_
    exact (ms_125_j78 hd h hA : mp_125_78 L xs (d + 1) v1 (1 : Int32) M o) z0 z2 (some (.int v3)) z4 z5
noncomputable def mf_125 (M : mm_M) : mm_O Int64 := mm_B (mf_125_L7 ((0 : Int64), (1 : Int32), (0 : Int32)) M) (fun r2 M1 => mf_125_j61 r2.1 r2.2 M1)
set_option maxRecDepth 8000 in
set_option maxHeartbeats 4000000 in
theorem ms_125 {L : Nat} {xs : Nat → Int32} {d : Nat} (hd : 8 ≤ d) {M : mm_M} {q : (Int64 ⊕ Nat) × mm_M} {o : mm_E} (h : mf_125 M = some q) (hA : mm_A (mm_Kr mm_wl) q o) : mm_Runs L xs d 125 (0, mm_ent (mm_ml 125) [.ref 41], [], M) o := by
  unfold mf_125 at h
  obtain ⟨d, rfl⟩ := mm_d1 (n := 7) hd
  show mm_Runs L xs (d + 1) 125 (0, [some (.ref 41), none, none, none, none, none], [], M) o
  refine mm_Runs.seq (l := [(0, .lconst 0, 1), (1, .lstore_n 1, 1), (2, .iconst 1, 1), (3, .istore_n 3, 1), (4, .iconst 0, 1), (5, .istore 4, 2)]) (S2 := (7, [some (.ref 41), some (.long (0 : Int64)), none, some (.int (1 : Int32)), some (.int (0 : Int32)), none], [], M)) (by decide +kernel) (hO := mm_own_125) rfl ?_
  have hp : mp_125_7 L xs (d + 1) (0 : Int64) (1 : Int32) (0 : Int32) M o := by
    refine ms_125_L7 hd h hA (fun r2 M1 h => ?_)
    intro y3 y4 y5 y6
    show mm_Runs L xs (d + 1) 125 (61, [y3, some (.long r2.1), y4, some (.int r2.2), y5, y6], [], M1) o
    exact (ms_125_j61 hd h hA : mp_125_61 L xs (d + 1) r2.1 r2.2 M1 o) y3 y4 y5 y6
  exact hp none none
-- 126: PlainPacks$Pieces.readTagDistance(I)J (depth 9)
theorem mm_own_126 : mm_own 126 = 9 := rfl
def mp_126_41 (L : Nat) (xs : Nat → Int32) (d : Nat) (s1 : Int32) (M : mm_M) (o : mm_E) : Prop := ∀ z0 z1 : Option Value, mm_Runs L xs d 126 (41, [z0, z1], [.int s1, .ref 1], M) o
noncomputable def mf_126_j41 (s1 : Int32) (M : mm_M) : mm_O Int64 := mm_B (mf_47 s1 M) (fun r1 M2 => some (.inl r1, M2))
set_option maxRecDepth 8000 in
set_option maxHeartbeats 4000000 in
theorem ms_126_j41 {L : Nat} {xs : Nat → Int32} {d : Nat} (hd : 9 ≤ d) {s1 : Int32} {M : mm_M} {q : (Int64 ⊕ Nat) × mm_M} {o : mm_E} (h : mf_126_j41 s1 M = some q) (hA : mm_A (mm_Kr mm_wl) q o) : mp_126_41 L xs d s1 M o := by
  unfold mf_126_j41 at h
  obtain ⟨d, rfl⟩ := mm_d1 (n := 8) hd
  intro z0 z1
  show mm_Runs L xs (d + 1) 126 (41, [z0, z1], [.int s1, .ref 1], M) o
  refine mm_R_call (v := mm_wl) h hA (k2 := 47) (as := [.ref 1, .int s1]) (r := []) rfl (fun _ => rfl) (fun q hq o ho => ms_47 (by omega) hq ho) (fun r1 M2 h => ?_)
  show mm_Runs L xs (d + 1) 126 (44, [z0, z1], [.long r1], M2) o
  cases h
  exact mm_R_retl rfl rfl hA
noncomputable def mf_126 (v1 : Int32) (M : mm_M) : mm_O Int64 := if (mm_rem v1 (4 : Int32)) = (1 : Int32) then (mm_B (mf_44 M) (fun r1 M2 => some (.inl (((v1 / (32 : Int32)) * (256 : Int32)) + r1).toInt64, M2))) else (if (mm_rem v1 (4 : Int32)) = (2 : Int32) then (mf_126_j41 (2 : Int32) M) else (mf_126_j41 (4 : Int32) M))
set_option maxRecDepth 8000 in
set_option maxHeartbeats 4000000 in
theorem ms_126 {L : Nat} {xs : Nat → Int32} {d : Nat} (hd : 9 ≤ d) {v1 : Int32} {M : mm_M} {q : (Int64 ⊕ Nat) × mm_M} {o : mm_E} (h : mf_126 v1 M = some q) (hA : mm_A (mm_Kr mm_wl) q o) : mm_Runs L xs d 126 (0, mm_ent (mm_ml 126) [.ref 41, .int v1], [], M) o := by
  unfold mf_126 at h
  obtain ⟨d, rfl⟩ := mm_d1 (n := 8) hd
  show mm_Runs L xs (d + 1) 126 (0, [some (.ref 41), some (.int v1)], [], M) o
  refine mm_Runs.seq (l := [(0, .iload_n 1, 1), (1, .iconst 4, 1), (2, .irem, 1), (3, .iconst 1, 1)]) (S2 := (4, [some (.ref 41), some (.int v1)], [.int (1 : Int32), .int (mm_rem v1 (4 : Int32))], M)) (by decide +kernel) (hO := mm_own_126) rfl ?_
  refine mm_R_ine (t := 25) rfl rfl rfl (fun hc => ?_) (fun hc => ?_)
  · replace h := mm_ip hc h
    refine mm_Runs.seq (l := [(7, .iload_n 1, 1), (8, .bipush 32, 2), (10, .idiv, 1), (11, .sipush 256, 3), (14, .imul, 1), (15, .aload_n 0, 1), (16, .getfield 9, 3)]) (S2 := (19, [some (.ref 41), some (.int v1)], [.ref 1, .int ((v1 / (32 : Int32)) * (256 : Int32))], M)) (by decide +kernel) (hO := mm_own_126) rfl ?_
    refine mm_R_call (v := mm_wi) h hA (k2 := 44) (as := [.ref 1]) (r := [.int ((v1 / (32 : Int32)) * (256 : Int32))]) rfl (fun _ => rfl) (fun q hq o ho => ms_44 (by omega) hq ho) (fun r1 M2 h => ?_)
    show mm_Runs L xs (d + 1) 126 (22, [some (.ref 41), some (.int v1)], [.int r1, .int ((v1 / (32 : Int32)) * (256 : Int32))], M2) o
    refine mm_Runs.seq (l := [(22, .iadd, 1), (23, .i2l, 1)]) (S2 := (24, [some (.ref 41), some (.int v1)], [.long (((v1 / (32 : Int32)) * (256 : Int32)) + r1).toInt64], M2)) (by decide +kernel) (hO := mm_own_126) rfl ?_
    cases h
    exact mm_R_retl rfl rfl hA
  · replace h := mm_iq hc h
    refine mm_Runs.seq (l := [(25, .aload_n 0, 1), (26, .getfield 9, 3), (29, .iload_n 1, 1), (30, .iconst 4, 1), (31, .irem, 1), (32, .iconst 2, 1)]) (S2 := (33, [some (.ref 41), some (.int v1)], [.int (2 : Int32), .int (mm_rem v1 (4 : Int32)), .ref 1], M)) (by decide +kernel) (hO := mm_own_126) rfl ?_
    refine mm_R_ine (t := 40) rfl rfl rfl (fun hc => ?_) (fun hc => ?_)
    · replace h := mm_ip hc h
      refine mm_Runs.seq (l := [(36, .iconst 2, 1), (37, .goto 4, 3)]) (S2 := (41, [some (.ref 41), some (.int v1)], [.int (2 : Int32), .ref 1], M)) (by decide +kernel) (hO := mm_own_126) rfl ?_
      exact (ms_126_j41 hd h hA : mp_126_41 L xs (d + 1) (2 : Int32) M o) (some (.ref 41)) (some (.int v1))
    · replace h := mm_iq hc h
      refine mm_Runs.seq (l := [(40, .iconst 4, 1)]) (S2 := (41, [some (.ref 41), some (.int v1)], [.int (4 : Int32), .ref 1], M)) (by decide +kernel) (hO := mm_own_126) rfl ?_
      exact (ms_126_j41 hd h hA : mp_126_41 L xs (d + 1) (4 : Int32) M o) (some (.ref 41)) (some (.int v1))
-- 124: PlainPacks$Pieces.readTags()V (depth 10)
theorem mm_own_124 : mm_own 124 = 9 := rfl
def mp_124_18 (L : Nat) (xs : Nat → Int32) (d : Nat) (v1 : Int64) (s0 : Int32) (M : mm_M) (o : mm_E) : Prop := ∀ z2 z3 z4 z5 z6 z7 : Option Value, mm_Runs L xs d 124 (18, [some (.ref 41), some (.long v1), z2, z3, z4, z5, z6, z7], [.int s0], M) o
def mp_124_23 (L : Nat) (xs : Nat → Int32) (d : Nat) (v1 : Int64) (v3 : Int32) (M : mm_M) (o : mm_E) : Prop := ∀ z2 z4 z5 z6 z7 : Option Value, mm_Runs L xs d 124 (23, [some (.ref 41), some (.long v1), z2, some (.int v3), z4, z5, z6, z7], [], M) o
def mp_124_195 (L : Nat) (xs : Nat → Int32) (d : Nat) (M : mm_M) (o : mm_E) : Prop := ∀ z0 z1 z2 z3 z4 z5 z6 z7 : Option Value, mm_Runs L xs d 124 (195, [z0, z1, z2, z3, z4, z5, z6, z7], [], M) o
def mp_124_90 (L : Nat) (xs : Nat → Int32) (d : Nat) (v1 : Int64) (v3 : Int32) (s0 : Int64) (s1 : Int64) (M : mm_M) (o : mm_E) : Prop := ∀ z2 z4 z5 z6 z7 : Option Value, mm_Runs L xs d 124 (90, [some (.ref 41), some (.long v1), z2, some (.int v3), z4, z5, z6, z7], [.long s1, .long s0], M) o
def mp_124_114 (L : Nat) (xs : Nat → Int32) (d : Nat) (v1 : Int64) (v3 : Int32) (v6 : Int64) (s0 : Int32) (M : mm_M) (o : mm_E) : Prop := ∀ z2 z4 z5 z7 : Option Value, mm_Runs L xs d 124 (114, [some (.ref 41), some (.long v1), z2, some (.int v3), z4, z5, some (.long v6), z7], [.int s0], M) o
noncomputable def mf_124_j114 (v1 : Int64) (v3 : Int32) (v6 : Int64) (s0 : Int32) (M : mm_M) : mm_O ((Int32) ⊕ (Unit)) := mm_B (mf_27 s0 M) (fun _ M1 => mm_B (mf_120 v6 M1) (fun _ M2 => some (.inl (.inl (v3 + (1 : Int32))), M2)))
set_option maxRecDepth 8000 in
set_option maxHeartbeats 4000000 in
theorem ms_124_j114 {L : Nat} {xs : Nat → Int32} {d : Nat} (hd : 10 ≤ d) {v1 : Int64} {v3 : Int32} {v6 : Int64} {s0 : Int32} {M : mm_M} {q : (((Int32) ⊕ (Unit)) ⊕ Nat) × mm_M} {o : mm_E} (h : mf_124_j114 v1 v3 v6 s0 M = some q) (hA : mm_A (mm_K2 (fun s M o => mp_124_23 L xs (d) v1 s M o) (fun r M o => mp_124_195 L xs (d) M o)) q o) : mp_124_114 L xs d v1 v3 v6 s0 M o := by
  unfold mf_124_j114 at h
  obtain ⟨d, rfl⟩ := mm_d1 (n := 9) hd
  intro z2 z4 z5 z7
  show mm_Runs L xs (d + 1) 124 (114, [some (.ref 41), some (.long v1), z2, some (.int v3), z4, z5, some (.long v6), z7], [.int s0], M) o
  refine mm_R_call (v := mm_wv) h hA (k2 := 27) (as := [.int s0]) (r := []) rfl (fun _ => rfl) (fun q hq o ho => ms_27 (by omega) hq ho) (fun _ M1 h => ?_)
  show mm_Runs L xs (d + 1) 124 (117, [some (.ref 41), some (.long v1), z2, some (.int v3), z4, z5, some (.long v6), z7], [], M1) o
  refine mm_Runs.seq (l := [(117, .aload_n 0, 1), (118, .lload 6, 2)]) (S2 := (120, [some (.ref 41), some (.long v1), z2, some (.int v3), z4, z5, some (.long v6), z7], [.long v6, .ref 41], M1)) (by decide +kernel) (hO := mm_own_124) rfl ?_
  refine mm_R_call (v := mm_wv) h hA (k2 := 120) (as := [.ref 41, .long v6]) (r := []) rfl (fun _ => rfl) (fun q hq o ho => ms_120 (by omega) hq ho) (fun _ M2 h => ?_)
  show mm_Runs L xs (d + 1) 124 (123, [some (.ref 41), some (.long v1), z2, some (.int v3), z4, z5, some (.long v6), z7], [], M2) o
  refine mm_Runs.seq (l := [(123, .goto 66, 3), (189, .iinc 3 1, 3), (192, .goto (-169), 3)]) (S2 := (23, [some (.ref 41), some (.long v1), (mm_no2 z2), some (.int (v3 + (1 : Int32))), z4, z5, some (.long v6), z7], [], M2)) (by decide +kernel) (hO := mm_own_124) rfl ?_
  cases h
  exact (show mp_124_23 L xs (d + 1) v1 (v3 + (1 : Int32)) M2 o from hA) ((mm_no2 z2)) z4 z5 (some (.long v6)) z7
noncomputable def mf_124_j90 (v1 : Int64) (v3 : Int32) (s0 : Int64) (s1 : Int64) (M : mm_M) : mm_O ((Int32) ⊕ (Unit)) := if v1 < ((M.1 3 1).toInt64 + (s0 + s1)) then (mf_124_j114 v1 v3 (s0 + s1) (1 : Int32) M) else (mf_124_j114 v1 v3 (s0 + s1) (0 : Int32) M)
set_option maxRecDepth 8000 in
set_option maxHeartbeats 4000000 in
theorem ms_124_j90 {L : Nat} {xs : Nat → Int32} {d : Nat} (hd : 10 ≤ d) {v1 : Int64} {v3 : Int32} {s0 : Int64} {s1 : Int64} {M : mm_M} {q : (((Int32) ⊕ (Unit)) ⊕ Nat) × mm_M} {o : mm_E} (h : mf_124_j90 v1 v3 s0 s1 M = some q) (hA : mm_A (mm_K2 (fun s M o => mp_124_23 L xs (d) v1 s M o) (fun r M o => mp_124_195 L xs (d) M o)) q o) : mp_124_90 L xs d v1 v3 s0 s1 M o := by
  unfold mf_124_j90 at h
  obtain ⟨d, rfl⟩ := mm_d1 (n := 9) hd
  intro z2 z4 z5 z6 z7
  show mm_Runs L xs (d + 1) 124 (90, [some (.ref 41), some (.long v1), z2, some (.int v3), z4, z5, z6, z7], [.long s1, .long s0], M) o
  refine mm_Runs.seq (l := [(90, .ladd, 1), (91, .lstore 6, 2), (93, .aload_n 0, 1), (94, .getfield 15, 3), (97, .getfield 56, 3), (100, .i2l, 1), (101, .lload 6, 2), (103, .ladd, 1), (104, .lload_n 1, 1)]) (S2 := (105, [some (.ref 41), some (.long v1), z2, some (.int v3), z4, (mm_no2 z5), some (.long (s0 + s1)), none], [.long v1, .long ((M.1 3 1).toInt64 + (s0 + s1))], M)) (by decide +kernel) (hO := mm_own_124) rfl ?_
  refine mm_R_lle (t := 113) rfl rfl rfl rfl (fun hc => ?_) (fun hc => ?_)
  · replace h := mm_ip hc h
    refine mm_Runs.seq (l := [(109, .iconst 1, 1), (110, .goto 4, 3)]) (S2 := (114, [some (.ref 41), some (.long v1), z2, some (.int v3), z4, (mm_no2 z5), some (.long (s0 + s1)), none], [.int (1 : Int32)], M)) (by decide +kernel) (hO := mm_own_124) rfl ?_
    exact (ms_124_j114 hd h hA : mp_124_114 L xs (d + 1) v1 v3 (s0 + s1) (1 : Int32) M o) z2 z4 ((mm_no2 z5)) none
  · replace h := mm_iq hc h
    refine mm_Runs.seq (l := [(113, .iconst 0, 1)]) (S2 := (114, [some (.ref 41), some (.long v1), z2, some (.int v3), z4, (mm_no2 z5), some (.long (s0 + s1)), none], [.int (0 : Int32)], M)) (by decide +kernel) (hO := mm_own_124) rfl ?_
    exact (ms_124_j114 hd h hA : mp_124_114 L xs (d + 1) v1 v3 (s0 + s1) (0 : Int32) M o) z2 z4 ((mm_no2 z5)) none
def mp_124_148 (L : Nat) (xs : Nat → Int32) (d : Nat) (v1 : Int64) (v3 : Int32) (v4 : Int32) (s0 : Int32) (M : mm_M) (o : mm_E) : Prop := ∀ z2 z5 z6 z7 : Option Value, mm_Runs L xs d 124 (148, [some (.ref 41), some (.long v1), z2, some (.int v3), some (.int v4), z5, z6, z7], [.int s0], M) o
def mp_124_171 (L : Nat) (xs : Nat → Int32) (d : Nat) (v1 : Int64) (v3 : Int32) (v4 : Int32) (v6 : Int32) (s0 : Int32) (M : mm_M) (o : mm_E) : Prop := ∀ z2 z5 z7 : Option Value, mm_Runs L xs d 124 (171, [some (.ref 41), some (.long v1), z2, some (.int v3), some (.int v4), z5, some (.int v6), z7], [.int s0], M) o
noncomputable def mf_124_j171 (v1 : Int64) (v3 : Int32) (v4 : Int32) (v6 : Int32) (s0 : Int32) (M : mm_M) : mm_O ((Int32) ⊕ (Unit)) := mm_B (mf_27 s0 M) (fun _ M1 => mm_B (mf_126 v4 M1) (fun r2 M3 => mm_B (mf_53 v6 r2 M3) (fun _ M4 => some (.inl (.inl (v3 + (1 : Int32))), M4))))
set_option maxRecDepth 8000 in
set_option maxHeartbeats 4000000 in
theorem ms_124_j171 {L : Nat} {xs : Nat → Int32} {d : Nat} (hd : 10 ≤ d) {v1 : Int64} {v3 : Int32} {v4 : Int32} {v6 : Int32} {s0 : Int32} {M : mm_M} {q : (((Int32) ⊕ (Unit)) ⊕ Nat) × mm_M} {o : mm_E} (h : mf_124_j171 v1 v3 v4 v6 s0 M = some q) (hA : mm_A (mm_K2 (fun s M o => mp_124_23 L xs (d) v1 s M o) (fun r M o => mp_124_195 L xs (d) M o)) q o) : mp_124_171 L xs d v1 v3 v4 v6 s0 M o := by
  unfold mf_124_j171 at h
  obtain ⟨d, rfl⟩ := mm_d1 (n := 9) hd
  intro z2 z5 z7
  show mm_Runs L xs (d + 1) 124 (171, [some (.ref 41), some (.long v1), z2, some (.int v3), some (.int v4), z5, some (.int v6), z7], [.int s0], M) o
  refine mm_R_call (v := mm_wv) h hA (k2 := 27) (as := [.int s0]) (r := []) rfl (fun _ => rfl) (fun q hq o ho => ms_27 (by omega) hq ho) (fun _ M1 h => ?_)
  show mm_Runs L xs (d + 1) 124 (174, [some (.ref 41), some (.long v1), z2, some (.int v3), some (.int v4), z5, some (.int v6), z7], [], M1) o
  refine mm_Runs.seq (l := [(174, .aload_n 0, 1), (175, .getfield 15, 3), (178, .iload 6, 2), (180, .aload_n 0, 1), (181, .iload 4, 2)]) (S2 := (183, [some (.ref 41), some (.long v1), z2, some (.int v3), some (.int v4), z5, some (.int v6), z7], [.int v4, .ref 41, .int v6, .ref 3], M1)) (by decide +kernel) (hO := mm_own_124) rfl ?_
  refine mm_R_call (v := mm_wl) h hA (k2 := 126) (as := [.ref 41, .int v4]) (r := [.int v6, .ref 3]) rfl (fun _ => rfl) (fun q hq o ho => ms_126 (by omega) hq ho) (fun r2 M3 h => ?_)
  show mm_Runs L xs (d + 1) 124 (186, [some (.ref 41), some (.long v1), z2, some (.int v3), some (.int v4), z5, some (.int v6), z7], [.long r2, .int v6, .ref 3], M3) o
  refine mm_R_call (v := mm_wv) h hA (k2 := 53) (as := [.ref 3, .int v6, .long r2]) (r := []) rfl (fun _ => rfl) (fun q hq o ho => ms_53 (by omega) hq ho) (fun _ M4 h => ?_)
  show mm_Runs L xs (d + 1) 124 (189, [some (.ref 41), some (.long v1), z2, some (.int v3), some (.int v4), z5, some (.int v6), z7], [], M4) o
  refine mm_Runs.seq (l := [(189, .iinc 3 1, 3), (192, .goto (-169), 3)]) (S2 := (23, [some (.ref 41), some (.long v1), (mm_no2 z2), some (.int (v3 + (1 : Int32))), some (.int v4), z5, some (.int v6), z7], [], M4)) (by decide +kernel) (hO := mm_own_124) rfl ?_
  cases h
  exact (show mp_124_23 L xs (d + 1) v1 (v3 + (1 : Int32)) M4 o from hA) ((mm_no2 z2)) (some (.int v4)) z5 (some (.int v6)) z7
noncomputable def mf_124_j148 (v1 : Int64) (v3 : Int32) (v4 : Int32) (s0 : Int32) (M : mm_M) : mm_O ((Int32) ⊕ (Unit)) := if v1 < ((M.1 3 1) + s0).toInt64 then (mf_124_j171 v1 v3 v4 s0 (1 : Int32) M) else (mf_124_j171 v1 v3 v4 s0 (0 : Int32) M)
set_option maxRecDepth 8000 in
set_option maxHeartbeats 4000000 in
theorem ms_124_j148 {L : Nat} {xs : Nat → Int32} {d : Nat} (hd : 10 ≤ d) {v1 : Int64} {v3 : Int32} {v4 : Int32} {s0 : Int32} {M : mm_M} {q : (((Int32) ⊕ (Unit)) ⊕ Nat) × mm_M} {o : mm_E} (h : mf_124_j148 v1 v3 v4 s0 M = some q) (hA : mm_A (mm_K2 (fun s M o => mp_124_23 L xs (d) v1 s M o) (fun r M o => mp_124_195 L xs (d) M o)) q o) : mp_124_148 L xs d v1 v3 v4 s0 M o := by
  unfold mf_124_j148 at h
  obtain ⟨d, rfl⟩ := mm_d1 (n := 9) hd
  intro z2 z5 z6 z7
  show mm_Runs L xs (d + 1) 124 (148, [some (.ref 41), some (.long v1), z2, some (.int v3), some (.int v4), z5, z6, z7], [.int s0], M) o
  refine mm_Runs.seq (l := [(148, .istore 6, 2), (150, .aload_n 0, 1), (151, .getfield 15, 3), (154, .getfield 56, 3), (157, .iload 6, 2), (159, .iadd, 1), (160, .i2l, 1), (161, .lload_n 1, 1)]) (S2 := (162, [some (.ref 41), some (.long v1), z2, some (.int v3), some (.int v4), (mm_no2 z5), some (.int s0), z7], [.long v1, .long ((M.1 3 1) + s0).toInt64], M)) (by decide +kernel) (hO := mm_own_124) rfl ?_
  refine mm_R_lle (t := 170) rfl rfl rfl rfl (fun hc => ?_) (fun hc => ?_)
  · replace h := mm_ip hc h
    refine mm_Runs.seq (l := [(166, .iconst 1, 1), (167, .goto 4, 3)]) (S2 := (171, [some (.ref 41), some (.long v1), z2, some (.int v3), some (.int v4), (mm_no2 z5), some (.int s0), z7], [.int (1 : Int32)], M)) (by decide +kernel) (hO := mm_own_124) rfl ?_
    exact (ms_124_j171 hd h hA : mp_124_171 L xs (d + 1) v1 v3 v4 s0 (1 : Int32) M o) z2 ((mm_no2 z5)) z7
  · replace h := mm_iq hc h
    refine mm_Runs.seq (l := [(170, .iconst 0, 1)]) (S2 := (171, [some (.ref 41), some (.long v1), z2, some (.int v3), some (.int v4), (mm_no2 z5), some (.int s0), z7], [.int (0 : Int32)], M)) (by decide +kernel) (hO := mm_own_124) rfl ?_
    exact (ms_124_j171 hd h hA : mp_124_171 L xs (d + 1) v1 v3 v4 s0 (0 : Int32) M o) z2 ((mm_no2 z5)) z7
noncomputable def mf_124_b23 (v1 : Int64) (v3 : Int32) (M : mm_M) : mm_O ((Int32) ⊕ (Unit)) := if v3 < (1000000 : Int32) then (if (M.1 3 1).toInt64 < v1 then (mm_B (mf_44 M) (fun r1 M2 => if (mm_rem r1 (4 : Int32)) = 0 then (if (mm_shr r1 (2 : Int32)) < (60 : Int32) then (mf_124_j90 v1 v3 (1 : Int64) (mm_shr r1 (2 : Int32)).toInt64 M2) else (mm_B (mf_47 ((mm_shr r1 (2 : Int32)) - (59 : Int32)) M2) (fun r3 M4 => mf_124_j90 v1 v3 (1 : Int64) r3 M4))) else (if (mm_rem r1 (4 : Int32)) = (1 : Int32) then (mf_124_j148 v1 v3 r1 ((4 : Int32) + (mm_rem (mm_shr r1 (2 : Int32)) (8 : Int32))) M2) else (mf_124_j148 v1 v3 r1 ((mm_shr r1 (2 : Int32)) + (1 : Int32)) M2)))) else (some (.inl (.inr ()), M))) else (some (.inl (.inr ()), M))
noncomputable def mf_124_L23 (v1 : Int64) (s : Int32) (M : mm_M) : mm_O (Unit) := mm_L (fun s M => mf_124_b23 v1 s M) s M
set_option maxRecDepth 8000 in
set_option maxHeartbeats 4000000 in
theorem ms_124_b23 {L : Nat} {xs : Nat → Int32} {d : Nat} (hd : 10 ≤ d) {v1 : Int64} {v3 : Int32} {M : mm_M} {q : (((Int32) ⊕ (Unit)) ⊕ Nat) × mm_M} {o : mm_E} (h : mf_124_b23 v1 v3 M = some q) (hA : mm_A (mm_K2 (fun s M o => mp_124_23 L xs (d) v1 s M o) (fun r M o => mp_124_195 L xs (d) M o)) q o) : mp_124_23 L xs d v1 v3 M o := by
  unfold mf_124_b23 at h
  obtain ⟨d, rfl⟩ := mm_d1 (n := 9) hd
  intro z2 z4 z5 z6 z7
  show mm_Runs L xs (d + 1) 124 (23, [some (.ref 41), some (.long v1), z2, some (.int v3), z4, z5, z6, z7], [], M) o
  refine mm_Runs.seq (l := [(23, .iload_n 3, 1), (24, .ldc 27, 2)]) (S2 := (26, [some (.ref 41), some (.long v1), z2, some (.int v3), z4, z5, z6, z7], [.int (1000000 : Int32), .int v3], M)) (by decide +kernel) (hO := mm_own_124) rfl ?_
  refine mm_R_ige (t := 195) rfl rfl rfl (fun hc => ?_) (fun hc => ?_)
  · replace h := mm_ip hc h
    refine mm_Runs.seq (l := [(29, .aload_n 0, 1), (30, .getfield 15, 3), (33, .getfield 56, 3), (36, .i2l, 1), (37, .lload_n 1, 1)]) (S2 := (38, [some (.ref 41), some (.long v1), z2, some (.int v3), z4, z5, z6, z7], [.long v1, .long (M.1 3 1).toInt64], M)) (by decide +kernel) (hO := mm_own_124) rfl ?_
    refine mm_R_lge (t := 195) rfl rfl rfl rfl (fun hc => ?_) (fun hc => ?_)
    · replace h := mm_ip hc h
      refine mm_Runs.seq (l := [(42, .aload_n 0, 1), (43, .getfield 9, 3)]) (S2 := (46, [some (.ref 41), some (.long v1), z2, some (.int v3), z4, z5, z6, z7], [.ref 1], M)) (by decide +kernel) (hO := mm_own_124) rfl ?_
      refine mm_R_call (v := mm_wi) h hA (k2 := 44) (as := [.ref 1]) (r := []) rfl (fun _ => rfl) (fun q hq o ho => ms_44 (by omega) hq ho) (fun r1 M2 h => ?_)
      show mm_Runs L xs (d + 1) 124 (49, [some (.ref 41), some (.long v1), z2, some (.int v3), z4, z5, z6, z7], [.int r1], M2) o
      refine mm_Runs.seq (l := [(49, .istore 4, 2), (51, .iload 4, 2), (53, .iconst 2, 1), (54, .ishr, 1), (55, .istore 5, 2), (57, .iload 4, 2), (59, .iconst 4, 1), (60, .irem, 1)]) (S2 := (61, [some (.ref 41), some (.long v1), z2, some (.int v3), some (.int r1), some (.int (mm_shr r1 (2 : Int32))), z6, z7], [.int (mm_rem r1 (4 : Int32))], M2)) (by decide +kernel) (hO := mm_own_124) rfl ?_
      refine mm_R_zne (t := 126) rfl rfl rfl (fun hc => ?_) (fun hc => ?_)
      · replace h := mm_ip hc h
        refine mm_Runs.seq (l := [(64, .lconst 1, 1), (65, .iload 5, 2), (67, .bipush 60, 2)]) (S2 := (69, [some (.ref 41), some (.long v1), z2, some (.int v3), some (.int r1), some (.int (mm_shr r1 (2 : Int32))), z6, z7], [.int (60 : Int32), .int (mm_shr r1 (2 : Int32)), .long (1 : Int64)], M2)) (by decide +kernel) (hO := mm_own_124) rfl ?_
        refine mm_R_ige (t := 78) rfl rfl rfl (fun hc => ?_) (fun hc => ?_)
        · replace h := mm_ip hc h
          refine mm_Runs.seq (l := [(72, .iload 5, 2), (74, .i2l, 1), (75, .goto 15, 3)]) (S2 := (90, [some (.ref 41), some (.long v1), z2, some (.int v3), some (.int r1), some (.int (mm_shr r1 (2 : Int32))), z6, z7], [.long (mm_shr r1 (2 : Int32)).toInt64, .long (1 : Int64)], M2)) (by decide +kernel) (hO := mm_own_124) rfl ?_
          exact (ms_124_j90 hd h hA : mp_124_90 L xs (d + 1) v1 v3 (1 : Int64) (mm_shr r1 (2 : Int32)).toInt64 M2 o) z2 (some (.int r1)) (some (.int (mm_shr r1 (2 : Int32)))) z6 z7
        · replace h := mm_iq hc h
          refine mm_Runs.seq (l := [(78, .aload_n 0, 1), (79, .getfield 9, 3), (82, .iload 5, 2), (84, .bipush 59, 2), (86, .isub, 1)]) (S2 := (87, [some (.ref 41), some (.long v1), z2, some (.int v3), some (.int r1), some (.int (mm_shr r1 (2 : Int32))), z6, z7], [.int ((mm_shr r1 (2 : Int32)) - (59 : Int32)), .ref 1, .long (1 : Int64)], M2)) (by decide +kernel) (hO := mm_own_124) rfl ?_
          refine mm_R_call (v := mm_wl) h hA (k2 := 47) (as := [.ref 1, .int ((mm_shr r1 (2 : Int32)) - (59 : Int32))]) (r := [.long (1 : Int64)]) rfl (fun _ => rfl) (fun q hq o ho => ms_47 (by omega) hq ho) (fun r3 M4 h => ?_)
          show mm_Runs L xs (d + 1) 124 (90, [some (.ref 41), some (.long v1), z2, some (.int v3), some (.int r1), some (.int (mm_shr r1 (2 : Int32))), z6, z7], [.long r3, .long (1 : Int64)], M4) o
          exact (ms_124_j90 hd h hA : mp_124_90 L xs (d + 1) v1 v3 (1 : Int64) r3 M4 o) z2 (some (.int r1)) (some (.int (mm_shr r1 (2 : Int32)))) z6 z7
      · replace h := mm_iq hc h
        refine mm_Runs.seq (l := [(126, .iload 4, 2), (128, .iconst 4, 1), (129, .irem, 1), (130, .iconst 1, 1)]) (S2 := (131, [some (.ref 41), some (.long v1), z2, some (.int v3), some (.int r1), some (.int (mm_shr r1 (2 : Int32))), z6, z7], [.int (1 : Int32), .int (mm_rem r1 (4 : Int32))], M2)) (by decide +kernel) (hO := mm_own_124) rfl ?_
        refine mm_R_ine (t := 144) rfl rfl rfl (fun hc => ?_) (fun hc => ?_)
        · replace h := mm_ip hc h
          refine mm_Runs.seq (l := [(134, .iconst 4, 1), (135, .iload 5, 2), (137, .bipush 8, 2), (139, .irem, 1), (140, .iadd, 1), (141, .goto 7, 3)]) (S2 := (148, [some (.ref 41), some (.long v1), z2, some (.int v3), some (.int r1), some (.int (mm_shr r1 (2 : Int32))), z6, z7], [.int ((4 : Int32) + (mm_rem (mm_shr r1 (2 : Int32)) (8 : Int32)))], M2)) (by decide +kernel) (hO := mm_own_124) rfl ?_
          exact (ms_124_j148 hd h hA : mp_124_148 L xs (d + 1) v1 v3 r1 ((4 : Int32) + (mm_rem (mm_shr r1 (2 : Int32)) (8 : Int32))) M2 o) z2 (some (.int (mm_shr r1 (2 : Int32)))) z6 z7
        · replace h := mm_iq hc h
          refine mm_Runs.seq (l := [(144, .iload 5, 2), (146, .iconst 1, 1), (147, .iadd, 1)]) (S2 := (148, [some (.ref 41), some (.long v1), z2, some (.int v3), some (.int r1), some (.int (mm_shr r1 (2 : Int32))), z6, z7], [.int ((mm_shr r1 (2 : Int32)) + (1 : Int32))], M2)) (by decide +kernel) (hO := mm_own_124) rfl ?_
          exact (ms_124_j148 hd h hA : mp_124_148 L xs (d + 1) v1 v3 r1 ((mm_shr r1 (2 : Int32)) + (1 : Int32)) M2 o) z2 (some (.int (mm_shr r1 (2 : Int32)))) z6 z7
    · replace h := mm_iq hc h
      cases h
      exact (show mp_124_195 L xs (d + 1) M o from hA) (some (.ref 41)) (some (.long v1)) z2 (some (.int v3)) z4 z5 z6 z7
  · replace h := mm_iq hc h
    cases h
    exact (show mp_124_195 L xs (d + 1) M o from hA) (some (.ref 41)) (some (.long v1)) z2 (some (.int v3)) z4 z5 z6 z7
theorem ms_124_L23 {L : Nat} {xs : Nat → Int32} {d : Nat} (hd : 10 ≤ d) {v1 : Int64} {v3 : Int32} {β : Type} {K : β → mm_M → mm_E → Prop} {F : (Unit) → mm_M → mm_O β} {M : mm_M} {q : (β ⊕ Nat) × mm_M} {o : mm_E} (h : mm_B (mf_124_L23 v1 v3 M) F = some q) (hA : mm_A K q o) (hx : ∀ (r : (Unit)) (M2 : mm_M), F r M2 = some q → (fun r M o => mp_124_195 L xs (d) M o) r M2 o) : mp_124_23 L xs d v1 v3 M o := mm_R_loop (s := v3) (M := M) (P := (fun s M o => mp_124_23 L xs (d) v1 s M o)) (X := (fun r M o => mp_124_195 L xs (d) M o)) h hA (fun s M q hq hA => ms_124_b23 hd hq hA) hx
noncomputable def mf_124_j18 (v1 : Int64) (s0 : Int32) (M : mm_M) : mm_O Unit := mm_B (mf_27 s0 M) (fun _ M1 => mm_B (mf_124_L23 v1 (0 : Int32) M1) (fun r3 M2 => some (.inl (), M2)))
set_option maxRecDepth 8000 in
set_option maxHeartbeats 4000000 in
theorem ms_124_j18 {L : Nat} {xs : Nat → Int32} {d : Nat} (hd : 10 ≤ d) {v1 : Int64} {s0 : Int32} {M : mm_M} {q : (Unit ⊕ Nat) × mm_M} {o : mm_E} (h : mf_124_j18 v1 s0 M = some q) (hA : mm_A (mm_Kr mm_wv) q o) : mp_124_18 L xs d v1 s0 M o := by
  unfold mf_124_j18 at h
  obtain ⟨d, rfl⟩ := mm_d1 (n := 9) hd
  intro z2 z3 z4 z5 z6 z7
  show mm_Runs L xs (d + 1) 124 (18, [some (.ref 41), some (.long v1), z2, z3, z4, z5, z6, z7], [.int s0], M) o
  refine mm_R_call (v := mm_wv) h hA (k2 := 27) (as := [.int s0]) (r := []) rfl (fun _ => rfl) (fun q hq o ho => ms_27 (by omega) hq ho) (fun _ M1 h => ?_)
  show mm_Runs L xs (d + 1) 124 (21, [some (.ref 41), some (.long v1), z2, z3, z4, z5, z6, z7], [], M1) o
  refine mm_Runs.seq (l := [(21, .iconst 0, 1), (22, .istore_n 3, 1)]) (S2 := (23, [some (.ref 41), some (.long v1), (mm_no2 z2), some (.int (0 : Int32)), z4, z5, z6, z7], [], M1)) (by decide +kernel) (hO := mm_own_124) rfl ?_
  have hp : mp_124_23 L xs (d + 1) v1 (0 : Int32) M1 o := by
    refine ms_124_L23 hd h hA (fun r3 M2 h => ?_)
    intro y4 y5 y6 y7 y8 y9 y10 y11
    show mm_Runs L xs (d + 1) 124 (195, [y4, y5, y6, y7, y8, y9, y10, y11], [], M2) o
    cases h
    exact mm_R_retv rfl rfl hA
  exact hp ((mm_no2 z2)) z4 z5 z6 z7
noncomputable def mf_124 (M : mm_M) : mm_O Unit := mm_B (mf_125 M) (fun r1 M2 => if (16384 : Int64) < r1 then (mf_124_j18 r1 (1 : Int32) M2) else (mf_124_j18 r1 (0 : Int32) M2))
set_option maxRecDepth 8000 in
set_option maxHeartbeats 4000000 in
theorem ms_124 {L : Nat} {xs : Nat → Int32} {d : Nat} (hd : 10 ≤ d) {M : mm_M} {q : (Unit ⊕ Nat) × mm_M} {o : mm_E} (h : mf_124 M = some q) (hA : mm_A (mm_Kr mm_wv) q o) : mm_Runs L xs d 124 (0, mm_ent (mm_ml 124) [.ref 41], [], M) o := by
  unfold mf_124 at h
  obtain ⟨d, rfl⟩ := mm_d1 (n := 9) hd
  show mm_Runs L xs (d + 1) 124 (0, [some (.ref 41), none, none, none, none, none, none, none], [], M) o
  refine mm_Runs.seq (l := [(0, .aload_n 0, 1)]) (S2 := (1, [some (.ref 41), none, none, none, none, none, none, none], [.ref 41], M)) (by decide +kernel) (hO := mm_own_124) rfl ?_
  refine mm_R_call (v := mm_wl) h hA (k2 := 125) (as := [.ref 41]) (r := []) rfl (fun _ => rfl) (fun q hq o ho => ms_125 (by omega) hq ho) (fun r1 M2 h => ?_)
  show mm_Runs L xs (d + 1) 124 (4, [some (.ref 41), none, none, none, none, none, none, none], [.long r1], M2) o
  refine mm_Runs.seq (l := [(4, .lstore_n 1, 1), (5, .lload_n 1, 1), (6, .ldc2_w 113, 3)]) (S2 := (9, [some (.ref 41), some (.long r1), none, none, none, none, none, none], [.long (16384 : Int64), .long r1], M2)) (by decide +kernel) (hO := mm_own_124) rfl ?_
  refine mm_R_lle (t := 17) rfl rfl rfl rfl (fun hc => ?_) (fun hc => ?_)
  · replace h := mm_ip hc h
    refine mm_Runs.seq (l := [(13, .iconst 1, 1), (14, .goto 4, 3)]) (S2 := (18, [some (.ref 41), some (.long r1), none, none, none, none, none, none], [.int (1 : Int32)], M2)) (by decide +kernel) (hO := mm_own_124) rfl ?_
    exact (ms_124_j18 hd h hA : mp_124_18 L xs (d + 1) r1 (1 : Int32) M2 o) none none none none none none
  · replace h := mm_iq hc h
    refine mm_Runs.seq (l := [(17, .iconst 0, 1)]) (S2 := (18, [some (.ref 41), some (.long r1), none, none, none, none, none, none], [.int (0 : Int32)], M2)) (by decide +kernel) (hO := mm_own_124) rfl ?_
    exact (ms_124_j18 hd h hA : mp_124_18 L xs (d + 1) r1 (0 : Int32) M2 o) none none none none none none
