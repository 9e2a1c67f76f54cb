/-! MEANINGS ARE SOUND 15 -/
-- 206: PlainPacksModel.dynamic()V (depth 5)
theorem mm_own_206 : mm_own 206 = 12 := rfl
def mp_206_35 (L : Nat) (xs : Nat → Int32) (d : Nat) (M : mm_M) (o : mm_E) : Prop := ∀ z1 z2 : Option Value, mm_Runs L xs d 206 (35, [some (.ref 84), z1, z2], [], M) o
def mp_206_67 (L : Nat) (xs : Nat → Int32) (d : Nat) (M : mm_M) (o : mm_E) : Prop := ∀ z1 z2 : Option Value, mm_Runs L xs d 206 (67, [some (.ref 84), z1, z2], [], M) o
def mp_206_78 (L : Nat) (xs : Nat → Int32) (d : Nat) (v1 : Int32) (v2 : Int32) (M : mm_M) (o : mm_E) : Prop := mm_Runs L xs d 206 (78, [some (.ref 84), some (.int v1), some (.int v2)], [], M) o
def mp_206_120 (L : Nat) (xs : Nat → Int32) (d : Nat) (M : mm_M) (o : mm_E) : Prop := ∀ z1 z2 : Option Value, mm_Runs L xs d 206 (120, [some (.ref 84), z1, z2], [], M) o
def mp_206_113 (L : Nat) (xs : Nat → Int32) (d : Nat) (v1 : Int32) (v2 : Int32) (s1 : Int32) (s2 : Int32) (M : mm_M) (o : mm_E) : Prop := mm_Runs L xs d 206 (113, [some (.ref 84), some (.int v1), some (.int v2)], [.int s2, .int s1, .ref 87], M) o
set_option maxRecDepth 8000 in
set_option maxHeartbeats 4000000 in
theorem ms_206_j113 {L : Nat} {xs : Nat → Int32} {d : Nat} (hd : 5 ≤ d) {v1 : Int32} {v2 : Int32} {s1 : Int32} {s2 : Int32} {M : mm_M} {q : (((Int32) ⊕ (Unit)) ⊕ Nat) × mm_M} {o : mm_E} (h : mf_206_j113 v1 v2 s1 s2 M = some q) (hA : mm_A (mm_K2 (fun s M o => mp_206_78 L xs (d) v1 s M o) (fun r M o => mp_206_120 L xs (d) M o)) q o) : mp_206_113 L xs d v1 v2 s1 s2 M o := by
  unfold mf_206_j113 at h
  obtain ⟨d, rfl⟩ := mm_d1 (n := 4) hd
  show mm_Runs L xs (d + 1) 206 (113, [some (.ref 84), some (.int v1), some (.int v2)], [.int s2, .int s1, .ref 87], M) o
  obtain ⟨hb, h⟩ := mm_gd h
  refine mm_R_iast rfl rfl hb ?_
  refine mm_Runs.seq (l := [(114, .iinc 2 1, 3), (117, .goto (-39), 3)]) (S2 := (78, [some (.ref 84), some (.int v1), some (.int (v2 + (1 : Int32)))], [], (mm_pi M 87 s1.toNatClampNeg s2))) (by decide +kernel) (hO := mm_own_206) rfl ?_
  cases h
  exact (show mp_206_78 L xs (d + 1) v1 (v2 + (1 : Int32)) (mm_pi M 87 s1.toNatClampNeg s2) o from hA)
set_option maxRecDepth 8000 in
set_option maxHeartbeats 4000000 in
theorem ms_206_b78 {L : Nat} {xs : Nat → Int32} {d : Nat} (hd : 5 ≤ d) {v1 : Int32} {v2 : Int32} {M : mm_M} {q : (((Int32) ⊕ (Unit)) ⊕ Nat) × mm_M} {o : mm_E} (h : mf_206_b78 v1 v2 M = some q) (hA : mm_A (mm_K2 (fun s M o => mp_206_78 L xs (d) v1 s M o) (fun r M o => mp_206_120 L xs (d) M o)) q o) : mp_206_78 L xs d v1 v2 M o := by
  unfold mf_206_b78 at h
  obtain ⟨d, rfl⟩ := mm_d1 (n := 4) hd
  show mm_Runs L xs (d + 1) 206 (78, [some (.ref 84), some (.int v1), some (.int v2)], [], M) o
  refine mm_Runs.seq (l := [(78, .iload_n 2, 1), (79, .bipush 19, 2)]) (S2 := (81, [some (.ref 84), some (.int v1), some (.int v2)], [.int (19 : Int32), .int v2], M)) (by decide +kernel) (hO := mm_own_206) rfl ?_
  refine mm_R_ige (t := 120) rfl rfl rfl (fun hc => ?_) (fun hc => ?_)
  · replace h := mm_ip hc h
    refine mm_Runs.seq (l := [(84, .aload_n 0, 1), (85, .getfield 16, 3), (88, .sipush 600, 3), (91, .aload_n 0, 1), (92, .getfield 22, 3), (95, .iload_n 2, 1)]) (S2 := (96, [some (.ref 84), some (.int v1), some (.int v2)], [.int v2, .ref 89, .int (600 : Int32), .ref 87], M)) (by decide +kernel) (hO := mm_own_206) rfl ?_
    obtain ⟨hb, h⟩ := mm_gd h
    refine mm_R_iald rfl rfl hb ?_
    refine mm_Runs.seq (l := [(97, .iadd, 1), (98, .iload_n 2, 1), (99, .iload_n 1, 1)]) (S2 := (100, [some (.ref 84), some (.int v1), some (.int v2)], [.int v1, .int v2, .int ((600 : Int32) + (M.1 89 v2.toNatClampNeg)), .ref 87], M)) (by decide +kernel) (hO := mm_own_206) rfl ?_
    refine mm_R_ige (t := 112) rfl rfl rfl (fun hc => ?_) (fun hc => ?_)
    · replace h := mm_ip hc h
      refine mm_Runs.seq (l := [(103, .aload_n 0, 1), (104, .iconst 3, 1)]) (S2 := (105, [some (.ref 84), some (.int v1), some (.int v2)], [.int (3 : Int32), .ref 84, .int ((600 : Int32) + (M.1 89 v2.toNatClampNeg)), .ref 87], M)) (by decide +kernel) (hO := mm_own_206) rfl ?_
      refine mm_R_call (v := mm_wl) h hA (k2 := 198) (as := [.ref 84, .int (3 : Int32)]) (r := [.int ((600 : Int32) + (M.1 89 v2.toNatClampNeg)), .ref 87]) rfl (fun _ => rfl) (fun q hq o ho => ms_198 (by omega) hq ho) (fun r1 M2 h => ?_)
      show mm_Runs L xs (d + 1) 206 (108, [some (.ref 84), some (.int v1), some (.int v2)], [.long r1, .int ((600 : Int32) + (M.1 89 v2.toNatClampNeg)), .ref 87], M2) o
      refine mm_Runs.seq (l := [(108, .l2i, 1), (109, .goto 4, 3)]) (S2 := (113, [some (.ref 84), some (.int v1), some (.int v2)], [.int r1.toInt32, .int ((600 : Int32) + (M.1 89 v2.toNatClampNeg)), .ref 87], M2)) (by decide +kernel) (hO := mm_own_206) rfl ?_
      exact (ms_206_j113 hd h hA : mp_206_113 L xs (d + 1) v1 v2 ((600 : Int32) + (M.1 89 v2.toNatClampNeg)) r1.toInt32 M2 o)
    · replace h := mm_iq hc h
      refine mm_Runs.seq (l := [(112, .iconst 0, 1)]) (S2 := (113, [some (.ref 84), some (.int v1), some (.int v2)], [.int (0 : Int32), .int ((600 : Int32) + (M.1 89 v2.toNatClampNeg)), .ref 87], M)) (by decide +kernel) (hO := mm_own_206) rfl ?_
      exact (ms_206_j113 hd h hA : mp_206_113 L xs (d + 1) v1 v2 ((600 : Int32) + (M.1 89 v2.toNatClampNeg)) (0 : Int32) M o)
  · replace h := mm_iq hc h
    cases h
    exact (show mp_206_120 L xs (d + 1) M o from hA) (some (.int v1)) (some (.int v2))
theorem ms_206_L78 {L : Nat} {xs : Nat → Int32} {d : Nat} (hd : 5 ≤ d) {v1 : Int32} {v2 : Int32} {β : Type} {K : β → mm_M → mm_E → Prop} {F : (Unit) → mm_M → mm_O β} {M : mm_M} {q : (β ⊕ Nat) × mm_M} {o : mm_E} (h : mm_B (mf_206_L78 v1 v2 M) F = some q) (hA : mm_A K q o) (hx : ∀ (r : (Unit)) (M2 : mm_M), F r M2 = some q → (fun r M o => mp_206_120 L xs (d) M o) r M2 o) : mp_206_78 L xs d v1 v2 M o := by
  unfold mf_206_L78 at h
  exact mm_R_loop (step := (fun s M => mf_206_b78 v1 s M)) (s := v2) (M := M) (P := (fun s M o => mp_206_78 L xs (d) v1 s M o)) (X := (fun r M o => mp_206_120 L xs (d) M o)) h hA (fun s M q hq hA => ms_206_b78 (v1 := v1) (v2 := s) (M := M) (q := q) hd hq hA) hx
def mp_206_142 (L : Nat) (xs : Nat → Int32) (d : Nat) (M : mm_M) (o : mm_E) : Prop := ∀ z1 z2 : Option Value, mm_Runs L xs d 206 (142, [some (.ref 84), z1, z2], [], M) o
def mp_206_172 (L : Nat) (xs : Nat → Int32) (d : Nat) (v2 : Int32) (M : mm_M) (o : mm_E) : Prop := ∀ z1 : Option Value, mm_Runs L xs d 206 (172, [some (.ref 84), z1, some (.int v2)], [], M) o
def mp_206_198 (L : Nat) (xs : Nat → Int32) (d : Nat) (M : mm_M) (o : mm_E) : Prop := ∀ z1 z2 : Option Value, mm_Runs L xs d 206 (198, [some (.ref 84), z1, z2], [], M) o
set_option maxRecDepth 8000 in
set_option maxHeartbeats 4000000 in
theorem ms_206_b172 {L : Nat} {xs : Nat → Int32} {d : Nat} (hd : 5 ≤ d) {v2 : Int32} {M : mm_M} {q : (((Int32) ⊕ (Unit)) ⊕ Nat) × mm_M} {o : mm_E} (h : mf_206_b172 v2 M = some q) (hA : mm_A (mm_K2 (fun s M o => mp_206_172 L xs (d) s M o) (fun r M o => mp_206_198 L xs (d) M o)) q o) : mp_206_172 L xs d v2 M o := by
  unfold mf_206_b172 at h
  obtain ⟨d, rfl⟩ := mm_d1 (n := 4) hd
  intro z1
  show mm_Runs L xs (d + 1) 206 (172, [some (.ref 84), z1, some (.int v2)], [], M) o
  refine mm_Runs.seq (l := [(172, .iload_n 2, 1), (173, .aload_n 0, 1), (174, .getfield 215, 3)]) (S2 := (177, [some (.ref 84), z1, some (.int v2)], [.int (M.1 84 20), .int v2], M)) (by decide +kernel) (hO := mm_own_206) rfl ?_
  refine mm_R_ige (t := 198) rfl rfl rfl (fun hc => ?_) (fun hc => ?_)
  · replace h := mm_ip hc h
    refine mm_Runs.seq (l := [(180, .aload_n 0, 1), (181, .getfield 16, 3), (184, .iload_n 2, 1), (185, .aload_n 0, 1), (186, .getfield 25, 3), (189, .iload_n 2, 1)]) (S2 := (190, [some (.ref 84), z1, some (.int v2)], [.int v2, .ref 90, .int v2, .ref 87], M)) (by decide +kernel) (hO := mm_own_206) rfl ?_
    obtain ⟨hb, h⟩ := mm_gd h
    refine mm_R_iald rfl rfl hb ?_
    obtain ⟨hb, h⟩ := mm_gd h
    refine mm_R_iast rfl rfl hb ?_
    refine mm_Runs.seq (l := [(192, .iinc 2 1, 3), (195, .goto (-23), 3)]) (S2 := (172, [some (.ref 84), (mm_no2 z1), some (.int (v2 + (1 : Int32)))], [], (mm_pi M 87 v2.toNatClampNeg (M.1 90 v2.toNatClampNeg)))) (by decide +kernel) (hO := mm_own_206) rfl ?_
    cases h
    exact (show mp_206_172 L xs (d + 1) (v2 + (1 : Int32)) (mm_pi M 87 v2.toNatClampNeg (M.1 90 v2.toNatClampNeg)) o from hA) ((mm_no2 z1))
  · replace h := mm_iq hc h
    cases h
    exact (show mp_206_198 L xs (d + 1) M o from hA) z1 (some (.int v2))
theorem ms_206_L172 {L : Nat} {xs : Nat → Int32} {d : Nat} (hd : 5 ≤ d) {v2 : Int32} {β : Type} {K : β → mm_M → mm_E → Prop} {F : (Unit) → mm_M → mm_O β} {M : mm_M} {q : (β ⊕ Nat) × mm_M} {o : mm_E} (h : mm_B (mf_206_L172 v2 M) F = some q) (hA : mm_A K q o) (hx : ∀ (r : (Unit)) (M2 : mm_M), F r M2 = some q → (fun r M o => mp_206_198 L xs (d) M o) r M2 o) : mp_206_172 L xs d v2 M o := by
  unfold mf_206_L172 at h
  exact mm_R_loop (step := (fun s M => mf_206_b172 s M)) (s := v2) (M := M) (P := (fun s M o => mp_206_172 L xs (d) s M o)) (X := (fun r M o => mp_206_198 L xs (d) M o)) h hA (fun s M q hq hA => ms_206_b172 (v2 := s) (M := M) (q := q) hd hq hA) hx
def mp_206_200 (L : Nat) (xs : Nat → Int32) (d : Nat) (v2 : Int32) (M : mm_M) (o : mm_E) : Prop := ∀ z1 : Option Value, mm_Runs L xs d 206 (200, [some (.ref 84), z1, some (.int v2)], [], M) o
def mp_206_235 (L : Nat) (xs : Nat → Int32) (d : Nat) (M : mm_M) (o : mm_E) : Prop := ∀ z1 z2 : Option Value, mm_Runs L xs d 206 (235, [some (.ref 84), z1, z2], [], M) o
set_option maxRecDepth 8000 in
set_option maxHeartbeats 4000000 in
theorem ms_206_b200 {L : Nat} {xs : Nat → Int32} {d : Nat} (hd : 5 ≤ d) {v2 : Int32} {M : mm_M} {q : (((Int32) ⊕ (Unit)) ⊕ Nat) × mm_M} {o : mm_E} (h : mf_206_b200 v2 M = some q) (hA : mm_A (mm_K2 (fun s M o => mp_206_200 L xs (d) s M o) (fun r M o => mp_206_235 L xs (d) M o)) q o) : mp_206_200 L xs d v2 M o := by
  unfold mf_206_b200 at h
  obtain ⟨d, rfl⟩ := mm_d1 (n := 4) hd
  intro z1
  show mm_Runs L xs (d + 1) 206 (200, [some (.ref 84), z1, some (.int v2)], [], M) o
  refine mm_Runs.seq (l := [(200, .iload_n 2, 1), (201, .aload_n 0, 1), (202, .getfield 218, 3)]) (S2 := (205, [some (.ref 84), z1, some (.int v2)], [.int (M.1 84 21), .int v2], M)) (by decide +kernel) (hO := mm_own_206) rfl ?_
  refine mm_R_ige (t := 235) rfl rfl rfl (fun hc => ?_) (fun hc => ?_)
  · replace h := mm_ip hc h
    refine mm_Runs.seq (l := [(208, .aload_n 0, 1), (209, .getfield 16, 3), (212, .sipush 300, 3), (215, .iload_n 2, 1), (216, .iadd, 1), (217, .aload_n 0, 1), (218, .getfield 25, 3), (221, .aload_n 0, 1), (222, .getfield 215, 3), (225, .iload_n 2, 1), (226, .iadd, 1)]) (S2 := (227, [some (.ref 84), z1, some (.int v2)], [.int ((M.1 84 20) + v2), .ref 90, .int ((300 : Int32) + v2), .ref 87], M)) (by decide +kernel) (hO := mm_own_206) rfl ?_
    obtain ⟨hb, h⟩ := mm_gd h
    refine mm_R_iald rfl rfl hb ?_
    obtain ⟨hb, h⟩ := mm_gd h
    refine mm_R_iast rfl rfl hb ?_
    refine mm_Runs.seq (l := [(229, .iinc 2 1, 3), (232, .goto (-32), 3)]) (S2 := (200, [some (.ref 84), (mm_no2 z1), some (.int (v2 + (1 : Int32)))], [], (mm_pi M 87 ((300 : Int32) + v2).toNatClampNeg (M.1 90 ((M.1 84 20) + v2).toNatClampNeg)))) (by decide +kernel) (hO := mm_own_206) rfl ?_
    cases h
    exact (show mp_206_200 L xs (d + 1) (v2 + (1 : Int32)) (mm_pi M 87 ((300 : Int32) + v2).toNatClampNeg (M.1 90 ((M.1 84 20) + v2).toNatClampNeg)) o from hA) ((mm_no2 z1))
  · replace h := mm_iq hc h
    cases h
    exact (show mp_206_235 L xs (d + 1) M o from hA) z1 (some (.int v2))
theorem ms_206_L200 {L : Nat} {xs : Nat → Int32} {d : Nat} (hd : 5 ≤ d) {v2 : Int32} {β : Type} {K : β → mm_M → mm_E → Prop} {F : (Unit) → mm_M → mm_O β} {M : mm_M} {q : (β ⊕ Nat) × mm_M} {o : mm_E} (h : mm_B (mf_206_L200 v2 M) F = some q) (hA : mm_A K q o) (hx : ∀ (r : (Unit)) (M2 : mm_M), F r M2 = some q → (fun r M o => mp_206_235 L xs (d) M o) r M2 o) : mp_206_200 L xs d v2 M o := by
  unfold mf_206_L200 at h
  exact mm_R_loop (step := (fun s M => mf_206_b200 s M)) (s := v2) (M := M) (P := (fun s M o => mp_206_200 L xs (d) s M o)) (X := (fun r M o => mp_206_235 L xs (d) M o)) h hA (fun s M q hq hA => ms_206_b200 (v2 := s) (M := M) (q := q) hd hq hA) hx
def mp_206_272 (L : Nat) (xs : Nat → Int32) (d : Nat) (M : mm_M) (o : mm_E) : Prop := ∀ z1 z2 : Option Value, mm_Runs L xs d 206 (272, [some (.ref 84), z1, z2], [], M) o
def mp_206_276 (L : Nat) (xs : Nat → Int32) (d : Nat) (M : mm_M) (o : mm_E) : Prop := ∀ z1 z2 : Option Value, mm_Runs L xs d 206 (276, [some (.ref 84), z1, z2], [], M) o
set_option maxRecDepth 8000 in
set_option maxHeartbeats 4000000 in
theorem ms_206_j276 {L : Nat} {xs : Nat → Int32} {d : Nat} (hd : 5 ≤ d) {M : mm_M} {q : (Unit ⊕ Nat) × mm_M} {o : mm_E} (h : mf_206_j276 M = some q) (hA : mm_A (mm_Kr mm_wv) q o) : mp_206_276 L xs d M o := by
  unfold mf_206_j276 at h
  obtain ⟨d, rfl⟩ := mm_d1 (n := 4) hd
  intro z1 z2
  show mm_Runs L xs (d + 1) 206 (276, [some (.ref 84), z1, z2], [], M) o
  refine mm_Runs.seq (l := [(276, .aload_n 0, 1), (277, .iconst 0, 1), (278, .aload_n 0, 1), (279, .getfield 215, 3)]) (S2 := (282, [some (.ref 84), z1, z2], [.int (M.1 84 20), .int (0 : Int32), .ref 84], M)) (by decide +kernel) (hO := mm_own_206) rfl ?_
  refine mm_R_call (v := mm_wv) h hA (k2 := 199) (as := [.ref 84, .int (0 : Int32), .int (M.1 84 20)]) (r := []) rfl (fun _ => rfl) (fun q hq o ho => ms_199 (by omega) hq ho) (fun _ M1 h => ?_)
  show mm_Runs L xs (d + 1) 206 (285, [some (.ref 84), z1, z2], [], M1) o
  refine mm_Runs.seq (l := [(285, .aload_n 0, 1), (286, .iconst 1, 1), (287, .aload_n 0, 1), (288, .getfield 218, 3)]) (S2 := (291, [some (.ref 84), z1, z2], [.int (M1.1 84 21), .int (1 : Int32), .ref 84], M1)) (by decide +kernel) (hO := mm_own_206) rfl ?_
  refine mm_R_call (v := mm_wv) h hA (k2 := 199) (as := [.ref 84, .int (1 : Int32), .int (M1.1 84 21)]) (r := []) rfl (fun _ => rfl) (fun q hq o ho => ms_199 (by omega) hq ho) (fun _ M2 h => ?_)
  show mm_Runs L xs (d + 1) 206 (294, [some (.ref 84), z1, z2], [], M2) o
  cases h
  exact mm_R_retv rfl rfl hA
set_option maxRecDepth 8000 in
set_option maxHeartbeats 4000000 in
theorem ms_206_j272 {L : Nat} {xs : Nat → Int32} {d : Nat} (hd : 5 ≤ d) {M : mm_M} {q : (Unit ⊕ Nat) × mm_M} {o : mm_E} (h : mf_206_j272 M = some q) (hA : mm_A (mm_Kr mm_wv) q o) : mp_206_272 L xs d M o := by
  unfold mf_206_j272 at h
  obtain ⟨d, rfl⟩ := mm_d1 (n := 4) hd
  intro z1 z2
  show mm_Runs L xs (d + 1) 206 (272, [some (.ref 84), z1, z2], [], M) o
  refine mm_Runs.seq (l := [(272, .aload_n 0, 1)]) (S2 := (273, [some (.ref 84), z1, z2], [.ref 84], M)) (by decide +kernel) (hO := mm_own_206) rfl ?_
  refine mm_R_call (v := mm_wv) h hA (k2 := 190) (as := [.ref 84]) (r := []) rfl (fun _ => rfl) (fun q hq o ho => ms_190 (by omega) hq ho) (fun _ M1 h => ?_)
  show mm_Runs L xs (d + 1) 206 (276, [some (.ref 84), z1, z2], [], M1) o
  exact (ms_206_j276 hd h hA : mp_206_276 L xs (d + 1) M1 o) z1 z2
set_option maxRecDepth 8000 in
set_option maxHeartbeats 4000000 in
theorem ms_206_j235 {L : Nat} {xs : Nat → Int32} {d : Nat} (hd : 5 ≤ d) {M : mm_M} {q : (Unit ⊕ Nat) × mm_M} {o : mm_E} (h : mf_206_j235 M = some q) (hA : mm_A (mm_Kr mm_wv) q o) : mp_206_235 L xs d M o := by
  unfold mf_206_j235 at h
  obtain ⟨d, rfl⟩ := mm_d1 (n := 4) hd
  intro z1 z2
  show mm_Runs L xs (d + 1) 206 (235, [some (.ref 84), z1, z2], [], M) o
  refine mm_Runs.seq (l := [(235, .aload_n 0, 1), (236, .getfield 25, 3), (239, .sipush 256, 3)]) (S2 := (242, [some (.ref 84), z1, z2], [.int (256 : Int32), .ref 90], M)) (by decide +kernel) (hO := mm_own_206) rfl ?_
  obtain ⟨hb, h⟩ := mm_gd h
  refine mm_R_iald rfl rfl hb ?_
  refine mm_R_zeq (t := 272) rfl rfl rfl (fun hc => ?_) (fun hc => ?_)
  · replace h := mm_ip hc h
    exact (ms_206_j272 hd h hA : mp_206_272 L xs (d + 1) M o) z1 z2
  · replace h := mm_iq hc h
    refine mm_Runs.seq (l := [(246, .aload_n 0, 1), (247, .iconst 0, 1), (248, .aload_n 0, 1), (249, .getfield 215, 3), (252, .iconst 0, 1)]) (S2 := (253, [some (.ref 84), z1, z2], [.int (0 : Int32), .int (M.1 84 20), .int (0 : Int32), .ref 84], M)) (by decide +kernel) (hO := mm_own_206) rfl ?_
    refine mm_R_call (v := mm_wi) h hA (k2 := 201) (as := [.ref 84, .int (0 : Int32), .int (M.1 84 20), .int (0 : Int32)]) (r := []) rfl (fun _ => rfl) (fun q hq o ho => ms_201 (by omega) hq ho) (fun r1 M2 h => ?_)
    show mm_Runs L xs (d + 1) 206 (256, [some (.ref 84), z1, z2], [.int r1], M2) o
    refine mm_R_zeq (t := 272) rfl rfl rfl (fun hc => ?_) (fun hc => ?_)
    · replace h := mm_ip hc h
      exact (ms_206_j272 hd h hA : mp_206_272 L xs (d + 1) M2 o) z1 z2
    · replace h := mm_iq hc h
      refine mm_Runs.seq (l := [(259, .aload_n 0, 1), (260, .iconst 1, 1), (261, .aload_n 0, 1), (262, .getfield 218, 3), (265, .iconst 1, 1)]) (S2 := (266, [some (.ref 84), z1, z2], [.int (1 : Int32), .int (M2.1 84 21), .int (1 : Int32), .ref 84], M2)) (by decide +kernel) (hO := mm_own_206) rfl ?_
      refine mm_R_call (v := mm_wi) h hA (k2 := 201) (as := [.ref 84, .int (1 : Int32), .int (M2.1 84 21), .int (1 : Int32)]) (r := []) rfl (fun _ => rfl) (fun q hq o ho => ms_201 (by omega) hq ho) (fun r3 M4 h => ?_)
      show mm_Runs L xs (d + 1) 206 (269, [some (.ref 84), z1, z2], [.int r3], M4) o
      refine mm_R_zne (t := 276) rfl rfl rfl (fun hc => ?_) (fun hc => ?_)
      · replace h := mm_ip hc h
        exact (ms_206_j272 hd h hA : mp_206_272 L xs (d + 1) M4 o) z1 z2
      · replace h := mm_iq hc h
        exact (ms_206_j276 hd h hA : mp_206_276 L xs (d + 1) M4 o) z1 z2
set_option maxRecDepth 8000 in
set_option maxHeartbeats 4000000 in
theorem ms_206_j142 {L : Nat} {xs : Nat → Int32} {d : Nat} (hd : 5 ≤ d) {M : mm_M} {q : (Unit ⊕ Nat) × mm_M} {o : mm_E} (h : mf_206_j142 M = some q) (hA : mm_A (mm_Kr mm_wv) q o) : mp_206_142 L xs d M o := by
  unfold mf_206_j142 at h
  obtain ⟨d, rfl⟩ := mm_d1 (n := 4) hd
  intro z1 z2
  show mm_Runs L xs (d + 1) 206 (142, [some (.ref 84), z1, z2], [], M) o
  refine mm_Runs.seq (l := [(142, .aload_n 0, 1), (143, .iconst 2, 1), (144, .bipush 19, 2)]) (S2 := (146, [some (.ref 84), z1, z2], [.int (19 : Int32), .int (2 : Int32), .ref 84], M)) (by decide +kernel) (hO := mm_own_206) rfl ?_
  refine mm_R_call (v := mm_wv) h hA (k2 := 199) (as := [.ref 84, .int (2 : Int32), .int (19 : Int32)]) (r := []) rfl (fun _ => rfl) (fun q hq o ho => ms_199 (by omega) hq ho) (fun _ M1 h => ?_)
  show mm_Runs L xs (d + 1) 206 (149, [some (.ref 84), z1, z2], [], M1) o
  refine mm_Runs.seq (l := [(149, .aload_n 0, 1), (150, .aload_n 0, 1), (151, .getfield 215, 3), (154, .aload_n 0, 1), (155, .getfield 218, 3), (158, .iadd, 1)]) (S2 := (159, [some (.ref 84), z1, z2], [.int ((M1.1 84 20) + (M1.1 84 21)), .ref 84], M1)) (by decide +kernel) (hO := mm_own_206) rfl ?_
  refine mm_R_call (v := mm_wv) h hA (k2 := 207) (as := [.ref 84, .int ((M1.1 84 20) + (M1.1 84 21))]) (r := []) rfl (fun _ => rfl) (fun q hq o ho => ms_207 (by omega) hq ho) (fun _ M2 h => ?_)
  show mm_Runs L xs (d + 1) 206 (162, [some (.ref 84), z1, z2], [], M2) o
  refine mm_Runs.seq (l := [(162, .aload_n 0, 1), (163, .getfield 154, 3)]) (S2 := (166, [some (.ref 84), z1, z2], [.int (M2.1 84 7)], M2)) (by decide +kernel) (hO := mm_own_206) rfl ?_
  refine mm_R_zeq (t := 170) rfl rfl rfl (fun hc => ?_) (fun hc => ?_)
  · replace h := mm_ip hc h
    refine mm_Runs.seq (l := [(170, .iconst 0, 1), (171, .istore_n 2, 1)]) (S2 := (172, [some (.ref 84), (mm_no2 z1), some (.int (0 : Int32))], [], M2)) (by decide +kernel) (hO := mm_own_206) rfl ?_
    have hp : mp_206_172 L xs (d + 1) (0 : Int32) M2 o := by
      refine ms_206_L172 hd h hA (fun r4 M3 h => ?_)
      intro y5 y6
      show mm_Runs L xs (d + 1) 206 (198, [some (.ref 84), y5, y6], [], M3) o
      refine mm_Runs.seq (l := [(198, .iconst 0, 1), (199, .istore_n 2, 1)]) (S2 := (200, [some (.ref 84), (mm_no2 y5), some (.int (0 : Int32))], [], M3)) (by decide +kernel) (hO := mm_own_206) rfl ?_
      have hp : mp_206_200 L xs (d + 1) (0 : Int32) M3 o := by
        refine ms_206_L200 hd h hA (fun r8 M7 h => ?_)
        intro y9 y10
        show mm_Runs L xs (d + 1) 206 (235, [some (.ref 84), y9, y10], [], M7) o
        exact (ms_206_j235 hd h hA : mp_206_235 L xs (d + 1) M7 o) y9 y10
      exact hp ((mm_no2 y5))
    exact hp ((mm_no2 z1))
  · replace h := mm_iq hc h
    cases h
    exact mm_R_retv rfl rfl hA
set_option maxRecDepth 8000 in
set_option maxHeartbeats 4000000 in
theorem ms_206_j120 {L : Nat} {xs : Nat → Int32} {d : Nat} (hd : 5 ≤ d) {M : mm_M} {q : (Unit ⊕ Nat) × mm_M} {o : mm_E} (h : mf_206_j120 M = some q) (hA : mm_A (mm_Kr mm_wv) q o) : mp_206_120 L xs d M o := by
  unfold mf_206_j120 at h
  obtain ⟨d, rfl⟩ := mm_d1 (n := 4) hd
  intro z1 z2
  show mm_Runs L xs (d + 1) 206 (120, [some (.ref 84), z1, z2], [], M) o
  refine mm_Runs.seq (l := [(120, .aload_n 0, 1), (121, .getfield 154, 3)]) (S2 := (124, [some (.ref 84), z1, z2], [.int (M.1 84 7)], M)) (by decide +kernel) (hO := mm_own_206) rfl ?_
  refine mm_R_zne (t := 142) rfl rfl rfl (fun hc => ?_) (fun hc => ?_)
  · replace h := mm_ip hc h
    refine mm_Runs.seq (l := [(127, .aload_n 0, 1), (128, .iconst 2, 1), (129, .bipush 19, 2), (131, .iconst 0, 1)]) (S2 := (132, [some (.ref 84), z1, z2], [.int (0 : Int32), .int (19 : Int32), .int (2 : Int32), .ref 84], M)) (by decide +kernel) (hO := mm_own_206) rfl ?_
    refine mm_R_call (v := mm_wi) h hA (k2 := 201) (as := [.ref 84, .int (2 : Int32), .int (19 : Int32), .int (0 : Int32)]) (r := []) rfl (fun _ => rfl) (fun q hq o ho => ms_201 (by omega) hq ho) (fun r1 M2 h => ?_)
    show mm_Runs L xs (d + 1) 206 (135, [some (.ref 84), z1, z2], [.int r1], M2) o
    refine mm_R_zne (t := 142) rfl rfl rfl (fun hc => ?_) (fun hc => ?_)
    · replace h := mm_ip hc h
      refine mm_Runs.seq (l := [(138, .aload_n 0, 1)]) (S2 := (139, [some (.ref 84), z1, z2], [.ref 84], M2)) (by decide +kernel) (hO := mm_own_206) rfl ?_
      refine mm_R_call (v := mm_wv) h hA (k2 := 190) (as := [.ref 84]) (r := []) rfl (fun _ => rfl) (fun q hq o ho => ms_190 (by omega) hq ho) (fun _ M3 h => ?_)
      show mm_Runs L xs (d + 1) 206 (142, [some (.ref 84), z1, z2], [], M3) o
      exact (ms_206_j142 hd h hA : mp_206_142 L xs (d + 1) M3 o) z1 z2
    · replace h := mm_iq hc h
      exact (ms_206_j142 hd h hA : mp_206_142 L xs (d + 1) M2 o) z1 z2
  · replace h := mm_iq hc h
    exact (ms_206_j142 hd h hA : mp_206_142 L xs (d + 1) M o) z1 z2
set_option maxRecDepth 8000 in
set_option maxHeartbeats 4000000 in
theorem ms_206_j67 {L : Nat} {xs : Nat → Int32} {d : Nat} (hd : 5 ≤ d) {M : mm_M} {q : (Unit ⊕ Nat) × mm_M} {o : mm_E} (h : mf_206_j67 M = some q) (hA : mm_A (mm_Kr mm_wv) q o) : mp_206_67 L xs d M o := by
  unfold mf_206_j67 at h
  obtain ⟨d, rfl⟩ := mm_d1 (n := 4) hd
  intro z1 z2
  show mm_Runs L xs (d + 1) 206 (67, [some (.ref 84), z1, z2], [], M) o
  refine mm_Runs.seq (l := [(67, .iconst 4, 1), (68, .aload_n 0, 1), (69, .iconst 4, 1)]) (S2 := (70, [some (.ref 84), z1, z2], [.int (4 : Int32), .ref 84, .int (4 : Int32)], M)) (by decide +kernel) (hO := mm_own_206) rfl ?_
  refine mm_R_call (v := mm_wl) h hA (k2 := 198) (as := [.ref 84, .int (4 : Int32)]) (r := [.int (4 : Int32)]) rfl (fun _ => rfl) (fun q hq o ho => ms_198 (by omega) hq ho) (fun r1 M2 h => ?_)
  show mm_Runs L xs (d + 1) 206 (73, [some (.ref 84), z1, z2], [.long r1, .int (4 : Int32)], M2) o
  refine mm_Runs.seq (l := [(73, .l2i, 1), (74, .iadd, 1), (75, .istore_n 1, 1), (76, .iconst 0, 1), (77, .istore_n 2, 1)]) (S2 := (78, [some (.ref 84), some (.int ((4 : Int32) + r1.toInt32)), some (.int (0 : Int32))], [], M2)) (by decide +kernel) (hO := mm_own_206) rfl ?_
  have hp : mp_206_78 L xs (d + 1) ((4 : Int32) + r1.toInt32) (0 : Int32) M2 o := by
    refine ms_206_L78 hd h hA (fun r4 M3 h => ?_)
    intro y5 y6
    show mm_Runs L xs (d + 1) 206 (120, [some (.ref 84), y5, y6], [], M3) o
    exact (ms_206_j120 hd h hA : mp_206_120 L xs (d + 1) M3 o) y5 y6
  exact hp
set_option maxRecDepth 8000 in
set_option maxHeartbeats 4000000 in
theorem ms_206_j35 {L : Nat} {xs : Nat → Int32} {d : Nat} (hd : 5 ≤ d) {M : mm_M} {q : (Unit ⊕ Nat) × mm_M} {o : mm_E} (h : mf_206_j35 M = some q) (hA : mm_A (mm_Kr mm_wv) q o) : mp_206_35 L xs d M o := by
  unfold mf_206_j35 at h
  obtain ⟨d, rfl⟩ := mm_d1 (n := 4) hd
  intro z1 z2
  show mm_Runs L xs (d + 1) 206 (35, [some (.ref 84), z1, z2], [], M) o
  refine mm_Runs.seq (l := [(35, .aload_n 0, 1), (36, .iconst 1, 1), (37, .aload_n 0, 1), (38, .iconst 5, 1)]) (S2 := (39, [some (.ref 84), z1, z2], [.int (5 : Int32), .ref 84, .int (1 : Int32), .ref 84], M)) (by decide +kernel) (hO := mm_own_206) rfl ?_
  refine mm_R_call (v := mm_wl) h hA (k2 := 198) (as := [.ref 84, .int (5 : Int32)]) (r := [.int (1 : Int32), .ref 84]) rfl (fun _ => rfl) (fun q hq o ho => ms_198 (by omega) hq ho) (fun r1 M2 h => ?_)
  show mm_Runs L xs (d + 1) 206 (42, [some (.ref 84), z1, z2], [.long r1, .int (1 : Int32), .ref 84], M2) o
  refine mm_Runs.seq (l := [(42, .l2i, 1), (43, .iadd, 1), (44, .putfield 218, 3), (47, .aload_n 0, 1), (48, .getfield 154, 3)]) (S2 := (51, [some (.ref 84), z1, z2], [.int (M2.1 84 7)], (mm_pi M2 84 21 ((1 : Int32) + r1.toInt32)))) (by decide +kernel) (hO := mm_own_206) rfl ?_
  refine mm_R_zne (t := 67) rfl rfl rfl (fun hc => ?_) (fun hc => ?_)
  · replace h := mm_ip hc h
    refine mm_Runs.seq (l := [(54, .aload_n 0, 1), (55, .getfield 218, 3), (58, .bipush 30, 2)]) (S2 := (60, [some (.ref 84), z1, z2], [.int (30 : Int32), .int ((1 : Int32) + r1.toInt32)], (mm_pi M2 84 21 ((1 : Int32) + r1.toInt32)))) (by decide +kernel) (hO := mm_own_206) rfl ?_
    refine mm_R_ile (t := 67) rfl rfl rfl (fun hc => ?_) (fun hc => ?_)
    · replace h := mm_ip hc h
      refine mm_Runs.seq (l := [(63, .aload_n 0, 1)]) (S2 := (64, [some (.ref 84), z1, z2], [.ref 84], (mm_pi M2 84 21 ((1 : Int32) + r1.toInt32)))) (by decide +kernel) (hO := mm_own_206) rfl ?_
      refine mm_R_call (v := mm_wv) h hA (k2 := 190) (as := [.ref 84]) (r := []) rfl (fun _ => rfl) (fun q hq o ho => ms_190 (by omega) hq ho) (fun _ M3 h => ?_)
      show mm_Runs L xs (d + 1) 206 (67, [some (.ref 84), z1, z2], [], M3) o
      exact (ms_206_j67 hd h hA : mp_206_67 L xs (d + 1) M3 o) z1 z2
    · replace h := mm_iq hc h
      exact (ms_206_j67 hd h hA : mp_206_67 L xs (d + 1) (mm_pi M2 84 21 ((1 : Int32) + r1.toInt32)) o) z1 z2
  · replace h := mm_iq hc h
    exact (ms_206_j67 hd h hA : mp_206_67 L xs (d + 1) (mm_pi M2 84 21 ((1 : Int32) + r1.toInt32)) o) z1 z2
set_option maxRecDepth 8000 in
set_option maxHeartbeats 4000000 in
theorem ms_206 {L : Nat} {xs : Nat → Int32} {d : Nat} (hd : 5 ≤ d) {M : mm_M} {q : (Unit ⊕ Nat) × mm_M} {o : mm_E} (h : mf_206 M = some q) (hA : mm_A (mm_Kr mm_wv) q o) : mm_Runs L xs d 206 (0, mm_ent (mm_ml 206) [.ref 84], [], M) o := by
  unfold mf_206 at h
  obtain ⟨d, rfl⟩ := mm_d1 (n := 4) hd
  show mm_Runs L xs (d + 1) 206 (0, [some (.ref 84), none, none], [], M) o
  refine mm_Runs.seq (l := [(0, .aload_n 0, 1), (1, .sipush 257, 3), (4, .aload_n 0, 1), (5, .iconst 5, 1)]) (S2 := (6, [some (.ref 84), none, none], [.int (5 : Int32), .ref 84, .int (257 : Int32), .ref 84], M)) (by decide +kernel) (hO := mm_own_206) rfl ?_
  refine mm_R_call (v := mm_wl) h hA (k2 := 198) (as := [.ref 84, .int (5 : Int32)]) (r := [.int (257 : Int32), .ref 84]) rfl (fun _ => rfl) (fun q hq o ho => ms_198 (by omega) hq ho) (fun r1 M2 h => ?_)
  show mm_Runs L xs (d + 1) 206 (9, [some (.ref 84), none, none], [.long r1, .int (257 : Int32), .ref 84], M2) o
  refine mm_Runs.seq (l := [(9, .l2i, 1), (10, .iadd, 1), (11, .putfield 215, 3), (14, .aload_n 0, 1), (15, .getfield 154, 3)]) (S2 := (18, [some (.ref 84), none, none], [.int (M2.1 84 7)], (mm_pi M2 84 20 ((257 : Int32) + r1.toInt32)))) (by decide +kernel) (hO := mm_own_206) rfl ?_
  refine mm_R_zne (t := 35) rfl rfl rfl (fun hc => ?_) (fun hc => ?_)
  · replace h := mm_ip hc h
    refine mm_Runs.seq (l := [(21, .aload_n 0, 1), (22, .getfield 215, 3), (25, .sipush 286, 3)]) (S2 := (28, [some (.ref 84), none, none], [.int (286 : Int32), .int ((257 : Int32) + r1.toInt32)], (mm_pi M2 84 20 ((257 : Int32) + r1.toInt32)))) (by decide +kernel) (hO := mm_own_206) rfl ?_
    refine mm_R_ile (t := 35) rfl rfl rfl (fun hc => ?_) (fun hc => ?_)
    · replace h := mm_ip hc h
      refine mm_Runs.seq (l := [(31, .aload_n 0, 1)]) (S2 := (32, [some (.ref 84), none, none], [.ref 84], (mm_pi M2 84 20 ((257 : Int32) + r1.toInt32)))) (by decide +kernel) (hO := mm_own_206) rfl ?_
      refine mm_R_call (v := mm_wv) h hA (k2 := 190) (as := [.ref 84]) (r := []) rfl (fun _ => rfl) (fun q hq o ho => ms_190 (by omega) hq ho) (fun _ M3 h => ?_)
      show mm_Runs L xs (d + 1) 206 (35, [some (.ref 84), none, none], [], M3) o
      exact (ms_206_j35 hd h hA : mp_206_35 L xs (d + 1) M3 o) none none
    · replace h := mm_iq hc h
      exact (ms_206_j35 hd h hA : mp_206_35 L xs (d + 1) (mm_pi M2 84 20 ((257 : Int32) + r1.toInt32)) o) none none
  · replace h := mm_iq hc h
    exact (ms_206_j35 hd h hA : mp_206_35 L xs (d + 1) (mm_pi M2 84 20 ((257 : Int32) + r1.toInt32)) o) none none
-- 196: PlainPacksModel.copy(IJI)V (depth 2)
theorem mm_own_196 : mm_own 196 = 12 := rfl
def mp_196_26 (L : Nat) (xs : Nat → Int32) (d : Nat) (v1 : Int32) (v2 : Int64) (M : mm_M) (o : mm_E) : Prop := ∀ z3 z4 z5 z6 : Option Value, mm_Runs L xs d 196 (26, [some (.ref 84), some (.int v1), some (.long v2), z3, z4, z5, z6], [], M) o
def mp_196_30 (L : Nat) (xs : Nat → Int32) (d : Nat) (v1 : Int32) (v2 : Int64) (M : mm_M) (o : mm_E) : Prop := ∀ z3 z4 z5 z6 : Option Value, mm_Runs L xs d 196 (30, [some (.ref 84), some (.int v1), some (.long v2), z3, z4, z5, z6], [], M) o
def mp_196_69 (L : Nat) (xs : Nat → Int32) (d : Nat) (v1 : Int32) (v5 : Int32) (s1 : Int32) (M : mm_M) (o : mm_E) : Prop := ∀ z2 z3 z4 z6 : Option Value, mm_Runs L xs d 196 (69, [some (.ref 84), some (.int v1), z2, z3, z4, some (.int v5), z6], [.int s1, .ref 84], M) o
def mp_196_97 (L : Nat) (xs : Nat → Int32) (d : Nat) (v1 : Int32) (v5 : Int32) (v6 : Int32) (M : mm_M) (o : mm_E) : Prop := ∀ z2 z3 z4 : Option Value, mm_Runs L xs d 196 (97, [some (.ref 84), some (.int v1), z2, z3, z4, some (.int v5), some (.int v6)], [], M) o
def mp_196_133 (L : Nat) (xs : Nat → Int32) (d : Nat) (M : mm_M) (o : mm_E) : Prop := ∀ z0 z1 z2 z3 z4 z5 z6 : Option Value, mm_Runs L xs d 196 (133, [z0, z1, z2, z3, z4, z5, z6], [], M) o
set_option maxRecDepth 8000 in
set_option maxHeartbeats 4000000 in
theorem ms_196_b97 {L : Nat} {xs : Nat → Int32} {d : Nat} (hd : 2 ≤ d) {v1 : Int32} {v5 : Int32} {v6 : Int32} {M : mm_M} {q : (((Int32) ⊕ (Unit)) ⊕ Nat) × mm_M} {o : mm_E} (h : mf_196_b97 v1 v5 v6 M = some q) (hA : mm_A (mm_K2 (fun s M o => mp_196_97 L xs (d) v1 v5 s M o) (fun r M o => mp_196_133 L xs (d) M o)) q o) : mp_196_97 L xs d v1 v5 v6 M o := by
  unfold mf_196_b97 at h
  obtain ⟨d, rfl⟩ := mm_d1 (n := 1) hd
  intro z2 z3 z4
  show mm_Runs L xs (d + 1) 196 (97, [some (.ref 84), some (.int v1), z2, z3, z4, some (.int v5), some (.int v6)], [], M) o
  refine mm_Runs.seq (l := [(97, .iload 6, 2), (99, .iload_n 1, 1)]) (S2 := (100, [some (.ref 84), some (.int v1), z2, z3, z4, some (.int v5), some (.int v6)], [.int v1, .int v6], M)) (by decide +kernel) (hO := mm_own_196) rfl ?_
  refine mm_R_ige (t := 133) rfl rfl rfl (fun hc => ?_) (fun hc => ?_)
  · replace h := mm_ip hc h
    refine mm_Runs.seq (l := [(103, .aload_n 0, 1), (104, .getfield 154, 3)]) (S2 := (107, [some (.ref 84), some (.int v1), z2, z3, z4, some (.int v5), some (.int v6)], [.int (M.1 84 7)], M)) (by decide +kernel) (hO := mm_own_196) rfl ?_
    refine mm_R_zne (t := 133) rfl rfl rfl (fun hc => ?_) (fun hc => ?_)
    · replace h := mm_ip hc h
      refine mm_Runs.seq (l := [(110, .aload_n 0, 1), (111, .aload_n 0, 1), (112, .getfield 13, 3), (115, .aload_n 0, 1), (116, .getfield 98, 3), (119, .iload 5, 2), (121, .isub, 1)]) (S2 := (122, [some (.ref 84), some (.int v1), z2, z3, z4, some (.int v5), some (.int v6)], [.int ((M.1 84 4) - v5), .ref 86, .ref 84], M)) (by decide +kernel) (hO := mm_own_196) rfl ?_
      obtain ⟨hb, h⟩ := mm_gd h
      refine mm_R_iald rfl rfl hb ?_
      refine mm_R_call (v := mm_wi) h hA (k2 := 194) (as := [.ref 84, .int (M.1 86 ((M.1 84 4) - v5).toNatClampNeg)]) (r := []) rfl (fun _ => rfl) (fun q hq o ho => ms_194 (by omega) hq ho) (fun r1 M2 h => ?_)
      show mm_Runs L xs (d + 1) 196 (126, [some (.ref 84), some (.int v1), z2, z3, z4, some (.int v5), some (.int v6)], [.int r1], M2) o
      refine mm_Runs.seq (l := [(126, .pop, 1), (127, .iinc 6 1, 3), (130, .goto (-33), 3)]) (S2 := (97, [some (.ref 84), some (.int v1), z2, z3, z4, some (.int v5), some (.int (v6 + (1 : Int32)))], [], M2)) (by decide +kernel) (hO := mm_own_196) rfl ?_
      cases h
      exact (show mp_196_97 L xs (d + 1) v1 v5 (v6 + (1 : Int32)) M2 o from hA) z2 z3 z4
    · replace h := mm_iq hc h
      cases h
      exact (show mp_196_133 L xs (d + 1) M o from hA) (some (.ref 84)) (some (.int v1)) z2 z3 z4 (some (.int v5)) (some (.int v6))
  · replace h := mm_iq hc h
    cases h
    exact (show mp_196_133 L xs (d + 1) M o from hA) (some (.ref 84)) (some (.int v1)) z2 z3 z4 (some (.int v5)) (some (.int v6))
theorem ms_196_L97 {L : Nat} {xs : Nat → Int32} {d : Nat} (hd : 2 ≤ d) {v1 : Int32} {v5 : Int32} {v6 : Int32} {β : Type} {K : β → mm_M → mm_E → Prop} {F : (Unit) → mm_M → mm_O β} {M : mm_M} {q : (β ⊕ Nat) × mm_M} {o : mm_E} (h : mm_B (mf_196_L97 v1 v5 v6 M) F = some q) (hA : mm_A K q o) (hx : ∀ (r : (Unit)) (M2 : mm_M), F r M2 = some q → (fun r M o => mp_196_133 L xs (d) M o) r M2 o) : mp_196_97 L xs d v1 v5 v6 M o := by
  unfold mf_196_L97 at h
  exact mm_R_loop (step := (fun s M => mf_196_b97 v1 v5 s M)) (s := v6) (M := M) (P := (fun s M o => mp_196_97 L xs (d) v1 v5 s M o)) (X := (fun r M o => mp_196_133 L xs (d) M o)) h hA (fun s M q hq hA => ms_196_b97 (v1 := v1) (v5 := v5) (v6 := s) (M := M) (q := q) hd hq hA) hx
set_option maxRecDepth 8000 in
set_option maxHeartbeats 4000000 in
theorem ms_196_j69 {L : Nat} {xs : Nat → Int32} {d : Nat} (hd : 2 ≤ d) {v1 : Int32} {v5 : Int32} {s1 : Int32} {M : mm_M} {q : (Unit ⊕ Nat) × mm_M} {o : mm_E} (h : mf_196_j69 v1 v5 s1 M = some q) (hA : mm_A (mm_Kr mm_wv) q o) : mp_196_69 L xs d v1 v5 s1 M o := by
  unfold mf_196_j69 at h
  obtain ⟨d, rfl⟩ := mm_d1 (n := 1) hd
  intro z2 z3 z4 z6
  show mm_Runs L xs (d + 1) 196 (69, [some (.ref 84), some (.int v1), z2, z3, z4, some (.int v5), z6], [.int s1, .ref 84], M) o
  refine mm_Runs.seq (l := [(69, .putfield 110, 3), (72, .aload_n 0, 1), (73, .iload 5, 2), (75, .aload_n 0, 1), (76, .getfield 113, 3)]) (S2 := (79, [some (.ref 84), some (.int v1), z2, z3, z4, some (.int v5), z6], [.int (M.1 84 11), .int v5, .ref 84], (mm_pi M 84 10 s1))) (by decide +kernel) (hO := mm_own_196) rfl ?_
  refine mm_R_ile (t := 87) rfl rfl rfl (fun hc => ?_) (fun hc => ?_)
  · replace h := mm_ip hc h
    refine mm_Runs.seq (l := [(82, .iload 5, 2), (84, .goto 7, 3), (91, .putfield 113, 3), (94, .iconst 0, 1), (95, .istore 6, 2)]) (S2 := (97, [some (.ref 84), some (.int v1), z2, z3, z4, some (.int v5), some (.int (0 : Int32))], [], (mm_pi (mm_pi M 84 10 s1) 84 11 v5))) (by decide +kernel) (hO := mm_own_196) rfl ?_
    have hp : mp_196_97 L xs (d + 1) v1 v5 (0 : Int32) (mm_pi (mm_pi M 84 10 s1) 84 11 v5) o := by
      refine ms_196_L97 hd h hA (fun r2 M1 h => ?_)
      intro y3 y4 y5 y6 y7 y8 y9
      show mm_Runs L xs (d + 1) 196 (133, [y3, y4, y5, y6, y7, y8, y9], [], M1) o
      cases h
      exact mm_R_retv rfl rfl hA
    exact hp z2 z3 z4
  · replace h := mm_iq hc h
    refine mm_Runs.seq (l := [(87, .aload_n 0, 1), (88, .getfield 113, 3), (91, .putfield 113, 3), (94, .iconst 0, 1), (95, .istore 6, 2)]) (S2 := (97, [some (.ref 84), some (.int v1), z2, z3, z4, some (.int v5), some (.int (0 : Int32))], [], (mm_pi (mm_pi M 84 10 s1) 84 11 (M.1 84 11)))) (by decide +kernel) (hO := mm_own_196) rfl ?_
    have hp : mp_196_97 L xs (d + 1) v1 v5 (0 : Int32) (mm_pi (mm_pi M 84 10 s1) 84 11 (M.1 84 11)) o := by
      refine ms_196_L97 hd h hA (fun r11 M10 h => ?_)
      intro y12 y13 y14 y15 y16 y17 y18
      show mm_Runs L xs (d + 1) 196 (133, [y12, y13, y14, y15, y16, y17, y18], [], M10) o
      cases h
      exact mm_R_retv rfl rfl hA
    exact hp z2 z3 z4
set_option maxRecDepth 8000 in
set_option maxHeartbeats 4000000 in
theorem ms_196_j30 {L : Nat} {xs : Nat → Int32} {d : Nat} (hd : 2 ≤ d) {v1 : Int32} {v2 : Int64} {M : mm_M} {q : (Unit ⊕ Nat) × mm_M} {o : mm_E} (h : mf_196_j30 v1 v2 M = some q) (hA : mm_A (mm_Kr mm_wv) q o) : mp_196_30 L xs d v1 v2 M o := by
  unfold mf_196_j30 at h
  obtain ⟨d, rfl⟩ := mm_d1 (n := 1) hd
  intro z3 z4 z5 z6
  show mm_Runs L xs (d + 1) 196 (30, [some (.ref 84), some (.int v1), some (.long v2), z3, z4, z5, z6], [], M) o
  refine mm_Runs.seq (l := [(30, .aload_n 0, 1), (31, .getfield 154, 3)]) (S2 := (34, [some (.ref 84), some (.int v1), some (.long v2), z3, z4, z5, z6], [.int (M.1 84 7)], M)) (by decide +kernel) (hO := mm_own_196) rfl ?_
  refine mm_R_zeq (t := 38) rfl rfl rfl (fun hc => ?_) (fun hc => ?_)
  · replace h := mm_ip hc h
    refine mm_Runs.seq (l := [(38, .lload_n 2, 1), (39, .l2i, 1), (40, .istore 5, 2), (42, .aload_n 0, 1), (43, .dup, 1), (44, .getfield 107, 3), (47, .iconst 1, 1), (48, .iadd, 1), (49, .putfield 107, 3), (52, .aload_n 0, 1), (53, .iload_n 1, 1), (54, .aload_n 0, 1), (55, .getfield 110, 3)]) (S2 := (58, [some (.ref 84), some (.int v1), some (.long v2), z3, (mm_no2 z4), some (.int v2.toInt32), z6], [.int (M.1 84 10), .int v1, .ref 84], (mm_pi M 84 9 ((M.1 84 9) + (1 : Int32))))) (by decide +kernel) (hO := mm_own_196) rfl ?_
    refine mm_R_ile (t := 65) rfl rfl rfl (fun hc => ?_) (fun hc => ?_)
    · replace h := mm_ip hc h
      refine mm_Runs.seq (l := [(61, .iload_n 1, 1), (62, .goto 7, 3)]) (S2 := (69, [some (.ref 84), some (.int v1), some (.long v2), z3, (mm_no2 z4), some (.int v2.toInt32), z6], [.int v1, .ref 84], (mm_pi M 84 9 ((M.1 84 9) + (1 : Int32))))) (by decide +kernel) (hO := mm_own_196) rfl ?_
      exact (ms_196_j69 hd h hA : mp_196_69 L xs (d + 1) v1 v2.toInt32 v1 (mm_pi M 84 9 ((M.1 84 9) + (1 : Int32))) o) (some (.long v2)) z3 ((mm_no2 z4)) z6
    · replace h := mm_iq hc h
      refine mm_Runs.seq (l := [(65, .aload_n 0, 1), (66, .getfield 110, 3)]) (S2 := (69, [some (.ref 84), some (.int v1), some (.long v2), z3, (mm_no2 z4), some (.int v2.toInt32), z6], [.int (M.1 84 10), .ref 84], (mm_pi M 84 9 ((M.1 84 9) + (1 : Int32))))) (by decide +kernel) (hO := mm_own_196) rfl ?_
      exact (ms_196_j69 hd h hA : mp_196_69 L xs (d + 1) v1 v2.toInt32 (M.1 84 10) (mm_pi M 84 9 ((M.1 84 9) + (1 : Int32))) o) (some (.long v2)) z3 ((mm_no2 z4)) z6
  · replace h := mm_iq hc h
    cases h
    exact mm_R_retv rfl rfl hA
set_option maxRecDepth 8000 in
set_option maxHeartbeats 4000000 in
theorem ms_196_j26 {L : Nat} {xs : Nat → Int32} {d : Nat} (hd : 2 ≤ d) {v1 : Int32} {v2 : Int64} {M : mm_M} {q : (Unit ⊕ Nat) × mm_M} {o : mm_E} (h : mf_196_j26 v1 v2 M = some q) (hA : mm_A (mm_Kr mm_wv) q o) : mp_196_26 L xs d v1 v2 M o := by
  unfold mf_196_j26 at h
  obtain ⟨d, rfl⟩ := mm_d1 (n := 1) hd
  intro z3 z4 z5 z6
  show mm_Runs L xs (d + 1) 196 (26, [some (.ref 84), some (.int v1), some (.long v2), z3, z4, z5, z6], [], M) o
  refine mm_Runs.seq (l := [(26, .aload_n 0, 1)]) (S2 := (27, [some (.ref 84), some (.int v1), some (.long v2), z3, z4, z5, z6], [.ref 84], M)) (by decide +kernel) (hO := mm_own_196) rfl ?_
  refine mm_R_call (v := mm_wv) h hA (k2 := 190) (as := [.ref 84]) (r := []) rfl (fun _ => rfl) (fun q hq o ho => ms_190 (by omega) hq ho) (fun _ M1 h => ?_)
  show mm_Runs L xs (d + 1) 196 (30, [some (.ref 84), some (.int v1), some (.long v2), z3, z4, z5, z6], [], M1) o
  exact (ms_196_j30 hd h hA : mp_196_30 L xs (d + 1) v1 v2 M1 o) z3 z4 z5 z6
set_option maxRecDepth 8000 in
set_option maxHeartbeats 4000000 in
theorem ms_196 {L : Nat} {xs : Nat → Int32} {d : Nat} (hd : 2 ≤ d) {v1 : Int32} {v2 : Int64} {v4 : Int32} {M : mm_M} {q : (Unit ⊕ Nat) × mm_M} {o : mm_E} (h : mf_196 v1 v2 v4 M = some q) (hA : mm_A (mm_Kr mm_wv) q o) : mm_Runs L xs d 196 (0, mm_ent (mm_ml 196) [.ref 84, .int v1, .long v2, .int v4], [], M) o := by
  unfold mf_196 at h
  obtain ⟨d, rfl⟩ := mm_d1 (n := 1) hd
  show mm_Runs L xs (d + 1) 196 (0, [some (.ref 84), some (.int v1), some (.long v2), none, some (.int v4), none, none], [], M) o
  refine mm_Runs.seq (l := [(0, .aload_n 0, 1), (1, .getfield 154, 3)]) (S2 := (4, [some (.ref 84), some (.int v1), some (.long v2), none, some (.int v4), none, none], [.int (M.1 84 7)], M)) (by decide +kernel) (hO := mm_own_196) rfl ?_
  refine mm_R_zne (t := 30) rfl rfl rfl (fun hc => ?_) (fun hc => ?_)
  · replace h := mm_ip hc h
    refine mm_Runs.seq (l := [(7, .lload_n 2, 1), (8, .lconst 0, 1)]) (S2 := (9, [some (.ref 84), some (.int v1), some (.long v2), none, some (.int v4), none, none], [.long (0 : Int64), .long v2], M)) (by decide +kernel) (hO := mm_own_196) rfl ?_
    refine mm_R_leq (t := 26) rfl rfl rfl rfl (fun hc => ?_) (fun hc => ?_)
    · replace h := mm_ip hc h
      exact (ms_196_j26 hd h hA : mp_196_26 L xs (d + 1) v1 v2 M o) none (some (.int v4)) none none
    · replace h := mm_iq hc h
      refine mm_Runs.seq (l := [(13, .lload_n 2, 1), (14, .aload_n 0, 1), (15, .getfield 98, 3), (18, .iload 4, 2), (20, .isub, 1), (21, .i2l, 1)]) (S2 := (22, [some (.ref 84), some (.int v1), some (.long v2), none, some (.int v4), none, none], [.long ((M.1 84 4) - v4).toInt64, .long v2], M)) (by decide +kernel) (hO := mm_own_196) rfl ?_
      refine mm_R_lle (t := 30) rfl rfl rfl rfl (fun hc => ?_) (fun hc => ?_)
      · replace h := mm_ip hc h
        exact (ms_196_j26 hd h hA : mp_196_26 L xs (d + 1) v1 v2 M o) none (some (.int v4)) none none
      · replace h := mm_iq hc h
        exact (ms_196_j30 hd h hA : mp_196_30 L xs (d + 1) v1 v2 M o) none (some (.int v4)) none none
  · replace h := mm_iq hc h
    exact (ms_196_j30 hd h hA : mp_196_30 L xs (d + 1) v1 v2 M o) none (some (.int v4)) none none
-- 209: PlainPacksModel.distanceTo(II)V (depth 4)
theorem mm_own_209 : mm_own 209 = 12 := rfl
def mp_209_27 (L : Nat) (xs : Nat → Int32) (d : Nat) (v1 : Int32) (v2 : Int32) (v3 : Int32) (M : mm_M) (o : mm_E) : Prop := ∀ z4 z5 : Option Value, mm_Runs L xs d 209 (27, [some (.ref 84), some (.int v1), some (.int v2), some (.int v3), z4, z5], [], M) o
def mp_209_49 (L : Nat) (xs : Nat → Int32) (d : Nat) (v1 : Int32) (v2 : Int32) (v3 : Int32) (s0 : Int32) (M : mm_M) (o : mm_E) : Prop := ∀ z4 z5 : Option Value, mm_Runs L xs d 209 (49, [some (.ref 84), some (.int v1), some (.int v2), some (.int v3), z4, z5], [.int s0], M) o
def mp_209_72 (L : Nat) (xs : Nat → Int32) (d : Nat) (v1 : Int32) (v2 : Int32) (v4 : Int32) (s0 : Int32) (M : mm_M) (o : mm_E) : Prop := ∀ z3 z5 : Option Value, mm_Runs L xs d 209 (72, [some (.ref 84), some (.int v1), some (.int v2), z3, some (.int v4), z5], [.int s0], M) o
def mp_209_103 (L : Nat) (xs : Nat → Int32) (d : Nat) (v1 : Int32) (v5 : Int32) (M : mm_M) (o : mm_E) : Prop := ∀ z2 z3 z4 : Option Value, mm_Runs L xs d 209 (103, [some (.ref 84), some (.int v1), z2, z3, z4, some (.int v5)], [], M) o
set_option maxRecDepth 8000 in
set_option maxHeartbeats 4000000 in
theorem ms_209_j103 {L : Nat} {xs : Nat → Int32} {d : Nat} (hd : 4 ≤ d) {v1 : Int32} {v5 : Int32} {M : mm_M} {q : (Unit ⊕ Nat) × mm_M} {o : mm_E} (h : mf_209_j103 v1 v5 M = some q) (hA : mm_A (mm_Kr mm_wv) q o) : mp_209_103 L xs d v1 v5 M o := by
  unfold mf_209_j103 at h
  obtain ⟨d, rfl⟩ := mm_d1 (n := 3) hd
  intro z2 z3 z4
  show mm_Runs L xs (d + 1) 209 (103, [some (.ref 84), some (.int v1), z2, z3, z4, some (.int v5)], [], M) o
  refine mm_Runs.seq (l := [(103, .aload_n 0, 1), (104, .iload_n 1, 1), (105, .iload 5, 2), (107, .i2l, 1), (108, .iconst 0, 1)]) (S2 := (109, [some (.ref 84), some (.int v1), z2, z3, z4, some (.int v5)], [.int (0 : Int32), .long v5.toInt64, .int v1, .ref 84], M)) (by decide +kernel) (hO := mm_own_209) rfl ?_
  refine mm_R_call (v := mm_wv) h hA (k2 := 196) (as := [.ref 84, .int v1, .long v5.toInt64, .int (0 : Int32)]) (r := []) rfl (fun _ => rfl) (fun q hq o ho => ms_196 (by omega) hq ho) (fun _ M1 h => ?_)
  show mm_Runs L xs (d + 1) 209 (112, [some (.ref 84), some (.int v1), z2, z3, z4, some (.int v5)], [], M1) o
  cases h
  exact mm_R_retv rfl rfl hA
set_option maxRecDepth 8000 in
set_option maxHeartbeats 4000000 in
theorem ms_209_j72 {L : Nat} {xs : Nat → Int32} {d : Nat} (hd : 4 ≤ d) {v1 : Int32} {v2 : Int32} {v4 : Int32} {s0 : Int32} {M : mm_M} {q : (Unit ⊕ Nat) × mm_M} {o : mm_E} (h : mf_209_j72 v1 v2 v4 s0 M = some q) (hA : mm_A (mm_Kr mm_wv) q o) : mp_209_72 L xs d v1 v2 v4 s0 M o := by
  unfold mf_209_j72 at h
  obtain ⟨d, rfl⟩ := mm_d1 (n := 3) hd
  intro z3 z5
  show mm_Runs L xs (d + 1) 209 (72, [some (.ref 84), some (.int v1), some (.int v2), z3, some (.int v4), z5], [.int s0], M) o
  refine mm_Runs.seq (l := [(72, .istore 5, 2), (74, .iload 5, 2), (76, .aload_n 0, 1), (77, .iload 4, 2)]) (S2 := (79, [some (.ref 84), some (.int v1), some (.int v2), z3, some (.int v4), some (.int s0)], [.int v4, .ref 84, .int s0], M)) (by decide +kernel) (hO := mm_own_209) rfl ?_
  refine mm_R_call (v := mm_wl) h hA (k2 := 198) (as := [.ref 84, .int v4]) (r := [.int s0]) rfl (fun _ => rfl) (fun q hq o ho => ms_198 (by omega) hq ho) (fun r1 M2 h => ?_)
  show mm_Runs L xs (d + 1) 209 (82, [some (.ref 84), some (.int v1), some (.int v2), z3, some (.int v4), some (.int s0)], [.long r1, .int s0], M2) o
  refine mm_Runs.seq (l := [(82, .l2i, 1), (83, .iadd, 1), (84, .istore 5, 2), (86, .aload_n 0, 1), (87, .getfield 154, 3)]) (S2 := (90, [some (.ref 84), some (.int v1), some (.int v2), z3, some (.int v4), some (.int (s0 + r1.toInt32))], [.int (M2.1 84 7)], M2)) (by decide +kernel) (hO := mm_own_209) rfl ?_
  refine mm_R_zne (t := 103) rfl rfl rfl (fun hc => ?_) (fun hc => ?_)
  · replace h := mm_ip hc h
    refine mm_Runs.seq (l := [(93, .iload 5, 2), (95, .iload_n 2, 1)]) (S2 := (96, [some (.ref 84), some (.int v1), some (.int v2), z3, some (.int v4), some (.int (s0 + r1.toInt32))], [.int v2, .int (s0 + r1.toInt32)], M2)) (by decide +kernel) (hO := mm_own_209) rfl ?_
    refine mm_R_ile (t := 103) rfl rfl rfl (fun hc => ?_) (fun hc => ?_)
    · replace h := mm_ip hc h
      refine mm_Runs.seq (l := [(99, .aload_n 0, 1)]) (S2 := (100, [some (.ref 84), some (.int v1), some (.int v2), z3, some (.int v4), some (.int (s0 + r1.toInt32))], [.ref 84], M2)) (by decide +kernel) (hO := mm_own_209) rfl ?_
      refine mm_R_call (v := mm_wv) h hA (k2 := 190) (as := [.ref 84]) (r := []) rfl (fun _ => rfl) (fun q hq o ho => ms_190 (by omega) hq ho) (fun _ M3 h => ?_)
      show mm_Runs L xs (d + 1) 209 (103, [some (.ref 84), some (.int v1), some (.int v2), z3, some (.int v4), some (.int (s0 + r1.toInt32))], [], M3) o
      exact (ms_209_j103 hd h hA : mp_209_103 L xs (d + 1) v1 (s0 + r1.toInt32) M3 o) (some (.int v2)) z3 (some (.int v4))
    · replace h := mm_iq hc h
      exact (ms_209_j103 hd h hA : mp_209_103 L xs (d + 1) v1 (s0 + r1.toInt32) M2 o) (some (.int v2)) z3 (some (.int v4))
  · replace h := mm_iq hc h
    exact (ms_209_j103 hd h hA : mp_209_103 L xs (d + 1) v1 (s0 + r1.toInt32) M2 o) (some (.int v2)) z3 (some (.int v4))
set_option maxRecDepth 8000 in
set_option maxHeartbeats 4000000 in
theorem ms_209_j49 {L : Nat} {xs : Nat → Int32} {d : Nat} (hd : 4 ≤ d) {v1 : Int32} {v2 : Int32} {v3 : Int32} {s0 : Int32} {M : mm_M} {q : (Unit ⊕ Nat) × mm_M} {o : mm_E} (h : mf_209_j49 v1 v2 v3 s0 M = some q) (hA : mm_A (mm_Kr mm_wv) q o) : mp_209_49 L xs d v1 v2 v3 s0 M o := by
  unfold mf_209_j49 at h
  obtain ⟨d, rfl⟩ := mm_d1 (n := 3) hd
  intro z4 z5
  show mm_Runs L xs (d + 1) 209 (49, [some (.ref 84), some (.int v1), some (.int v2), some (.int v3), z4, z5], [.int s0], M) o
  refine mm_Runs.seq (l := [(49, .istore 4, 2), (51, .iload_n 3, 1), (52, .iconst 4, 1)]) (S2 := (53, [some (.ref 84), some (.int v1), some (.int v2), some (.int v3), some (.int s0), z5], [.int (4 : Int32), .int v3], M)) (by decide +kernel) (hO := mm_own_209) rfl ?_
  refine mm_R_ige (t := 62) rfl rfl rfl (fun hc => ?_) (fun hc => ?_)
  · replace h := mm_ip hc h
    refine mm_Runs.seq (l := [(56, .iload_n 3, 1), (57, .iconst 1, 1), (58, .iadd, 1), (59, .goto 13, 3)]) (S2 := (72, [some (.ref 84), some (.int v1), some (.int v2), some (.int v3), some (.int s0), z5], [.int (v3 + (1 : Int32))], M)) (by decide +kernel) (hO := mm_own_209) rfl ?_
    exact (ms_209_j72 hd h hA : mp_209_72 L xs (d + 1) v1 v2 s0 (v3 + (1 : Int32)) M o) (some (.int v3)) z5
  · replace h := mm_iq hc h
    refine mm_Runs.seq (l := [(62, .iconst 1, 1), (63, .iconst 2, 1), (64, .iload_n 3, 1), (65, .iconst 2, 1), (66, .irem, 1), (67, .iadd, 1), (68, .iload 4, 2), (70, .ishl, 1), (71, .iadd, 1)]) (S2 := (72, [some (.ref 84), some (.int v1), some (.int v2), some (.int v3), some (.int s0), z5], [.int ((1 : Int32) + (mm_shl ((2 : Int32) + (mm_rem v3 (2 : Int32))) s0))], M)) (by decide +kernel) (hO := mm_own_209) rfl ?_
    exact (ms_209_j72 hd h hA : mp_209_72 L xs (d + 1) v1 v2 s0 ((1 : Int32) + (mm_shl ((2 : Int32) + (mm_rem v3 (2 : Int32))) s0)) M o) (some (.int v3)) z5
set_option maxRecDepth 8000 in
set_option maxHeartbeats 4000000 in
theorem ms_209_j27 {L : Nat} {xs : Nat → Int32} {d : Nat} (hd : 4 ≤ d) {v1 : Int32} {v2 : Int32} {v3 : Int32} {M : mm_M} {q : (Unit ⊕ Nat) × mm_M} {o : mm_E} (h : mf_209_j27 v1 v2 v3 M = some q) (hA : mm_A (mm_Kr mm_wv) q o) : mp_209_27 L xs d v1 v2 v3 M o := by
  unfold mf_209_j27 at h
  obtain ⟨d, rfl⟩ := mm_d1 (n := 3) hd
  intro z4 z5
  show mm_Runs L xs (d + 1) 209 (27, [some (.ref 84), some (.int v1), some (.int v2), some (.int v3), z4, z5], [], M) o
  refine mm_Runs.seq (l := [(27, .aload_n 0, 1), (28, .getfield 154, 3)]) (S2 := (31, [some (.ref 84), some (.int v1), some (.int v2), some (.int v3), z4, z5], [.int (M.1 84 7)], M)) (by decide +kernel) (hO := mm_own_209) rfl ?_
  refine mm_R_zeq (t := 35) rfl rfl rfl (fun hc => ?_) (fun hc => ?_)
  · replace h := mm_ip hc h
    refine mm_Runs.seq (l := [(35, .iload_n 3, 1), (36, .iconst 4, 1)]) (S2 := (37, [some (.ref 84), some (.int v1), some (.int v2), some (.int v3), z4, z5], [.int (4 : Int32), .int v3], M)) (by decide +kernel) (hO := mm_own_209) rfl ?_
    refine mm_R_ige (t := 44) rfl rfl rfl (fun hc => ?_) (fun hc => ?_)
    · replace h := mm_ip hc h
      refine mm_Runs.seq (l := [(40, .iconst 0, 1), (41, .goto 8, 3)]) (S2 := (49, [some (.ref 84), some (.int v1), some (.int v2), some (.int v3), z4, z5], [.int (0 : Int32)], M)) (by decide +kernel) (hO := mm_own_209) rfl ?_
      exact (ms_209_j49 hd h hA : mp_209_49 L xs (d + 1) v1 v2 v3 (0 : Int32) M o) z4 z5
    · replace h := mm_iq hc h
      refine mm_Runs.seq (l := [(44, .iload_n 3, 1), (45, .iconst 2, 1), (46, .idiv, 1), (47, .iconst 1, 1), (48, .isub, 1)]) (S2 := (49, [some (.ref 84), some (.int v1), some (.int v2), some (.int v3), z4, z5], [.int ((v3 / (2 : Int32)) - (1 : Int32))], M)) (by decide +kernel) (hO := mm_own_209) rfl ?_
      exact (ms_209_j49 hd h hA : mp_209_49 L xs (d + 1) v1 v2 v3 ((v3 / (2 : Int32)) - (1 : Int32)) M o) z4 z5
  · replace h := mm_iq hc h
    cases h
    exact mm_R_retv rfl rfl hA
set_option maxRecDepth 8000 in
set_option maxHeartbeats 4000000 in
theorem ms_209 {L : Nat} {xs : Nat → Int32} {d : Nat} (hd : 4 ≤ d) {v1 : Int32} {v2 : Int32} {M : mm_M} {q : (Unit ⊕ Nat) × mm_M} {o : mm_E} (h : mf_209 v1 v2 M = some q) (hA : mm_A (mm_Kr mm_wv) q o) : mm_Runs L xs d 209 (0, mm_ent (mm_ml 209) [.ref 84, .int v1, .int v2], [], M) o := by
  unfold mf_209 at h
  obtain ⟨d, rfl⟩ := mm_d1 (n := 3) hd
  show mm_Runs L xs (d + 1) 209 (0, [some (.ref 84), some (.int v1), some (.int v2), none, none, none], [], M) o
  refine mm_Runs.seq (l := [(0, .aload_n 0, 1), (1, .iconst 1, 1), (2, .aload_n 0, 1), (3, .getfield 218, 3)]) (S2 := (6, [some (.ref 84), some (.int v1), some (.int v2), none, none, none], [.int (M.1 84 21), .int (1 : Int32), .ref 84], M)) (by decide +kernel) (hO := mm_own_209) rfl ?_
  refine mm_R_call (v := mm_wi) h hA (k2 := 202) (as := [.ref 84, .int (1 : Int32), .int (M.1 84 21)]) (r := []) rfl (fun _ => rfl) (fun q hq o ho => ms_202 (by omega) hq ho) (fun r1 M2 h => ?_)
  show mm_Runs L xs (d + 1) 209 (9, [some (.ref 84), some (.int v1), some (.int v2), none, none, none], [.int r1], M2) o
  refine mm_Runs.seq (l := [(9, .istore_n 3, 1), (10, .aload_n 0, 1), (11, .getfield 154, 3)]) (S2 := (14, [some (.ref 84), some (.int v1), some (.int v2), some (.int r1), none, none], [.int (M2.1 84 7)], M2)) (by decide +kernel) (hO := mm_own_209) rfl ?_
  refine mm_R_zne (t := 27) rfl rfl rfl (fun hc => ?_) (fun hc => ?_)
  · replace h := mm_ip hc h
    refine mm_Runs.seq (l := [(17, .iload_n 3, 1), (18, .bipush 29, 2)]) (S2 := (20, [some (.ref 84), some (.int v1), some (.int v2), some (.int r1), none, none], [.int (29 : Int32), .int r1], M2)) (by decide +kernel) (hO := mm_own_209) rfl ?_
    refine mm_R_ile (t := 27) rfl rfl rfl (fun hc => ?_) (fun hc => ?_)
    · replace h := mm_ip hc h
      refine mm_Runs.seq (l := [(23, .aload_n 0, 1)]) (S2 := (24, [some (.ref 84), some (.int v1), some (.int v2), some (.int r1), none, none], [.ref 84], M2)) (by decide +kernel) (hO := mm_own_209) rfl ?_
      refine mm_R_call (v := mm_wv) h hA (k2 := 190) (as := [.ref 84]) (r := []) rfl (fun _ => rfl) (fun q hq o ho => ms_190 (by omega) hq ho) (fun _ M3 h => ?_)
      show mm_Runs L xs (d + 1) 209 (27, [some (.ref 84), some (.int v1), some (.int v2), some (.int r1), none, none], [], M3) o
      exact (ms_209_j27 hd h hA : mp_209_27 L xs (d + 1) v1 v2 r1 M3 o) none none
    · replace h := mm_iq hc h
      exact (ms_209_j27 hd h hA : mp_209_27 L xs (d + 1) v1 v2 r1 M2 o) none none
  · replace h := mm_iq hc h
    exact (ms_209_j27 hd h hA : mp_209_27 L xs (d + 1) v1 v2 r1 M2 o) none none
-- 208: PlainPacksModel.lettersTo(I)V (depth 5)
theorem mm_own_208 : mm_own 208 = 12 := rfl
def mp_208_2 (L : Nat) (xs : Nat → Int32) (d : Nat) (v1 : Int32) (v2 : Int32) (M : mm_M) (o : mm_E) : Prop := ∀ z3 z4 z5 : Option Value, mm_Runs L xs d 208 (2, [some (.ref 84), some (.int v1), some (.int v2), z3, z4, z5], [], M) o
def mp_208_30 (L : Nat) (xs : Nat → Int32) (d : Nat) (M : mm_M) (o : mm_E) : Prop := ∀ z0 z1 z2 z3 z4 z5 : Option Value, mm_Runs L xs d 208 (30, [z0, z1, z2, z3, z4, z5], [], M) o
def mp_208_182 (L : Nat) (xs : Nat → Int32) (d : Nat) (M : mm_M) (o : mm_E) : Prop := ∀ z0 z1 z2 z3 z4 z5 : Option Value, mm_Runs L xs d 208 (182, [z0, z1, z2, z3, z4, z5], [], M) o
def mp_208_114 (L : Nat) (xs : Nat → Int32) (d : Nat) (v1 : Int32) (v2 : Int32) (v3 : Int32) (s0 : Int32) (M : mm_M) (o : mm_E) : Prop := ∀ z4 z5 : Option Value, mm_Runs L xs d 208 (114, [some (.ref 84), some (.int v1), some (.int v2), some (.int v3), z4, z5], [.int s0], M) o
def mp_208_158 (L : Nat) (xs : Nat → Int32) (d : Nat) (v1 : Int32) (v2 : Int32) (v4 : Int32) (s0 : Int32) (M : mm_M) (o : mm_E) : Prop := ∀ z3 z5 : Option Value, mm_Runs L xs d 208 (158, [some (.ref 84), some (.int v1), some (.int v2), z3, some (.int v4), z5], [.int s0], M) o
set_option maxRecDepth 8000 in
set_option maxHeartbeats 4000000 in
theorem ms_208_j158 {L : Nat} {xs : Nat → Int32} {d : Nat} (hd : 5 ≤ d) {v1 : Int32} {v2 : Int32} {v4 : Int32} {s0 : Int32} {M : mm_M} {q : (((Int32) ⊕ ((Unit) ⊕ (Unit))) ⊕ Nat) × mm_M} {o : mm_E} (h : mf_208_j158 v1 v2 v4 s0 M = some q) (hA : mm_A (mm_K2 (fun s M o => mp_208_2 L xs (d) v1 s M o) (fun r M o => mm_sm (fun r => mp_208_30 L xs (d) M o) (fun r => mp_208_182 L xs (d) M o) r)) q o) : mp_208_158 L xs d v1 v2 v4 s0 M o := by
  unfold mf_208_j158 at h
  obtain ⟨d, rfl⟩ := mm_d1 (n := 4) hd
  intro z3 z5
  show mm_Runs L xs (d + 1) 208 (158, [some (.ref 84), some (.int v1), some (.int v2), z3, some (.int v4), z5], [.int s0], M) o
  refine mm_Runs.seq (l := [(158, .istore 5, 2), (160, .iload 5, 2), (162, .aload_n 0, 1), (163, .iload 4, 2)]) (S2 := (165, [some (.ref 84), some (.int v1), some (.int v2), z3, some (.int v4), some (.int s0)], [.int v4, .ref 84, .int s0], M)) (by decide +kernel) (hO := mm_own_208) rfl ?_
  refine mm_R_call (v := mm_wl) h hA (k2 := 198) (as := [.ref 84, .int v4]) (r := [.int s0]) rfl (fun _ => rfl) (fun q hq o ho => ms_198 (by omega) hq ho) (fun r1 M2 h => ?_)
  show mm_Runs L xs (d + 1) 208 (168, [some (.ref 84), some (.int v1), some (.int v2), z3, some (.int v4), some (.int s0)], [.long r1, .int s0], M2) o
  refine mm_Runs.seq (l := [(168, .l2i, 1), (169, .iadd, 1), (170, .istore 5, 2), (172, .aload_n 0, 1), (173, .iload 5, 2), (175, .iload_n 1, 1)]) (S2 := (176, [some (.ref 84), some (.int v1), some (.int v2), z3, some (.int v4), some (.int (s0 + r1.toInt32))], [.int v1, .int (s0 + r1.toInt32), .ref 84], M2)) (by decide +kernel) (hO := mm_own_208) rfl ?_
  refine mm_R_call (v := mm_wv) h hA (k2 := 209) (as := [.ref 84, .int (s0 + r1.toInt32), .int v1]) (r := []) rfl (fun _ => rfl) (fun q hq o ho => ms_209 (by omega) hq ho) (fun _ M3 h => ?_)
  show mm_Runs L xs (d + 1) 208 (179, [some (.ref 84), some (.int v1), some (.int v2), z3, some (.int v4), some (.int (s0 + r1.toInt32))], [], M3) o
  refine mm_Runs.seq (l := [(179, .goto (-177), 3)]) (S2 := (2, [some (.ref 84), some (.int v1), some (.int v2), z3, some (.int v4), some (.int (s0 + r1.toInt32))], [], M3)) (by decide +kernel) (hO := mm_own_208) rfl ?_
  cases h
  exact (show mp_208_2 L xs (d + 1) v1 v2 M3 o from hA) z3 (some (.int v4)) (some (.int (s0 + r1.toInt32)))
set_option maxRecDepth 8000 in
set_option maxHeartbeats 4000000 in
theorem ms_208_j114 {L : Nat} {xs : Nat → Int32} {d : Nat} (hd : 5 ≤ d) {v1 : Int32} {v2 : Int32} {v3 : Int32} {s0 : Int32} {M : mm_M} {q : (((Int32) ⊕ ((Unit) ⊕ (Unit))) ⊕ Nat) × mm_M} {o : mm_E} (h : mf_208_j114 v1 v2 v3 s0 M = some q) (hA : mm_A (mm_K2 (fun s M o => mp_208_2 L xs (d) v1 s M o) (fun r M o => mm_sm (fun r => mp_208_30 L xs (d) M o) (fun r => mp_208_182 L xs (d) M o) r)) q o) : mp_208_114 L xs d v1 v2 v3 s0 M o := by
  unfold mf_208_j114 at h
  obtain ⟨d, rfl⟩ := mm_d1 (n := 4) hd
  intro z4 z5
  show mm_Runs L xs (d + 1) 208 (114, [some (.ref 84), some (.int v1), some (.int v2), some (.int v3), z4, z5], [.int s0], M) o
  refine mm_Runs.seq (l := [(114, .istore 4, 2), (116, .iload_n 3, 1), (117, .sipush 265, 3)]) (S2 := (120, [some (.ref 84), some (.int v1), some (.int v2), some (.int v3), some (.int s0), z5], [.int (265 : Int32), .int v3], M)) (by decide +kernel) (hO := mm_own_208) rfl ?_
  refine mm_R_ige (t := 131) rfl rfl rfl (fun hc => ?_) (fun hc => ?_)
  · replace h := mm_ip hc h
    refine mm_Runs.seq (l := [(123, .iload_n 3, 1), (124, .sipush 254, 3), (127, .isub, 1), (128, .goto 30, 3)]) (S2 := (158, [some (.ref 84), some (.int v1), some (.int v2), some (.int v3), some (.int s0), z5], [.int (v3 - (254 : Int32))], M)) (by decide +kernel) (hO := mm_own_208) rfl ?_
    exact (ms_208_j158 hd h hA : mp_208_158 L xs (d + 1) v1 v2 s0 (v3 - (254 : Int32)) M o) (some (.int v3)) z5
  · replace h := mm_iq hc h
    refine mm_Runs.seq (l := [(131, .iload_n 3, 1), (132, .sipush 285, 3)]) (S2 := (135, [some (.ref 84), some (.int v1), some (.int v2), some (.int v3), some (.int s0), z5], [.int (285 : Int32), .int v3], M)) (by decide +kernel) (hO := mm_own_208) rfl ?_
    refine mm_R_ine (t := 144) rfl rfl rfl (fun hc => ?_) (fun hc => ?_)
    · replace h := mm_ip hc h
      refine mm_Runs.seq (l := [(138, .sipush 258, 3), (141, .goto 17, 3)]) (S2 := (158, [some (.ref 84), some (.int v1), some (.int v2), some (.int v3), some (.int s0), z5], [.int (258 : Int32)], M)) (by decide +kernel) (hO := mm_own_208) rfl ?_
      exact (ms_208_j158 hd h hA : mp_208_158 L xs (d + 1) v1 v2 s0 (258 : Int32) M o) (some (.int v3)) z5
    · replace h := mm_iq hc h
      refine mm_Runs.seq (l := [(144, .iconst 3, 1), (145, .iconst 4, 1), (146, .iload_n 3, 1), (147, .sipush 265, 3), (150, .isub, 1), (151, .iconst 4, 1), (152, .irem, 1), (153, .iadd, 1), (154, .iload 4, 2), (156, .ishl, 1), (157, .iadd, 1)]) (S2 := (158, [some (.ref 84), some (.int v1), some (.int v2), some (.int v3), some (.int s0), z5], [.int ((3 : Int32) + (mm_shl ((4 : Int32) + (mm_rem (v3 - (265 : Int32)) (4 : Int32))) s0))], M)) (by decide +kernel) (hO := mm_own_208) rfl ?_
      exact (ms_208_j158 hd h hA : mp_208_158 L xs (d + 1) v1 v2 s0 ((3 : Int32) + (mm_shl ((4 : Int32) + (mm_rem (v3 - (265 : Int32)) (4 : Int32))) s0)) M o) (some (.int v3)) z5
set_option maxRecDepth 8000 in
set_option maxHeartbeats 4000000 in
theorem ms_208_b2 {L : Nat} {xs : Nat → Int32} {d : Nat} (hd : 5 ≤ d) {v1 : Int32} {v2 : Int32} {M : mm_M} {q : (((Int32) ⊕ ((Unit) ⊕ (Unit))) ⊕ Nat) × mm_M} {o : mm_E} (h : mf_208_b2 v1 v2 M = some q) (hA : mm_A (mm_K2 (fun s M o => mp_208_2 L xs (d) v1 s M o) (fun r M o => mm_sm (fun r => mp_208_30 L xs (d) M o) (fun r => mp_208_182 L xs (d) M o) r)) q o) : mp_208_2 L xs d v1 v2 M o := by
  unfold mf_208_b2 at h
  obtain ⟨d, rfl⟩ := mm_d1 (n := 4) hd
  intro z3 z4 z5
  show mm_Runs L xs (d + 1) 208 (2, [some (.ref 84), some (.int v1), some (.int v2), z3, z4, z5], [], M) o
  refine mm_Runs.seq (l := [(2, .iload_n 2, 1)]) (S2 := (3, [some (.ref 84), some (.int v1), some (.int v2), z3, z4, z5], [.int v2], M)) (by decide +kernel) (hO := mm_own_208) rfl ?_
  refine mm_R_zeq (t := 182) rfl rfl rfl (fun hc => ?_) (fun hc => ?_)
  · replace h := mm_ip hc h
    cases h
    exact (show mp_208_182 L xs (d + 1) M o from hA) (some (.ref 84)) (some (.int v1)) (some (.int v2)) z3 z4 z5
  · replace h := mm_iq hc h
    refine mm_Runs.seq (l := [(6, .aload_n 0, 1), (7, .getfield 154, 3)]) (S2 := (10, [some (.ref 84), some (.int v1), some (.int v2), z3, z4, z5], [.int (M.1 84 7)], M)) (by decide +kernel) (hO := mm_own_208) rfl ?_
    refine mm_R_zne (t := 182) rfl rfl rfl (fun hc => ?_) (fun hc => ?_)
    · replace h := mm_ip hc h
      refine mm_Runs.seq (l := [(13, .aload_n 0, 1), (14, .iconst 0, 1), (15, .aload_n 0, 1), (16, .getfield 215, 3)]) (S2 := (19, [some (.ref 84), some (.int v1), some (.int v2), z3, z4, z5], [.int (M.1 84 20), .int (0 : Int32), .ref 84], M)) (by decide +kernel) (hO := mm_own_208) rfl ?_
      refine mm_R_call (v := mm_wi) h hA (k2 := 202) (as := [.ref 84, .int (0 : Int32), .int (M.1 84 20)]) (r := []) rfl (fun _ => rfl) (fun q hq o ho => ms_202 (by omega) hq ho) (fun r1 M2 h => ?_)
      show mm_Runs L xs (d + 1) 208 (22, [some (.ref 84), some (.int v1), some (.int v2), z3, z4, z5], [.int r1], M2) o
      refine mm_Runs.seq (l := [(22, .istore_n 3, 1), (23, .aload_n 0, 1), (24, .getfield 154, 3)]) (S2 := (27, [some (.ref 84), some (.int v1), some (.int v2), some (.int r1), z4, z5], [.int (M2.1 84 7)], M2)) (by decide +kernel) (hO := mm_own_208) rfl ?_
      refine mm_R_zeq (t := 31) rfl rfl rfl (fun hc => ?_) (fun hc => ?_)
      · replace h := mm_ip hc h
        refine mm_Runs.seq (l := [(31, .iload_n 3, 1), (32, .sipush 256, 3)]) (S2 := (35, [some (.ref 84), some (.int v1), some (.int v2), some (.int r1), z4, z5], [.int (256 : Int32), .int r1], M2)) (by decide +kernel) (hO := mm_own_208) rfl ?_
        refine mm_R_ige (t := 63) rfl rfl rfl (fun hc => ?_) (fun hc => ?_)
        · replace h := mm_ip hc h
          refine mm_Runs.seq (l := [(38, .aload_n 0, 1), (39, .dup, 1), (40, .getfield 104, 3), (43, .aload_n 0, 1), (44, .iload_n 3, 1)]) (S2 := (45, [some (.ref 84), some (.int v1), some (.int v2), some (.int r1), z4, z5], [.int r1, .ref 84, .int (M2.1 84 8), .ref 84], M2)) (by decide +kernel) (hO := mm_own_208) rfl ?_
          refine mm_R_call (v := mm_wi) h hA (k2 := 194) (as := [.ref 84, .int r1]) (r := [.int (M2.1 84 8), .ref 84]) rfl (fun _ => rfl) (fun q hq o ho => ms_194 (by omega) hq ho) (fun r3 M4 h => ?_)
          show mm_Runs L xs (d + 1) 208 (48, [some (.ref 84), some (.int v1), some (.int v2), some (.int r1), z4, z5], [.int r3, .int (M2.1 84 8), .ref 84], M4) o
          refine mm_R_zeq (t := 55) rfl rfl rfl (fun hc => ?_) (fun hc => ?_)
          · replace h := mm_ip hc h
            refine mm_Runs.seq (l := [(55, .iconst 0, 1), (56, .iadd, 1), (57, .putfield 104, 3), (60, .goto 119, 3), (179, .goto (-177), 3)]) (S2 := (2, [some (.ref 84), some (.int v1), some (.int v2), some (.int r1), z4, z5], [], (mm_pi M4 84 8 ((M2.1 84 8) + (0 : Int32))))) (by decide +kernel) (hO := mm_own_208) rfl ?_
            cases h
            exact (show mp_208_2 L xs (d + 1) v1 v2 (mm_pi M4 84 8 ((M2.1 84 8) + (0 : Int32))) o from hA) (some (.int r1)) z4 z5
          · replace h := mm_iq hc h
            refine mm_Runs.seq (l := [(51, .iconst 1, 1), (52, .goto 4, 3), (56, .iadd, 1), (57, .putfield 104, 3), (60, .goto 119, 3), (179, .goto (-177), 3)]) (S2 := (2, [some (.ref 84), some (.int v1), some (.int v2), some (.int r1), z4, z5], [], (mm_pi M4 84 8 ((M2.1 84 8) + (1 : Int32))))) (by decide +kernel) (hO := mm_own_208) rfl ?_
            cases h
            exact (show mp_208_2 L xs (d + 1) v1 v2 (mm_pi M4 84 8 ((M2.1 84 8) + (1 : Int32))) o from hA) (some (.int r1)) z4 z5
        · replace h := mm_iq hc h
          refine mm_Runs.seq (l := [(63, .iload_n 3, 1), (64, .sipush 256, 3)]) (S2 := (67, [some (.ref 84), some (.int v1), some (.int v2), some (.int r1), z4, z5], [.int (256 : Int32), .int r1], M2)) (by decide +kernel) (hO := mm_own_208) rfl ?_
          refine mm_R_ine (t := 75) rfl rfl rfl (fun hc => ?_) (fun hc => ?_)
          · replace h := mm_ip hc h
            refine mm_Runs.seq (l := [(70, .iconst 0, 1), (71, .istore_n 2, 1), (72, .goto 107, 3), (179, .goto (-177), 3)]) (S2 := (2, [some (.ref 84), some (.int v1), some (.int (0 : Int32)), some (.int r1), z4, z5], [], M2)) (by decide +kernel) (hO := mm_own_208) rfl ?_
            cases h
            exact (show mp_208_2 L xs (d + 1) v1 (0 : Int32) M2 o from hA) (some (.int r1)) z4 z5
          · replace h := mm_iq hc h
            refine mm_Runs.seq (l := [(75, .iload_n 3, 1), (76, .sipush 285, 3)]) (S2 := (79, [some (.ref 84), some (.int v1), some (.int v2), some (.int r1), z4, z5], [.int (285 : Int32), .int r1], M2)) (by decide +kernel) (hO := mm_own_208) rfl ?_
            refine mm_R_ile (t := 89) rfl rfl rfl (fun hc => ?_) (fun hc => ?_)
            · replace h := mm_ip hc h
              refine mm_Runs.seq (l := [(82, .aload_n 0, 1)]) (S2 := (83, [some (.ref 84), some (.int v1), some (.int v2), some (.int r1), z4, z5], [.ref 84], M2)) (by decide +kernel) (hO := mm_own_208) rfl ?_
              refine mm_R_call (v := mm_wv) h hA (k2 := 190) (as := [.ref 84]) (r := []) rfl (fun _ => rfl) (fun q hq o ho => ms_190 (by omega) hq ho) (fun _ M5 h => ?_)
              show mm_Runs L xs (d + 1) 208 (86, [some (.ref 84), some (.int v1), some (.int v2), some (.int r1), z4, z5], [], M5) o
              refine mm_Runs.seq (l := [(86, .goto 93, 3), (179, .goto (-177), 3)]) (S2 := (2, [some (.ref 84), some (.int v1), some (.int v2), some (.int r1), z4, z5], [], M5)) (by decide +kernel) (hO := mm_own_208) rfl ?_
              cases h
              exact (show mp_208_2 L xs (d + 1) v1 v2 M5 o from hA) (some (.int r1)) z4 z5
            · replace h := mm_iq hc h
              refine mm_Runs.seq (l := [(89, .iload_n 3, 1), (90, .sipush 265, 3)]) (S2 := (93, [some (.ref 84), some (.int v1), some (.int v2), some (.int r1), z4, z5], [.int (265 : Int32), .int r1], M2)) (by decide +kernel) (hO := mm_own_208) rfl ?_
              refine mm_R_ilt (t := 103) rfl rfl rfl (fun hc => ?_) (fun hc => ?_)
              · replace h := mm_ip hc h
                refine mm_Runs.seq (l := [(103, .iconst 0, 1), (104, .goto 10, 3)]) (S2 := (114, [some (.ref 84), some (.int v1), some (.int v2), some (.int r1), z4, z5], [.int (0 : Int32)], M2)) (by decide +kernel) (hO := mm_own_208) rfl ?_
                exact (ms_208_j114 hd h hA : mp_208_114 L xs (d + 1) v1 v2 r1 (0 : Int32) M2 o) z4 z5
              · replace h := mm_iq hc h
                refine mm_Runs.seq (l := [(96, .iload_n 3, 1), (97, .sipush 285, 3)]) (S2 := (100, [some (.ref 84), some (.int v1), some (.int v2), some (.int r1), z4, z5], [.int (285 : Int32), .int r1], M2)) (by decide +kernel) (hO := mm_own_208) rfl ?_
                refine mm_R_ine (t := 107) rfl rfl rfl (fun hc => ?_) (fun hc => ?_)
                · replace h := mm_ip hc h
                  refine mm_Runs.seq (l := [(103, .iconst 0, 1), (104, .goto 10, 3)]) (S2 := (114, [some (.ref 84), some (.int v1), some (.int v2), some (.int r1), z4, z5], [.int (0 : Int32)], M2)) (by decide +kernel) (hO := mm_own_208) rfl ?_
                  exact (ms_208_j114 hd h hA : mp_208_114 L xs (d + 1) v1 v2 r1 (0 : Int32) M2 o) z4 z5
                · replace h := mm_iq hc h
                  refine mm_Runs.seq (l := [(107, .iload_n 3, 1), (108, .sipush 261, 3), (111, .isub, 1), (112, .iconst 4, 1), (113, .idiv, 1)]) (S2 := (114, [some (.ref 84), some (.int v1), some (.int v2), some (.int r1), z4, z5], [.int ((r1 - (261 : Int32)) / (4 : Int32))], M2)) (by decide +kernel) (hO := mm_own_208) rfl ?_
                  exact (ms_208_j114 hd h hA : mp_208_114 L xs (d + 1) v1 v2 r1 ((r1 - (261 : Int32)) / (4 : Int32)) M2 o) z4 z5
      · replace h := mm_iq hc h
        cases h
        exact (show mp_208_30 L xs (d + 1) M2 o from hA) (some (.ref 84)) (some (.int v1)) (some (.int v2)) (some (.int r1)) z4 z5
    · replace h := mm_iq hc h
      cases h
      exact (show mp_208_182 L xs (d + 1) M o from hA) (some (.ref 84)) (some (.int v1)) (some (.int v2)) z3 z4 z5
theorem ms_208_L2 {L : Nat} {xs : Nat → Int32} {d : Nat} (hd : 5 ≤ d) {v1 : Int32} {v2 : Int32} {β : Type} {K : β → mm_M → mm_E → Prop} {F : ((Unit) ⊕ (Unit)) → mm_M → mm_O β} {M : mm_M} {q : (β ⊕ Nat) × mm_M} {o : mm_E} (h : mm_B (mf_208_L2 v1 v2 M) F = some q) (hA : mm_A K q o) (hx : ∀ (r : ((Unit) ⊕ (Unit))) (M2 : mm_M), F r M2 = some q → (fun r M o => mm_sm (fun r => mp_208_30 L xs (d) M o) (fun r => mp_208_182 L xs (d) M o) r) r M2 o) : mp_208_2 L xs d v1 v2 M o := by
  unfold mf_208_L2 at h
  exact mm_R_loop (step := (fun s M => mf_208_b2 v1 s M)) (s := v2) (M := M) (P := (fun s M o => mp_208_2 L xs (d) v1 s M o)) (X := (fun r M o => mm_sm (fun r => mp_208_30 L xs (d) M o) (fun r => mp_208_182 L xs (d) M o) r)) h hA (fun s M q hq hA => ms_208_b2 (v1 := v1) (v2 := s) (M := M) (q := q) hd hq hA) hx
set_option maxRecDepth 8000 in
set_option maxHeartbeats 4000000 in
theorem ms_208 {L : Nat} {xs : Nat → Int32} {d : Nat} (hd : 5 ≤ d) {v1 : Int32} {M : mm_M} {q : (Unit ⊕ Nat) × mm_M} {o : mm_E} (h : mf_208 v1 M = some q) (hA : mm_A (mm_Kr mm_wv) q o) : mm_Runs L xs d 208 (0, mm_ent (mm_ml 208) [.ref 84, .int v1], [], M) o := by
  unfold mf_208 at h
  obtain ⟨d, rfl⟩ := mm_d1 (n := 4) hd
  show mm_Runs L xs (d + 1) 208 (0, [some (.ref 84), some (.int v1), none, none, none, none], [], M) o
  refine mm_Runs.seq (l := [(0, .iconst 1, 1), (1, .istore_n 2, 1)]) (S2 := (2, [some (.ref 84), some (.int v1), some (.int (1 : Int32)), none, none, none], [], M)) (by decide +kernel) (hO := mm_own_208) rfl ?_
  have hp : mp_208_2 L xs (d + 1) v1 (1 : Int32) M o := by
    refine ms_208_L2 hd h hA (fun r2 M1 h => ?_)
    rcases r2 with r2 | r2
    · dsimp only [mm_sm] at h
      intro y3 y4 y5 y6 y7 y8
      show mm_Runs L xs (d + 1) 208 (30, [y3, y4, y5, y6, y7, y8], [], M1) o
      cases h
      exact mm_R_retv rfl rfl hA
    · dsimp only [mm_sm] at h
      intro y9 y10 y11 y12 y13 y14
      show mm_Runs L xs (d + 1) 208 (182, [y9, y10, y11, y12, y13, y14], [], M1) o
      cases h
      exact mm_R_retv rfl rfl hA
  exact hp none none none
