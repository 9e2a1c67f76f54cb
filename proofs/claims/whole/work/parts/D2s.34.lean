/-! MEANINGS ARE SOUND 34 -/
-- 271: PlainPacksModel.sortBy(II)V (depth 2)
theorem mm_own_271 : mm_own 271 = 12 := rfl
def mp_271_2 (L : Nat) (xs : Nat → Int32) (d : Nat) (v1 : Int32) (v2 : Int32) (v3 : Int32) (M : mm_M) (o : mm_E) : Prop := ∀ z4 : Option Value, mm_Runs L xs d 271 (2, [some (.ref 84), some (.int v1), some (.int v2), some (.int v3), z4], [], M) o
def mp_271_107 (L : Nat) (xs : Nat → Int32) (d : Nat) (M : mm_M) (o : mm_E) : Prop := ∀ z0 z1 z2 z3 z4 : Option Value, mm_Runs L xs d 271 (107, [z0, z1, z2, z3, z4], [], M) o
def mp_271_10 (L : Nat) (xs : Nat → Int32) (d : Nat) (v1 : Int32) (v2 : Int32) (v3 : Int32) (v4 : Int32) (M : mm_M) (o : mm_E) : Prop := mm_Runs L xs d 271 (10, [some (.ref 84), some (.int v1), some (.int v2), some (.int v3), some (.int v4)], [], M) o
def mp_271_71 (L : Nat) (xs : Nat → Int32) (d : Nat) (v1 : Int32) (v2 : Int32) (v3 : Int32) (M : mm_M) (o : mm_E) : Prop := ∀ z4 : Option Value, mm_Runs L xs d 271 (71, [some (.ref 84), some (.int v1), some (.int v2), some (.int v3), z4], [], M) o
def mp_271_35 (L : Nat) (xs : Nat → Int32) (d : Nat) (v1 : Int32) (v2 : Int32) (v3 : Int32) (v4 : Int32) (s1 : Int32) (s2 : Int32) (M : mm_M) (o : mm_E) : Prop := mm_Runs L xs d 271 (35, [some (.ref 84), some (.int v1), some (.int v2), some (.int v3), some (.int v4)], [.int s2, .int s1, .ref 84], M) o
def mp_271_55 (L : Nat) (xs : Nat → Int32) (d : Nat) (v1 : Int32) (v2 : Int32) (v3 : Int32) (v4 : Int32) (s1 : Int32) (s2 : Int32) (s3 : Int32) (M : mm_M) (o : mm_E) : Prop := mm_Runs L xs d 271 (55, [some (.ref 84), some (.int v1), some (.int v2), some (.int v3), some (.int v4)], [.int s3, .int s2, .int s1, .ref 84], M) o
set_option maxRecDepth 8000 in
set_option maxHeartbeats 4000000 in
theorem ms_271_j55 {L : Nat} {xs : Nat → Int32} {d : Nat} (hd : 2 ≤ d) {v1 : Int32} {v2 : Int32} {v3 : Int32} {v4 : Int32} {s1 : Int32} {s2 : Int32} {s3 : Int32} {M : mm_M} {q : (((Int32) ⊕ (Unit)) ⊕ Nat) × mm_M} {o : mm_E} (h : mf_271_j55 v1 v2 v3 v4 s1 s2 s3 M = some q) (hA : mm_A (mm_K2 (fun s M o => mp_271_10 L xs (d) v1 v2 v3 s M o) (fun r M o => mp_271_71 L xs (d) v1 v2 v3 M o)) q o) : mp_271_55 L xs d v1 v2 v3 v4 s1 s2 s3 M o := by
  unfold mf_271_j55 at h
  obtain ⟨d, rfl⟩ := mm_d1 (n := 1) hd
  show mm_Runs L xs (d + 1) 271 (55, [some (.ref 84), some (.int v1), some (.int v2), some (.int v3), some (.int v4)], [.int s3, .int s2, .int s1, .ref 84], M) o
  refine mm_Runs.seq (l := [(55, .iload_n 1, 1), (56, .iload_n 2, 1)]) (S2 := (57, [some (.ref 84), some (.int v1), some (.int v2), some (.int v3), some (.int v4)], [.int v2, .int v1, .int s3, .int s2, .int s1, .ref 84], M)) (by decide +kernel) (hO := mm_own_271) rfl ?_
  refine mm_R_call (v := mm_wv) h hA (k2 := 272) (as := [.ref 84, .int s1, .int s2, .int s3, .int v1, .int v2]) (r := []) rfl (fun _ => rfl) (fun q hq o ho => ms_272 (by omega) hq ho) (fun _ M1 h => ?_)
  show mm_Runs L xs (d + 1) 271 (60, [some (.ref 84), some (.int v1), some (.int v2), some (.int v3), some (.int v4)], [], M1) o
  refine mm_Runs.seq (l := [(60, .iload 4, 2), (62, .iconst 2, 1), (63, .iload_n 3, 1), (64, .imul, 1), (65, .iadd, 1), (66, .istore 4, 2), (68, .goto (-58), 3)]) (S2 := (10, [some (.ref 84), some (.int v1), some (.int v2), some (.int v3), some (.int (v4 + ((2 : Int32) * v3)))], [], M1)) (by decide +kernel) (hO := mm_own_271) rfl ?_
  cases h
  exact (show mp_271_10 L xs (d + 1) v1 v2 v3 (v4 + ((2 : Int32) * v3)) M1 o from hA)
set_option maxRecDepth 8000 in
set_option maxHeartbeats 4000000 in
theorem ms_271_j35 {L : Nat} {xs : Nat → Int32} {d : Nat} (hd : 2 ≤ d) {v1 : Int32} {v2 : Int32} {v3 : Int32} {v4 : Int32} {s1 : Int32} {s2 : Int32} {M : mm_M} {q : (((Int32) ⊕ (Unit)) ⊕ Nat) × mm_M} {o : mm_E} (h : mf_271_j35 v1 v2 v3 v4 s1 s2 M = some q) (hA : mm_A (mm_K2 (fun s M o => mp_271_10 L xs (d) v1 v2 v3 s M o) (fun r M o => mp_271_71 L xs (d) v1 v2 v3 M o)) q o) : mp_271_35 L xs d v1 v2 v3 v4 s1 s2 M o := by
  unfold mf_271_j35 at h
  obtain ⟨d, rfl⟩ := mm_d1 (n := 1) hd
  show mm_Runs L xs (d + 1) 271 (35, [some (.ref 84), some (.int v1), some (.int v2), some (.int v3), some (.int v4)], [.int s2, .int s1, .ref 84], M) o
  refine mm_Runs.seq (l := [(35, .iload 4, 2), (37, .iconst 2, 1), (38, .iload_n 3, 1), (39, .imul, 1), (40, .iadd, 1), (41, .iload_n 2, 1)]) (S2 := (42, [some (.ref 84), some (.int v1), some (.int v2), some (.int v3), some (.int v4)], [.int v2, .int (v4 + ((2 : Int32) * v3)), .int s2, .int s1, .ref 84], M)) (by decide +kernel) (hO := mm_own_271) rfl ?_
  refine mm_R_ige (t := 54) rfl rfl rfl (fun hc => ?_) (fun hc => ?_)
  · replace h := mm_ip hc h
    refine mm_Runs.seq (l := [(45, .iload 4, 2), (47, .iconst 2, 1), (48, .iload_n 3, 1), (49, .imul, 1), (50, .iadd, 1), (51, .goto 4, 3)]) (S2 := (55, [some (.ref 84), some (.int v1), some (.int v2), some (.int v3), some (.int v4)], [.int (v4 + ((2 : Int32) * v3)), .int s2, .int s1, .ref 84], M)) (by decide +kernel) (hO := mm_own_271) rfl ?_
    exact (ms_271_j55 hd h hA : mp_271_55 L xs (d + 1) v1 v2 v3 v4 s1 s2 (v4 + ((2 : Int32) * v3)) M o)
  · replace h := mm_iq hc h
    refine mm_Runs.seq (l := [(54, .iload_n 2, 1)]) (S2 := (55, [some (.ref 84), some (.int v1), some (.int v2), some (.int v3), some (.int v4)], [.int v2, .int s2, .int s1, .ref 84], M)) (by decide +kernel) (hO := mm_own_271) rfl ?_
    exact (ms_271_j55 hd h hA : mp_271_55 L xs (d + 1) v1 v2 v3 v4 s1 s2 v2 M o)
set_option maxRecDepth 8000 in
set_option maxHeartbeats 4000000 in
theorem ms_271_b10 {L : Nat} {xs : Nat → Int32} {d : Nat} (hd : 2 ≤ d) {v1 : Int32} {v2 : Int32} {v3 : Int32} {v4 : Int32} {M : mm_M} {q : (((Int32) ⊕ (Unit)) ⊕ Nat) × mm_M} {o : mm_E} (h : mf_271_b10 v1 v2 v3 v4 M = some q) (hA : mm_A (mm_K2 (fun s M o => mp_271_10 L xs (d) v1 v2 v3 s M o) (fun r M o => mp_271_71 L xs (d) v1 v2 v3 M o)) q o) : mp_271_10 L xs d v1 v2 v3 v4 M o := by
  unfold mf_271_b10 at h
  obtain ⟨d, rfl⟩ := mm_d1 (n := 1) hd
  show mm_Runs L xs (d + 1) 271 (10, [some (.ref 84), some (.int v1), some (.int v2), some (.int v3), some (.int v4)], [], M) o
  refine mm_Runs.seq (l := [(10, .iload 4, 2), (12, .iload_n 2, 1)]) (S2 := (13, [some (.ref 84), some (.int v1), some (.int v2), some (.int v3), some (.int v4)], [.int v2, .int v4], M)) (by decide +kernel) (hO := mm_own_271) rfl ?_
  refine mm_R_ige (t := 71) rfl rfl rfl (fun hc => ?_) (fun hc => ?_)
  · replace h := mm_ip hc h
    refine mm_Runs.seq (l := [(16, .aload_n 0, 1), (17, .iload 4, 2), (19, .iload 4, 2), (21, .iload_n 3, 1), (22, .iadd, 1), (23, .iload_n 2, 1)]) (S2 := (24, [some (.ref 84), some (.int v1), some (.int v2), some (.int v3), some (.int v4)], [.int v2, .int (v4 + v3), .int v4, .ref 84], M)) (by decide +kernel) (hO := mm_own_271) rfl ?_
    refine mm_R_ige (t := 34) rfl rfl rfl (fun hc => ?_) (fun hc => ?_)
    · replace h := mm_ip hc h
      refine mm_Runs.seq (l := [(27, .iload 4, 2), (29, .iload_n 3, 1), (30, .iadd, 1), (31, .goto 4, 3)]) (S2 := (35, [some (.ref 84), some (.int v1), some (.int v2), some (.int v3), some (.int v4)], [.int (v4 + v3), .int v4, .ref 84], M)) (by decide +kernel) (hO := mm_own_271) rfl ?_
      exact (ms_271_j35 hd h hA : mp_271_35 L xs (d + 1) v1 v2 v3 v4 v4 (v4 + v3) M o)
    · replace h := mm_iq hc h
      refine mm_Runs.seq (l := [(34, .iload_n 2, 1)]) (S2 := (35, [some (.ref 84), some (.int v1), some (.int v2), some (.int v3), some (.int v4)], [.int v2, .int v4, .ref 84], M)) (by decide +kernel) (hO := mm_own_271) rfl ?_
      exact (ms_271_j35 hd h hA : mp_271_35 L xs (d + 1) v1 v2 v3 v4 v4 v2 M o)
  · replace h := mm_iq hc h
    cases h
    exact (show mp_271_71 L xs (d + 1) v1 v2 v3 M o from hA) (some (.int v4))
theorem ms_271_L10 {L : Nat} {xs : Nat → Int32} {d : Nat} (hd : 2 ≤ d) {v1 : Int32} {v2 : Int32} {v3 : Int32} {v4 : Int32} {β : Type} {K : β → mm_M → mm_E → Prop} {F : (Unit) → mm_M → mm_O β} {M : mm_M} {q : (β ⊕ Nat) × mm_M} {o : mm_E} (h : mm_B (mf_271_L10 v1 v2 v3 v4 M) F = some q) (hA : mm_A K q o) (hx : ∀ (r : (Unit)) (M2 : mm_M), F r M2 = some q → (fun r M o => mp_271_71 L xs (d) v1 v2 v3 M o) r M2 o) : mp_271_10 L xs d v1 v2 v3 v4 M o := by
  unfold mf_271_L10 at h
  exact mm_R_loop (step := (fun s M => mf_271_b10 v1 v2 v3 s M)) (s := v4) (M := M) (P := (fun s M o => mp_271_10 L xs (d) v1 v2 v3 s M o)) (X := (fun r M o => mp_271_71 L xs (d) v1 v2 v3 M o)) h hA (fun s M q hq hA => ms_271_b10 (v1 := v1) (v2 := v2) (v3 := v3) (v4 := s) (M := M) (q := q) hd hq hA) hx
def mp_271_74 (L : Nat) (xs : Nat → Int32) (d : Nat) (v1 : Int32) (v2 : Int32) (v3 : Int32) (v4 : Int32) (M : mm_M) (o : mm_E) : Prop := mm_Runs L xs d 271 (74, [some (.ref 84), some (.int v1), some (.int v2), some (.int v3), some (.int v4)], [], M) o
def mp_271_100 (L : Nat) (xs : Nat → Int32) (d : Nat) (v1 : Int32) (v2 : Int32) (v3 : Int32) (M : mm_M) (o : mm_E) : Prop := ∀ z4 : Option Value, mm_Runs L xs d 271 (100, [some (.ref 84), some (.int v1), some (.int v2), some (.int v3), z4], [], M) o
set_option maxRecDepth 8000 in
set_option maxHeartbeats 4000000 in
theorem ms_271_b74 {L : Nat} {xs : Nat → Int32} {d : Nat} (hd : 2 ≤ d) {v1 : Int32} {v2 : Int32} {v3 : Int32} {v4 : Int32} {M : mm_M} {q : (((Int32) ⊕ (Unit)) ⊕ Nat) × mm_M} {o : mm_E} (h : mf_271_b74 v1 v2 v3 v4 M = some q) (hA : mm_A (mm_K2 (fun s M o => mp_271_74 L xs (d) v1 v2 v3 s M o) (fun r M o => mp_271_100 L xs (d) v1 v2 v3 M o)) q o) : mp_271_74 L xs d v1 v2 v3 v4 M o := by
  unfold mf_271_b74 at h
  obtain ⟨d, rfl⟩ := mm_d1 (n := 1) hd
  show mm_Runs L xs (d + 1) 271 (74, [some (.ref 84), some (.int v1), some (.int v2), some (.int v3), some (.int v4)], [], M) o
  refine mm_Runs.seq (l := [(74, .iload 4, 2), (76, .iload_n 2, 1)]) (S2 := (77, [some (.ref 84), some (.int v1), some (.int v2), some (.int v3), some (.int v4)], [.int v2, .int v4], M)) (by decide +kernel) (hO := mm_own_271) rfl ?_
  refine mm_R_ige (t := 100) rfl rfl rfl (fun hc => ?_) (fun hc => ?_)
  · replace h := mm_ip hc h
    refine mm_Runs.seq (l := [(80, .aload_n 0, 1), (81, .getfield 72, 3), (84, .iload 4, 2), (86, .aload_n 0, 1), (87, .getfield 75, 3), (90, .iload 4, 2)]) (S2 := (92, [some (.ref 84), some (.int v1), some (.int v2), some (.int v3), some (.int v4)], [.int v4, .ref 106, .int v4, .ref 105], M)) (by decide +kernel) (hO := mm_own_271) rfl ?_
    obtain ⟨hb, h⟩ := mm_gd h
    refine mm_R_iald rfl rfl hb ?_
    obtain ⟨hb, h⟩ := mm_gd h
    refine mm_R_iast rfl rfl hb ?_
    refine mm_Runs.seq (l := [(94, .iinc 4 1, 3), (97, .goto (-23), 3)]) (S2 := (74, [some (.ref 84), some (.int v1), some (.int v2), some (.int v3), some (.int (v4 + (1 : Int32)))], [], (mm_pi M 105 v4.toNatClampNeg (M.1 106 v4.toNatClampNeg)))) (by decide +kernel) (hO := mm_own_271) rfl ?_
    cases h
    exact (show mp_271_74 L xs (d + 1) v1 v2 v3 (v4 + (1 : Int32)) (mm_pi M 105 v4.toNatClampNeg (M.1 106 v4.toNatClampNeg)) o from hA)
  · replace h := mm_iq hc h
    cases h
    exact (show mp_271_100 L xs (d + 1) v1 v2 v3 M o from hA) (some (.int v4))
theorem ms_271_L74 {L : Nat} {xs : Nat → Int32} {d : Nat} (hd : 2 ≤ d) {v1 : Int32} {v2 : Int32} {v3 : Int32} {v4 : Int32} {β : Type} {K : β → mm_M → mm_E → Prop} {F : (Unit) → mm_M → mm_O β} {M : mm_M} {q : (β ⊕ Nat) × mm_M} {o : mm_E} (h : mm_B (mf_271_L74 v1 v2 v3 v4 M) F = some q) (hA : mm_A K q o) (hx : ∀ (r : (Unit)) (M2 : mm_M), F r M2 = some q → (fun r M o => mp_271_100 L xs (d) v1 v2 v3 M o) r M2 o) : mp_271_74 L xs d v1 v2 v3 v4 M o := by
  unfold mf_271_L74 at h
  exact mm_R_loop (step := (fun s M => mf_271_b74 v1 v2 v3 s M)) (s := v4) (M := M) (P := (fun s M o => mp_271_74 L xs (d) v1 v2 v3 s M o)) (X := (fun r M o => mp_271_100 L xs (d) v1 v2 v3 M o)) h hA (fun s M q hq hA => ms_271_b74 (v1 := v1) (v2 := v2) (v3 := v3) (v4 := s) (M := M) (q := q) hd hq hA) hx
set_option maxRecDepth 8000 in
set_option maxHeartbeats 4000000 in
theorem ms_271_b2 {L : Nat} {xs : Nat → Int32} {d : Nat} (hd : 2 ≤ d) {v1 : Int32} {v2 : Int32} {v3 : Int32} {M : mm_M} {q : (((Int32) ⊕ (Unit)) ⊕ Nat) × mm_M} {o : mm_E} (h : mf_271_b2 v1 v2 v3 M = some q) (hA : mm_A (mm_K2 (fun s M o => mp_271_2 L xs (d) v1 v2 s M o) (fun r M o => mp_271_107 L xs (d) M o)) q o) : mp_271_2 L xs d v1 v2 v3 M o := by
  unfold mf_271_b2 at h
  obtain ⟨d, rfl⟩ := mm_d1 (n := 1) hd
  intro z4
  show mm_Runs L xs (d + 1) 271 (2, [some (.ref 84), some (.int v1), some (.int v2), some (.int v3), z4], [], M) o
  refine mm_Runs.seq (l := [(2, .iload_n 3, 1), (3, .iload_n 2, 1)]) (S2 := (4, [some (.ref 84), some (.int v1), some (.int v2), some (.int v3), z4], [.int v2, .int v3], M)) (by decide +kernel) (hO := mm_own_271) rfl ?_
  refine mm_R_ige (t := 107) rfl rfl rfl (fun hc => ?_) (fun hc => ?_)
  · replace h := mm_ip hc h
    refine mm_Runs.seq (l := [(7, .iconst 0, 1), (8, .istore 4, 2)]) (S2 := (10, [some (.ref 84), some (.int v1), some (.int v2), some (.int v3), some (.int (0 : Int32))], [], M)) (by decide +kernel) (hO := mm_own_271) rfl ?_
    have hp : mp_271_10 L xs (d + 1) v1 v2 v3 (0 : Int32) M o := by
      refine ms_271_L10 hd h hA (fun r2 M1 h => ?_)
      intro y3
      show mm_Runs L xs (d + 1) 271 (71, [some (.ref 84), some (.int v1), some (.int v2), some (.int v3), y3], [], M1) o
      refine mm_Runs.seq (l := [(71, .iconst 0, 1), (72, .istore 4, 2)]) (S2 := (74, [some (.ref 84), some (.int v1), some (.int v2), some (.int v3), some (.int (0 : Int32))], [], M1)) (by decide +kernel) (hO := mm_own_271) rfl ?_
      have hp : mp_271_74 L xs (d + 1) v1 v2 v3 (0 : Int32) M1 o := by
        refine ms_271_L74 hd h hA (fun r5 M4 h => ?_)
        intro y6
        show mm_Runs L xs (d + 1) 271 (100, [some (.ref 84), some (.int v1), some (.int v2), some (.int v3), y6], [], M4) o
        refine mm_Runs.seq (l := [(100, .iload_n 3, 1), (101, .iload_n 3, 1), (102, .iadd, 1), (103, .istore_n 3, 1), (104, .goto (-102), 3)]) (S2 := (2, [some (.ref 84), some (.int v1), some (.int v2), some (.int (v3 + v3)), y6], [], M4)) (by decide +kernel) (hO := mm_own_271) rfl ?_
        cases h
        exact (show mp_271_2 L xs (d + 1) v1 v2 (v3 + v3) M4 o from hA) y6
      exact hp
    exact hp
  · replace h := mm_iq hc h
    cases h
    exact (show mp_271_107 L xs (d + 1) M o from hA) (some (.ref 84)) (some (.int v1)) (some (.int v2)) (some (.int v3)) z4
theorem ms_271_L2 {L : Nat} {xs : Nat → Int32} {d : Nat} (hd : 2 ≤ d) {v1 : Int32} {v2 : Int32} {v3 : Int32} {β : Type} {K : β → mm_M → mm_E → Prop} {F : (Unit) → mm_M → mm_O β} {M : mm_M} {q : (β ⊕ Nat) × mm_M} {o : mm_E} (h : mm_B (mf_271_L2 v1 v2 v3 M) F = some q) (hA : mm_A K q o) (hx : ∀ (r : (Unit)) (M2 : mm_M), F r M2 = some q → (fun r M o => mp_271_107 L xs (d) M o) r M2 o) : mp_271_2 L xs d v1 v2 v3 M o := by
  unfold mf_271_L2 at h
  exact mm_R_loop (step := (fun s M => mf_271_b2 v1 v2 s M)) (s := v3) (M := M) (P := (fun s M o => mp_271_2 L xs (d) v1 v2 s M o)) (X := (fun r M o => mp_271_107 L xs (d) M o)) h hA (fun s M q hq hA => ms_271_b2 (v1 := v1) (v2 := v2) (v3 := s) (M := M) (q := q) hd hq hA) hx
set_option maxRecDepth 8000 in
set_option maxHeartbeats 4000000 in
theorem ms_271 {L : Nat} {xs : Nat → Int32} {d : Nat} (hd : 2 ≤ d) {v1 : Int32} {v2 : Int32} {M : mm_M} {q : (Unit ⊕ Nat) × mm_M} {o : mm_E} (h : mf_271 v1 v2 M = some q) (hA : mm_A (mm_Kr mm_wv) q o) : mm_Runs L xs d 271 (0, mm_ent (mm_ml 271) [.ref 84, .int v1, .int v2], [], M) o := by
  unfold mf_271 at h
  obtain ⟨d, rfl⟩ := mm_d1 (n := 1) hd
  show mm_Runs L xs (d + 1) 271 (0, [some (.ref 84), some (.int v1), some (.int v2), none, none], [], M) o
  refine mm_Runs.seq (l := [(0, .iconst 1, 1), (1, .istore_n 3, 1)]) (S2 := (2, [some (.ref 84), some (.int v1), some (.int v2), some (.int (1 : Int32)), none], [], M)) (by decide +kernel) (hO := mm_own_271) rfl ?_
  have hp : mp_271_2 L xs (d + 1) v1 v2 (1 : Int32) M o := by
    refine ms_271_L2 hd h hA (fun r2 M1 h => ?_)
    intro y3 y4 y5 y6 y7
    show mm_Runs L xs (d + 1) 271 (107, [y3, y4, y5, y6, y7], [], M1) o
    cases h
    exact mm_R_retv rfl rfl hA
  exact hp none
-- 273: PlainPacksModel.turnAll(I)V (depth 3)
theorem mm_own_273 : mm_own 273 = 12 := rfl
def mp_273_2 (L : Nat) (xs : Nat → Int32) (d : Nat) (v1 : Int32) (v2 : Int32) (M : mm_M) (o : mm_E) : Prop := ∀ z3 z4 : Option Value, mm_Runs L xs d 273 (2, [some (.ref 84), some (.int v1), some (.int v2), z3, z4], [], M) o
def mp_273_32 (L : Nat) (xs : Nat → Int32) (d : Nat) (v1 : Int32) (M : mm_M) (o : mm_E) : Prop := ∀ z2 z3 z4 : Option Value, mm_Runs L xs d 273 (32, [some (.ref 84), some (.int v1), z2, z3, z4], [], M) o
set_option maxRecDepth 8000 in
set_option maxHeartbeats 4000000 in
theorem ms_273_b2 {L : Nat} {xs : Nat → Int32} {d : Nat} (hd : 3 ≤ d) {v1 : Int32} {v2 : Int32} {M : mm_M} {q : (((Int32) ⊕ (Unit)) ⊕ Nat) × mm_M} {o : mm_E} (h : mf_273_b2 v1 v2 M = some q) (hA : mm_A (mm_K2 (fun s M o => mp_273_2 L xs (d) v1 s M o) (fun r M o => mp_273_32 L xs (d) v1 M o)) q o) : mp_273_2 L xs d v1 v2 M o := by
  unfold mf_273_b2 at h
  obtain ⟨d, rfl⟩ := mm_d1 (n := 2) hd
  intro z3 z4
  show mm_Runs L xs (d + 1) 273 (2, [some (.ref 84), some (.int v1), some (.int v2), z3, z4], [], M) o
  refine mm_Runs.seq (l := [(2, .iload_n 2, 1), (3, .iload_n 1, 1)]) (S2 := (4, [some (.ref 84), some (.int v1), some (.int v2), z3, z4], [.int v1, .int v2], M)) (by decide +kernel) (hO := mm_own_273) rfl ?_
  refine mm_R_ige (t := 32) rfl rfl rfl (fun hc => ?_) (fun hc => ?_)
  · replace h := mm_ip hc h
    refine mm_Runs.seq (l := [(7, .aload_n 0, 1), (8, .getfield 66, 3), (11, .iload_n 2, 1), (12, .aload_n 0, 1), (13, .getfield 63, 3), (16, .iload_n 2, 1)]) (S2 := (17, [some (.ref 84), some (.int v1), some (.int v2), z3, z4], [.int v2, .ref 102, .int v2, .ref 103], M)) (by decide +kernel) (hO := mm_own_273) rfl ?_
    obtain ⟨hb, h⟩ := mm_gd h
    refine mm_R_iald rfl rfl hb ?_
    obtain ⟨hb, h⟩ := mm_gd h
    refine mm_R_iast rfl rfl hb ?_
    refine mm_Runs.seq (l := [(19, .aload_n 0, 1), (20, .getfield 72, 3), (23, .iload_n 2, 1), (24, .iload_n 2, 1)]) (S2 := (25, [some (.ref 84), some (.int v1), some (.int v2), z3, z4], [.int v2, .int v2, .ref 105], (mm_pi M 103 v2.toNatClampNeg (M.1 102 v2.toNatClampNeg)))) (by decide +kernel) (hO := mm_own_273) rfl ?_
    obtain ⟨hb, h⟩ := mm_gd h
    refine mm_R_iast rfl rfl hb ?_
    refine mm_Runs.seq (l := [(26, .iinc 2 1, 3), (29, .goto (-27), 3)]) (S2 := (2, [some (.ref 84), some (.int v1), some (.int (v2 + (1 : Int32))), z3, z4], [], (mm_pi (mm_pi M 103 v2.toNatClampNeg (M.1 102 v2.toNatClampNeg)) 105 v2.toNatClampNeg v2))) (by decide +kernel) (hO := mm_own_273) rfl ?_
    cases h
    exact (show mp_273_2 L xs (d + 1) v1 (v2 + (1 : Int32)) (mm_pi (mm_pi M 103 v2.toNatClampNeg (M.1 102 v2.toNatClampNeg)) 105 v2.toNatClampNeg v2) o from hA) z3 z4
  · replace h := mm_iq hc h
    cases h
    exact (show mp_273_32 L xs (d + 1) v1 M o from hA) (some (.int v2)) z3 z4
theorem ms_273_L2 {L : Nat} {xs : Nat → Int32} {d : Nat} (hd : 3 ≤ d) {v1 : Int32} {v2 : Int32} {β : Type} {K : β → mm_M → mm_E → Prop} {F : (Unit) → mm_M → mm_O β} {M : mm_M} {q : (β ⊕ Nat) × mm_M} {o : mm_E} (h : mm_B (mf_273_L2 v1 v2 M) F = some q) (hA : mm_A K q o) (hx : ∀ (r : (Unit)) (M2 : mm_M), F r M2 = some q → (fun r M o => mp_273_32 L xs (d) v1 M o) r M2 o) : mp_273_2 L xs d v1 v2 M o := by
  unfold mf_273_L2 at h
  exact mm_R_loop (step := (fun s M => mf_273_b2 v1 s M)) (s := v2) (M := M) (P := (fun s M o => mp_273_2 L xs (d) v1 s M o)) (X := (fun r M o => mp_273_32 L xs (d) v1 M o)) h hA (fun s M q hq hA => ms_273_b2 (v1 := v1) (v2 := s) (M := M) (q := q) hd hq hA) hx
def mp_273_40 (L : Nat) (xs : Nat → Int32) (d : Nat) (v1 : Int32) (v2 : Int32) (M : mm_M) (o : mm_E) : Prop := ∀ z3 z4 : Option Value, mm_Runs L xs d 273 (40, [some (.ref 84), some (.int v1), some (.int v2), z3, z4], [], M) o
def mp_273_175 (L : Nat) (xs : Nat → Int32) (d : Nat) (M : mm_M) (o : mm_E) : Prop := ∀ z0 z1 z2 z3 z4 : Option Value, mm_Runs L xs d 273 (175, [z0, z1, z2, z3, z4], [], M) o
def mp_273_47 (L : Nat) (xs : Nat → Int32) (d : Nat) (v1 : Int32) (v2 : Int32) (v3 : Int32) (M : mm_M) (o : mm_E) : Prop := ∀ z4 : Option Value, mm_Runs L xs d 273 (47, [some (.ref 84), some (.int v1), some (.int v2), some (.int v3), z4], [], M) o
def mp_273_65 (L : Nat) (xs : Nat → Int32) (d : Nat) (v1 : Int32) (v2 : Int32) (M : mm_M) (o : mm_E) : Prop := ∀ z3 z4 : Option Value, mm_Runs L xs d 273 (65, [some (.ref 84), some (.int v1), some (.int v2), z3, z4], [], M) o
set_option maxRecDepth 8000 in
set_option maxHeartbeats 4000000 in
theorem ms_273_b47 {L : Nat} {xs : Nat → Int32} {d : Nat} (hd : 3 ≤ d) {v1 : Int32} {v2 : Int32} {v3 : Int32} {M : mm_M} {q : (((Int32) ⊕ (Unit)) ⊕ Nat) × mm_M} {o : mm_E} (h : mf_273_b47 v1 v2 v3 M = some q) (hA : mm_A (mm_K2 (fun s M o => mp_273_47 L xs (d) v1 v2 s M o) (fun r M o => mp_273_65 L xs (d) v1 v2 M o)) q o) : mp_273_47 L xs d v1 v2 v3 M o := by
  unfold mf_273_b47 at h
  obtain ⟨d, rfl⟩ := mm_d1 (n := 2) hd
  intro z4
  show mm_Runs L xs (d + 1) 273 (47, [some (.ref 84), some (.int v1), some (.int v2), some (.int v3), z4], [], M) o
  refine mm_Runs.seq (l := [(47, .iload_n 3, 1), (48, .iload_n 1, 1)]) (S2 := (49, [some (.ref 84), some (.int v1), some (.int v2), some (.int v3), z4], [.int v1, .int v3], M)) (by decide +kernel) (hO := mm_own_273) rfl ?_
  refine mm_R_ige (t := 65) rfl rfl rfl (fun hc => ?_) (fun hc => ?_)
  · replace h := mm_ip hc h
    refine mm_Runs.seq (l := [(52, .aload_n 0, 1), (53, .getfield 72, 3), (56, .iload_n 3, 1), (57, .iload_n 3, 1)]) (S2 := (58, [some (.ref 84), some (.int v1), some (.int v2), some (.int v3), z4], [.int v3, .int v3, .ref 105], M)) (by decide +kernel) (hO := mm_own_273) rfl ?_
    obtain ⟨hb, h⟩ := mm_gd h
    refine mm_R_iast rfl rfl hb ?_
    refine mm_Runs.seq (l := [(59, .iinc 3 1, 3), (62, .goto (-15), 3)]) (S2 := (47, [some (.ref 84), some (.int v1), some (.int v2), some (.int (v3 + (1 : Int32))), z4], [], (mm_pi M 105 v3.toNatClampNeg v3))) (by decide +kernel) (hO := mm_own_273) rfl ?_
    cases h
    exact (show mp_273_47 L xs (d + 1) v1 v2 (v3 + (1 : Int32)) (mm_pi M 105 v3.toNatClampNeg v3) o from hA) z4
  · replace h := mm_iq hc h
    cases h
    exact (show mp_273_65 L xs (d + 1) v1 v2 M o from hA) (some (.int v3)) z4
theorem ms_273_L47 {L : Nat} {xs : Nat → Int32} {d : Nat} (hd : 3 ≤ d) {v1 : Int32} {v2 : Int32} {v3 : Int32} {β : Type} {K : β → mm_M → mm_E → Prop} {F : (Unit) → mm_M → mm_O β} {M : mm_M} {q : (β ⊕ Nat) × mm_M} {o : mm_E} (h : mm_B (mf_273_L47 v1 v2 v3 M) F = some q) (hA : mm_A K q o) (hx : ∀ (r : (Unit)) (M2 : mm_M), F r M2 = some q → (fun r M o => mp_273_65 L xs (d) v1 v2 M o) r M2 o) : mp_273_47 L xs d v1 v2 v3 M o := by
  unfold mf_273_L47 at h
  exact mm_R_loop (step := (fun s M => mf_273_b47 v1 v2 s M)) (s := v3) (M := M) (P := (fun s M o => mp_273_47 L xs (d) v1 v2 s M o)) (X := (fun r M o => mp_273_65 L xs (d) v1 v2 M o)) h hA (fun s M q hq hA => ms_273_b47 (v1 := v1) (v2 := v2) (v3 := s) (M := M) (q := q) hd hq hA) hx
def mp_273_76 (L : Nat) (xs : Nat → Int32) (d : Nat) (v1 : Int32) (v2 : Int32) (v3 : Int32) (v4 : Int32) (M : mm_M) (o : mm_E) : Prop := mm_Runs L xs d 273 (76, [some (.ref 84), some (.int v1), some (.int v2), some (.int v3), some (.int v4)], [], M) o
def mp_273_139 (L : Nat) (xs : Nat → Int32) (d : Nat) (v1 : Int32) (v2 : Int32) (M : mm_M) (o : mm_E) : Prop := ∀ z3 z4 : Option Value, mm_Runs L xs d 273 (139, [some (.ref 84), some (.int v1), some (.int v2), z3, z4], [], M) o
def mp_273_117 (L : Nat) (xs : Nat → Int32) (d : Nat) (v1 : Int32) (v2 : Int32) (v4 : Int32) (s0 : Int32) (M : mm_M) (o : mm_E) : Prop := ∀ z3 : Option Value, mm_Runs L xs d 273 (117, [some (.ref 84), some (.int v1), some (.int v2), z3, some (.int v4)], [.int s0], M) o
def mp_273_118 (L : Nat) (xs : Nat → Int32) (d : Nat) (v1 : Int32) (v2 : Int32) (v4 : Int32) (s0 : Int32) (s1 : Int32) (M : mm_M) (o : mm_E) : Prop := ∀ z3 : Option Value, mm_Runs L xs d 273 (118, [some (.ref 84), some (.int v1), some (.int v2), z3, some (.int v4)], [.int s1, .int s0], M) o
set_option maxRecDepth 8000 in
set_option maxHeartbeats 4000000 in
theorem ms_273_j118 {L : Nat} {xs : Nat → Int32} {d : Nat} (hd : 3 ≤ d) {v1 : Int32} {v2 : Int32} {v4 : Int32} {s0 : Int32} {s1 : Int32} {M : mm_M} {q : (((Int32 × Int32) ⊕ (Unit)) ⊕ Nat) × mm_M} {o : mm_E} (h : mf_273_j118 v1 v2 v4 s0 s1 M = some q) (hA : mm_A (mm_K2 (fun s M o => mp_273_76 L xs (d) v1 v2 s.1 s.2 M o) (fun r M o => mp_273_139 L xs (d) v1 v2 M o)) q o) : mp_273_118 L xs d v1 v2 v4 s0 s1 M o := by
  unfold mf_273_j118 at h
  obtain ⟨d, rfl⟩ := mm_d1 (n := 2) hd
  intro z3
  show mm_Runs L xs (d + 1) 273 (118, [some (.ref 84), some (.int v1), some (.int v2), z3, some (.int v4)], [.int s1, .int s0], M) o
  refine mm_Runs.seq (l := [(118, .iadd, 1), (119, .istore_n 3, 1), (120, .aload_n 0, 1), (121, .getfield 69, 3), (124, .aload_n 0, 1), (125, .getfield 72, 3), (128, .iload 4, 2)]) (S2 := (130, [some (.ref 84), some (.int v1), some (.int v2), some (.int (s0 + s1)), some (.int v4)], [.int v4, .ref 105, .ref 104], M)) (by decide +kernel) (hO := mm_own_273) rfl ?_
  obtain ⟨hb, h⟩ := mm_gd h
  refine mm_R_iald rfl rfl hb ?_
  refine mm_Runs.seq (l := [(131, .iload_n 3, 1)]) (S2 := (132, [some (.ref 84), some (.int v1), some (.int v2), some (.int (s0 + s1)), some (.int v4)], [.int (s0 + s1), .int (M.1 105 v4.toNatClampNeg), .ref 104], M)) (by decide +kernel) (hO := mm_own_273) rfl ?_
  obtain ⟨hb, h⟩ := mm_gd h
  refine mm_R_iast rfl rfl hb ?_
  refine mm_Runs.seq (l := [(133, .iinc 4 1, 3), (136, .goto (-60), 3)]) (S2 := (76, [some (.ref 84), some (.int v1), some (.int v2), some (.int (s0 + s1)), some (.int (v4 + (1 : Int32)))], [], (mm_pi M 104 (M.1 105 v4.toNatClampNeg).toNatClampNeg (s0 + s1)))) (by decide +kernel) (hO := mm_own_273) rfl ?_
  cases h
  exact (show mp_273_76 L xs (d + 1) v1 v2 (s0 + s1) (v4 + (1 : Int32)) (mm_pi M 104 (M.1 105 v4.toNatClampNeg).toNatClampNeg (s0 + s1)) o from hA)
set_option maxRecDepth 8000 in
set_option maxHeartbeats 4000000 in
theorem ms_273_j117 {L : Nat} {xs : Nat → Int32} {d : Nat} (hd : 3 ≤ d) {v1 : Int32} {v2 : Int32} {v4 : Int32} {s0 : Int32} {M : mm_M} {q : (((Int32 × Int32) ⊕ (Unit)) ⊕ Nat) × mm_M} {o : mm_E} (h : mf_273_j117 v1 v2 v4 s0 M = some q) (hA : mm_A (mm_K2 (fun s M o => mp_273_76 L xs (d) v1 v2 s.1 s.2 M o) (fun r M o => mp_273_139 L xs (d) v1 v2 M o)) q o) : mp_273_117 L xs d v1 v2 v4 s0 M o := by
  unfold mf_273_j117 at h
  obtain ⟨d, rfl⟩ := mm_d1 (n := 2) hd
  intro z3
  show mm_Runs L xs (d + 1) 273 (117, [some (.ref 84), some (.int v1), some (.int v2), z3, some (.int v4)], [.int s0], M) o
  refine mm_Runs.seq (l := [(117, .iconst 0, 1)]) (S2 := (118, [some (.ref 84), some (.int v1), some (.int v2), z3, some (.int v4)], [.int (0 : Int32), .int s0], M)) (by decide +kernel) (hO := mm_own_273) rfl ?_
  exact (ms_273_j118 hd h hA : mp_273_118 L xs (d + 1) v1 v2 v4 s0 (0 : Int32) M o) z3
set_option maxRecDepth 8000 in
set_option maxHeartbeats 4000000 in
theorem ms_273_b76 {L : Nat} {xs : Nat → Int32} {d : Nat} (hd : 3 ≤ d) {v1 : Int32} {v2 : Int32} {v3 : Int32} {v4 : Int32} {M : mm_M} {q : (((Int32 × Int32) ⊕ (Unit)) ⊕ Nat) × mm_M} {o : mm_E} (h : mf_273_b76 v1 v2 v3 v4 M = some q) (hA : mm_A (mm_K2 (fun s M o => mp_273_76 L xs (d) v1 v2 s.1 s.2 M o) (fun r M o => mp_273_139 L xs (d) v1 v2 M o)) q o) : mp_273_76 L xs d v1 v2 v3 v4 M o := by
  unfold mf_273_b76 at h
  obtain ⟨d, rfl⟩ := mm_d1 (n := 2) hd
  show mm_Runs L xs (d + 1) 273 (76, [some (.ref 84), some (.int v1), some (.int v2), some (.int v3), some (.int v4)], [], M) o
  refine mm_Runs.seq (l := [(76, .iload 4, 2), (78, .iload_n 1, 1)]) (S2 := (79, [some (.ref 84), some (.int v1), some (.int v2), some (.int v3), some (.int v4)], [.int v1, .int v4], M)) (by decide +kernel) (hO := mm_own_273) rfl ?_
  refine mm_R_ige (t := 139) rfl rfl rfl (fun hc => ?_) (fun hc => ?_)
  · replace h := mm_ip hc h
    refine mm_Runs.seq (l := [(82, .iload_n 3, 1), (83, .iload 4, 2)]) (S2 := (85, [some (.ref 84), some (.int v1), some (.int v2), some (.int v3), some (.int v4)], [.int v4, .int v3], M)) (by decide +kernel) (hO := mm_own_273) rfl ?_
    refine mm_R_zle (t := 117) rfl rfl rfl (fun hc => ?_) (fun hc => ?_)
    · replace h := mm_ip hc h
      refine mm_Runs.seq (l := [(88, .aload_n 0, 1), (89, .aload_n 0, 1), (90, .getfield 72, 3), (93, .iload 4, 2), (95, .iconst 1, 1), (96, .isub, 1)]) (S2 := (97, [some (.ref 84), some (.int v1), some (.int v2), some (.int v3), some (.int v4)], [.int (v4 - (1 : Int32)), .ref 105, .ref 84, .int v3], M)) (by decide +kernel) (hO := mm_own_273) rfl ?_
      obtain ⟨hb, h⟩ := mm_gd h
      refine mm_R_iald rfl rfl hb ?_
      refine mm_Runs.seq (l := [(98, .aload_n 0, 1), (99, .getfield 72, 3), (102, .iload 4, 2)]) (S2 := (104, [some (.ref 84), some (.int v1), some (.int v2), some (.int v3), some (.int v4)], [.int v4, .ref 105, .int (M.1 105 (v4 - (1 : Int32)).toNatClampNeg), .ref 84, .int v3], M)) (by decide +kernel) (hO := mm_own_273) rfl ?_
      obtain ⟨hb, h⟩ := mm_gd h
      refine mm_R_iald rfl rfl hb ?_
      refine mm_Runs.seq (l := [(105, .iload_n 2, 1), (106, .iload_n 1, 1)]) (S2 := (107, [some (.ref 84), some (.int v1), some (.int v2), some (.int v3), some (.int v4)], [.int v1, .int v2, .int (M.1 105 v4.toNatClampNeg), .int (M.1 105 (v4 - (1 : Int32)).toNatClampNeg), .ref 84, .int v3], M)) (by decide +kernel) (hO := mm_own_273) rfl ?_
      refine mm_R_call (v := mm_wi) h hA (k2 := 270) (as := [.ref 84, .int (M.1 105 (v4 - (1 : Int32)).toNatClampNeg), .int (M.1 105 v4.toNatClampNeg), .int v2, .int v1]) (r := [.int v3]) rfl (fun _ => rfl) (fun q hq o ho => ms_270 (by omega) hq ho) (fun r1 M2 h => ?_)
      show mm_Runs L xs (d + 1) 273 (110, [some (.ref 84), some (.int v1), some (.int v2), some (.int v3), some (.int v4)], [.int r1, .int v3], M2) o
      refine mm_R_zeq (t := 117) rfl rfl rfl (fun hc => ?_) (fun hc => ?_)
      · replace h := mm_ip hc h
        exact (ms_273_j117 hd h hA : mp_273_117 L xs (d + 1) v1 v2 v4 v3 M2 o) (some (.int v3))
      · replace h := mm_iq hc h
        refine mm_Runs.seq (l := [(113, .iconst 1, 1), (114, .goto 4, 3)]) (S2 := (118, [some (.ref 84), some (.int v1), some (.int v2), some (.int v3), some (.int v4)], [.int (1 : Int32), .int v3], M2)) (by decide +kernel) (hO := mm_own_273) rfl ?_
        exact (ms_273_j118 hd h hA : mp_273_118 L xs (d + 1) v1 v2 v4 v3 (1 : Int32) M2 o) (some (.int v3))
    · replace h := mm_iq hc h
      exact (ms_273_j117 hd h hA : mp_273_117 L xs (d + 1) v1 v2 v4 v3 M o) (some (.int v3))
  · replace h := mm_iq hc h
    cases h
    exact (show mp_273_139 L xs (d + 1) v1 v2 M o from hA) (some (.int v3)) (some (.int v4))
theorem ms_273_L76 {L : Nat} {xs : Nat → Int32} {d : Nat} (hd : 3 ≤ d) {v1 : Int32} {v2 : Int32} {v3 : Int32} {v4 : Int32} {β : Type} {K : β → mm_M → mm_E → Prop} {F : (Unit) → mm_M → mm_O β} {M : mm_M} {q : (β ⊕ Nat) × mm_M} {o : mm_E} (h : mm_B (mf_273_L76 v1 v2 (v3, v4) M) F = some q) (hA : mm_A K q o) (hx : ∀ (r : (Unit)) (M2 : mm_M), F r M2 = some q → (fun r M o => mp_273_139 L xs (d) v1 v2 M o) r M2 o) : mp_273_76 L xs d v1 v2 v3 v4 M o := by
  unfold mf_273_L76 at h
  exact mm_R_loop (step := (fun s M => mf_273_b76 v1 v2 s.1 s.2 M)) (s := (v3, v4)) (M := M) (P := (fun s M o => mp_273_76 L xs (d) v1 v2 s.1 s.2 M o)) (X := (fun r M o => mp_273_139 L xs (d) v1 v2 M o)) h hA (fun s M q hq hA => ms_273_b76 (v1 := v1) (v2 := v2) (v3 := s.1) (v4 := s.2) (M := M) (q := q) hd hq hA) hx
def mp_273_142 (L : Nat) (xs : Nat → Int32) (d : Nat) (v1 : Int32) (v2 : Int32) (v4 : Int32) (M : mm_M) (o : mm_E) : Prop := ∀ z3 : Option Value, mm_Runs L xs d 273 (142, [some (.ref 84), some (.int v1), some (.int v2), z3, some (.int v4)], [], M) o
def mp_273_168 (L : Nat) (xs : Nat → Int32) (d : Nat) (v1 : Int32) (v2 : Int32) (M : mm_M) (o : mm_E) : Prop := ∀ z3 z4 : Option Value, mm_Runs L xs d 273 (168, [some (.ref 84), some (.int v1), some (.int v2), z3, z4], [], M) o
set_option maxRecDepth 8000 in
set_option maxHeartbeats 4000000 in
theorem ms_273_b142 {L : Nat} {xs : Nat → Int32} {d : Nat} (hd : 3 ≤ d) {v1 : Int32} {v2 : Int32} {v4 : Int32} {M : mm_M} {q : (((Int32) ⊕ (Unit)) ⊕ Nat) × mm_M} {o : mm_E} (h : mf_273_b142 v1 v2 v4 M = some q) (hA : mm_A (mm_K2 (fun s M o => mp_273_142 L xs (d) v1 v2 s M o) (fun r M o => mp_273_168 L xs (d) v1 v2 M o)) q o) : mp_273_142 L xs d v1 v2 v4 M o := by
  unfold mf_273_b142 at h
  obtain ⟨d, rfl⟩ := mm_d1 (n := 2) hd
  intro z3
  show mm_Runs L xs (d + 1) 273 (142, [some (.ref 84), some (.int v1), some (.int v2), z3, some (.int v4)], [], M) o
  refine mm_Runs.seq (l := [(142, .iload 4, 2), (144, .iload_n 1, 1)]) (S2 := (145, [some (.ref 84), some (.int v1), some (.int v2), z3, some (.int v4)], [.int v1, .int v4], M)) (by decide +kernel) (hO := mm_own_273) rfl ?_
  refine mm_R_ige (t := 168) rfl rfl rfl (fun hc => ?_) (fun hc => ?_)
  · replace h := mm_ip hc h
    refine mm_Runs.seq (l := [(148, .aload_n 0, 1), (149, .getfield 66, 3), (152, .iload 4, 2), (154, .aload_n 0, 1), (155, .getfield 69, 3), (158, .iload 4, 2)]) (S2 := (160, [some (.ref 84), some (.int v1), some (.int v2), z3, some (.int v4)], [.int v4, .ref 104, .int v4, .ref 103], M)) (by decide +kernel) (hO := mm_own_273) rfl ?_
    obtain ⟨hb, h⟩ := mm_gd h
    refine mm_R_iald rfl rfl hb ?_
    obtain ⟨hb, h⟩ := mm_gd h
    refine mm_R_iast rfl rfl hb ?_
    refine mm_Runs.seq (l := [(162, .iinc 4 1, 3), (165, .goto (-23), 3)]) (S2 := (142, [some (.ref 84), some (.int v1), some (.int v2), (mm_no2 z3), some (.int (v4 + (1 : Int32)))], [], (mm_pi M 103 v4.toNatClampNeg (M.1 104 v4.toNatClampNeg)))) (by decide +kernel) (hO := mm_own_273) rfl ?_
    cases h
    exact (show mp_273_142 L xs (d + 1) v1 v2 (v4 + (1 : Int32)) (mm_pi M 103 v4.toNatClampNeg (M.1 104 v4.toNatClampNeg)) o from hA) ((mm_no2 z3))
  · replace h := mm_iq hc h
    cases h
    exact (show mp_273_168 L xs (d + 1) v1 v2 M o from hA) z3 (some (.int v4))
theorem ms_273_L142 {L : Nat} {xs : Nat → Int32} {d : Nat} (hd : 3 ≤ d) {v1 : Int32} {v2 : Int32} {v4 : Int32} {β : Type} {K : β → mm_M → mm_E → Prop} {F : (Unit) → mm_M → mm_O β} {M : mm_M} {q : (β ⊕ Nat) × mm_M} {o : mm_E} (h : mm_B (mf_273_L142 v1 v2 v4 M) F = some q) (hA : mm_A K q o) (hx : ∀ (r : (Unit)) (M2 : mm_M), F r M2 = some q → (fun r M o => mp_273_168 L xs (d) v1 v2 M o) r M2 o) : mp_273_142 L xs d v1 v2 v4 M o := by
  unfold mf_273_L142 at h
  exact mm_R_loop (step := (fun s M => mf_273_b142 v1 v2 s M)) (s := v4) (M := M) (P := (fun s M o => mp_273_142 L xs (d) v1 v2 s M o)) (X := (fun r M o => mp_273_168 L xs (d) v1 v2 M o)) h hA (fun s M q hq hA => ms_273_b142 (v1 := v1) (v2 := v2) (v4 := s) (M := M) (q := q) hd hq hA) hx
set_option maxRecDepth 8000 in
set_option maxHeartbeats 4000000 in
theorem ms_273_j65 {L : Nat} {xs : Nat → Int32} {d : Nat} (hd : 3 ≤ d) {v1 : Int32} {v2 : Int32} {M : mm_M} {q : (((Int32) ⊕ (Unit)) ⊕ Nat) × mm_M} {o : mm_E} (h : mf_273_j65 v1 v2 M = some q) (hA : mm_A (mm_K2 (fun s M o => mp_273_40 L xs (d) v1 s M o) (fun r M o => mp_273_175 L xs (d) M o)) q o) : mp_273_65 L xs d v1 v2 M o := by
  unfold mf_273_j65 at h
  obtain ⟨d, rfl⟩ := mm_d1 (n := 2) hd
  intro z3 z4
  show mm_Runs L xs (d + 1) 273 (65, [some (.ref 84), some (.int v1), some (.int v2), z3, z4], [], M) o
  refine mm_Runs.seq (l := [(65, .aload_n 0, 1), (66, .iload_n 2, 1), (67, .iload_n 1, 1)]) (S2 := (68, [some (.ref 84), some (.int v1), some (.int v2), z3, z4], [.int v1, .int v2, .ref 84], M)) (by decide +kernel) (hO := mm_own_273) rfl ?_
  refine mm_R_call (v := mm_wv) h hA (k2 := 271) (as := [.ref 84, .int v2, .int v1]) (r := []) rfl (fun _ => rfl) (fun q hq o ho => ms_271 (by omega) hq ho) (fun _ M1 h => ?_)
  show mm_Runs L xs (d + 1) 273 (71, [some (.ref 84), some (.int v1), some (.int v2), z3, z4], [], M1) o
  refine mm_Runs.seq (l := [(71, .iconst 0, 1), (72, .istore_n 3, 1), (73, .iconst 0, 1), (74, .istore 4, 2)]) (S2 := (76, [some (.ref 84), some (.int v1), some (.int v2), some (.int (0 : Int32)), some (.int (0 : Int32))], [], M1)) (by decide +kernel) (hO := mm_own_273) rfl ?_
  have hp : mp_273_76 L xs (d + 1) v1 v2 (0 : Int32) (0 : Int32) M1 o := by
    refine ms_273_L76 hd h hA (fun r3 M2 h => ?_)
    intro y4 y5
    show mm_Runs L xs (d + 1) 273 (139, [some (.ref 84), some (.int v1), some (.int v2), y4, y5], [], M2) o
    refine mm_Runs.seq (l := [(139, .iconst 0, 1), (140, .istore 4, 2)]) (S2 := (142, [some (.ref 84), some (.int v1), some (.int v2), (mm_no2 y4), some (.int (0 : Int32))], [], M2)) (by decide +kernel) (hO := mm_own_273) rfl ?_
    have hp : mp_273_142 L xs (d + 1) v1 v2 (0 : Int32) M2 o := by
      refine ms_273_L142 hd h hA (fun r7 M6 h => ?_)
      intro y8 y9
      show mm_Runs L xs (d + 1) 273 (168, [some (.ref 84), some (.int v1), some (.int v2), y8, y9], [], M6) o
      refine mm_Runs.seq (l := [(168, .iload_n 2, 1), (169, .iload_n 2, 1), (170, .iadd, 1), (171, .istore_n 2, 1), (172, .goto (-132), 3)]) (S2 := (40, [some (.ref 84), some (.int v1), some (.int (v2 + v2)), y8, y9], [], M6)) (by decide +kernel) (hO := mm_own_273) rfl ?_
      cases h
      exact (show mp_273_40 L xs (d + 1) v1 (v2 + v2) M6 o from hA) y8 y9
    exact hp ((mm_no2 y4))
  exact hp
set_option maxRecDepth 8000 in
set_option maxHeartbeats 4000000 in
theorem ms_273_b40 {L : Nat} {xs : Nat → Int32} {d : Nat} (hd : 3 ≤ d) {v1 : Int32} {v2 : Int32} {M : mm_M} {q : (((Int32) ⊕ (Unit)) ⊕ Nat) × mm_M} {o : mm_E} (h : mf_273_b40 v1 v2 M = some q) (hA : mm_A (mm_K2 (fun s M o => mp_273_40 L xs (d) v1 s M o) (fun r M o => mp_273_175 L xs (d) M o)) q o) : mp_273_40 L xs d v1 v2 M o := by
  unfold mf_273_b40 at h
  obtain ⟨d, rfl⟩ := mm_d1 (n := 2) hd
  intro z3 z4
  show mm_Runs L xs (d + 1) 273 (40, [some (.ref 84), some (.int v1), some (.int v2), z3, z4], [], M) o
  refine mm_Runs.seq (l := [(40, .iload_n 2, 1), (41, .iload_n 1, 1)]) (S2 := (42, [some (.ref 84), some (.int v1), some (.int v2), z3, z4], [.int v1, .int v2], M)) (by decide +kernel) (hO := mm_own_273) rfl ?_
  refine mm_R_ige (t := 175) rfl rfl rfl (fun hc => ?_) (fun hc => ?_)
  · replace h := mm_ip hc h
    refine mm_Runs.seq (l := [(45, .iconst 0, 1), (46, .istore_n 3, 1)]) (S2 := (47, [some (.ref 84), some (.int v1), some (.int v2), some (.int (0 : Int32)), z4], [], M)) (by decide +kernel) (hO := mm_own_273) rfl ?_
    have hp : mp_273_47 L xs (d + 1) v1 v2 (0 : Int32) M o := by
      refine ms_273_L47 hd h hA (fun r2 M1 h => ?_)
      intro y3 y4
      show mm_Runs L xs (d + 1) 273 (65, [some (.ref 84), some (.int v1), some (.int v2), y3, y4], [], M1) o
      exact (ms_273_j65 hd h hA : mp_273_65 L xs (d + 1) v1 v2 M1 o) y3 y4
    exact hp z4
  · replace h := mm_iq hc h
    cases h
    exact (show mp_273_175 L xs (d + 1) M o from hA) (some (.ref 84)) (some (.int v1)) (some (.int v2)) z3 z4
theorem ms_273_L40 {L : Nat} {xs : Nat → Int32} {d : Nat} (hd : 3 ≤ d) {v1 : Int32} {v2 : Int32} {β : Type} {K : β → mm_M → mm_E → Prop} {F : (Unit) → mm_M → mm_O β} {M : mm_M} {q : (β ⊕ Nat) × mm_M} {o : mm_E} (h : mm_B (mf_273_L40 v1 v2 M) F = some q) (hA : mm_A K q o) (hx : ∀ (r : (Unit)) (M2 : mm_M), F r M2 = some q → (fun r M o => mp_273_175 L xs (d) M o) r M2 o) : mp_273_40 L xs d v1 v2 M o := by
  unfold mf_273_L40 at h
  exact mm_R_loop (step := (fun s M => mf_273_b40 v1 s M)) (s := v2) (M := M) (P := (fun s M o => mp_273_40 L xs (d) v1 s M o)) (X := (fun r M o => mp_273_175 L xs (d) M o)) h hA (fun s M q hq hA => ms_273_b40 (v1 := v1) (v2 := s) (M := M) (q := q) hd hq hA) hx
set_option maxRecDepth 8000 in
set_option maxHeartbeats 4000000 in
theorem ms_273_j32 {L : Nat} {xs : Nat → Int32} {d : Nat} (hd : 3 ≤ d) {v1 : Int32} {M : mm_M} {q : (Unit ⊕ Nat) × mm_M} {o : mm_E} (h : mf_273_j32 v1 M = some q) (hA : mm_A (mm_Kr mm_wv) q o) : mp_273_32 L xs d v1 M o := by
  unfold mf_273_j32 at h
  obtain ⟨d, rfl⟩ := mm_d1 (n := 2) hd
  intro z2 z3 z4
  show mm_Runs L xs (d + 1) 273 (32, [some (.ref 84), some (.int v1), z2, z3, z4], [], M) o
  refine mm_Runs.seq (l := [(32, .aload_n 0, 1), (33, .iconst 0, 1), (34, .iload_n 1, 1)]) (S2 := (35, [some (.ref 84), some (.int v1), z2, z3, z4], [.int v1, .int (0 : Int32), .ref 84], M)) (by decide +kernel) (hO := mm_own_273) rfl ?_
  refine mm_R_call (v := mm_wv) h hA (k2 := 271) (as := [.ref 84, .int (0 : Int32), .int v1]) (r := []) rfl (fun _ => rfl) (fun q hq o ho => ms_271 (by omega) hq ho) (fun _ M1 h => ?_)
  show mm_Runs L xs (d + 1) 273 (38, [some (.ref 84), some (.int v1), z2, z3, z4], [], M1) o
  refine mm_Runs.seq (l := [(38, .iconst 1, 1), (39, .istore_n 2, 1)]) (S2 := (40, [some (.ref 84), some (.int v1), some (.int (1 : Int32)), z3, z4], [], M1)) (by decide +kernel) (hO := mm_own_273) rfl ?_
  have hp : mp_273_40 L xs (d + 1) v1 (1 : Int32) M1 o := by
    refine ms_273_L40 hd h hA (fun r3 M2 h => ?_)
    intro y4 y5 y6 y7 y8
    show mm_Runs L xs (d + 1) 273 (175, [y4, y5, y6, y7, y8], [], M2) o
    cases h
    exact mm_R_retv rfl rfl hA
  exact hp z3 z4
set_option maxRecDepth 8000 in
set_option maxHeartbeats 4000000 in
theorem ms_273 {L : Nat} {xs : Nat → Int32} {d : Nat} (hd : 3 ≤ d) {v1 : Int32} {M : mm_M} {q : (Unit ⊕ Nat) × mm_M} {o : mm_E} (h : mf_273 v1 M = some q) (hA : mm_A (mm_Kr mm_wv) q o) : mm_Runs L xs d 273 (0, mm_ent (mm_ml 273) [.ref 84, .int v1], [], M) o := by
  unfold mf_273 at h
  obtain ⟨d, rfl⟩ := mm_d1 (n := 2) hd
  show mm_Runs L xs (d + 1) 273 (0, [some (.ref 84), some (.int v1), none, none, none], [], M) o
  refine mm_Runs.seq (l := [(0, .iconst 0, 1), (1, .istore_n 2, 1)]) (S2 := (2, [some (.ref 84), some (.int v1), some (.int (0 : Int32)), none, none], [], M)) (by decide +kernel) (hO := mm_own_273) rfl ?_
  have hp : mp_273_2 L xs (d + 1) v1 (0 : Int32) M o := by
    refine ms_273_L2 hd h hA (fun r2 M1 h => ?_)
    intro y3 y4 y5
    show mm_Runs L xs (d + 1) 273 (32, [some (.ref 84), some (.int v1), y3, y4, y5], [], M1) o
    exact (ms_273_j32 hd h hA : mp_273_32 L xs (d + 1) v1 M1 o) y3 y4 y5
  exact hp none none
-- 277: PlainPacksModel.writeOccurring(I)V (depth 3)
theorem mm_own_277 : mm_own 277 = 12 := rfl
def mp_277_2 (L : Nat) (xs : Nat → Int32) (d : Nat) (v1 : Int32) (v2 : Int32) (M : mm_M) (o : mm_E) : Prop := ∀ z3 z4 : Option Value, mm_Runs L xs d 277 (2, [some (.ref 84), some (.int v1), some (.int v2), z3, z4], [], M) o
def mp_277_22 (L : Nat) (xs : Nat → Int32) (d : Nat) (v1 : Int32) (M : mm_M) (o : mm_E) : Prop := ∀ z2 z3 z4 : Option Value, mm_Runs L xs d 277 (22, [some (.ref 84), some (.int v1), z2, z3, z4], [], M) o
set_option maxRecDepth 8000 in
set_option maxHeartbeats 4000000 in
theorem ms_277_b2 {L : Nat} {xs : Nat → Int32} {d : Nat} (hd : 3 ≤ d) {v1 : Int32} {v2 : Int32} {M : mm_M} {q : (((Int32) ⊕ (Unit)) ⊕ Nat) × mm_M} {o : mm_E} (h : mf_277_b2 v1 v2 M = some q) (hA : mm_A (mm_K2 (fun s M o => mp_277_2 L xs (d) v1 s M o) (fun r M o => mp_277_22 L xs (d) v1 M o)) q o) : mp_277_2 L xs d v1 v2 M o := by
  unfold mf_277_b2 at h
  obtain ⟨d, rfl⟩ := mm_d1 (n := 2) hd
  intro z3 z4
  show mm_Runs L xs (d + 1) 277 (2, [some (.ref 84), some (.int v1), some (.int v2), z3, z4], [], M) o
  refine mm_Runs.seq (l := [(2, .iload_n 2, 1), (3, .sipush 256, 3)]) (S2 := (6, [some (.ref 84), some (.int v1), some (.int v2), z3, z4], [.int (256 : Int32), .int v2], M)) (by decide +kernel) (hO := mm_own_277) rfl ?_
  refine mm_R_ige (t := 22) rfl rfl rfl (fun hc => ?_) (fun hc => ?_)
  · replace h := mm_ip hc h
    refine mm_Runs.seq (l := [(9, .aload_n 0, 1), (10, .getfield 69, 3), (13, .iload_n 2, 1), (14, .iconst 0, 1)]) (S2 := (15, [some (.ref 84), some (.int v1), some (.int v2), z3, z4], [.int (0 : Int32), .int v2, .ref 104], M)) (by decide +kernel) (hO := mm_own_277) rfl ?_
    obtain ⟨hb, h⟩ := mm_gd h
    refine mm_R_iast rfl rfl hb ?_
    refine mm_Runs.seq (l := [(16, .iinc 2 1, 3), (19, .goto (-17), 3)]) (S2 := (2, [some (.ref 84), some (.int v1), some (.int (v2 + (1 : Int32))), z3, z4], [], (mm_pi M 104 v2.toNatClampNeg (0 : Int32)))) (by decide +kernel) (hO := mm_own_277) rfl ?_
    cases h
    exact (show mp_277_2 L xs (d + 1) v1 (v2 + (1 : Int32)) (mm_pi M 104 v2.toNatClampNeg (0 : Int32)) o from hA) z3 z4
  · replace h := mm_iq hc h
    cases h
    exact (show mp_277_22 L xs (d + 1) v1 M o from hA) (some (.int v2)) z3 z4
theorem ms_277_L2 {L : Nat} {xs : Nat → Int32} {d : Nat} (hd : 3 ≤ d) {v1 : Int32} {v2 : Int32} {β : Type} {K : β → mm_M → mm_E → Prop} {F : (Unit) → mm_M → mm_O β} {M : mm_M} {q : (β ⊕ Nat) × mm_M} {o : mm_E} (h : mm_B (mf_277_L2 v1 v2 M) F = some q) (hA : mm_A K q o) (hx : ∀ (r : (Unit)) (M2 : mm_M), F r M2 = some q → (fun r M o => mp_277_22 L xs (d) v1 M o) r M2 o) : mp_277_2 L xs d v1 v2 M o := by
  unfold mf_277_L2 at h
  exact mm_R_loop (step := (fun s M => mf_277_b2 v1 s M)) (s := v2) (M := M) (P := (fun s M o => mp_277_2 L xs (d) v1 s M o)) (X := (fun r M o => mp_277_22 L xs (d) v1 M o)) h hA (fun s M q hq hA => ms_277_b2 (v1 := v1) (v2 := s) (M := M) (q := q) hd hq hA) hx
def mp_277_24 (L : Nat) (xs : Nat → Int32) (d : Nat) (v1 : Int32) (v2 : Int32) (M : mm_M) (o : mm_E) : Prop := ∀ z3 z4 : Option Value, mm_Runs L xs d 277 (24, [some (.ref 84), some (.int v1), some (.int v2), z3, z4], [], M) o
def mp_277_47 (L : Nat) (xs : Nat → Int32) (d : Nat) (M : mm_M) (o : mm_E) : Prop := ∀ z1 z2 z3 z4 : Option Value, mm_Runs L xs d 277 (47, [some (.ref 84), z1, z2, z3, z4], [], M) o
set_option maxRecDepth 8000 in
set_option maxHeartbeats 4000000 in
theorem ms_277_b24 {L : Nat} {xs : Nat → Int32} {d : Nat} (hd : 3 ≤ d) {v1 : Int32} {v2 : Int32} {M : mm_M} {q : (((Int32) ⊕ (Unit)) ⊕ Nat) × mm_M} {o : mm_E} (h : mf_277_b24 v1 v2 M = some q) (hA : mm_A (mm_K2 (fun s M o => mp_277_24 L xs (d) v1 s M o) (fun r M o => mp_277_47 L xs (d) M o)) q o) : mp_277_24 L xs d v1 v2 M o := by
  unfold mf_277_b24 at h
  obtain ⟨d, rfl⟩ := mm_d1 (n := 2) hd
  intro z3 z4
  show mm_Runs L xs (d + 1) 277 (24, [some (.ref 84), some (.int v1), some (.int v2), z3, z4], [], M) o
  refine mm_Runs.seq (l := [(24, .iload_n 2, 1), (25, .iload_n 1, 1)]) (S2 := (26, [some (.ref 84), some (.int v1), some (.int v2), z3, z4], [.int v1, .int v2], M)) (by decide +kernel) (hO := mm_own_277) rfl ?_
  refine mm_R_ige (t := 47) rfl rfl rfl (fun hc => ?_) (fun hc => ?_)
  · replace h := mm_ip hc h
    refine mm_Runs.seq (l := [(29, .aload_n 0, 1), (30, .getfield 69, 3), (33, .aload_n 0, 1), (34, .getfield 63, 3), (37, .iload_n 2, 1)]) (S2 := (38, [some (.ref 84), some (.int v1), some (.int v2), z3, z4], [.int v2, .ref 102, .ref 104], M)) (by decide +kernel) (hO := mm_own_277) rfl ?_
    obtain ⟨hb, h⟩ := mm_gd h
    refine mm_R_iald rfl rfl hb ?_
    refine mm_Runs.seq (l := [(39, .iconst 1, 1)]) (S2 := (40, [some (.ref 84), some (.int v1), some (.int v2), z3, z4], [.int (1 : Int32), .int (M.1 102 v2.toNatClampNeg), .ref 104], M)) (by decide +kernel) (hO := mm_own_277) rfl ?_
    obtain ⟨hb, h⟩ := mm_gd h
    refine mm_R_iast rfl rfl hb ?_
    refine mm_Runs.seq (l := [(41, .iinc 2 1, 3), (44, .goto (-20), 3)]) (S2 := (24, [some (.ref 84), some (.int v1), some (.int (v2 + (1 : Int32))), z3, z4], [], (mm_pi M 104 (M.1 102 v2.toNatClampNeg).toNatClampNeg (1 : Int32)))) (by decide +kernel) (hO := mm_own_277) rfl ?_
    cases h
    exact (show mp_277_24 L xs (d + 1) v1 (v2 + (1 : Int32)) (mm_pi M 104 (M.1 102 v2.toNatClampNeg).toNatClampNeg (1 : Int32)) o from hA) z3 z4
  · replace h := mm_iq hc h
    cases h
    exact (show mp_277_47 L xs (d + 1) M o from hA) (some (.int v1)) (some (.int v2)) z3 z4
theorem ms_277_L24 {L : Nat} {xs : Nat → Int32} {d : Nat} (hd : 3 ≤ d) {v1 : Int32} {v2 : Int32} {β : Type} {K : β → mm_M → mm_E → Prop} {F : (Unit) → mm_M → mm_O β} {M : mm_M} {q : (β ⊕ Nat) × mm_M} {o : mm_E} (h : mm_B (mf_277_L24 v1 v2 M) F = some q) (hA : mm_A K q o) (hx : ∀ (r : (Unit)) (M2 : mm_M), F r M2 = some q → (fun r M o => mp_277_47 L xs (d) M o) r M2 o) : mp_277_24 L xs d v1 v2 M o := by
  unfold mf_277_L24 at h
  exact mm_R_loop (step := (fun s M => mf_277_b24 v1 s M)) (s := v2) (M := M) (P := (fun s M o => mp_277_24 L xs (d) v1 s M o)) (X := (fun r M o => mp_277_47 L xs (d) M o)) h hA (fun s M q hq hA => ms_277_b24 (v1 := v1) (v2 := s) (M := M) (q := q) hd hq hA) hx
def mp_277_54 (L : Nat) (xs : Nat → Int32) (d : Nat) (v2 : Int32) (M : mm_M) (o : mm_E) : Prop := ∀ z1 z3 z4 : Option Value, mm_Runs L xs d 277 (54, [some (.ref 84), z1, some (.int v2), z3, z4], [], M) o
def mp_277_97 (L : Nat) (xs : Nat → Int32) (d : Nat) (M : mm_M) (o : mm_E) : Prop := ∀ z1 z2 z3 z4 : Option Value, mm_Runs L xs d 277 (97, [some (.ref 84), z1, z2, z3, z4], [], M) o
set_option maxRecDepth 8000 in
set_option maxHeartbeats 4000000 in
theorem ms_277_b54 {L : Nat} {xs : Nat → Int32} {d : Nat} (hd : 3 ≤ d) {v2 : Int32} {M : mm_M} {q : (((Int32) ⊕ (Unit)) ⊕ Nat) × mm_M} {o : mm_E} (h : mf_277_b54 v2 M = some q) (hA : mm_A (mm_K2 (fun s M o => mp_277_54 L xs (d) s M o) (fun r M o => mp_277_97 L xs (d) M o)) q o) : mp_277_54 L xs d v2 M o := by
  unfold mf_277_b54 at h
  obtain ⟨d, rfl⟩ := mm_d1 (n := 2) hd
  intro z1 z3 z4
  show mm_Runs L xs (d + 1) 277 (54, [some (.ref 84), z1, some (.int v2), z3, z4], [], M) o
  refine mm_Runs.seq (l := [(54, .iload_n 2, 1), (55, .sipush 256, 3)]) (S2 := (58, [some (.ref 84), z1, some (.int v2), z3, z4], [.int (256 : Int32), .int v2], M)) (by decide +kernel) (hO := mm_own_277) rfl ?_
  refine mm_R_ige (t := 97) rfl rfl rfl (fun hc => ?_) (fun hc => ?_)
  · replace h := mm_ip hc h
    refine mm_Runs.seq (l := [(61, .aload_n 0, 1), (62, .getfield 69, 3), (65, .iload_n 2, 1)]) (S2 := (66, [some (.ref 84), z1, some (.int v2), z3, z4], [.int v2, .ref 104], M)) (by decide +kernel) (hO := mm_own_277) rfl ?_
    obtain ⟨hb, h⟩ := mm_gd h
    refine mm_R_iald rfl rfl hb ?_
    refine mm_Runs.seq (l := [(67, .iconst 1, 1)]) (S2 := (68, [some (.ref 84), z1, some (.int v2), z3, z4], [.int (1 : Int32), .int (M.1 104 v2.toNatClampNeg)], M)) (by decide +kernel) (hO := mm_own_277) rfl ?_
    refine mm_R_ine (t := 91) rfl rfl rfl (fun hc => ?_) (fun hc => ?_)
    · replace h := mm_ip hc h
      refine mm_Runs.seq (l := [(71, .aload_n 0, 1), (72, .getfield 38, 3), (75, .aload_n 0, 1), (76, .getfield 215, 3), (79, .iload_n 2, 1)]) (S2 := (80, [some (.ref 84), z1, some (.int v2), z3, z4], [.int v2, .int (M.1 84 20), .ref 94], M)) (by decide +kernel) (hO := mm_own_277) rfl ?_
      obtain ⟨hb, h⟩ := mm_gd h
      refine mm_R_iast rfl rfl hb ?_
      refine mm_Runs.seq (l := [(81, .aload_n 0, 1), (82, .dup, 1), (83, .getfield 215, 3), (86, .iconst 1, 1), (87, .iadd, 1), (88, .putfield 215, 3), (91, .iinc 2 1, 3), (94, .goto (-40), 3)]) (S2 := (54, [some (.ref 84), (mm_no2 z1), some (.int (v2 + (1 : Int32))), z3, z4], [], (mm_pi (mm_pi M 94 (M.1 84 20).toNatClampNeg v2) 84 20 ((M.1 84 20) + (1 : Int32))))) (by decide +kernel) (hO := mm_own_277) rfl ?_
      cases h
      exact (show mp_277_54 L xs (d + 1) (v2 + (1 : Int32)) (mm_pi (mm_pi M 94 (M.1 84 20).toNatClampNeg v2) 84 20 ((M.1 84 20) + (1 : Int32))) o from hA) ((mm_no2 z1)) z3 z4
    · replace h := mm_iq hc h
      refine mm_Runs.seq (l := [(91, .iinc 2 1, 3), (94, .goto (-40), 3)]) (S2 := (54, [some (.ref 84), (mm_no2 z1), some (.int (v2 + (1 : Int32))), z3, z4], [], M)) (by decide +kernel) (hO := mm_own_277) rfl ?_
      cases h
      exact (show mp_277_54 L xs (d + 1) (v2 + (1 : Int32)) M o from hA) ((mm_no2 z1)) z3 z4
  · replace h := mm_iq hc h
    cases h
    exact (show mp_277_97 L xs (d + 1) M o from hA) z1 (some (.int v2)) z3 z4
theorem ms_277_L54 {L : Nat} {xs : Nat → Int32} {d : Nat} (hd : 3 ≤ d) {v2 : Int32} {β : Type} {K : β → mm_M → mm_E → Prop} {F : (Unit) → mm_M → mm_O β} {M : mm_M} {q : (β ⊕ Nat) × mm_M} {o : mm_E} (h : mm_B (mf_277_L54 v2 M) F = some q) (hA : mm_A K q o) (hx : ∀ (r : (Unit)) (M2 : mm_M), F r M2 = some q → (fun r M o => mp_277_97 L xs (d) M o) r M2 o) : mp_277_54 L xs d v2 M o := by
  unfold mf_277_L54 at h
  exact mm_R_loop (step := (fun s M => mf_277_b54 s M)) (s := v2) (M := M) (P := (fun s M o => mp_277_54 L xs (d) s M o)) (X := (fun r M o => mp_277_97 L xs (d) M o)) h hA (fun s M q hq hA => ms_277_b54 (v2 := s) (M := M) (q := q) hd hq hA) hx
def mp_277_99 (L : Nat) (xs : Nat → Int32) (d : Nat) (v2 : Int32) (M : mm_M) (o : mm_E) : Prop := ∀ z1 z3 z4 : Option Value, mm_Runs L xs d 277 (99, [some (.ref 84), z1, some (.int v2), z3, z4], [], M) o
def mp_277_156 (L : Nat) (xs : Nat → Int32) (d : Nat) (M : mm_M) (o : mm_E) : Prop := ∀ z1 z2 z3 z4 : Option Value, mm_Runs L xs d 277 (156, [some (.ref 84), z1, z2, z3, z4], [], M) o
def mp_277_110 (L : Nat) (xs : Nat → Int32) (d : Nat) (v2 : Int32) (v3 : Int32) (v4 : Int32) (M : mm_M) (o : mm_E) : Prop := ∀ z1 : Option Value, mm_Runs L xs d 277 (110, [some (.ref 84), z1, some (.int v2), some (.int v3), some (.int v4)], [], M) o
def mp_277_138 (L : Nat) (xs : Nat → Int32) (d : Nat) (v2 : Int32) (v3 : Int32) (M : mm_M) (o : mm_E) : Prop := ∀ z1 z4 : Option Value, mm_Runs L xs d 277 (138, [some (.ref 84), z1, some (.int v2), some (.int v3), z4], [], M) o
set_option maxRecDepth 8000 in
set_option maxHeartbeats 4000000 in
theorem ms_277_b110 {L : Nat} {xs : Nat → Int32} {d : Nat} (hd : 3 ≤ d) {v2 : Int32} {v3 : Int32} {v4 : Int32} {M : mm_M} {q : (((Int32 × Int32) ⊕ (Int32)) ⊕ Nat) × mm_M} {o : mm_E} (h : mf_277_b110 v2 v3 v4 M = some q) (hA : mm_A (mm_K2 (fun s M o => mp_277_110 L xs (d) v2 s.1 s.2 M o) (fun r M o => mp_277_138 L xs (d) v2 r M o)) q o) : mp_277_110 L xs d v2 v3 v4 M o := by
  unfold mf_277_b110 at h
  obtain ⟨d, rfl⟩ := mm_d1 (n := 2) hd
  intro z1
  show mm_Runs L xs (d + 1) 277 (110, [some (.ref 84), z1, some (.int v2), some (.int v3), some (.int v4)], [], M) o
  refine mm_Runs.seq (l := [(110, .iload 4, 2), (112, .bipush 16, 2)]) (S2 := (114, [some (.ref 84), z1, some (.int v2), some (.int v3), some (.int v4)], [.int (16 : Int32), .int v4], M)) (by decide +kernel) (hO := mm_own_277) rfl ?_
  refine mm_R_ige (t := 138) rfl rfl rfl (fun hc => ?_) (fun hc => ?_)
  · replace h := mm_ip hc h
    refine mm_Runs.seq (l := [(117, .iload_n 3, 1), (118, .aload_n 0, 1), (119, .getfield 69, 3), (122, .bipush 16, 2), (124, .iload_n 2, 1), (125, .imul, 1), (126, .iload 4, 2), (128, .iadd, 1)]) (S2 := (129, [some (.ref 84), z1, some (.int v2), some (.int v3), some (.int v4)], [.int (((16 : Int32) * v2) + v4), .ref 104, .int v3], M)) (by decide +kernel) (hO := mm_own_277) rfl ?_
    obtain ⟨hb, h⟩ := mm_gd h
    refine mm_R_iald rfl rfl hb ?_
    refine mm_Runs.seq (l := [(130, .ior, 1), (131, .istore_n 3, 1), (132, .iinc 4 1, 3), (135, .goto (-25), 3)]) (S2 := (110, [some (.ref 84), z1, some (.int v2), some (.int (v3 ||| (M.1 104 (((16 : Int32) * v2) + v4).toNatClampNeg))), some (.int (v4 + (1 : Int32)))], [], M)) (by decide +kernel) (hO := mm_own_277) rfl ?_
    cases h
    exact (show mp_277_110 L xs (d + 1) v2 (v3 ||| (M.1 104 (((16 : Int32) * v2) + v4).toNatClampNeg)) (v4 + (1 : Int32)) M o from hA) z1
  · replace h := mm_iq hc h
    cases h
    exact (show mp_277_138 L xs (d + 1) v2 v3 M o from hA) z1 (some (.int v4))
theorem ms_277_L110 {L : Nat} {xs : Nat → Int32} {d : Nat} (hd : 3 ≤ d) {v2 : Int32} {v3 : Int32} {v4 : Int32} {β : Type} {K : β → mm_M → mm_E → Prop} {F : (Int32) → mm_M → mm_O β} {M : mm_M} {q : (β ⊕ Nat) × mm_M} {o : mm_E} (h : mm_B (mf_277_L110 v2 (v3, v4) M) F = some q) (hA : mm_A K q o) (hx : ∀ (r : (Int32)) (M2 : mm_M), F r M2 = some q → (fun r M o => mp_277_138 L xs (d) v2 r M o) r M2 o) : mp_277_110 L xs d v2 v3 v4 M o := by
  unfold mf_277_L110 at h
  exact mm_R_loop (step := (fun s M => mf_277_b110 v2 s.1 s.2 M)) (s := (v3, v4)) (M := M) (P := (fun s M o => mp_277_110 L xs (d) v2 s.1 s.2 M o)) (X := (fun r M o => mp_277_138 L xs (d) v2 r M o)) h hA (fun s M q hq hA => ms_277_b110 (v2 := v2) (v3 := s.1) (v4 := s.2) (M := M) (q := q) hd hq hA) hx
set_option maxRecDepth 8000 in
set_option maxHeartbeats 4000000 in
theorem ms_277_j138 {L : Nat} {xs : Nat → Int32} {d : Nat} (hd : 3 ≤ d) {v2 : Int32} {v3 : Int32} {M : mm_M} {q : (((Int32) ⊕ (Unit)) ⊕ Nat) × mm_M} {o : mm_E} (h : mf_277_j138 v2 v3 M = some q) (hA : mm_A (mm_K2 (fun s M o => mp_277_99 L xs (d) s M o) (fun r M o => mp_277_156 L xs (d) M o)) q o) : mp_277_138 L xs d v2 v3 M o := by
  unfold mf_277_j138 at h
  obtain ⟨d, rfl⟩ := mm_d1 (n := 2) hd
  intro z1 z4
  show mm_Runs L xs (d + 1) 277 (138, [some (.ref 84), z1, some (.int v2), some (.int v3), z4], [], M) o
  refine mm_Runs.seq (l := [(138, .aload_n 0, 1), (139, .iload_n 3, 1)]) (S2 := (140, [some (.ref 84), z1, some (.int v2), some (.int v3), z4], [.int v3, .ref 84], M)) (by decide +kernel) (hO := mm_own_277) rfl ?_
  refine mm_R_call (v := mm_wv) h hA (k2 := 247) (as := [.ref 84, .int v3]) (r := []) rfl (fun _ => rfl) (fun q hq o ho => ms_247 (by omega) hq ho) (fun _ M1 h => ?_)
  show mm_Runs L xs (d + 1) 277 (143, [some (.ref 84), z1, some (.int v2), some (.int v3), z4], [], M1) o
  refine mm_Runs.seq (l := [(143, .aload_n 0, 1), (144, .getfield 75, 3), (147, .iload_n 2, 1), (148, .iload_n 3, 1)]) (S2 := (149, [some (.ref 84), z1, some (.int v2), some (.int v3), z4], [.int v3, .int v2, .ref 106], M1)) (by decide +kernel) (hO := mm_own_277) rfl ?_
  obtain ⟨hb, h⟩ := mm_gd h
  refine mm_R_iast rfl rfl hb ?_
  refine mm_Runs.seq (l := [(150, .iinc 2 1, 3), (153, .goto (-54), 3)]) (S2 := (99, [some (.ref 84), (mm_no2 z1), some (.int (v2 + (1 : Int32))), some (.int v3), z4], [], (mm_pi M1 106 v2.toNatClampNeg v3))) (by decide +kernel) (hO := mm_own_277) rfl ?_
  cases h
  exact (show mp_277_99 L xs (d + 1) (v2 + (1 : Int32)) (mm_pi M1 106 v2.toNatClampNeg v3) o from hA) ((mm_no2 z1)) (some (.int v3)) z4
set_option maxRecDepth 8000 in
set_option maxHeartbeats 4000000 in
theorem ms_277_b99 {L : Nat} {xs : Nat → Int32} {d : Nat} (hd : 3 ≤ d) {v2 : Int32} {M : mm_M} {q : (((Int32) ⊕ (Unit)) ⊕ Nat) × mm_M} {o : mm_E} (h : mf_277_b99 v2 M = some q) (hA : mm_A (mm_K2 (fun s M o => mp_277_99 L xs (d) s M o) (fun r M o => mp_277_156 L xs (d) M o)) q o) : mp_277_99 L xs d v2 M o := by
  unfold mf_277_b99 at h
  obtain ⟨d, rfl⟩ := mm_d1 (n := 2) hd
  intro z1 z3 z4
  show mm_Runs L xs (d + 1) 277 (99, [some (.ref 84), z1, some (.int v2), z3, z4], [], M) o
  refine mm_Runs.seq (l := [(99, .iload_n 2, 1), (100, .bipush 16, 2)]) (S2 := (102, [some (.ref 84), z1, some (.int v2), z3, z4], [.int (16 : Int32), .int v2], M)) (by decide +kernel) (hO := mm_own_277) rfl ?_
  refine mm_R_ige (t := 156) rfl rfl rfl (fun hc => ?_) (fun hc => ?_)
  · replace h := mm_ip hc h
    refine mm_Runs.seq (l := [(105, .iconst 0, 1), (106, .istore_n 3, 1), (107, .iconst 0, 1), (108, .istore 4, 2)]) (S2 := (110, [some (.ref 84), z1, some (.int v2), some (.int (0 : Int32)), some (.int (0 : Int32))], [], M)) (by decide +kernel) (hO := mm_own_277) rfl ?_
    have hp : mp_277_110 L xs (d + 1) v2 (0 : Int32) (0 : Int32) M o := by
      refine ms_277_L110 hd h hA (fun r2 M1 h => ?_)
      intro y3 y4
      show mm_Runs L xs (d + 1) 277 (138, [some (.ref 84), y3, some (.int v2), some (.int r2), y4], [], M1) o
      exact (ms_277_j138 hd h hA : mp_277_138 L xs (d + 1) v2 r2 M1 o) y3 y4
    exact hp z1
  · replace h := mm_iq hc h
    cases h
    exact (show mp_277_156 L xs (d + 1) M o from hA) z1 (some (.int v2)) z3 z4
theorem ms_277_L99 {L : Nat} {xs : Nat → Int32} {d : Nat} (hd : 3 ≤ d) {v2 : Int32} {β : Type} {K : β → mm_M → mm_E → Prop} {F : (Unit) → mm_M → mm_O β} {M : mm_M} {q : (β ⊕ Nat) × mm_M} {o : mm_E} (h : mm_B (mf_277_L99 v2 M) F = some q) (hA : mm_A K q o) (hx : ∀ (r : (Unit)) (M2 : mm_M), F r M2 = some q → (fun r M o => mp_277_156 L xs (d) M o) r M2 o) : mp_277_99 L xs d v2 M o := by
  unfold mf_277_L99 at h
  exact mm_R_loop (step := (fun s M => mf_277_b99 s M)) (s := v2) (M := M) (P := (fun s M o => mp_277_99 L xs (d) s M o)) (X := (fun r M o => mp_277_156 L xs (d) M o)) h hA (fun s M q hq hA => ms_277_b99 (v2 := s) (M := M) (q := q) hd hq hA) hx
def mp_277_158 (L : Nat) (xs : Nat → Int32) (d : Nat) (v2 : Int32) (M : mm_M) (o : mm_E) : Prop := ∀ z1 z3 z4 : Option Value, mm_Runs L xs d 277 (158, [some (.ref 84), z1, some (.int v2), z3, z4], [], M) o
def mp_277_194 (L : Nat) (xs : Nat → Int32) (d : Nat) (M : mm_M) (o : mm_E) : Prop := ∀ z0 z1 z2 z3 z4 : Option Value, mm_Runs L xs d 277 (194, [z0, z1, z2, z3, z4], [], M) o
set_option maxRecDepth 8000 in
set_option maxHeartbeats 4000000 in
theorem ms_277_b158 {L : Nat} {xs : Nat → Int32} {d : Nat} (hd : 3 ≤ d) {v2 : Int32} {M : mm_M} {q : (((Int32) ⊕ (Unit)) ⊕ Nat) × mm_M} {o : mm_E} (h : mf_277_b158 v2 M = some q) (hA : mm_A (mm_K2 (fun s M o => mp_277_158 L xs (d) s M o) (fun r M o => mp_277_194 L xs (d) M o)) q o) : mp_277_158 L xs d v2 M o := by
  unfold mf_277_b158 at h
  obtain ⟨d, rfl⟩ := mm_d1 (n := 2) hd
  intro z1 z3 z4
  show mm_Runs L xs (d + 1) 277 (158, [some (.ref 84), z1, some (.int v2), z3, z4], [], M) o
  refine mm_Runs.seq (l := [(158, .iload_n 2, 1), (159, .sipush 256, 3)]) (S2 := (162, [some (.ref 84), z1, some (.int v2), z3, z4], [.int (256 : Int32), .int v2], M)) (by decide +kernel) (hO := mm_own_277) rfl ?_
  refine mm_R_ige (t := 194) rfl rfl rfl (fun hc => ?_) (fun hc => ?_)
  · replace h := mm_ip hc h
    refine mm_Runs.seq (l := [(165, .aload_n 0, 1), (166, .getfield 75, 3), (169, .iload_n 2, 1), (170, .bipush 16, 2), (172, .idiv, 1)]) (S2 := (173, [some (.ref 84), z1, some (.int v2), z3, z4], [.int (v2 / (16 : Int32)), .ref 106], M)) (by decide +kernel) (hO := mm_own_277) rfl ?_
    obtain ⟨hb, h⟩ := mm_gd h
    refine mm_R_iald rfl rfl hb ?_
    refine mm_Runs.seq (l := [(174, .iconst 1, 1)]) (S2 := (175, [some (.ref 84), z1, some (.int v2), z3, z4], [.int (1 : Int32), .int (M.1 106 (v2 / (16 : Int32)).toNatClampNeg)], M)) (by decide +kernel) (hO := mm_own_277) rfl ?_
    refine mm_R_ine (t := 188) rfl rfl rfl (fun hc => ?_) (fun hc => ?_)
    · replace h := mm_ip hc h
      refine mm_Runs.seq (l := [(178, .aload_n 0, 1), (179, .aload_n 0, 1), (180, .getfield 69, 3), (183, .iload_n 2, 1)]) (S2 := (184, [some (.ref 84), z1, some (.int v2), z3, z4], [.int v2, .ref 104, .ref 84], M)) (by decide +kernel) (hO := mm_own_277) rfl ?_
      obtain ⟨hb, h⟩ := mm_gd h
      refine mm_R_iald rfl rfl hb ?_
      refine mm_R_call (v := mm_wv) h hA (k2 := 247) (as := [.ref 84, .int (M.1 104 v2.toNatClampNeg)]) (r := []) rfl (fun _ => rfl) (fun q hq o ho => ms_247 (by omega) hq ho) (fun _ M1 h => ?_)
      show mm_Runs L xs (d + 1) 277 (188, [some (.ref 84), z1, some (.int v2), z3, z4], [], M1) o
      refine mm_Runs.seq (l := [(188, .iinc 2 1, 3), (191, .goto (-33), 3)]) (S2 := (158, [some (.ref 84), (mm_no2 z1), some (.int (v2 + (1 : Int32))), z3, z4], [], M1)) (by decide +kernel) (hO := mm_own_277) rfl ?_
      cases h
      exact (show mp_277_158 L xs (d + 1) (v2 + (1 : Int32)) M1 o from hA) ((mm_no2 z1)) z3 z4
    · replace h := mm_iq hc h
      refine mm_Runs.seq (l := [(188, .iinc 2 1, 3), (191, .goto (-33), 3)]) (S2 := (158, [some (.ref 84), (mm_no2 z1), some (.int (v2 + (1 : Int32))), z3, z4], [], M)) (by decide +kernel) (hO := mm_own_277) rfl ?_
      cases h
      exact (show mp_277_158 L xs (d + 1) (v2 + (1 : Int32)) M o from hA) ((mm_no2 z1)) z3 z4
  · replace h := mm_iq hc h
    cases h
    exact (show mp_277_194 L xs (d + 1) M o from hA) (some (.ref 84)) z1 (some (.int v2)) z3 z4
theorem ms_277_L158 {L : Nat} {xs : Nat → Int32} {d : Nat} (hd : 3 ≤ d) {v2 : Int32} {β : Type} {K : β → mm_M → mm_E → Prop} {F : (Unit) → mm_M → mm_O β} {M : mm_M} {q : (β ⊕ Nat) × mm_M} {o : mm_E} (h : mm_B (mf_277_L158 v2 M) F = some q) (hA : mm_A K q o) (hx : ∀ (r : (Unit)) (M2 : mm_M), F r M2 = some q → (fun r M o => mp_277_194 L xs (d) M o) r M2 o) : mp_277_158 L xs d v2 M o := by
  unfold mf_277_L158 at h
  exact mm_R_loop (step := (fun s M => mf_277_b158 s M)) (s := v2) (M := M) (P := (fun s M o => mp_277_158 L xs (d) s M o)) (X := (fun r M o => mp_277_194 L xs (d) M o)) h hA (fun s M q hq hA => ms_277_b158 (v2 := s) (M := M) (q := q) hd hq hA) hx
set_option maxRecDepth 8000 in
set_option maxHeartbeats 4000000 in
theorem ms_277 {L : Nat} {xs : Nat → Int32} {d : Nat} (hd : 3 ≤ d) {v1 : Int32} {M : mm_M} {q : (Unit ⊕ Nat) × mm_M} {o : mm_E} (h : mf_277 v1 M = some q) (hA : mm_A (mm_Kr mm_wv) q o) : mm_Runs L xs d 277 (0, mm_ent (mm_ml 277) [.ref 84, .int v1], [], M) o := by
  unfold mf_277 at h
  obtain ⟨d, rfl⟩ := mm_d1 (n := 2) hd
  show mm_Runs L xs (d + 1) 277 (0, [some (.ref 84), some (.int v1), none, none, none], [], M) o
  refine mm_Runs.seq (l := [(0, .iconst 0, 1), (1, .istore_n 2, 1)]) (S2 := (2, [some (.ref 84), some (.int v1), some (.int (0 : Int32)), none, none], [], M)) (by decide +kernel) (hO := mm_own_277) rfl ?_
  have hp : mp_277_2 L xs (d + 1) v1 (0 : Int32) M o := by
    refine ms_277_L2 hd h hA (fun r2 M1 h => ?_)
    intro y3 y4 y5
    show mm_Runs L xs (d + 1) 277 (22, [some (.ref 84), some (.int v1), y3, y4, y5], [], M1) o
    refine mm_Runs.seq (l := [(22, .iconst 0, 1), (23, .istore_n 2, 1)]) (S2 := (24, [some (.ref 84), some (.int v1), some (.int (0 : Int32)), y4, y5], [], M1)) (by decide +kernel) (hO := mm_own_277) rfl ?_
    have hp : mp_277_24 L xs (d + 1) v1 (0 : Int32) M1 o := by
      refine ms_277_L24 hd h hA (fun r7 M6 h => ?_)
      intro y8 y9 y10 y11
      show mm_Runs L xs (d + 1) 277 (47, [some (.ref 84), y8, y9, y10, y11], [], M6) o
      refine mm_Runs.seq (l := [(47, .aload_n 0, 1), (48, .iconst 0, 1), (49, .putfield 215, 3), (52, .iconst 0, 1), (53, .istore_n 2, 1)]) (S2 := (54, [some (.ref 84), (mm_no2 y8), some (.int (0 : Int32)), y10, y11], [], (mm_pi M6 84 20 (0 : Int32)))) (by decide +kernel) (hO := mm_own_277) rfl ?_
      have hp : mp_277_54 L xs (d + 1) (0 : Int32) (mm_pi M6 84 20 (0 : Int32)) o := by
        refine ms_277_L54 hd h hA (fun r13 M12 h => ?_)
        intro y14 y15 y16 y17
        show mm_Runs L xs (d + 1) 277 (97, [some (.ref 84), y14, y15, y16, y17], [], M12) o
        refine mm_Runs.seq (l := [(97, .iconst 0, 1), (98, .istore_n 2, 1)]) (S2 := (99, [some (.ref 84), (mm_no2 y14), some (.int (0 : Int32)), y16, y17], [], M12)) (by decide +kernel) (hO := mm_own_277) rfl ?_
        have hp : mp_277_99 L xs (d + 1) (0 : Int32) M12 o := by
          refine ms_277_L99 hd h hA (fun r19 M18 h => ?_)
          intro y20 y21 y22 y23
          show mm_Runs L xs (d + 1) 277 (156, [some (.ref 84), y20, y21, y22, y23], [], M18) o
          refine mm_Runs.seq (l := [(156, .iconst 0, 1), (157, .istore_n 2, 1)]) (S2 := (158, [some (.ref 84), (mm_no2 y20), some (.int (0 : Int32)), y22, y23], [], M18)) (by decide +kernel) (hO := mm_own_277) rfl ?_
          have hp : mp_277_158 L xs (d + 1) (0 : Int32) M18 o := by
            refine ms_277_L158 hd h hA (fun r25 M24 h => ?_)
            intro y26 y27 y28 y29 y30
            show mm_Runs L xs (d + 1) 277 (194, [y26, y27, y28, y29, y30], [], M24) o
            cases h
            exact mm_R_retv rfl rfl hA
          exact hp ((mm_no2 y20)) y22 y23
        exact hp ((mm_no2 y14)) y16 y17
      exact hp ((mm_no2 y8)) y10 y11
    exact hp y4 y5
  exact hp none none
