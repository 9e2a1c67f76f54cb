/-! MEANINGS ARE SOUND 37 -/
-- 189: PlainPacksModel.sum(I)I (depth 3)
theorem mm_own_189 : mm_own 189 = 12 := rfl
def mp_189_14 (L : Nat) (xs : Nat → Int32) (d : Nat) (v1 : Int32) (M : mm_M) (o : mm_E) : Prop := mm_Runs L xs d 189 (14, [some (.ref 84), some (.int v1)], [.ref 84], M) o
def mp_189_15 (L : Nat) (xs : Nat → Int32) (d : Nat) (v1 : Int32) (s1 : Int32) (M : mm_M) (o : mm_E) : Prop := mm_Runs L xs d 189 (15, [some (.ref 84), some (.int v1)], [.int s1, .ref 84], M) o
set_option maxRecDepth 8000 in
set_option maxHeartbeats 4000000 in
theorem ms_189_j15 {L : Nat} {xs : Nat → Int32} {d : Nat} (hd : 3 ≤ d) {v1 : Int32} {s1 : Int32} {M : mm_M} {q : (Int32 ⊕ Nat) × mm_M} {o : mm_E} (h : mf_189_j15 v1 s1 M = some q) (hA : mm_A (mm_Kr mm_wi) q o) : mp_189_15 L xs d v1 s1 M o := by
  unfold mf_189_j15 at h
  obtain ⟨d, rfl⟩ := mm_d1 (n := 2) hd
  show mm_Runs L xs (d + 1) 189 (15, [some (.ref 84), some (.int v1)], [.int s1, .ref 84], M) o
  refine mm_R_call (v := mm_wi) h hA (k2 := 174) (as := [.ref 84, .int s1]) (r := []) rfl (fun _ => rfl) (fun q hq o ho => ms_174 (by omega) hq ho) (fun r1 M2 h => ?_)
  show mm_Runs L xs (d + 1) 189 (18, [some (.ref 84), some (.int v1)], [.int r1], M2) o
  refine mm_R_zne (t := 23) rfl rfl rfl (fun hc => ?_) (fun hc => ?_)
  · replace h := mm_ip hc h
    refine mm_Runs.seq (l := [(21, .iconst 0, 1)]) (S2 := (22, [some (.ref 84), some (.int v1)], [.int (0 : Int32)], M2)) (by decide +kernel) (hO := mm_own_189) rfl ?_
    cases h
    exact mm_R_reti rfl rfl hA
  · replace h := mm_iq hc h
    refine mm_Runs.seq (l := [(23, .iload_n 1, 1)]) (S2 := (24, [some (.ref 84), some (.int v1)], [.int v1], M2)) (by decide +kernel) (hO := mm_own_189) rfl ?_
    by_cases hc0 : v1 = (0 : Int32)
    · replace h := mm_ip hc0 h
      refine mm_R_sw (t := 52) rfl rfl rfl (by rw [hc0]; rfl) ?_
      refine mm_Runs.seq (l := [(52, .aload_n 0, 1), (53, .getfield 7, 3), (56, .iconst 0, 1), (57, .aload_n 0, 1), (58, .getfield 91, 3)]) (S2 := (61, [some (.ref 84), some (.int v1)], [.int (M2.1 84 2), .int (0 : Int32), .ref 85], M2)) (by decide +kernel) (hO := mm_own_189) rfl ?_
      refine mm_R_call (v := mm_wi) h hA (k2 := 182) (as := [.ref 85, .int (0 : Int32), .int (M2.1 84 2)]) (r := []) rfl (fun _ => rfl) (fun q hq o ho => ms_182 rfl (by omega) hq ho) (fun r3 M4 h => ?_)
      show mm_Runs L xs (d + 1) 189 (64, [some (.ref 84), some (.int v1)], [.int r3], M4) o
      cases h
      exact mm_R_reti rfl rfl hA
    replace h := mm_iq hc0 h
    by_cases hc1 : v1 = (1 : Int32)
    · replace h := mm_ip hc1 h
      refine mm_R_sw (t := 65) rfl rfl rfl (by rw [hc1]; rfl) ?_
      refine mm_Runs.seq (l := [(65, .aload_n 0, 1), (66, .getfield 7, 3), (69, .iconst 0, 1), (70, .aload_n 0, 1), (71, .getfield 91, 3)]) (S2 := (74, [some (.ref 84), some (.int v1)], [.int (M2.1 84 2), .int (0 : Int32), .ref 85], M2)) (by decide +kernel) (hO := mm_own_189) rfl ?_
      refine mm_R_call (v := mm_wi) h hA (k2 := 183) (as := [.ref 85, .int (0 : Int32), .int (M2.1 84 2)]) (r := []) rfl (fun _ => rfl) (fun q hq o ho => ms_183 rfl (by omega) hq ho) (fun r5 M6 h => ?_)
      show mm_Runs L xs (d + 1) 189 (77, [some (.ref 84), some (.int v1)], [.int r5], M6) o
      cases h
      exact mm_R_reti rfl rfl hA
    replace h := mm_iq hc1 h
    by_cases hc2 : v1 = (2 : Int32)
    · replace h := mm_ip hc2 h
      refine mm_R_sw (t := 78) rfl rfl rfl (by rw [hc2]; rfl) ?_
      refine mm_Runs.seq (l := [(78, .aload_n 0, 1), (79, .getfield 7, 3), (82, .iconst 0, 1), (83, .aload_n 0, 1), (84, .getfield 91, 3)]) (S2 := (87, [some (.ref 84), some (.int v1)], [.int (M2.1 84 2), .int (0 : Int32), .ref 85], M2)) (by decide +kernel) (hO := mm_own_189) rfl ?_
      refine mm_R_call (v := mm_wi) h hA (k2 := 184) (as := [.ref 85, .int (0 : Int32), .int (M2.1 84 2)]) (r := []) rfl (fun _ => rfl) (fun q hq o ho => ms_184 rfl (by omega) hq ho) (fun r7 M8 h => ?_)
      show mm_Runs L xs (d + 1) 189 (90, [some (.ref 84), some (.int v1)], [.int r7], M8) o
      cases h
      exact mm_R_reti rfl rfl hA
    replace h := mm_iq hc2 h
    have e0 := mm_i32 (n := 0) hc0 (by decide) (by decide)
    have e1 := mm_i32 (n := 1) hc1 (by decide) (by decide)
    have e2 := mm_i32 (n := 2) hc2 (by decide) (by decide)
    refine mm_R_sw (t := 91) rfl rfl rfl (mm_tsd (by omega) rfl rfl) ?_
    refine mm_Runs.seq (l := [(91, .aload_n 0, 1), (92, .getfield 7, 3), (95, .iconst 0, 1), (96, .aload_n 0, 1), (97, .getfield 91, 3)]) (S2 := (100, [some (.ref 84), some (.int v1)], [.int (M2.1 84 2), .int (0 : Int32), .ref 85], M2)) (by decide +kernel) (hO := mm_own_189) rfl ?_
    refine mm_R_call (v := mm_wi) h hA (k2 := 188) (as := [.ref 85, .int (0 : Int32), .int (M2.1 84 2)]) (r := []) rfl (fun _ => rfl) (fun q hq o ho => ms_188 rfl (by omega) hq ho) (fun r9 M10 h => ?_)
    show mm_Runs L xs (d + 1) 189 (103, [some (.ref 84), some (.int v1)], [.int r9], M10) o
    cases h
    exact mm_R_reti rfl rfl hA
set_option maxRecDepth 8000 in
set_option maxHeartbeats 4000000 in
theorem ms_189_j14 {L : Nat} {xs : Nat → Int32} {d : Nat} (hd : 3 ≤ d) {v1 : Int32} {M : mm_M} {q : (Int32 ⊕ Nat) × mm_M} {o : mm_E} (h : mf_189_j14 v1 M = some q) (hA : mm_A (mm_Kr mm_wi) q o) : mp_189_14 L xs d v1 M o := by
  unfold mf_189_j14 at h
  obtain ⟨d, rfl⟩ := mm_d1 (n := 2) hd
  show mm_Runs L xs (d + 1) 189 (14, [some (.ref 84), some (.int v1)], [.ref 84], M) o
  refine mm_Runs.seq (l := [(14, .iconst 0, 1)]) (S2 := (15, [some (.ref 84), some (.int v1)], [.int (0 : Int32), .ref 84], M)) (by decide +kernel) (hO := mm_own_189) rfl ?_
  exact (ms_189_j15 hd h hA : mp_189_15 L xs (d + 1) v1 (0 : Int32) M o)
set_option maxRecDepth 8000 in
set_option maxHeartbeats 4000000 in
theorem ms_189 {L : Nat} {xs : Nat → Int32} {d : Nat} (hd : 3 ≤ d) {v1 : Int32} {M : mm_M} {q : (Int32 ⊕ Nat) × mm_M} {o : mm_E} (h : mf_189 v1 M = some q) (hA : mm_A (mm_Kr mm_wi) q o) : mm_Runs L xs d 189 (0, mm_ent (mm_ml 189) [.ref 84, .int v1], [], M) o := by
  unfold mf_189 at h
  obtain ⟨d, rfl⟩ := mm_d1 (n := 2) hd
  show mm_Runs L xs (d + 1) 189 (0, [some (.ref 84), some (.int v1)], [], M) o
  refine mm_Runs.seq (l := [(0, .aload_n 0, 1), (1, .iload_n 1, 1)]) (S2 := (2, [some (.ref 84), some (.int v1)], [.int v1, .ref 84], M)) (by decide +kernel) (hO := mm_own_189) rfl ?_
  refine mm_R_zlt (t := 14) rfl rfl rfl (fun hc => ?_) (fun hc => ?_)
  · replace h := mm_ip hc h
    exact (ms_189_j14 hd h hA : mp_189_14 L xs (d + 1) v1 M o)
  · replace h := mm_iq hc h
    refine mm_Runs.seq (l := [(5, .iload_n 1, 1), (6, .iconst 3, 1)]) (S2 := (7, [some (.ref 84), some (.int v1)], [.int (3 : Int32), .int v1, .ref 84], M)) (by decide +kernel) (hO := mm_own_189) rfl ?_
    refine mm_R_igt (t := 14) rfl rfl rfl (fun hc => ?_) (fun hc => ?_)
    · replace h := mm_ip hc h
      exact (ms_189_j14 hd h hA : mp_189_14 L xs (d + 1) v1 M o)
    · replace h := mm_iq hc h
      refine mm_Runs.seq (l := [(10, .iconst 1, 1), (11, .goto 4, 3)]) (S2 := (15, [some (.ref 84), some (.int v1)], [.int (1 : Int32), .ref 84], M)) (by decide +kernel) (hO := mm_own_189) rfl ?_
      exact (ms_189_j15 hd h hA : mp_189_15 L xs (d + 1) v1 (1 : Int32) M o)
-- 98: PlainPacks$Blocks.copyBits(II)I (depth 3)
theorem mm_own_98 : mm_own 98 = 6 := rfl
set_option maxRecDepth 8000 in
set_option maxHeartbeats 4000000 in
theorem ms_98 {L : Nat} {xs : Nat → Int32} {d : Nat} (hd : 3 ≤ d) {v0 : Int32} {v1 : Int32} {M : mm_M} {q : (Int32 ⊕ Nat) × mm_M} {o : mm_E} (h : mf_98 v0 v1 M = some q) (hA : mm_A (mm_Kr mm_wi) q o) : mm_Runs L xs d 98 (0, mm_ent (mm_ml 98) [.int v0, .int v1], [], M) o := by
  unfold mf_98 at h
  obtain ⟨d, rfl⟩ := mm_d1 (n := 2) hd
  show mm_Runs L xs (d + 1) 98 (0, [some (.int v0), some (.int v1)], [], M) o
  refine mm_Runs.seq (l := [(0, .iload_n 0, 1)]) (S2 := (1, [some (.int v0), some (.int v1)], [.int v0], M)) (by decide +kernel) (hO := mm_own_98) rfl ?_
  refine mm_R_call (v := mm_wi) h hA (k2 := 94) (as := [.int v0]) (r := []) rfl (fun _ => rfl) (fun q hq o ho => ms_94 (by omega) hq ho) (fun r1 M2 h => ?_)
  show mm_Runs L xs (d + 1) 98 (4, [some (.int v0), some (.int v1)], [.int r1], M2) o
  refine mm_R_call (v := mm_wi) h hA (k2 := 82) (as := [.int r1]) (r := []) rfl (fun _ => rfl) (fun q hq o ho => ms_82 (by omega) hq ho) (fun r3 M4 h => ?_)
  show mm_Runs L xs (d + 1) 98 (7, [some (.int v0), some (.int v1)], [.int r3], M4) o
  refine mm_Runs.seq (l := [(7, .iload_n 0, 1)]) (S2 := (8, [some (.int v0), some (.int v1)], [.int v0, .int r3], M4)) (by decide +kernel) (hO := mm_own_98) rfl ?_
  refine mm_R_call (v := mm_wi) h hA (k2 := 95) (as := [.int v0]) (r := [.int r3]) rfl (fun _ => rfl) (fun q hq o ho => ms_95 (by omega) hq ho) (fun r5 M6 h => ?_)
  show mm_Runs L xs (d + 1) 98 (11, [some (.int v0), some (.int v1)], [.int r5, .int r3], M6) o
  refine mm_Runs.seq (l := [(11, .iadd, 1), (12, .iconst 5, 1), (13, .iadd, 1), (14, .iload_n 1, 1)]) (S2 := (15, [some (.int v0), some (.int v1)], [.int v1, .int ((r3 + r5) + (5 : Int32))], M6)) (by decide +kernel) (hO := mm_own_98) rfl ?_
  refine mm_R_call (v := mm_wi) h hA (k2 := 96) (as := [.int v1]) (r := [.int ((r3 + r5) + (5 : Int32))]) rfl (fun _ => rfl) (fun q hq o ho => ms_96 (by omega) hq ho) (fun r7 M8 h => ?_)
  show mm_Runs L xs (d + 1) 98 (18, [some (.int v0), some (.int v1)], [.int r7, .int ((r3 + r5) + (5 : Int32))], M8) o
  refine mm_Runs.seq (l := [(18, .iadd, 1)]) (S2 := (19, [some (.int v0), some (.int v1)], [.int (((r3 + r5) + (5 : Int32)) + r7)], M8)) (by decide +kernel) (hO := mm_own_98) rfl ?_
  cases h
  exact mm_R_reti rfl rfl hA
-- 97: PlainPacks$Blocks.leastBits()I (depth 4)
theorem mm_own_97 : mm_own 97 = 6 := rfl
def mp_97_38 (L : Nat) (xs : Nat → Int32) (d : Nat) (v2 : Int32) (M : mm_M) (o : mm_E) : Prop := ∀ z1 z3 z4 z5 z6 z7 : Option Value, mm_Runs L xs d 97 (38, [some (.ref 16), z1, some (.int v2), z3, z4, z5, z6, z7], [], M) o
def mp_97_220 (L : Nat) (xs : Nat → Int32) (d : Nat) (M : mm_M) (o : mm_E) : Prop := ∀ z1 z2 z3 z4 z5 z6 z7 : Option Value, mm_Runs L xs d 97 (220, [some (.ref 16), z1, z2, z3, z4, z5, z6, z7], [], M) o
def mp_97_74 (L : Nat) (xs : Nat → Int32) (d : Nat) (v2 : Int32) (v3 : Int32) (v4 : Int32) (M : mm_M) (o : mm_E) : Prop := ∀ z1 z5 z6 z7 : Option Value, mm_Runs L xs d 97 (74, [some (.ref 16), z1, some (.int v2), some (.int v3), some (.int v4), z5, z6, z7], [], M) o
def mp_97_214 (L : Nat) (xs : Nat → Int32) (d : Nat) (v2 : Int32) (M : mm_M) (o : mm_E) : Prop := ∀ z1 z3 z4 z5 z6 z7 : Option Value, mm_Runs L xs d 97 (214, [some (.ref 16), z1, some (.int v2), z3, z4, z5, z6, z7], [], M) o
def mp_97_109 (L : Nat) (xs : Nat → Int32) (d : Nat) (v2 : Int32) (v3 : Int32) (v4 : Int32) (s0 : Int32) (M : mm_M) (o : mm_E) : Prop := ∀ z1 z5 z6 z7 : Option Value, mm_Runs L xs d 97 (109, [some (.ref 16), z1, some (.int v2), some (.int v3), some (.int v4), z5, z6, z7], [.int s0], M) o
def mp_97_135 (L : Nat) (xs : Nat → Int32) (d : Nat) (v2 : Int32) (v3 : Int32) (v4 : Int32) (s1 : Int32) (s2 : Int32) (M : mm_M) (o : mm_E) : Prop := ∀ z1 z5 z6 z7 : Option Value, mm_Runs L xs d 97 (135, [some (.ref 16), z1, some (.int v2), some (.int v3), some (.int v4), z5, z6, z7], [.int s2, .int s1, .ref 34], M) o
def mp_97_156 (L : Nat) (xs : Nat → Int32) (d : Nat) (v2 : Int32) (v3 : Int32) (v4 : Int32) (v6 : Int32) (v7 : Int32) (M : mm_M) (o : mm_E) : Prop := ∀ z1 z5 : Option Value, mm_Runs L xs d 97 (156, [some (.ref 16), z1, some (.int v2), some (.int v3), some (.int v4), z5, some (.int v6), some (.int v7)], [], M) o
def mp_97_201 (L : Nat) (xs : Nat → Int32) (d : Nat) (v2 : Int32) (v3 : Int32) (v4 : Int32) (v6 : Int32) (M : mm_M) (o : mm_E) : Prop := ∀ z1 z5 z7 : Option Value, mm_Runs L xs d 97 (201, [some (.ref 16), z1, some (.int v2), some (.int v3), some (.int v4), z5, some (.int v6), z7], [], M) o
set_option maxRecDepth 8000 in
set_option maxHeartbeats 4000000 in
theorem ms_97_b156 {L : Nat} {xs : Nat → Int32} {d : Nat} (hd : 4 ≤ d) {v2 : Int32} {v3 : Int32} {v4 : Int32} {v6 : Int32} {v7 : Int32} {M : mm_M} {q : (((Int32) ⊕ (Unit)) ⊕ Nat) × mm_M} {o : mm_E} (h : mf_97_b156 v2 v3 v4 v6 v7 M = some q) (hA : mm_A (mm_K2 (fun s M o => mp_97_156 L xs (d) v2 v3 v4 v6 s M o) (fun r M o => mp_97_201 L xs (d) v2 v3 v4 v6 M o)) q o) : mp_97_156 L xs d v2 v3 v4 v6 v7 M o := by
  unfold mf_97_b156 at h
  obtain ⟨d, rfl⟩ := mm_d1 (n := 3) hd
  intro z1 z5
  show mm_Runs L xs (d + 1) 97 (156, [some (.ref 16), z1, some (.int v2), some (.int v3), some (.int v4), z5, some (.int v6), some (.int v7)], [], M) o
  refine mm_Runs.seq (l := [(156, .iload 7, 2), (158, .iload 6, 2)]) (S2 := (160, [some (.ref 16), z1, some (.int v2), some (.int v3), some (.int v4), z5, some (.int v6), some (.int v7)], [.int v6, .int v7], M)) (by decide +kernel) (hO := mm_own_97) rfl ?_
  refine mm_R_igt (t := 201) rfl rfl rfl (fun hc => ?_) (fun hc => ?_)
  · replace h := mm_ip hc h
    cases h
    exact (show mp_97_201 L xs (d + 1) v2 v3 v4 v6 M o from hA) z1 z5 (some (.int v7))
  · replace h := mm_iq hc h
    refine mm_Runs.seq (l := [(163, .aload_n 0, 1), (164, .getfield 33, 3), (167, .iload_n 2, 1), (168, .aload_n 0, 1), (169, .getfield 33, 3), (172, .iload_n 2, 1)]) (S2 := (173, [some (.ref 16), z1, some (.int v2), some (.int v3), some (.int v4), z5, some (.int v6), some (.int v7)], [.int v2, .ref 33, .int v2, .ref 33], M)) (by decide +kernel) (hO := mm_own_97) rfl ?_
    obtain ⟨hb, h⟩ := mm_gd h
    refine mm_R_iald rfl rfl hb ?_
    refine mm_Runs.seq (l := [(174, .iload 7, 2), (176, .iload 4, 2)]) (S2 := (178, [some (.ref 16), z1, some (.int v2), some (.int v3), some (.int v4), z5, some (.int v6), some (.int v7)], [.int v4, .int v7, .int (M.1 33 v2.toNatClampNeg), .int v2, .ref 33], M)) (by decide +kernel) (hO := mm_own_97) rfl ?_
    refine mm_R_call (v := mm_wi) h hA (k2 := 98) (as := [.int v7, .int v4]) (r := [.int (M.1 33 v2.toNatClampNeg), .int v2, .ref 33]) rfl (fun _ => rfl) (fun q hq o ho => ms_98 (by omega) hq ho) (fun r1 M2 h => ?_)
    show mm_Runs L xs (d + 1) 97 (181, [some (.ref 16), z1, some (.int v2), some (.int v3), some (.int v4), z5, some (.int v6), some (.int v7)], [.int r1, .int (M.1 33 v2.toNatClampNeg), .int v2, .ref 33], M2) o
    refine mm_Runs.seq (l := [(181, .aload_n 0, 1), (182, .getfield 33, 3), (185, .iload_n 2, 1), (186, .iload 7, 2), (188, .iadd, 1)]) (S2 := (189, [some (.ref 16), z1, some (.int v2), some (.int v3), some (.int v4), z5, some (.int v6), some (.int v7)], [.int (v2 + v7), .ref 33, .int r1, .int (M.1 33 v2.toNatClampNeg), .int v2, .ref 33], M2)) (by decide +kernel) (hO := mm_own_97) rfl ?_
    obtain ⟨hb, h⟩ := mm_gd h
    refine mm_R_iald rfl rfl hb ?_
    refine mm_Runs.seq (l := [(190, .iadd, 1)]) (S2 := (191, [some (.ref 16), z1, some (.int v2), some (.int v3), some (.int v4), z5, some (.int v6), some (.int v7)], [.int (r1 + (M2.1 33 (v2 + v7).toNatClampNeg)), .int (M.1 33 v2.toNatClampNeg), .int v2, .ref 33], M2)) (by decide +kernel) (hO := mm_own_97) rfl ?_
    refine mm_R_intr (st2 := [.int (mm_min (M.1 33 v2.toNatClampNeg) (r1 + (M2.1 33 (v2 + v7).toNatClampNeg))), .int v2, .ref 33]) (M2 := M2) rfl rfl (by omega) ?_
    obtain ⟨hb, h⟩ := mm_gd h
    refine mm_R_iast rfl rfl hb ?_
    refine mm_Runs.seq (l := [(195, .iinc 7 1, 3), (198, .goto (-42), 3)]) (S2 := (156, [some (.ref 16), z1, some (.int v2), some (.int v3), some (.int v4), z5, some (.int v6), some (.int (v7 + (1 : Int32)))], [], (mm_pi M2 33 v2.toNatClampNeg (mm_min (M.1 33 v2.toNatClampNeg) (r1 + (M2.1 33 (v2 + v7).toNatClampNeg)))))) (by decide +kernel) (hO := mm_own_97) rfl ?_
    cases h
    exact (show mp_97_156 L xs (d + 1) v2 v3 v4 v6 (v7 + (1 : Int32)) (mm_pi M2 33 v2.toNatClampNeg (mm_min (M.1 33 v2.toNatClampNeg) (r1 + (M2.1 33 (v2 + v7).toNatClampNeg)))) o from hA) z1 z5
theorem ms_97_L156 {L : Nat} {xs : Nat → Int32} {d : Nat} (hd : 4 ≤ d) {v2 : Int32} {v3 : Int32} {v4 : Int32} {v6 : Int32} {v7 : Int32} {β : Type} {K : β → mm_M → mm_E → Prop} {F : (Unit) → mm_M → mm_O β} {M : mm_M} {q : (β ⊕ Nat) × mm_M} {o : mm_E} (h : mm_B (mf_97_L156 v2 v3 v4 v6 v7 M) F = some q) (hA : mm_A K q o) (hx : ∀ (r : (Unit)) (M2 : mm_M), F r M2 = some q → (fun r M o => mp_97_201 L xs (d) v2 v3 v4 v6 M o) r M2 o) : mp_97_156 L xs d v2 v3 v4 v6 v7 M o := by
  unfold mf_97_L156 at h
  exact mm_R_loop (step := (fun s M => mf_97_b156 v2 v3 v4 v6 s M)) (s := v7) (M := M) (P := (fun s M o => mp_97_156 L xs (d) v2 v3 v4 v6 s M o)) (X := (fun r M o => mp_97_201 L xs (d) v2 v3 v4 v6 M o)) h hA (fun s M q hq hA => ms_97_b156 (v2 := v2) (v3 := v3) (v4 := v4) (v6 := v6) (v7 := s) (M := M) (q := q) hd hq hA) hx
set_option maxRecDepth 8000 in
set_option maxHeartbeats 4000000 in
theorem ms_97_j201 {L : Nat} {xs : Nat → Int32} {d : Nat} (hd : 4 ≤ d) {v2 : Int32} {v3 : Int32} {v4 : Int32} {v6 : Int32} {M : mm_M} {q : (((Int32 × Int32) ⊕ (Unit)) ⊕ Nat) × mm_M} {o : mm_E} (h : mf_97_j201 v2 v3 v4 v6 M = some q) (hA : mm_A (mm_K2 (fun s M o => mp_97_74 L xs (d) v2 s.1 s.2 M o) (fun r M o => mp_97_214 L xs (d) v2 M o)) q o) : mp_97_201 L xs d v2 v3 v4 v6 M o := by
  unfold mf_97_j201 at h
  obtain ⟨d, rfl⟩ := mm_d1 (n := 3) hd
  intro z1 z5 z7
  show mm_Runs L xs (d + 1) 97 (201, [some (.ref 16), z1, some (.int v2), some (.int v3), some (.int v4), z5, some (.int v6), z7], [], M) o
  refine mm_Runs.seq (l := [(201, .iload_n 3, 1), (202, .iload 6, 2)]) (S2 := (204, [some (.ref 16), z1, some (.int v2), some (.int v3), some (.int v4), z5, some (.int v6), z7], [.int v6, .int v3], M)) (by decide +kernel) (hO := mm_own_97) rfl ?_
  refine mm_R_intr (st2 := [.int (mm_max v3 v6)]) (M2 := M) rfl rfl (by omega) ?_
  refine mm_Runs.seq (l := [(207, .istore_n 3, 1), (208, .iinc 4 1, 3), (211, .goto (-137), 3)]) (S2 := (74, [some (.ref 16), z1, some (.int v2), some (.int (mm_max v3 v6)), some (.int (v4 + (1 : Int32))), z5, some (.int v6), z7], [], M)) (by decide +kernel) (hO := mm_own_97) rfl ?_
  cases h
  exact (show mp_97_74 L xs (d + 1) v2 (mm_max v3 v6) (v4 + (1 : Int32)) M o from hA) z1 z5 (some (.int v6)) z7
set_option maxRecDepth 8000 in
set_option maxHeartbeats 4000000 in
theorem ms_97_j135 {L : Nat} {xs : Nat → Int32} {d : Nat} (hd : 4 ≤ d) {v2 : Int32} {v3 : Int32} {v4 : Int32} {s1 : Int32} {s2 : Int32} {M : mm_M} {q : (((Int32 × Int32) ⊕ (Unit)) ⊕ Nat) × mm_M} {o : mm_E} (h : mf_97_j135 v2 v3 v4 s1 s2 M = some q) (hA : mm_A (mm_K2 (fun s M o => mp_97_74 L xs (d) v2 s.1 s.2 M o) (fun r M o => mp_97_214 L xs (d) v2 M o)) q o) : mp_97_135 L xs d v2 v3 v4 s1 s2 M o := by
  unfold mf_97_j135 at h
  obtain ⟨d, rfl⟩ := mm_d1 (n := 3) hd
  intro z1 z5 z6 z7
  show mm_Runs L xs (d + 1) 97 (135, [some (.ref 16), z1, some (.int v2), some (.int v3), some (.int v4), z5, z6, z7], [.int s2, .int s1, .ref 34], M) o
  obtain ⟨hb, h⟩ := mm_gd h
  refine mm_R_iast rfl rfl hb ?_
  refine mm_Runs.seq (l := [(136, .aload_n 0, 1), (137, .getfield 36, 3), (140, .iload 4, 2)]) (S2 := (142, [some (.ref 16), z1, some (.int v2), some (.int v3), some (.int v4), z5, z6, z7], [.int v4, .ref 34], (mm_pi M 34 s1.toNatClampNeg s2))) (by decide +kernel) (hO := mm_own_97) rfl ?_
  obtain ⟨hb, h⟩ := mm_gd h
  refine mm_R_iald rfl rfl hb ?_
  refine mm_Runs.seq (l := [(143, .sipush 258, 3)]) (S2 := (146, [some (.ref 16), z1, some (.int v2), some (.int v3), some (.int v4), z5, z6, z7], [.int (258 : Int32), .int ((mm_pi M 34 s1.toNatClampNeg s2).1 34 v4.toNatClampNeg)], (mm_pi M 34 s1.toNatClampNeg s2))) (by decide +kernel) (hO := mm_own_97) rfl ?_
  refine mm_R_intr (st2 := [.int (mm_min ((mm_pi M 34 s1.toNatClampNeg s2).1 34 v4.toNatClampNeg) (258 : Int32))]) (M2 := (mm_pi M 34 s1.toNatClampNeg s2)) rfl rfl (by omega) ?_
  refine mm_Runs.seq (l := [(149, .istore 6, 2), (151, .iload_n 3, 1), (152, .iconst 1, 1), (153, .iadd, 1), (154, .istore 7, 2)]) (S2 := (156, [some (.ref 16), z1, some (.int v2), some (.int v3), some (.int v4), (mm_no2 z5), some (.int (mm_min ((mm_pi M 34 s1.toNatClampNeg s2).1 34 v4.toNatClampNeg) (258 : Int32))), some (.int (v3 + (1 : Int32)))], [], (mm_pi M 34 s1.toNatClampNeg s2))) (by decide +kernel) (hO := mm_own_97) rfl ?_
  have hp : mp_97_156 L xs (d + 1) v2 v3 v4 (mm_min ((mm_pi M 34 s1.toNatClampNeg s2).1 34 v4.toNatClampNeg) (258 : Int32)) (v3 + (1 : Int32)) (mm_pi M 34 s1.toNatClampNeg s2) o := by
    refine ms_97_L156 hd h hA (fun r2 M1 h => ?_)
    intro y3 y4 y5
    show mm_Runs L xs (d + 1) 97 (201, [some (.ref 16), y3, some (.int v2), some (.int v3), some (.int v4), y4, some (.int (mm_min ((mm_pi M 34 s1.toNatClampNeg s2).1 34 v4.toNatClampNeg) (258 : Int32))), y5], [], M1) o
    exact (ms_97_j201 hd h hA : mp_97_201 L xs (d + 1) v2 v3 v4 (mm_min ((mm_pi M 34 s1.toNatClampNeg s2).1 34 v4.toNatClampNeg) (258 : Int32)) M1 o) y3 y4 y5
  exact hp z1 ((mm_no2 z5))
set_option maxRecDepth 8000 in
set_option maxHeartbeats 4000000 in
theorem ms_97_j109 {L : Nat} {xs : Nat → Int32} {d : Nat} (hd : 4 ≤ d) {v2 : Int32} {v3 : Int32} {v4 : Int32} {s0 : Int32} {M : mm_M} {q : (((Int32 × Int32) ⊕ (Unit)) ⊕ Nat) × mm_M} {o : mm_E} (h : mf_97_j109 v2 v3 v4 s0 M = some q) (hA : mm_A (mm_K2 (fun s M o => mp_97_74 L xs (d) v2 s.1 s.2 M o) (fun r M o => mp_97_214 L xs (d) v2 M o)) q o) : mp_97_109 L xs d v2 v3 v4 s0 M o := by
  unfold mf_97_j109 at h
  obtain ⟨d, rfl⟩ := mm_d1 (n := 3) hd
  intro z1 z5 z6 z7
  show mm_Runs L xs (d + 1) 97 (109, [some (.ref 16), z1, some (.int v2), some (.int v3), some (.int v4), z5, z6, z7], [.int s0], M) o
  refine mm_Runs.seq (l := [(109, .istore 5, 2), (111, .aload_n 0, 1), (112, .getfield 36, 3), (115, .iload 4, 2), (117, .iload 5, 2)]) (S2 := (119, [some (.ref 16), z1, some (.int v2), some (.int v3), some (.int v4), some (.int s0), z6, z7], [.int s0, .int v4, .ref 34], M)) (by decide +kernel) (hO := mm_own_97) rfl ?_
  refine mm_R_zeq (t := 134) rfl rfl rfl (fun hc => ?_) (fun hc => ?_)
  · replace h := mm_ip hc h
    refine mm_Runs.seq (l := [(134, .iconst 0, 1)]) (S2 := (135, [some (.ref 16), z1, some (.int v2), some (.int v3), some (.int v4), some (.int s0), z6, z7], [.int (0 : Int32), .int v4, .ref 34], M)) (by decide +kernel) (hO := mm_own_97) rfl ?_
    exact (ms_97_j135 hd h hA : mp_97_135 L xs (d + 1) v2 v3 v4 v4 (0 : Int32) M o) z1 (some (.int s0)) z6 z7
  · replace h := mm_iq hc h
    refine mm_Runs.seq (l := [(122, .aload_n 0, 1), (123, .getfield 36, 3), (126, .iload 4, 2)]) (S2 := (128, [some (.ref 16), z1, some (.int v2), some (.int v3), some (.int v4), some (.int s0), z6, z7], [.int v4, .ref 34, .int v4, .ref 34], M)) (by decide +kernel) (hO := mm_own_97) rfl ?_
    obtain ⟨hb, h⟩ := mm_gd h
    refine mm_R_iald rfl rfl hb ?_
    refine mm_Runs.seq (l := [(129, .iconst 1, 1), (130, .iadd, 1), (131, .goto 4, 3)]) (S2 := (135, [some (.ref 16), z1, some (.int v2), some (.int v3), some (.int v4), some (.int s0), z6, z7], [.int ((M.1 34 v4.toNatClampNeg) + (1 : Int32)), .int v4, .ref 34], M)) (by decide +kernel) (hO := mm_own_97) rfl ?_
    exact (ms_97_j135 hd h hA : mp_97_135 L xs (d + 1) v2 v3 v4 v4 ((M.1 34 v4.toNatClampNeg) + (1 : Int32)) M o) z1 (some (.int s0)) z6 z7
set_option maxRecDepth 8000 in
set_option maxHeartbeats 4000000 in
theorem ms_97_b74 {L : Nat} {xs : Nat → Int32} {d : Nat} (hd : 4 ≤ d) {v2 : Int32} {v3 : Int32} {v4 : Int32} {M : mm_M} {q : (((Int32 × Int32) ⊕ (Unit)) ⊕ Nat) × mm_M} {o : mm_E} (h : mf_97_b74 v2 v3 v4 M = some q) (hA : mm_A (mm_K2 (fun s M o => mp_97_74 L xs (d) v2 s.1 s.2 M o) (fun r M o => mp_97_214 L xs (d) v2 M o)) q o) : mp_97_74 L xs d v2 v3 v4 M o := by
  unfold mf_97_b74 at h
  obtain ⟨d, rfl⟩ := mm_d1 (n := 3) hd
  intro z1 z5 z6 z7
  show mm_Runs L xs (d + 1) 97 (74, [some (.ref 16), z1, some (.int v2), some (.int v3), some (.int v4), z5, z6, z7], [], M) o
  refine mm_Runs.seq (l := [(74, .iload 4, 2), (76, .iload_n 2, 1)]) (S2 := (77, [some (.ref 16), z1, some (.int v2), some (.int v3), some (.int v4), z5, z6, z7], [.int v2, .int v4], M)) (by decide +kernel) (hO := mm_own_97) rfl ?_
  refine mm_R_igt (t := 214) rfl rfl rfl (fun hc => ?_) (fun hc => ?_)
  · replace h := mm_ip hc h
    cases h
    exact (show mp_97_214 L xs (d + 1) v2 M o from hA) z1 (some (.int v3)) (some (.int v4)) z5 z6 z7
  · replace h := mm_iq hc h
    refine mm_Runs.seq (l := [(80, .aload_n 0, 1), (81, .getfield 39, 3), (84, .getfield 94, 3), (87, .iload_n 2, 1)]) (S2 := (88, [some (.ref 16), z1, some (.int v2), some (.int v3), some (.int v4), z5, z6, z7], [.int v2, .ref 2], M)) (by decide +kernel) (hO := mm_own_97) rfl ?_
    obtain ⟨hb, h⟩ := mm_gd h
    refine mm_R_iald rfl rfl hb ?_
    refine mm_Runs.seq (l := [(89, .aload_n 0, 1), (90, .getfield 39, 3), (93, .getfield 94, 3), (96, .iload_n 2, 1), (97, .iload 4, 2), (99, .isub, 1)]) (S2 := (100, [some (.ref 16), z1, some (.int v2), some (.int v3), some (.int v4), z5, z6, z7], [.int (v2 - v4), .ref 2, .int (M.1 2 v2.toNatClampNeg)], M)) (by decide +kernel) (hO := mm_own_97) rfl ?_
    obtain ⟨hb, h⟩ := mm_gd h
    refine mm_R_iald rfl rfl hb ?_
    refine mm_R_ine (t := 108) rfl rfl rfl (fun hc => ?_) (fun hc => ?_)
    · replace h := mm_ip hc h
      refine mm_Runs.seq (l := [(104, .iconst 1, 1), (105, .goto 4, 3)]) (S2 := (109, [some (.ref 16), z1, some (.int v2), some (.int v3), some (.int v4), z5, z6, z7], [.int (1 : Int32)], M)) (by decide +kernel) (hO := mm_own_97) rfl ?_
      exact (ms_97_j109 hd h hA : mp_97_109 L xs (d + 1) v2 v3 v4 (1 : Int32) M o) z1 z5 z6 z7
    · replace h := mm_iq hc h
      refine mm_Runs.seq (l := [(108, .iconst 0, 1)]) (S2 := (109, [some (.ref 16), z1, some (.int v2), some (.int v3), some (.int v4), z5, z6, z7], [.int (0 : Int32)], M)) (by decide +kernel) (hO := mm_own_97) rfl ?_
      exact (ms_97_j109 hd h hA : mp_97_109 L xs (d + 1) v2 v3 v4 (0 : Int32) M o) z1 z5 z6 z7
theorem ms_97_L74 {L : Nat} {xs : Nat → Int32} {d : Nat} (hd : 4 ≤ d) {v2 : Int32} {v3 : Int32} {v4 : Int32} {β : Type} {K : β → mm_M → mm_E → Prop} {F : (Unit) → mm_M → mm_O β} {M : mm_M} {q : (β ⊕ Nat) × mm_M} {o : mm_E} (h : mm_B (mf_97_L74 v2 (v3, v4) M) F = some q) (hA : mm_A K q o) (hx : ∀ (r : (Unit)) (M2 : mm_M), F r M2 = some q → (fun r M o => mp_97_214 L xs (d) v2 M o) r M2 o) : mp_97_74 L xs d v2 v3 v4 M o := by
  unfold mf_97_L74 at h
  exact mm_R_loop (step := (fun s M => mf_97_b74 v2 s.1 s.2 M)) (s := (v3, v4)) (M := M) (P := (fun s M o => mp_97_74 L xs (d) v2 s.1 s.2 M o)) (X := (fun r M o => mp_97_214 L xs (d) v2 M o)) h hA (fun s M q hq hA => ms_97_b74 (v2 := v2) (v3 := s.1) (v4 := s.2) (M := M) (q := q) hd hq hA) hx
set_option maxRecDepth 8000 in
set_option maxHeartbeats 4000000 in
theorem ms_97_b38 {L : Nat} {xs : Nat → Int32} {d : Nat} (hd : 4 ≤ d) {v2 : Int32} {M : mm_M} {q : (((Int32) ⊕ (Unit)) ⊕ Nat) × mm_M} {o : mm_E} (h : mf_97_b38 v2 M = some q) (hA : mm_A (mm_K2 (fun s M o => mp_97_38 L xs (d) s M o) (fun r M o => mp_97_220 L xs (d) M o)) q o) : mp_97_38 L xs d v2 M o := by
  unfold mf_97_b38 at h
  obtain ⟨d, rfl⟩ := mm_d1 (n := 3) hd
  intro z1 z3 z4 z5 z6 z7
  show mm_Runs L xs (d + 1) 97 (38, [some (.ref 16), z1, some (.int v2), z3, z4, z5, z6, z7], [], M) o
  refine mm_Runs.seq (l := [(38, .iload_n 2, 1)]) (S2 := (39, [some (.ref 16), z1, some (.int v2), z3, z4, z5, z6, z7], [.int v2], M)) (by decide +kernel) (hO := mm_own_97) rfl ?_
  refine mm_R_zlt (t := 220) rfl rfl rfl (fun hc => ?_) (fun hc => ?_)
  · replace h := mm_ip hc h
    cases h
    exact (show mp_97_220 L xs (d + 1) M o from hA) z1 (some (.int v2)) z3 z4 z5 z6 z7
  · replace h := mm_iq hc h
    refine mm_Runs.seq (l := [(42, .aload_n 0, 1), (43, .getfield 33, 3), (46, .iload_n 2, 1), (47, .aload_n 0, 1), (48, .getfield 39, 3), (51, .getfield 94, 3), (54, .iload_n 2, 1)]) (S2 := (55, [some (.ref 16), z1, some (.int v2), z3, z4, z5, z6, z7], [.int v2, .ref 2, .int v2, .ref 33], M)) (by decide +kernel) (hO := mm_own_97) rfl ?_
    obtain ⟨hb, h⟩ := mm_gd h
    refine mm_R_iald rfl rfl hb ?_
    refine mm_R_call (v := mm_wi) h hA (k2 := 82) (as := [.int (M.1 2 v2.toNatClampNeg)]) (r := [.int v2, .ref 33]) rfl (fun _ => rfl) (fun q hq o ho => ms_82 (by omega) hq ho) (fun r1 M2 h => ?_)
    show mm_Runs L xs (d + 1) 97 (59, [some (.ref 16), z1, some (.int v2), z3, z4, z5, z6, z7], [.int r1, .int v2, .ref 33], M2) o
    refine mm_Runs.seq (l := [(59, .aload_n 0, 1), (60, .getfield 33, 3), (63, .iload_n 2, 1), (64, .iconst 1, 1), (65, .iadd, 1)]) (S2 := (66, [some (.ref 16), z1, some (.int v2), z3, z4, z5, z6, z7], [.int (v2 + (1 : Int32)), .ref 33, .int r1, .int v2, .ref 33], M2)) (by decide +kernel) (hO := mm_own_97) rfl ?_
    obtain ⟨hb, h⟩ := mm_gd h
    refine mm_R_iald rfl rfl hb ?_
    refine mm_Runs.seq (l := [(67, .iadd, 1)]) (S2 := (68, [some (.ref 16), z1, some (.int v2), z3, z4, z5, z6, z7], [.int (r1 + (M2.1 33 (v2 + (1 : Int32)).toNatClampNeg)), .int v2, .ref 33], M2)) (by decide +kernel) (hO := mm_own_97) rfl ?_
    obtain ⟨hb, h⟩ := mm_gd h
    refine mm_R_iast rfl rfl hb ?_
    refine mm_Runs.seq (l := [(69, .iconst 2, 1), (70, .istore_n 3, 1), (71, .iconst 1, 1), (72, .istore 4, 2)]) (S2 := (74, [some (.ref 16), z1, some (.int v2), some (.int (2 : Int32)), some (.int (1 : Int32)), z5, z6, z7], [], (mm_pi M2 33 v2.toNatClampNeg (r1 + (M2.1 33 (v2 + (1 : Int32)).toNatClampNeg))))) (by decide +kernel) (hO := mm_own_97) rfl ?_
    have hp : mp_97_74 L xs (d + 1) v2 (2 : Int32) (1 : Int32) (mm_pi M2 33 v2.toNatClampNeg (r1 + (M2.1 33 (v2 + (1 : Int32)).toNatClampNeg))) o := by
      refine ms_97_L74 hd h hA (fun r4 M3 h => ?_)
      intro y5 y6 y7 y8 y9 y10
      show mm_Runs L xs (d + 1) 97 (214, [some (.ref 16), y5, some (.int v2), y6, y7, y8, y9, y10], [], M3) o
      refine mm_Runs.seq (l := [(214, .iinc 2 (-1), 3), (217, .goto (-179), 3)]) (S2 := (38, [some (.ref 16), (mm_no2 y5), some (.int (v2 + (-1 : Int32))), y6, y7, y8, y9, y10], [], M3)) (by decide +kernel) (hO := mm_own_97) rfl ?_
      cases h
      exact (show mp_97_38 L xs (d + 1) (v2 + (-1 : Int32)) M3 o from hA) ((mm_no2 y5)) y6 y7 y8 y9 y10
    exact hp z1 z5 z6 z7
theorem ms_97_L38 {L : Nat} {xs : Nat → Int32} {d : Nat} (hd : 4 ≤ d) {v2 : Int32} {β : Type} {K : β → mm_M → mm_E → Prop} {F : (Unit) → mm_M → mm_O β} {M : mm_M} {q : (β ⊕ Nat) × mm_M} {o : mm_E} (h : mm_B (mf_97_L38 v2 M) F = some q) (hA : mm_A K q o) (hx : ∀ (r : (Unit)) (M2 : mm_M), F r M2 = some q → (fun r M o => mp_97_220 L xs (d) M o) r M2 o) : mp_97_38 L xs d v2 M o := by
  unfold mf_97_L38 at h
  exact mm_R_loop (step := (fun s M => mf_97_b38 s M)) (s := v2) (M := M) (P := (fun s M o => mp_97_38 L xs (d) s M o)) (X := (fun r M o => mp_97_220 L xs (d) M o)) h hA (fun s M q hq hA => ms_97_b38 (v2 := s) (M := M) (q := q) hd hq hA) hx
set_option maxRecDepth 8000 in
set_option maxHeartbeats 4000000 in
theorem ms_97_j220 {L : Nat} {xs : Nat → Int32} {d : Nat} (hd : 4 ≤ d) {M : mm_M} {q : (Int32 ⊕ Nat) × mm_M} {o : mm_E} (h : mf_97_j220 M = some q) (hA : mm_A (mm_Kr mm_wi) q o) : mp_97_220 L xs d M o := by
  unfold mf_97_j220 at h
  obtain ⟨d, rfl⟩ := mm_d1 (n := 3) hd
  intro z1 z2 z3 z4 z5 z6 z7
  show mm_Runs L xs (d + 1) 97 (220, [some (.ref 16), z1, z2, z3, z4, z5, z6, z7], [], M) o
  refine mm_Runs.seq (l := [(220, .iconst 3, 1), (221, .aload_n 0, 1), (222, .getfield 33, 3), (225, .iconst 0, 1)]) (S2 := (226, [some (.ref 16), z1, z2, z3, z4, z5, z6, z7], [.int (0 : Int32), .ref 33, .int (3 : Int32)], M)) (by decide +kernel) (hO := mm_own_97) rfl ?_
  obtain ⟨hb, h⟩ := mm_gd h
  refine mm_R_iald rfl rfl hb ?_
  refine mm_Runs.seq (l := [(227, .iadd, 1)]) (S2 := (228, [some (.ref 16), z1, z2, z3, z4, z5, z6, z7], [.int ((3 : Int32) + (M.1 33 (0 : Int32).toNatClampNeg))], M)) (by decide +kernel) (hO := mm_own_97) rfl ?_
  cases h
  exact mm_R_reti rfl rfl hA
set_option maxRecDepth 8000 in
set_option maxHeartbeats 4000000 in
theorem ms_97 {L : Nat} {xs : Nat → Int32} {d : Nat} (hd : 4 ≤ d) {M : mm_M} {q : (Int32 ⊕ Nat) × mm_M} {o : mm_E} (h : mf_97 M = some q) (hA : mm_A (mm_Kr mm_wi) q o) : mm_Runs L xs d 97 (0, mm_ent (mm_ml 97) [.ref 16], [], M) o := by
  unfold mf_97 at h
  obtain ⟨d, rfl⟩ := mm_d1 (n := 3) hd
  show mm_Runs L xs (d + 1) 97 (0, [some (.ref 16), none, none, none, none, none, none, none], [], M) o
  refine mm_Runs.seq (l := [(0, .aload_n 0, 1), (1, .getfield 39, 3), (4, .getfield 191, 3), (7, .sipush 300, 3)]) (S2 := (10, [some (.ref 16), none, none, none, none, none, none, none], [.int (300 : Int32), .int (M.1 1 1)], M)) (by decide +kernel) (hO := mm_own_97) rfl ?_
  refine mm_R_intr (st2 := [.int (mm_min (M.1 1 1) (300 : Int32))]) (M2 := M) rfl rfl (by omega) ?_
  refine mm_Runs.seq (l := [(13, .istore_n 1, 1), (14, .aload_n 0, 1), (15, .getfield 36, 3), (18, .iconst 0, 1)]) (S2 := (19, [some (.ref 16), some (.int (mm_min (M.1 1 1) (300 : Int32))), none, none, none, none, none, none], [.int (0 : Int32), .ref 34], M)) (by decide +kernel) (hO := mm_own_97) rfl ?_
  refine mm_R_call (v := mm_wv) h hA (k2 := 290) (as := [.ref 34, .int (0 : Int32)]) (r := []) rfl (fun _ => rfl) (fun q hq o ho => ms_290 rfl (by omega) hq ho) (fun _ M1 h => ?_)
  show mm_Runs L xs (d + 1) 97 (22, [some (.ref 16), some (.int (mm_min (M.1 1 1) (300 : Int32))), none, none, none, none, none, none], [], M1) o
  refine mm_Runs.seq (l := [(22, .aload_n 0, 1), (23, .getfield 33, 3), (26, .iload_n 1, 1), (27, .sipush 256, 3)]) (S2 := (30, [some (.ref 16), some (.int (mm_min (M.1 1 1) (300 : Int32))), none, none, none, none, none, none], [.int (256 : Int32), .int (mm_min (M.1 1 1) (300 : Int32)), .ref 33], M1)) (by decide +kernel) (hO := mm_own_97) rfl ?_
  refine mm_R_call (v := mm_wi) h hA (k2 := 82) (as := [.int (256 : Int32)]) (r := [.int (mm_min (M.1 1 1) (300 : Int32)), .ref 33]) rfl (fun _ => rfl) (fun q hq o ho => ms_82 (by omega) hq ho) (fun r2 M3 h => ?_)
  show mm_Runs L xs (d + 1) 97 (33, [some (.ref 16), some (.int (mm_min (M.1 1 1) (300 : Int32))), none, none, none, none, none, none], [.int r2, .int (mm_min (M.1 1 1) (300 : Int32)), .ref 33], M3) o
  obtain ⟨hb, h⟩ := mm_gd h
  refine mm_R_iast rfl rfl hb ?_
  refine mm_Runs.seq (l := [(34, .iload_n 1, 1), (35, .iconst 1, 1), (36, .isub, 1), (37, .istore_n 2, 1)]) (S2 := (38, [some (.ref 16), some (.int (mm_min (M.1 1 1) (300 : Int32))), some (.int ((mm_min (M.1 1 1) (300 : Int32)) - (1 : Int32))), none, none, none, none, none], [], (mm_pi M3 33 (mm_min (M.1 1 1) (300 : Int32)).toNatClampNeg r2))) (by decide +kernel) (hO := mm_own_97) rfl ?_
  have hp : mp_97_38 L xs (d + 1) ((mm_min (M.1 1 1) (300 : Int32)) - (1 : Int32)) (mm_pi M3 33 (mm_min (M.1 1 1) (300 : Int32)).toNatClampNeg r2) o := by
    refine ms_97_L38 hd h hA (fun r5 M4 h => ?_)
    intro y6 y7 y8 y9 y10 y11 y12
    show mm_Runs L xs (d + 1) 97 (220, [some (.ref 16), y6, y7, y8, y9, y10, y11, y12], [], M4) o
    exact (ms_97_j220 hd h hA : mp_97_220 L xs (d + 1) M4 o) y6 y7 y8 y9 y10 y11 y12
  exact hp (some (.int (mm_min (M.1 1 1) (300 : Int32)))) none none none none none
-- 22: PlainPacks.least()I (depth 5)
theorem mm_own_22 : mm_own 22 = 0 := rfl
set_option maxRecDepth 8000 in
set_option maxHeartbeats 4000000 in
theorem ms_22 {L : Nat} {xs : Nat → Int32} {d : Nat} (hd : 5 ≤ d) {M : mm_M} {q : (Int32 ⊕ Nat) × mm_M} {o : mm_E} (h : mf_22 M = some q) (hA : mm_A (mm_Kr mm_wi) q o) : mm_Runs L xs d 22 (0, mm_ent (mm_ml 22) [.ref 0], [], M) o := by
  unfold mf_22 at h
  obtain ⟨d, rfl⟩ := mm_d1 (n := 4) hd
  show mm_Runs L xs (d + 1) 22 (0, [some (.ref 0)], [], M) o
  refine mm_Runs.seq (l := [(0, .aload_n 0, 1), (1, .getfield 12, 3), (4, .getfield 90, 3), (7, .sipush 300, 3)]) (S2 := (10, [some (.ref 0)], [.int (300 : Int32), .int (M.1 1 1)], M)) (by decide +kernel) (hO := mm_own_22) rfl ?_
  refine mm_R_ile (t := 15) rfl rfl rfl (fun hc => ?_) (fun hc => ?_)
  · replace h := mm_ip hc h
    refine mm_Runs.seq (l := [(13, .iconst (-1), 1)]) (S2 := (14, [some (.ref 0)], [.int (-1 : Int32)], M)) (by decide +kernel) (hO := mm_own_22) rfl ?_
    cases h
    exact mm_R_reti rfl rfl hA
  · replace h := mm_iq hc h
    refine mm_Runs.seq (l := [(15, .aload_n 0, 1), (16, .getfield 47, 3)]) (S2 := (19, [some (.ref 0)], [.ref 16], M)) (by decide +kernel) (hO := mm_own_22) rfl ?_
    refine mm_R_call (v := mm_wi) h hA (k2 := 97) (as := [.ref 16]) (r := []) rfl (fun _ => rfl) (fun q hq o ho => ms_97 (by omega) hq ho) (fun r1 M2 h => ?_)
    show mm_Runs L xs (d + 1) 22 (22, [some (.ref 0)], [.int r1], M2) o
    cases h
    exact mm_R_reti rfl rfl hA
-- 286: PlainPacksModel.lettersBits(I)I (depth 0)
theorem mm_own_286 : mm_own 286 = 12 := rfl
set_option maxRecDepth 8000 in
set_option maxHeartbeats 4000000 in
theorem ms_286 {L : Nat} {xs : Nat → Int32} {d : Nat} (hd : 0 ≤ d) {v0 : Int32} {M : mm_M} {q : (Int32 ⊕ Nat) × mm_M} {o : mm_E} (h : mf_286 v0 M = some q) (hA : mm_A (mm_Kr mm_wi) q o) : mm_Runs L xs d 286 (0, mm_ent (mm_ml 286) [.int v0], [], M) o := by
  unfold mf_286 at h
  show mm_Runs L xs (d) 286 (0, [some (.int v0)], [], M) o
  refine mm_Runs.seq (l := [(0, .iload_n 0, 1), (1, .sipush 144, 3)]) (S2 := (4, [some (.int v0)], [.int (144 : Int32), .int v0], M)) (by decide +kernel) (hO := mm_own_286) rfl ?_
  refine mm_R_ige (t := 12) rfl rfl rfl (fun hc => ?_) (fun hc => ?_)
  · replace h := mm_ip hc h
    refine mm_Runs.seq (l := [(7, .bipush 8, 2), (9, .goto 29, 3)]) (S2 := (38, [some (.int v0)], [.int (8 : Int32)], M)) (by decide +kernel) (hO := mm_own_286) rfl ?_
    cases h
    exact mm_R_reti rfl rfl hA
  · replace h := mm_iq hc h
    refine mm_Runs.seq (l := [(12, .iload_n 0, 1), (13, .sipush 256, 3)]) (S2 := (16, [some (.int v0)], [.int (256 : Int32), .int v0], M)) (by decide +kernel) (hO := mm_own_286) rfl ?_
    refine mm_R_ige (t := 24) rfl rfl rfl (fun hc => ?_) (fun hc => ?_)
    · replace h := mm_ip hc h
      refine mm_Runs.seq (l := [(19, .bipush 9, 2), (21, .goto 17, 3)]) (S2 := (38, [some (.int v0)], [.int (9 : Int32)], M)) (by decide +kernel) (hO := mm_own_286) rfl ?_
      cases h
      exact mm_R_reti rfl rfl hA
    · replace h := mm_iq hc h
      refine mm_Runs.seq (l := [(24, .iload_n 0, 1), (25, .sipush 280, 3)]) (S2 := (28, [some (.int v0)], [.int (280 : Int32), .int v0], M)) (by decide +kernel) (hO := mm_own_286) rfl ?_
      refine mm_R_ige (t := 36) rfl rfl rfl (fun hc => ?_) (fun hc => ?_)
      · replace h := mm_ip hc h
        refine mm_Runs.seq (l := [(31, .bipush 7, 2), (33, .goto 5, 3)]) (S2 := (38, [some (.int v0)], [.int (7 : Int32)], M)) (by decide +kernel) (hO := mm_own_286) rfl ?_
        cases h
        exact mm_R_reti rfl rfl hA
      · replace h := mm_iq hc h
        refine mm_Runs.seq (l := [(36, .bipush 8, 2)]) (S2 := (38, [some (.int v0)], [.int (8 : Int32)], M)) (by decide +kernel) (hO := mm_own_286) rfl ?_
        cases h
        exact mm_R_reti rfl rfl hA
-- 287: PlainPacksModel.least()I (depth 2)
theorem mm_own_287 : mm_own 287 = 12 := rfl
def mp_287_35 (L : Nat) (xs : Nat → Int32) (d : Nat) (v1 : Int32) (M : mm_M) (o : mm_E) : Prop := ∀ z2 z3 z4 z5 z6 z7 : Option Value, mm_Runs L xs d 287 (35, [some (.ref 84), some (.int v1), z2, z3, z4, z5, z6, z7], [], M) o
def mp_287_198 (L : Nat) (xs : Nat → Int32) (d : Nat) (M : mm_M) (o : mm_E) : Prop := ∀ z1 z2 z3 z4 z5 z6 z7 : Option Value, mm_Runs L xs d 287 (198, [some (.ref 84), z1, z2, z3, z4, z5, z6, z7], [], M) o
def mp_287_60 (L : Nat) (xs : Nat → Int32) (d : Nat) (v1 : Int32) (v2 : Int32) (v3 : Int32) (M : mm_M) (o : mm_E) : Prop := ∀ z4 z5 z6 z7 : Option Value, mm_Runs L xs d 287 (60, [some (.ref 84), some (.int v1), some (.int v2), some (.int v3), z4, z5, z6, z7], [], M) o
def mp_287_185 (L : Nat) (xs : Nat → Int32) (d : Nat) (v1 : Int32) (v2 : Int32) (M : mm_M) (o : mm_E) : Prop := ∀ z3 z4 z5 z6 z7 : Option Value, mm_Runs L xs d 287 (185, [some (.ref 84), some (.int v1), some (.int v2), z3, z4, z5, z6, z7], [], M) o
def mp_287_79 (L : Nat) (xs : Nat → Int32) (d : Nat) (v1 : Int32) (v2 : Int32) (v3 : Int32) (v4 : Int32) (v5 : Int32) (M : mm_M) (o : mm_E) : Prop := ∀ z6 z7 : Option Value, mm_Runs L xs d 287 (79, [some (.ref 84), some (.int v1), some (.int v2), some (.int v3), some (.int v4), some (.int v5), z6, z7], [], M) o
def mp_287_179 (L : Nat) (xs : Nat → Int32) (d : Nat) (v1 : Int32) (v2 : Int32) (v3 : Int32) (M : mm_M) (o : mm_E) : Prop := ∀ z4 z5 z6 z7 : Option Value, mm_Runs L xs d 287 (179, [some (.ref 84), some (.int v1), some (.int v2), some (.int v3), z4, z5, z6, z7], [], M) o
set_option maxRecDepth 8000 in
set_option maxHeartbeats 4000000 in
theorem ms_287_b79 {L : Nat} {xs : Nat → Int32} {d : Nat} (hd : 2 ≤ d) {v1 : Int32} {v2 : Int32} {v3 : Int32} {v4 : Int32} {v5 : Int32} {M : mm_M} {q : (((Int32 × Int32) ⊕ (Int32)) ⊕ Nat) × mm_M} {o : mm_E} (h : mf_287_b79 v1 v2 v3 v4 v5 M = some q) (hA : mm_A (mm_K2 (fun s M o => mp_287_79 L xs (d) v1 s.1 v3 v4 s.2 M o) (fun r M o => mp_287_179 L xs (d) v1 r v3 M o)) q o) : mp_287_79 L xs d v1 v2 v3 v4 v5 M o := by
  unfold mf_287_b79 at h
  obtain ⟨d, rfl⟩ := mm_d1 (n := 1) hd
  intro z6 z7
  show mm_Runs L xs (d + 1) 287 (79, [some (.ref 84), some (.int v1), some (.int v2), some (.int v3), some (.int v4), some (.int v5), z6, z7], [], M) o
  refine mm_Runs.seq (l := [(79, .iload_n 1, 1), (80, .iload 5, 2), (82, .iadd, 1), (83, .aload_n 0, 1), (84, .getfield 91, 3)]) (S2 := (87, [some (.ref 84), some (.int v1), some (.int v2), some (.int v3), some (.int v4), some (.int v5), z6, z7], [.int (M.1 84 2), .int (v1 + v5)], M)) (by decide +kernel) (hO := mm_own_287) rfl ?_
  refine mm_R_ige (t := 179) rfl rfl rfl (fun hc => ?_) (fun hc => ?_)
  · replace h := mm_ip hc h
    refine mm_Runs.seq (l := [(90, .iload 5, 2), (92, .sipush 258, 3)]) (S2 := (95, [some (.ref 84), some (.int v1), some (.int v2), some (.int v3), some (.int v4), some (.int v5), z6, z7], [.int (258 : Int32), .int v5], M)) (by decide +kernel) (hO := mm_own_287) rfl ?_
    refine mm_R_ige (t := 179) rfl rfl rfl (fun hc => ?_) (fun hc => ?_)
    · replace h := mm_ip hc h
      refine mm_Runs.seq (l := [(98, .aload_n 0, 1), (99, .getfield 7, 3), (102, .iload_n 1, 1), (103, .iload 5, 2), (105, .iadd, 1)]) (S2 := (106, [some (.ref 84), some (.int v1), some (.int v2), some (.int v3), some (.int v4), some (.int v5), z6, z7], [.int (v1 + v5), .ref 85], M)) (by decide +kernel) (hO := mm_own_287) rfl ?_
      obtain ⟨hb, h⟩ := mm_gd h
      refine mm_R_iald rfl rfl hb ?_
      refine mm_Runs.seq (l := [(107, .aload_n 0, 1), (108, .getfield 7, 3), (111, .iload_n 1, 1), (112, .iload 5, 2), (114, .iadd, 1), (115, .iload_n 3, 1), (116, .isub, 1)]) (S2 := (117, [some (.ref 84), some (.int v1), some (.int v2), some (.int v3), some (.int v4), some (.int v5), z6, z7], [.int ((v1 + v5) - v3), .ref 85, .int (M.1 85 (v1 + v5).toNatClampNeg)], M)) (by decide +kernel) (hO := mm_own_287) rfl ?_
      obtain ⟨hb, h⟩ := mm_gd h
      refine mm_R_iald rfl rfl hb ?_
      refine mm_R_ine (t := 179) rfl rfl rfl (fun hc => ?_) (fun hc => ?_)
      · replace h := mm_ip hc h
        refine mm_Runs.seq (l := [(121, .iinc 5 1, 3), (124, .iload 5, 2), (126, .iconst 3, 1)]) (S2 := (127, [some (.ref 84), some (.int v1), some (.int v2), some (.int v3), some (.int v4), some (.int (v5 + (1 : Int32))), z6, z7], [.int (3 : Int32), .int (v5 + (1 : Int32))], M)) (by decide +kernel) (hO := mm_own_287) rfl ?_
        refine mm_R_ilt (t := 79) rfl rfl rfl (fun hc => ?_) (fun hc => ?_)
        · replace h := mm_ip hc h
          cases h
          exact (show mp_287_79 L xs (d + 1) v1 v2 v3 v4 (v5 + (1 : Int32)) M o from hA) z6 z7
        · replace h := mm_iq hc h
          refine mm_Runs.seq (l := [(130, .iload 5, 2)]) (S2 := (132, [some (.ref 84), some (.int v1), some (.int v2), some (.int v3), some (.int v4), some (.int (v5 + (1 : Int32))), z6, z7], [.int (v5 + (1 : Int32))], M)) (by decide +kernel) (hO := mm_own_287) rfl ?_
          refine mm_R_call (v := mm_wi) h hA (k2 := 254) (as := [.int (v5 + (1 : Int32))]) (r := []) rfl (fun _ => rfl) (fun q hq o ho => ms_254 (by omega) hq ho) (fun r1 M2 h => ?_)
          show mm_Runs L xs (d + 1) 287 (135, [some (.ref 84), some (.int v1), some (.int v2), some (.int v3), some (.int v4), some (.int (v5 + (1 : Int32))), z6, z7], [.int r1], M2) o
          refine mm_Runs.seq (l := [(135, .istore 6, 2), (137, .iload 6, 2)]) (S2 := (139, [some (.ref 84), some (.int v1), some (.int v2), some (.int v3), some (.int v4), some (.int (v5 + (1 : Int32))), some (.int r1), z7], [.int r1], M2)) (by decide +kernel) (hO := mm_own_287) rfl ?_
          refine mm_R_call (v := mm_wi) h hA (k2 := 286) (as := [.int r1]) (r := []) rfl (fun _ => rfl) (fun q hq o ho => ms_286 (by omega) hq ho) (fun r3 M4 h => ?_)
          show mm_Runs L xs (d + 1) 287 (142, [some (.ref 84), some (.int v1), some (.int v2), some (.int v3), some (.int v4), some (.int (v5 + (1 : Int32))), some (.int r1), z7], [.int r3], M4) o
          refine mm_Runs.seq (l := [(142, .iload 6, 2)]) (S2 := (144, [some (.ref 84), some (.int v1), some (.int v2), some (.int v3), some (.int v4), some (.int (v5 + (1 : Int32))), some (.int r1), z7], [.int r1, .int r3], M4)) (by decide +kernel) (hO := mm_own_287) rfl ?_
          refine mm_R_call (v := mm_wi) h hA (k2 := 258) (as := [.int r1]) (r := [.int r3]) rfl (fun _ => rfl) (fun q hq o ho => ms_258 (by omega) hq ho) (fun r5 M6 h => ?_)
          show mm_Runs L xs (d + 1) 287 (147, [some (.ref 84), some (.int v1), some (.int v2), some (.int v3), some (.int v4), some (.int (v5 + (1 : Int32))), some (.int r1), z7], [.int r5, .int r3], M6) o
          refine mm_Runs.seq (l := [(147, .iadd, 1), (148, .iload 4, 2), (150, .iadd, 1), (151, .aload_n 0, 1), (152, .getfield 78, 3), (155, .iload_n 1, 1), (156, .iload 5, 2), (158, .iadd, 1)]) (S2 := (159, [some (.ref 84), some (.int v1), some (.int v2), some (.int v3), some (.int v4), some (.int (v5 + (1 : Int32))), some (.int r1), z7], [.int (v1 + (v5 + (1 : Int32))), .ref 107, .int ((r3 + r5) + v4)], M6)) (by decide +kernel) (hO := mm_own_287) rfl ?_
          obtain ⟨hb, h⟩ := mm_gd h
          refine mm_R_iald rfl rfl hb ?_
          refine mm_Runs.seq (l := [(160, .iadd, 1), (161, .istore 7, 2), (163, .iload 7, 2), (165, .iload_n 2, 1)]) (S2 := (166, [some (.ref 84), some (.int v1), some (.int v2), some (.int v3), some (.int v4), some (.int (v5 + (1 : Int32))), some (.int r1), some (.int (((r3 + r5) + v4) + (M6.1 107 (v1 + (v5 + (1 : Int32))).toNatClampNeg)))], [.int v2, .int (((r3 + r5) + v4) + (M6.1 107 (v1 + (v5 + (1 : Int32))).toNatClampNeg))], M6)) (by decide +kernel) (hO := mm_own_287) rfl ?_
          refine mm_R_ige (t := 174) rfl rfl rfl (fun hc => ?_) (fun hc => ?_)
          · replace h := mm_ip hc h
            refine mm_Runs.seq (l := [(169, .iload 7, 2), (171, .goto 4, 3), (175, .istore_n 2, 1), (176, .goto (-97), 3)]) (S2 := (79, [some (.ref 84), some (.int v1), some (.int (((r3 + r5) + v4) + (M6.1 107 (v1 + (v5 + (1 : Int32))).toNatClampNeg))), some (.int v3), some (.int v4), some (.int (v5 + (1 : Int32))), some (.int r1), some (.int (((r3 + r5) + v4) + (M6.1 107 (v1 + (v5 + (1 : Int32))).toNatClampNeg)))], [], M6)) (by decide +kernel) (hO := mm_own_287) rfl ?_
            cases h
            exact (show mp_287_79 L xs (d + 1) v1 (((r3 + r5) + v4) + (M6.1 107 (v1 + (v5 + (1 : Int32))).toNatClampNeg)) v3 v4 (v5 + (1 : Int32)) M6 o from hA) (some (.int r1)) (some (.int (((r3 + r5) + v4) + (M6.1 107 (v1 + (v5 + (1 : Int32))).toNatClampNeg))))
          · replace h := mm_iq hc h
            refine mm_Runs.seq (l := [(174, .iload_n 2, 1), (175, .istore_n 2, 1), (176, .goto (-97), 3)]) (S2 := (79, [some (.ref 84), some (.int v1), some (.int v2), some (.int v3), some (.int v4), some (.int (v5 + (1 : Int32))), some (.int r1), some (.int (((r3 + r5) + v4) + (M6.1 107 (v1 + (v5 + (1 : Int32))).toNatClampNeg)))], [], M6)) (by decide +kernel) (hO := mm_own_287) rfl ?_
            cases h
            exact (show mp_287_79 L xs (d + 1) v1 v2 v3 v4 (v5 + (1 : Int32)) M6 o from hA) (some (.int r1)) (some (.int (((r3 + r5) + v4) + (M6.1 107 (v1 + (v5 + (1 : Int32))).toNatClampNeg))))
      · replace h := mm_iq hc h
        cases h
        exact (show mp_287_179 L xs (d + 1) v1 v2 v3 M o from hA) (some (.int v4)) (some (.int v5)) z6 z7
    · replace h := mm_iq hc h
      cases h
      exact (show mp_287_179 L xs (d + 1) v1 v2 v3 M o from hA) (some (.int v4)) (some (.int v5)) z6 z7
  · replace h := mm_iq hc h
    cases h
    exact (show mp_287_179 L xs (d + 1) v1 v2 v3 M o from hA) (some (.int v4)) (some (.int v5)) z6 z7
theorem ms_287_L79 {L : Nat} {xs : Nat → Int32} {d : Nat} (hd : 2 ≤ d) {v1 : Int32} {v2 : Int32} {v3 : Int32} {v4 : Int32} {v5 : Int32} {β : Type} {K : β → mm_M → mm_E → Prop} {F : (Int32) → mm_M → mm_O β} {M : mm_M} {q : (β ⊕ Nat) × mm_M} {o : mm_E} (h : mm_B (mf_287_L79 v1 v3 v4 (v2, v5) M) F = some q) (hA : mm_A K q o) (hx : ∀ (r : (Int32)) (M2 : mm_M), F r M2 = some q → (fun r M o => mp_287_179 L xs (d) v1 r v3 M o) r M2 o) : mp_287_79 L xs d v1 v2 v3 v4 v5 M o := by
  unfold mf_287_L79 at h
  exact mm_R_loop (step := (fun s M => mf_287_b79 v1 s.1 v3 v4 s.2 M)) (s := (v2, v5)) (M := M) (P := (fun s M o => mp_287_79 L xs (d) v1 s.1 v3 v4 s.2 M o)) (X := (fun r M o => mp_287_179 L xs (d) v1 r v3 M o)) h hA (fun s M q hq hA => ms_287_b79 (v1 := v1) (v2 := s.1) (v3 := v3) (v4 := v4) (v5 := s.2) (M := M) (q := q) hd hq hA) hx
set_option maxRecDepth 8000 in
set_option maxHeartbeats 4000000 in
theorem ms_287_b60 {L : Nat} {xs : Nat → Int32} {d : Nat} (hd : 2 ≤ d) {v1 : Int32} {v2 : Int32} {v3 : Int32} {M : mm_M} {q : (((Int32 × Int32) ⊕ (Int32)) ⊕ Nat) × mm_M} {o : mm_E} (h : mf_287_b60 v1 v2 v3 M = some q) (hA : mm_A (mm_K2 (fun s M o => mp_287_60 L xs (d) v1 s.1 s.2 M o) (fun r M o => mp_287_185 L xs (d) v1 r M o)) q o) : mp_287_60 L xs d v1 v2 v3 M o := by
  unfold mf_287_b60 at h
  obtain ⟨d, rfl⟩ := mm_d1 (n := 1) hd
  intro z4 z5 z6 z7
  show mm_Runs L xs (d + 1) 287 (60, [some (.ref 84), some (.int v1), some (.int v2), some (.int v3), z4, z5, z6, z7], [], M) o
  refine mm_Runs.seq (l := [(60, .iload_n 3, 1), (61, .iload_n 1, 1)]) (S2 := (62, [some (.ref 84), some (.int v1), some (.int v2), some (.int v3), z4, z5, z6, z7], [.int v1, .int v3], M)) (by decide +kernel) (hO := mm_own_287) rfl ?_
  refine mm_R_igt (t := 185) rfl rfl rfl (fun hc => ?_) (fun hc => ?_)
  · replace h := mm_ip hc h
    cases h
    exact (show mp_287_185 L xs (d + 1) v1 v2 M o from hA) (some (.int v3)) z4 z5 z6 z7
  · replace h := mm_iq hc h
    refine mm_Runs.seq (l := [(65, .iconst 5, 1), (66, .iload_n 3, 1)]) (S2 := (67, [some (.ref 84), some (.int v1), some (.int v2), some (.int v3), z4, z5, z6, z7], [.int v3, .int (5 : Int32)], M)) (by decide +kernel) (hO := mm_own_287) rfl ?_
    refine mm_R_call (v := mm_wi) h hA (k2 := 257) (as := [.int v3]) (r := [.int (5 : Int32)]) rfl (fun _ => rfl) (fun q hq o ho => ms_257 (by omega) hq ho) (fun r1 M2 h => ?_)
    show mm_Runs L xs (d + 1) 287 (70, [some (.ref 84), some (.int v1), some (.int v2), some (.int v3), z4, z5, z6, z7], [.int r1, .int (5 : Int32)], M2) o
    refine mm_R_call (v := mm_wi) h hA (k2 := 259) (as := [.int r1]) (r := [.int (5 : Int32)]) rfl (fun _ => rfl) (fun q hq o ho => ms_259 (by omega) hq ho) (fun r3 M4 h => ?_)
    show mm_Runs L xs (d + 1) 287 (73, [some (.ref 84), some (.int v1), some (.int v2), some (.int v3), z4, z5, z6, z7], [.int r3, .int (5 : Int32)], M4) o
    refine mm_Runs.seq (l := [(73, .iadd, 1), (74, .istore 4, 2), (76, .iconst 0, 1), (77, .istore 5, 2)]) (S2 := (79, [some (.ref 84), some (.int v1), some (.int v2), some (.int v3), some (.int ((5 : Int32) + r3)), some (.int (0 : Int32)), z6, z7], [], M4)) (by decide +kernel) (hO := mm_own_287) rfl ?_
    have hp : mp_287_79 L xs (d + 1) v1 v2 v3 ((5 : Int32) + r3) (0 : Int32) M4 o := by
      refine ms_287_L79 hd h hA (fun r6 M5 h => ?_)
      intro y7 y8 y9 y10
      show mm_Runs L xs (d + 1) 287 (179, [some (.ref 84), some (.int v1), some (.int r6), some (.int v3), y7, y8, y9, y10], [], M5) o
      refine mm_Runs.seq (l := [(179, .iinc 3 1, 3), (182, .goto (-122), 3)]) (S2 := (60, [some (.ref 84), some (.int v1), some (.int r6), some (.int (v3 + (1 : Int32))), y7, y8, y9, y10], [], M5)) (by decide +kernel) (hO := mm_own_287) rfl ?_
      cases h
      exact (show mp_287_60 L xs (d + 1) v1 r6 (v3 + (1 : Int32)) M5 o from hA) y7 y8 y9 y10
    exact hp z6 z7
theorem ms_287_L60 {L : Nat} {xs : Nat → Int32} {d : Nat} (hd : 2 ≤ d) {v1 : Int32} {v2 : Int32} {v3 : Int32} {β : Type} {K : β → mm_M → mm_E → Prop} {F : (Int32) → mm_M → mm_O β} {M : mm_M} {q : (β ⊕ Nat) × mm_M} {o : mm_E} (h : mm_B (mf_287_L60 v1 (v2, v3) M) F = some q) (hA : mm_A K q o) (hx : ∀ (r : (Int32)) (M2 : mm_M), F r M2 = some q → (fun r M o => mp_287_185 L xs (d) v1 r M o) r M2 o) : mp_287_60 L xs d v1 v2 v3 M o := by
  unfold mf_287_L60 at h
  exact mm_R_loop (step := (fun s M => mf_287_b60 v1 s.1 s.2 M)) (s := (v2, v3)) (M := M) (P := (fun s M o => mp_287_60 L xs (d) v1 s.1 s.2 M o)) (X := (fun r M o => mp_287_185 L xs (d) v1 r M o)) h hA (fun s M q hq hA => ms_287_b60 (v1 := v1) (v2 := s.1) (v3 := s.2) (M := M) (q := q) hd hq hA) hx
set_option maxRecDepth 8000 in
set_option maxHeartbeats 4000000 in
theorem ms_287_j185 {L : Nat} {xs : Nat → Int32} {d : Nat} (hd : 2 ≤ d) {v1 : Int32} {v2 : Int32} {M : mm_M} {q : (((Int32) ⊕ (Unit)) ⊕ Nat) × mm_M} {o : mm_E} (h : mf_287_j185 v1 v2 M = some q) (hA : mm_A (mm_K2 (fun s M o => mp_287_35 L xs (d) s M o) (fun r M o => mp_287_198 L xs (d) M o)) q o) : mp_287_185 L xs d v1 v2 M o := by
  unfold mf_287_j185 at h
  obtain ⟨d, rfl⟩ := mm_d1 (n := 1) hd
  intro z3 z4 z5 z6 z7
  show mm_Runs L xs (d + 1) 287 (185, [some (.ref 84), some (.int v1), some (.int v2), z3, z4, z5, z6, z7], [], M) o
  refine mm_Runs.seq (l := [(185, .aload_n 0, 1), (186, .getfield 78, 3), (189, .iload_n 1, 1), (190, .iload_n 2, 1)]) (S2 := (191, [some (.ref 84), some (.int v1), some (.int v2), z3, z4, z5, z6, z7], [.int v2, .int v1, .ref 107], M)) (by decide +kernel) (hO := mm_own_287) rfl ?_
  obtain ⟨hb, h⟩ := mm_gd h
  refine mm_R_iast rfl rfl hb ?_
  refine mm_Runs.seq (l := [(192, .iinc 1 (-1), 3), (195, .goto (-160), 3)]) (S2 := (35, [some (.ref 84), some (.int (v1 + (-1 : Int32))), some (.int v2), z3, z4, z5, z6, z7], [], (mm_pi M 107 v1.toNatClampNeg v2))) (by decide +kernel) (hO := mm_own_287) rfl ?_
  cases h
  exact (show mp_287_35 L xs (d + 1) (v1 + (-1 : Int32)) (mm_pi M 107 v1.toNatClampNeg v2) o from hA) (some (.int v2)) z3 z4 z5 z6 z7
set_option maxRecDepth 8000 in
set_option maxHeartbeats 4000000 in
theorem ms_287_b35 {L : Nat} {xs : Nat → Int32} {d : Nat} (hd : 2 ≤ d) {v1 : Int32} {M : mm_M} {q : (((Int32) ⊕ (Unit)) ⊕ Nat) × mm_M} {o : mm_E} (h : mf_287_b35 v1 M = some q) (hA : mm_A (mm_K2 (fun s M o => mp_287_35 L xs (d) s M o) (fun r M o => mp_287_198 L xs (d) M o)) q o) : mp_287_35 L xs d v1 M o := by
  unfold mf_287_b35 at h
  obtain ⟨d, rfl⟩ := mm_d1 (n := 1) hd
  intro z2 z3 z4 z5 z6 z7
  show mm_Runs L xs (d + 1) 287 (35, [some (.ref 84), some (.int v1), z2, z3, z4, z5, z6, z7], [], M) o
  refine mm_Runs.seq (l := [(35, .iload_n 1, 1)]) (S2 := (36, [some (.ref 84), some (.int v1), z2, z3, z4, z5, z6, z7], [.int v1], M)) (by decide +kernel) (hO := mm_own_287) rfl ?_
  refine mm_R_zlt (t := 198) rfl rfl rfl (fun hc => ?_) (fun hc => ?_)
  · replace h := mm_ip hc h
    cases h
    exact (show mp_287_198 L xs (d + 1) M o from hA) (some (.int v1)) z2 z3 z4 z5 z6 z7
  · replace h := mm_iq hc h
    refine mm_Runs.seq (l := [(39, .aload_n 0, 1), (40, .getfield 7, 3), (43, .iload_n 1, 1)]) (S2 := (44, [some (.ref 84), some (.int v1), z2, z3, z4, z5, z6, z7], [.int v1, .ref 85], M)) (by decide +kernel) (hO := mm_own_287) rfl ?_
    obtain ⟨hb, h⟩ := mm_gd h
    refine mm_R_iald rfl rfl hb ?_
    refine mm_R_call (v := mm_wi) h hA (k2 := 286) (as := [.int (M.1 85 v1.toNatClampNeg)]) (r := []) rfl (fun _ => rfl) (fun q hq o ho => ms_286 (by omega) hq ho) (fun r1 M2 h => ?_)
    show mm_Runs L xs (d + 1) 287 (48, [some (.ref 84), some (.int v1), z2, z3, z4, z5, z6, z7], [.int r1], M2) o
    refine mm_Runs.seq (l := [(48, .aload_n 0, 1), (49, .getfield 78, 3), (52, .iload_n 1, 1), (53, .iconst 1, 1), (54, .iadd, 1)]) (S2 := (55, [some (.ref 84), some (.int v1), z2, z3, z4, z5, z6, z7], [.int (v1 + (1 : Int32)), .ref 107, .int r1], M2)) (by decide +kernel) (hO := mm_own_287) rfl ?_
    obtain ⟨hb, h⟩ := mm_gd h
    refine mm_R_iald rfl rfl hb ?_
    refine mm_Runs.seq (l := [(56, .iadd, 1), (57, .istore_n 2, 1), (58, .iconst 1, 1), (59, .istore_n 3, 1)]) (S2 := (60, [some (.ref 84), some (.int v1), some (.int (r1 + (M2.1 107 (v1 + (1 : Int32)).toNatClampNeg))), some (.int (1 : Int32)), z4, z5, z6, z7], [], M2)) (by decide +kernel) (hO := mm_own_287) rfl ?_
    have hp : mp_287_60 L xs (d + 1) v1 (r1 + (M2.1 107 (v1 + (1 : Int32)).toNatClampNeg)) (1 : Int32) M2 o := by
      refine ms_287_L60 hd h hA (fun r4 M3 h => ?_)
      intro y5 y6 y7 y8 y9
      show mm_Runs L xs (d + 1) 287 (185, [some (.ref 84), some (.int v1), some (.int r4), y5, y6, y7, y8, y9], [], M3) o
      exact (ms_287_j185 hd h hA : mp_287_185 L xs (d + 1) v1 r4 M3 o) y5 y6 y7 y8 y9
    exact hp z4 z5 z6 z7
theorem ms_287_L35 {L : Nat} {xs : Nat → Int32} {d : Nat} (hd : 2 ≤ d) {v1 : Int32} {β : Type} {K : β → mm_M → mm_E → Prop} {F : (Unit) → mm_M → mm_O β} {M : mm_M} {q : (β ⊕ Nat) × mm_M} {o : mm_E} (h : mm_B (mf_287_L35 v1 M) F = some q) (hA : mm_A K q o) (hx : ∀ (r : (Unit)) (M2 : mm_M), F r M2 = some q → (fun r M o => mp_287_198 L xs (d) M o) r M2 o) : mp_287_35 L xs d v1 M o := by
  unfold mf_287_L35 at h
  exact mm_R_loop (step := (fun s M => mf_287_b35 s M)) (s := v1) (M := M) (P := (fun s M o => mp_287_35 L xs (d) s M o)) (X := (fun r M o => mp_287_198 L xs (d) M o)) h hA (fun s M q hq hA => ms_287_b35 (v1 := s) (M := M) (q := q) hd hq hA) hx
set_option maxRecDepth 8000 in
set_option maxHeartbeats 4000000 in
theorem ms_287_j198 {L : Nat} {xs : Nat → Int32} {d : Nat} (hd : 2 ≤ d) {M : mm_M} {q : (Int32 ⊕ Nat) × mm_M} {o : mm_E} (h : mf_287_j198 M = some q) (hA : mm_A (mm_Kr mm_wi) q o) : mp_287_198 L xs d M o := by
  unfold mf_287_j198 at h
  obtain ⟨d, rfl⟩ := mm_d1 (n := 1) hd
  intro z1 z2 z3 z4 z5 z6 z7
  show mm_Runs L xs (d + 1) 287 (198, [some (.ref 84), z1, z2, z3, z4, z5, z6, z7], [], M) o
  refine mm_Runs.seq (l := [(198, .iconst 3, 1), (199, .aload_n 0, 1), (200, .getfield 78, 3), (203, .iconst 0, 1)]) (S2 := (204, [some (.ref 84), z1, z2, z3, z4, z5, z6, z7], [.int (0 : Int32), .ref 107, .int (3 : Int32)], M)) (by decide +kernel) (hO := mm_own_287) rfl ?_
  obtain ⟨hb, h⟩ := mm_gd h
  refine mm_R_iald rfl rfl hb ?_
  refine mm_Runs.seq (l := [(205, .iadd, 1)]) (S2 := (206, [some (.ref 84), z1, z2, z3, z4, z5, z6, z7], [.int ((3 : Int32) + (M.1 107 (0 : Int32).toNatClampNeg))], M)) (by decide +kernel) (hO := mm_own_287) rfl ?_
  cases h
  exact mm_R_reti rfl rfl hA
set_option maxRecDepth 8000 in
set_option maxHeartbeats 4000000 in
theorem ms_287 {L : Nat} {xs : Nat → Int32} {d : Nat} (hd : 2 ≤ d) {M : mm_M} {q : (Int32 ⊕ Nat) × mm_M} {o : mm_E} (h : mf_287 M = some q) (hA : mm_A (mm_Kr mm_wi) q o) : mm_Runs L xs d 287 (0, mm_ent (mm_ml 287) [.ref 84], [], M) o := by
  unfold mf_287 at h
  obtain ⟨d, rfl⟩ := mm_d1 (n := 1) hd
  show mm_Runs L xs (d + 1) 287 (0, [some (.ref 84), none, none, none, none, none, none, none], [], M) o
  refine mm_Runs.seq (l := [(0, .aload_n 0, 1), (1, .iconst 0, 1), (2, .putfield 87, 3), (5, .aload_n 0, 1), (6, .getfield 91, 3), (9, .sipush 300, 3)]) (S2 := (12, [some (.ref 84), none, none, none, none, none, none, none], [.int (300 : Int32), .int (M.1 84 2)], (mm_pi M 84 0 (0 : Int32)))) (by decide +kernel) (hO := mm_own_287) rfl ?_
  refine mm_R_ile (t := 17) rfl rfl rfl (fun hc => ?_) (fun hc => ?_)
  · replace h := mm_ip hc h
    refine mm_Runs.seq (l := [(15, .iconst (-1), 1)]) (S2 := (16, [some (.ref 84), none, none, none, none, none, none, none], [.int (-1 : Int32)], (mm_pi M 84 0 (0 : Int32)))) (by decide +kernel) (hO := mm_own_287) rfl ?_
    cases h
    exact mm_R_reti rfl rfl hA
  · replace h := mm_iq hc h
    refine mm_Runs.seq (l := [(17, .aload_n 0, 1), (18, .getfield 78, 3), (21, .aload_n 0, 1), (22, .getfield 91, 3), (25, .bipush 7, 2)]) (S2 := (27, [some (.ref 84), none, none, none, none, none, none, none], [.int (7 : Int32), .int (M.1 84 2), .ref 107], (mm_pi M 84 0 (0 : Int32)))) (by decide +kernel) (hO := mm_own_287) rfl ?_
    obtain ⟨hb, h⟩ := mm_gd h
    refine mm_R_iast rfl rfl hb ?_
    refine mm_Runs.seq (l := [(28, .aload_n 0, 1), (29, .getfield 91, 3), (32, .iconst 1, 1), (33, .isub, 1), (34, .istore_n 1, 1)]) (S2 := (35, [some (.ref 84), some (.int ((M.1 84 2) - (1 : Int32))), none, none, none, none, none, none], [], (mm_pi (mm_pi M 84 0 (0 : Int32)) 107 (M.1 84 2).toNatClampNeg (7 : Int32)))) (by decide +kernel) (hO := mm_own_287) rfl ?_
    have hp : mp_287_35 L xs (d + 1) ((M.1 84 2) - (1 : Int32)) (mm_pi (mm_pi M 84 0 (0 : Int32)) 107 (M.1 84 2).toNatClampNeg (7 : Int32)) o := by
      refine ms_287_L35 hd h hA (fun r2 M1 h => ?_)
      intro y3 y4 y5 y6 y7 y8 y9
      show mm_Runs L xs (d + 1) 287 (198, [some (.ref 84), y3, y4, y5, y6, y7, y8, y9], [], M1) o
      exact (ms_287_j198 hd h hA : mp_287_198 L xs (d + 1) M1 o) y3 y4 y5 y6 y7 y8 y9
    exact hp none none none none none none
