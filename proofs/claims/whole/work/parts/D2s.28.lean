/-! MEANINGS ARE SOUND 28 -/
-- 69: PlainPacks$Turnings.differ(III)Z (depth 0)
theorem mm_own_69 : mm_own 69 = 4 := rfl
def mp_69_24 (L : Nat) (xs : Nat → Int32) (d : Nat) (v1 : Int32) (v2 : Int32) (v3 : Int32) (s0 : Int32) (M : mm_M) (o : mm_E) : Prop := ∀ z4 z5 : Option Value, mm_Runs L xs d 69 (24, [some (.ref 7), some (.int v1), some (.int v2), some (.int v3), z4, z5], [.int s0], M) o
def mp_69_50 (L : Nat) (xs : Nat → Int32) (d : Nat) (v1 : Int32) (v2 : Int32) (v4 : Int32) (s0 : Int32) (M : mm_M) (o : mm_E) : Prop := ∀ z3 z5 : Option Value, mm_Runs L xs d 69 (50, [some (.ref 7), some (.int v1), some (.int v2), z3, some (.int v4), z5], [.int s0], M) o
set_option maxRecDepth 8000 in
set_option maxHeartbeats 4000000 in
theorem ms_69_j50 {L : Nat} {xs : Nat → Int32} {d : Nat} (hd : 0 ≤ d) {v1 : Int32} {v2 : Int32} {v4 : Int32} {s0 : Int32} {M : mm_M} {q : (Int32 ⊕ Nat) × mm_M} {o : mm_E} (h : mf_69_j50 v1 v2 v4 s0 M = some q) (hA : mm_A (mm_Kr mm_wi) q o) : mp_69_50 L xs d v1 v2 v4 s0 M o := by
  unfold mf_69_j50 at h
  intro z3 z5
  show mm_Runs L xs (d) 69 (50, [some (.ref 7), some (.int v1), some (.int v2), z3, some (.int v4), z5], [.int s0], M) o
  refine mm_Runs.seq (l := [(50, .istore 5, 2), (52, .aload_n 0, 1), (53, .getfield 15, 3), (56, .iload_n 1, 1)]) (S2 := (57, [some (.ref 7), some (.int v1), some (.int v2), z3, some (.int v4), some (.int s0)], [.int v1, .ref 9], M)) (by decide +kernel) (hO := mm_own_69) rfl ?_
  obtain ⟨hb, h⟩ := mm_gd h
  refine mm_R_iald rfl rfl hb ?_
  refine mm_Runs.seq (l := [(58, .aload_n 0, 1), (59, .getfield 15, 3), (62, .iload_n 2, 1)]) (S2 := (63, [some (.ref 7), some (.int v1), some (.int v2), z3, some (.int v4), some (.int s0)], [.int v2, .ref 9, .int (M.1 9 v1.toNatClampNeg)], M)) (by decide +kernel) (hO := mm_own_69) rfl ?_
  obtain ⟨hb, h⟩ := mm_gd h
  refine mm_R_iald rfl rfl hb ?_
  refine mm_R_ine (t := 84) rfl rfl rfl (fun hc => ?_) (fun hc => ?_)
  · replace h := mm_ip hc h
    refine mm_Runs.seq (l := [(67, .aload_n 0, 1), (68, .getfield 15, 3), (71, .iload 4, 2)]) (S2 := (73, [some (.ref 7), some (.int v1), some (.int v2), z3, some (.int v4), some (.int s0)], [.int v4, .ref 9], M)) (by decide +kernel) (hO := mm_own_69) rfl ?_
    obtain ⟨hb, h⟩ := mm_gd h
    refine mm_R_iald rfl rfl hb ?_
    refine mm_Runs.seq (l := [(74, .aload_n 0, 1), (75, .getfield 15, 3), (78, .iload 5, 2)]) (S2 := (80, [some (.ref 7), some (.int v1), some (.int v2), z3, some (.int v4), some (.int s0)], [.int s0, .ref 9, .int (M.1 9 v4.toNatClampNeg)], M)) (by decide +kernel) (hO := mm_own_69) rfl ?_
    obtain ⟨hb, h⟩ := mm_gd h
    refine mm_R_iald rfl rfl hb ?_
    refine mm_R_ieq (t := 88) rfl rfl rfl (fun hc => ?_) (fun hc => ?_)
    · replace h := mm_ip hc h
      refine mm_Runs.seq (l := [(88, .iconst 0, 1)]) (S2 := (89, [some (.ref 7), some (.int v1), some (.int v2), z3, some (.int v4), some (.int s0)], [.int (0 : Int32)], M)) (by decide +kernel) (hO := mm_own_69) rfl ?_
      cases h
      exact mm_R_retb rfl rfl rfl hA
    · replace h := mm_iq hc h
      refine mm_Runs.seq (l := [(84, .iconst 1, 1), (85, .goto 4, 3)]) (S2 := (89, [some (.ref 7), some (.int v1), some (.int v2), z3, some (.int v4), some (.int s0)], [.int (1 : Int32)], M)) (by decide +kernel) (hO := mm_own_69) rfl ?_
      cases h
      exact mm_R_retb rfl rfl rfl hA
  · replace h := mm_iq hc h
    refine mm_Runs.seq (l := [(84, .iconst 1, 1), (85, .goto 4, 3)]) (S2 := (89, [some (.ref 7), some (.int v1), some (.int v2), z3, some (.int v4), some (.int s0)], [.int (1 : Int32)], M)) (by decide +kernel) (hO := mm_own_69) rfl ?_
    cases h
    exact mm_R_retb rfl rfl rfl hA
set_option maxRecDepth 8000 in
set_option maxHeartbeats 4000000 in
theorem ms_69_j24 {L : Nat} {xs : Nat → Int32} {d : Nat} (hd : 0 ≤ d) {v1 : Int32} {v2 : Int32} {v3 : Int32} {s0 : Int32} {M : mm_M} {q : (Int32 ⊕ Nat) × mm_M} {o : mm_E} (h : mf_69_j24 v1 v2 v3 s0 M = some q) (hA : mm_A (mm_Kr mm_wi) q o) : mp_69_24 L xs d v1 v2 v3 s0 M o := by
  unfold mf_69_j24 at h
  intro z4 z5
  show mm_Runs L xs (d) 69 (24, [some (.ref 7), some (.int v1), some (.int v2), some (.int v3), z4, z5], [.int s0], M) o
  refine mm_Runs.seq (l := [(24, .istore 4, 2), (26, .iload_n 2, 1), (27, .iload_n 3, 1), (28, .iadd, 1), (29, .aload_n 0, 1), (30, .getfield 33, 3)]) (S2 := (33, [some (.ref 7), some (.int v1), some (.int v2), some (.int v3), some (.int s0), z5], [.int (M.1 7 5), .int (v2 + v3)], M)) (by decide +kernel) (hO := mm_own_69) rfl ?_
  refine mm_R_ige (t := 42) rfl rfl rfl (fun hc => ?_) (fun hc => ?_)
  · replace h := mm_ip hc h
    refine mm_Runs.seq (l := [(36, .iload_n 2, 1), (37, .iload_n 3, 1), (38, .iadd, 1), (39, .goto 11, 3)]) (S2 := (50, [some (.ref 7), some (.int v1), some (.int v2), some (.int v3), some (.int s0), z5], [.int (v2 + v3)], M)) (by decide +kernel) (hO := mm_own_69) rfl ?_
    exact (ms_69_j50 hd h hA : mp_69_50 L xs (d) v1 v2 s0 (v2 + v3) M o) (some (.int v3)) z5
  · replace h := mm_iq hc h
    refine mm_Runs.seq (l := [(42, .iload_n 2, 1), (43, .iload_n 3, 1), (44, .iadd, 1), (45, .aload_n 0, 1), (46, .getfield 33, 3), (49, .isub, 1)]) (S2 := (50, [some (.ref 7), some (.int v1), some (.int v2), some (.int v3), some (.int s0), z5], [.int ((v2 + v3) - (M.1 7 5))], M)) (by decide +kernel) (hO := mm_own_69) rfl ?_
    exact (ms_69_j50 hd h hA : mp_69_50 L xs (d) v1 v2 s0 ((v2 + v3) - (M.1 7 5)) M o) (some (.int v3)) z5
set_option maxRecDepth 8000 in
set_option maxHeartbeats 4000000 in
theorem ms_69 {L : Nat} {xs : Nat → Int32} {d : Nat} (hd : 0 ≤ d) {v1 : Int32} {v2 : Int32} {v3 : Int32} {M : mm_M} {q : (Int32 ⊕ Nat) × mm_M} {o : mm_E} (h : mf_69 v1 v2 v3 M = some q) (hA : mm_A (mm_Kr mm_wi) q o) : mm_Runs L xs d 69 (0, mm_ent (mm_ml 69) [.ref 7, .int v1, .int v2, .int v3], [], M) o := by
  unfold mf_69 at h
  show mm_Runs L xs (d) 69 (0, [some (.ref 7), some (.int v1), some (.int v2), some (.int v3), none, none], [], M) o
  refine mm_Runs.seq (l := [(0, .iload_n 1, 1), (1, .iload_n 3, 1), (2, .iadd, 1), (3, .aload_n 0, 1), (4, .getfield 33, 3)]) (S2 := (7, [some (.ref 7), some (.int v1), some (.int v2), some (.int v3), none, none], [.int (M.1 7 5), .int (v1 + v3)], M)) (by decide +kernel) (hO := mm_own_69) rfl ?_
  refine mm_R_ige (t := 16) rfl rfl rfl (fun hc => ?_) (fun hc => ?_)
  · replace h := mm_ip hc h
    refine mm_Runs.seq (l := [(10, .iload_n 1, 1), (11, .iload_n 3, 1), (12, .iadd, 1), (13, .goto 11, 3)]) (S2 := (24, [some (.ref 7), some (.int v1), some (.int v2), some (.int v3), none, none], [.int (v1 + v3)], M)) (by decide +kernel) (hO := mm_own_69) rfl ?_
    exact (ms_69_j24 hd h hA : mp_69_24 L xs (d) v1 v2 v3 (v1 + v3) M o) none none
  · replace h := mm_iq hc h
    refine mm_Runs.seq (l := [(16, .iload_n 1, 1), (17, .iload_n 3, 1), (18, .iadd, 1), (19, .aload_n 0, 1), (20, .getfield 33, 3), (23, .isub, 1)]) (S2 := (24, [some (.ref 7), some (.int v1), some (.int v2), some (.int v3), none, none], [.int ((v1 + v3) - (M.1 7 5))], M)) (by decide +kernel) (hO := mm_own_69) rfl ?_
    exact (ms_69_j24 hd h hA : mp_69_24 L xs (d) v1 v2 v3 ((v1 + v3) - (M.1 7 5)) M o) none none
-- 68: PlainPacks$Turnings.rankAgain(I)V (depth 2)
theorem mm_own_68 : mm_own 68 = 4 := rfl
def mp_68_7 (L : Nat) (xs : Nat → Int32) (d : Nat) (v1 : Int32) (v2 : Int32) (M : mm_M) (o : mm_E) : Prop := mm_Runs L xs d 68 (7, [some (.ref 7), some (.int v1), some (.int v2)], [], M) o
def mp_68_74 (L : Nat) (xs : Nat → Int32) (d : Nat) (M : mm_M) (o : mm_E) : Prop := ∀ z1 z2 : Option Value, mm_Runs L xs d 68 (74, [some (.ref 7), z1, z2], [], M) o
def mp_68_41 (L : Nat) (xs : Nat → Int32) (d : Nat) (v1 : Int32) (v2 : Int32) (M : mm_M) (o : mm_E) : Prop := mm_Runs L xs d 68 (41, [some (.ref 7), some (.int v1), some (.int v2)], [], M) o
def mp_68_51 (L : Nat) (xs : Nat → Int32) (d : Nat) (v1 : Int32) (v2 : Int32) (M : mm_M) (o : mm_E) : Prop := mm_Runs L xs d 68 (51, [some (.ref 7), some (.int v1), some (.int v2)], [], M) o
set_option maxRecDepth 8000 in
set_option maxHeartbeats 4000000 in
theorem ms_68_j51 {L : Nat} {xs : Nat → Int32} {d : Nat} (hd : 2 ≤ d) {v1 : Int32} {v2 : Int32} {M : mm_M} {q : (((Int32) ⊕ (Unit)) ⊕ Nat) × mm_M} {o : mm_E} (h : mf_68_j51 v1 v2 M = some q) (hA : mm_A (mm_K2 (fun s M o => mp_68_7 L xs (d) v1 s M o) (fun r M o => mp_68_74 L xs (d) M o)) q o) : mp_68_51 L xs d v1 v2 M o := by
  unfold mf_68_j51 at h
  obtain ⟨d, rfl⟩ := mm_d1 (n := 1) hd
  show mm_Runs L xs (d + 1) 68 (51, [some (.ref 7), some (.int v1), some (.int v2)], [], M) o
  refine mm_Runs.seq (l := [(51, .aload_n 0, 1), (52, .getfield 21, 3), (55, .aload_n 0, 1), (56, .getfield 9, 3), (59, .iload_n 2, 1)]) (S2 := (60, [some (.ref 7), some (.int v1), some (.int v2)], [.int v2, .ref 8, .ref 11], M)) (by decide +kernel) (hO := mm_own_68) rfl ?_
  obtain ⟨hb, h⟩ := mm_gd h
  refine mm_R_iald rfl rfl hb ?_
  refine mm_Runs.seq (l := [(61, .aload_n 0, 1), (62, .getfield 44, 3), (65, .iconst 1, 1), (66, .isub, 1)]) (S2 := (67, [some (.ref 7), some (.int v1), some (.int v2)], [.int ((M.1 7 6) - (1 : Int32)), .int (M.1 8 v2.toNatClampNeg), .ref 11], M)) (by decide +kernel) (hO := mm_own_68) rfl ?_
  obtain ⟨hb, h⟩ := mm_gd h
  refine mm_R_iast rfl rfl hb ?_
  refine mm_Runs.seq (l := [(68, .iinc 2 1, 3), (71, .goto (-64), 3)]) (S2 := (7, [some (.ref 7), some (.int v1), some (.int (v2 + (1 : Int32)))], [], (mm_pi M 11 (M.1 8 v2.toNatClampNeg).toNatClampNeg ((M.1 7 6) - (1 : Int32))))) (by decide +kernel) (hO := mm_own_68) rfl ?_
  cases h
  exact (show mp_68_7 L xs (d + 1) v1 (v2 + (1 : Int32)) (mm_pi M 11 (M.1 8 v2.toNatClampNeg).toNatClampNeg ((M.1 7 6) - (1 : Int32))) o from hA)
set_option maxRecDepth 8000 in
set_option maxHeartbeats 4000000 in
theorem ms_68_j41 {L : Nat} {xs : Nat → Int32} {d : Nat} (hd : 2 ≤ d) {v1 : Int32} {v2 : Int32} {M : mm_M} {q : (((Int32) ⊕ (Unit)) ⊕ Nat) × mm_M} {o : mm_E} (h : mf_68_j41 v1 v2 M = some q) (hA : mm_A (mm_K2 (fun s M o => mp_68_7 L xs (d) v1 s M o) (fun r M o => mp_68_74 L xs (d) M o)) q o) : mp_68_41 L xs d v1 v2 M o := by
  unfold mf_68_j41 at h
  obtain ⟨d, rfl⟩ := mm_d1 (n := 1) hd
  show mm_Runs L xs (d + 1) 68 (41, [some (.ref 7), some (.int v1), some (.int v2)], [], M) o
  refine mm_Runs.seq (l := [(41, .aload_n 0, 1), (42, .dup, 1), (43, .getfield 44, 3), (46, .iconst 1, 1), (47, .iadd, 1), (48, .putfield 44, 3)]) (S2 := (51, [some (.ref 7), some (.int v1), some (.int v2)], [], (mm_pi M 7 6 ((M.1 7 6) + (1 : Int32))))) (by decide +kernel) (hO := mm_own_68) rfl ?_
  exact (ms_68_j51 hd h hA : mp_68_51 L xs (d + 1) v1 v2 (mm_pi M 7 6 ((M.1 7 6) + (1 : Int32))) o)
set_option maxRecDepth 8000 in
set_option maxHeartbeats 4000000 in
theorem ms_68_b7 {L : Nat} {xs : Nat → Int32} {d : Nat} (hd : 2 ≤ d) {v1 : Int32} {v2 : Int32} {M : mm_M} {q : (((Int32) ⊕ (Unit)) ⊕ Nat) × mm_M} {o : mm_E} (h : mf_68_b7 v1 v2 M = some q) (hA : mm_A (mm_K2 (fun s M o => mp_68_7 L xs (d) v1 s M o) (fun r M o => mp_68_74 L xs (d) M o)) q o) : mp_68_7 L xs d v1 v2 M o := by
  unfold mf_68_b7 at h
  obtain ⟨d, rfl⟩ := mm_d1 (n := 1) hd
  show mm_Runs L xs (d + 1) 68 (7, [some (.ref 7), some (.int v1), some (.int v2)], [], M) o
  refine mm_Runs.seq (l := [(7, .iload_n 2, 1), (8, .aload_n 0, 1), (9, .getfield 33, 3)]) (S2 := (12, [some (.ref 7), some (.int v1), some (.int v2)], [.int (M.1 7 5), .int v2], M)) (by decide +kernel) (hO := mm_own_68) rfl ?_
  refine mm_R_ige (t := 74) rfl rfl rfl (fun hc => ?_) (fun hc => ?_)
  · replace h := mm_ip hc h
    refine mm_Runs.seq (l := [(15, .iload_n 2, 1)]) (S2 := (16, [some (.ref 7), some (.int v1), some (.int v2)], [.int v2], M)) (by decide +kernel) (hO := mm_own_68) rfl ?_
    refine mm_R_zeq (t := 41) rfl rfl rfl (fun hc => ?_) (fun hc => ?_)
    · replace h := mm_ip hc h
      exact (ms_68_j41 hd h hA : mp_68_41 L xs (d + 1) v1 v2 M o)
    · replace h := mm_iq hc h
      refine mm_Runs.seq (l := [(19, .aload_n 0, 1), (20, .aload_n 0, 1), (21, .getfield 9, 3), (24, .iload_n 2, 1), (25, .iconst 1, 1), (26, .isub, 1)]) (S2 := (27, [some (.ref 7), some (.int v1), some (.int v2)], [.int (v2 - (1 : Int32)), .ref 8, .ref 7], M)) (by decide +kernel) (hO := mm_own_68) rfl ?_
      obtain ⟨hb, h⟩ := mm_gd h
      refine mm_R_iald rfl rfl hb ?_
      refine mm_Runs.seq (l := [(28, .aload_n 0, 1), (29, .getfield 9, 3), (32, .iload_n 2, 1)]) (S2 := (33, [some (.ref 7), some (.int v1), some (.int v2)], [.int v2, .ref 8, .int (M.1 8 (v2 - (1 : Int32)).toNatClampNeg), .ref 7], M)) (by decide +kernel) (hO := mm_own_68) rfl ?_
      obtain ⟨hb, h⟩ := mm_gd h
      refine mm_R_iald rfl rfl hb ?_
      refine mm_Runs.seq (l := [(34, .iload_n 1, 1)]) (S2 := (35, [some (.ref 7), some (.int v1), some (.int v2)], [.int v1, .int (M.1 8 v2.toNatClampNeg), .int (M.1 8 (v2 - (1 : Int32)).toNatClampNeg), .ref 7], M)) (by decide +kernel) (hO := mm_own_68) rfl ?_
      refine mm_R_call (v := mm_wi) h hA (k2 := 69) (as := [.ref 7, .int (M.1 8 (v2 - (1 : Int32)).toNatClampNeg), .int (M.1 8 v2.toNatClampNeg), .int v1]) (r := []) rfl (fun _ => rfl) (fun q hq o ho => ms_69 (by omega) hq ho) (fun r1 M2 h => ?_)
      show mm_Runs L xs (d + 1) 68 (38, [some (.ref 7), some (.int v1), some (.int v2)], [.int r1], M2) o
      refine mm_R_zeq (t := 51) rfl rfl rfl (fun hc => ?_) (fun hc => ?_)
      · replace h := mm_ip hc h
        exact (ms_68_j51 hd h hA : mp_68_51 L xs (d + 1) v1 v2 M2 o)
      · replace h := mm_iq hc h
        exact (ms_68_j41 hd h hA : mp_68_41 L xs (d + 1) v1 v2 M2 o)
  · replace h := mm_iq hc h
    cases h
    exact (show mp_68_74 L xs (d + 1) M o from hA) (some (.int v1)) (some (.int v2))
theorem ms_68_L7 {L : Nat} {xs : Nat → Int32} {d : Nat} (hd : 2 ≤ d) {v1 : Int32} {v2 : Int32} {β : Type} {K : β → mm_M → mm_E → Prop} {F : (Unit) → mm_M → mm_O β} {M : mm_M} {q : (β ⊕ Nat) × mm_M} {o : mm_E} (h : mm_B (mf_68_L7 v1 v2 M) F = some q) (hA : mm_A K q o) (hx : ∀ (r : (Unit)) (M2 : mm_M), F r M2 = some q → (fun r M o => mp_68_74 L xs (d) M o) r M2 o) : mp_68_7 L xs d v1 v2 M o := by
  unfold mf_68_L7 at h
  exact mm_R_loop (step := (fun s M => mf_68_b7 v1 s M)) (s := v2) (M := M) (P := (fun s M o => mp_68_7 L xs (d) v1 s M o)) (X := (fun r M o => mp_68_74 L xs (d) M o)) h hA (fun s M q hq hA => ms_68_b7 (v1 := v1) (v2 := s) (M := M) (q := q) hd hq hA) hx
set_option maxRecDepth 8000 in
set_option maxHeartbeats 4000000 in
theorem ms_68_j74 {L : Nat} {xs : Nat → Int32} {d : Nat} (hd : 2 ≤ d) {M : mm_M} {q : (Unit ⊕ Nat) × mm_M} {o : mm_E} (h : mf_68_j74 M = some q) (hA : mm_A (mm_Kr mm_wv) q o) : mp_68_74 L xs d M o := by
  unfold mf_68_j74 at h
  obtain ⟨d, rfl⟩ := mm_d1 (n := 1) hd
  intro z1 z2
  show mm_Runs L xs (d + 1) 68 (74, [some (.ref 7), z1, z2], [], M) o
  refine mm_Runs.seq (l := [(74, .aload_n 0, 1), (75, .getfield 21, 3), (78, .iconst 0, 1), (79, .aload_n 0, 1), (80, .getfield 15, 3), (83, .iconst 0, 1), (84, .aload_n 0, 1), (85, .getfield 33, 3)]) (S2 := (88, [some (.ref 7), z1, z2], [.int (M.1 7 5), .int (0 : Int32), .ref 9, .int (0 : Int32), .ref 11], M)) (by decide +kernel) (hO := mm_own_68) rfl ?_
  obtain ⟨hb, h⟩ := mm_gd h
  refine mm_R_cpy rfl rfl rfl rfl rfl hb (by omega) ?_
  cases h
  exact mm_R_retv rfl rfl hA
set_option maxRecDepth 8000 in
set_option maxHeartbeats 4000000 in
theorem ms_68 {L : Nat} {xs : Nat → Int32} {d : Nat} (hd : 2 ≤ d) {v1 : Int32} {M : mm_M} {q : (Unit ⊕ Nat) × mm_M} {o : mm_E} (h : mf_68 v1 M = some q) (hA : mm_A (mm_Kr mm_wv) q o) : mm_Runs L xs d 68 (0, mm_ent (mm_ml 68) [.ref 7, .int v1], [], M) o := by
  unfold mf_68 at h
  obtain ⟨d, rfl⟩ := mm_d1 (n := 1) hd
  show mm_Runs L xs (d + 1) 68 (0, [some (.ref 7), some (.int v1), none], [], M) o
  refine mm_Runs.seq (l := [(0, .aload_n 0, 1), (1, .iconst 0, 1), (2, .putfield 44, 3), (5, .iconst 0, 1), (6, .istore_n 2, 1)]) (S2 := (7, [some (.ref 7), some (.int v1), some (.int (0 : Int32))], [], (mm_pi M 7 6 (0 : Int32)))) (by decide +kernel) (hO := mm_own_68) rfl ?_
  have hp : mp_68_7 L xs (d + 1) v1 (0 : Int32) (mm_pi M 7 6 (0 : Int32)) o := by
    refine ms_68_L7 hd h hA (fun r2 M1 h => ?_)
    intro y3 y4
    show mm_Runs L xs (d + 1) 68 (74, [some (.ref 7), y3, y4], [], M1) o
    exact (ms_68_j74 hd h hA : mp_68_74 L xs (d + 1) M1 o) y3 y4
  exact hp
-- 66: PlainPacks$Turnings.sort([II)V (depth 3)
theorem mm_own_66 : mm_own 66 = 4 := rfl
def mp_66_18 (L : Nat) (xs : Nat → Int32) (p : Nat) (n : Nat) (d : Nat) (v3 : Int32) (M : mm_M) (o : mm_E) : Prop := ∀ z2 z4 z5 : Option Value, mm_Runs L xs d 66 (18, [some (.ref 7), some (.ref p), z2, some (.int v3), z4, z5], [], M) o
def mp_66_48 (L : Nat) (xs : Nat → Int32) (p : Nat) (n : Nat) (d : Nat) (M : mm_M) (o : mm_E) : Prop := ∀ z1 z2 z3 z4 z5 : Option Value, mm_Runs L xs d 66 (48, [some (.ref 7), z1, z2, z3, z4, z5], [], M) o
set_option maxRecDepth 8000 in
set_option maxHeartbeats 4000000 in
theorem ms_66_b18 {L : Nat} {xs : Nat → Int32} {p : Nat} {n : Nat} {d : Nat} (ha : mm_aat 0 p = some n) (hd : 3 ≤ d) {v3 : Int32} {M : mm_M} {q : (((Int32) ⊕ (Unit)) ⊕ Nat) × mm_M} {o : mm_E} (h : mf_66_b18 p n v3 M = some q) (hA : mm_A (mm_K2 (fun s M o => mp_66_18 L xs p n (d) s M o) (fun r M o => mp_66_48 L xs p n (d) M o)) q o) : mp_66_18 L xs p n d v3 M o := by
  unfold mf_66_b18 at h
  obtain ⟨d, rfl⟩ := mm_d1 (n := 2) hd
  intro z2 z4 z5
  show mm_Runs L xs (d + 1) 66 (18, [some (.ref 7), some (.ref p), z2, some (.int v3), z4, z5], [], M) o
  refine mm_Runs.seq (l := [(18, .iload_n 3, 1), (19, .aload_n 0, 1), (20, .getfield 33, 3)]) (S2 := (23, [some (.ref 7), some (.ref p), z2, some (.int v3), z4, z5], [.int (M.1 7 5), .int v3], M)) (by decide +kernel) (hO := mm_own_66) rfl ?_
  refine mm_R_ige (t := 48) rfl rfl rfl (fun hc => ?_) (fun hc => ?_)
  · replace h := mm_ip hc h
    refine mm_Runs.seq (l := [(26, .aload_n 0, 1), (27, .getfield 15, 3), (30, .iload_n 3, 1), (31, .aload_n 1, 1), (32, .iload_n 3, 1)]) (S2 := (33, [some (.ref 7), some (.ref p), z2, some (.int v3), z4, z5], [.int v3, .ref p, .int v3, .ref 9], M)) (by decide +kernel) (hO := mm_own_66) rfl ?_
    obtain ⟨hb, h⟩ := mm_gd h
    refine mm_R_iald rfl ha hb ?_
    obtain ⟨hb, h⟩ := mm_gd h
    refine mm_R_iast rfl rfl hb ?_
    refine mm_Runs.seq (l := [(35, .aload_n 0, 1), (36, .getfield 18, 3), (39, .iload_n 3, 1), (40, .iload_n 3, 1)]) (S2 := (41, [some (.ref 7), some (.ref p), z2, some (.int v3), z4, z5], [.int v3, .int v3, .ref 10], (mm_pi M 9 v3.toNatClampNeg (M.1 p v3.toNatClampNeg)))) (by decide +kernel) (hO := mm_own_66) rfl ?_
    obtain ⟨hb, h⟩ := mm_gd h
    refine mm_R_iast rfl rfl hb ?_
    refine mm_Runs.seq (l := [(42, .iinc 3 1, 3), (45, .goto (-27), 3)]) (S2 := (18, [some (.ref 7), some (.ref p), (mm_no2 z2), some (.int (v3 + (1 : Int32))), z4, z5], [], (mm_pi (mm_pi M 9 v3.toNatClampNeg (M.1 p v3.toNatClampNeg)) 10 v3.toNatClampNeg v3))) (by decide +kernel) (hO := mm_own_66) rfl ?_
    cases h
    exact (show mp_66_18 L xs p n (d + 1) (v3 + (1 : Int32)) (mm_pi (mm_pi M 9 v3.toNatClampNeg (M.1 p v3.toNatClampNeg)) 10 v3.toNatClampNeg v3) o from hA) ((mm_no2 z2)) z4 z5
  · replace h := mm_iq hc h
    cases h
    exact (show mp_66_48 L xs p n (d + 1) M o from hA) (some (.ref p)) z2 (some (.int v3)) z4 z5
theorem ms_66_L18 {L : Nat} {xs : Nat → Int32} {p : Nat} {n : Nat} {d : Nat} (ha : mm_aat 0 p = some n) (hd : 3 ≤ d) {v3 : Int32} {β : Type} {K : β → mm_M → mm_E → Prop} {F : (Unit) → mm_M → mm_O β} {M : mm_M} {q : (β ⊕ Nat) × mm_M} {o : mm_E} (h : mm_B (mf_66_L18 p n v3 M) F = some q) (hA : mm_A K q o) (hx : ∀ (r : (Unit)) (M2 : mm_M), F r M2 = some q → (fun r M o => mp_66_48 L xs p n (d) M o) r M2 o) : mp_66_18 L xs p n d v3 M o := by
  unfold mf_66_L18 at h
  exact mm_R_loop (step := (fun s M => mf_66_b18 p n s M)) (s := v3) (M := M) (P := (fun s M o => mp_66_18 L xs p n (d) s M o)) (X := (fun r M o => mp_66_48 L xs p n (d) M o)) h hA (fun s M q hq hA => ms_66_b18 ha (v3 := s) (M := M) (q := q) hd hq hA) hx
def mp_66_62 (L : Nat) (xs : Nat → Int32) (p : Nat) (n : Nat) (d : Nat) (v3 : Int32) (M : mm_M) (o : mm_E) : Prop := ∀ z1 z2 z4 z5 : Option Value, mm_Runs L xs d 66 (62, [some (.ref 7), z1, z2, some (.int v3), z4, z5], [], M) o
def mp_66_154 (L : Nat) (xs : Nat → Int32) (p : Nat) (n : Nat) (d : Nat) (M : mm_M) (o : mm_E) : Prop := ∀ z1 z2 z3 z4 z5 : Option Value, mm_Runs L xs d 66 (154, [some (.ref 7), z1, z2, z3, z4, z5], [], M) o
def mp_66_84 (L : Nat) (xs : Nat → Int32) (p : Nat) (n : Nat) (d : Nat) (v3 : Int32) (v4 : Int32) (M : mm_M) (o : mm_E) : Prop := ∀ z1 z2 z5 : Option Value, mm_Runs L xs d 66 (84, [some (.ref 7), z1, z2, some (.int v3), some (.int v4), z5], [], M) o
def mp_66_134 (L : Nat) (xs : Nat → Int32) (p : Nat) (n : Nat) (d : Nat) (v3 : Int32) (M : mm_M) (o : mm_E) : Prop := ∀ z1 z2 z4 z5 : Option Value, mm_Runs L xs d 66 (134, [some (.ref 7), z1, z2, some (.int v3), z4, z5], [], M) o
def mp_66_127 (L : Nat) (xs : Nat → Int32) (p : Nat) (n : Nat) (d : Nat) (v3 : Int32) (v4 : Int32) (s1 : Int32) (s2 : Int32) (M : mm_M) (o : mm_E) : Prop := ∀ z1 z2 z5 : Option Value, mm_Runs L xs d 66 (127, [some (.ref 7), z1, z2, some (.int v3), some (.int v4), z5], [.int s2, .int s1, .ref 10], M) o
set_option maxRecDepth 8000 in
set_option maxHeartbeats 4000000 in
theorem ms_66_j127 {L : Nat} {xs : Nat → Int32} {p : Nat} {n : Nat} {d : Nat} (ha : mm_aat 0 p = some n) (hd : 3 ≤ d) {v3 : Int32} {v4 : Int32} {s1 : Int32} {s2 : Int32} {M : mm_M} {q : (((Int32) ⊕ (Unit)) ⊕ Nat) × mm_M} {o : mm_E} (h : mf_66_j127 p n v3 v4 s1 s2 M = some q) (hA : mm_A (mm_K2 (fun s M o => mp_66_84 L xs p n (d) v3 s M o) (fun r M o => mp_66_134 L xs p n (d) v3 M o)) q o) : mp_66_127 L xs p n d v3 v4 s1 s2 M o := by
  unfold mf_66_j127 at h
  obtain ⟨d, rfl⟩ := mm_d1 (n := 2) hd
  intro z1 z2 z5
  show mm_Runs L xs (d + 1) 66 (127, [some (.ref 7), z1, z2, some (.int v3), some (.int v4), z5], [.int s2, .int s1, .ref 10], M) o
  obtain ⟨hb, h⟩ := mm_gd h
  refine mm_R_iast rfl rfl hb ?_
  refine mm_Runs.seq (l := [(128, .iinc 4 1, 3), (131, .goto (-47), 3)]) (S2 := (84, [some (.ref 7), z1, z2, some (.int v3), some (.int (v4 + (1 : Int32))), z5], [], (mm_pi M 10 s1.toNatClampNeg s2))) (by decide +kernel) (hO := mm_own_66) rfl ?_
  cases h
  exact (show mp_66_84 L xs p n (d + 1) v3 (v4 + (1 : Int32)) (mm_pi M 10 s1.toNatClampNeg s2) o from hA) z1 z2 z5
set_option maxRecDepth 8000 in
set_option maxHeartbeats 4000000 in
theorem ms_66_b84 {L : Nat} {xs : Nat → Int32} {p : Nat} {n : Nat} {d : Nat} (ha : mm_aat 0 p = some n) (hd : 3 ≤ d) {v3 : Int32} {v4 : Int32} {M : mm_M} {q : (((Int32) ⊕ (Unit)) ⊕ Nat) × mm_M} {o : mm_E} (h : mf_66_b84 p n v3 v4 M = some q) (hA : mm_A (mm_K2 (fun s M o => mp_66_84 L xs p n (d) v3 s M o) (fun r M o => mp_66_134 L xs p n (d) v3 M o)) q o) : mp_66_84 L xs p n d v3 v4 M o := by
  unfold mf_66_b84 at h
  obtain ⟨d, rfl⟩ := mm_d1 (n := 2) hd
  intro z1 z2 z5
  show mm_Runs L xs (d + 1) 66 (84, [some (.ref 7), z1, z2, some (.int v3), some (.int v4), z5], [], M) o
  refine mm_Runs.seq (l := [(84, .iload 4, 2), (86, .aload_n 0, 1), (87, .getfield 33, 3)]) (S2 := (90, [some (.ref 7), z1, z2, some (.int v3), some (.int v4), z5], [.int (M.1 7 5), .int v4], M)) (by decide +kernel) (hO := mm_own_66) rfl ?_
  refine mm_R_ige (t := 134) rfl rfl rfl (fun hc => ?_) (fun hc => ?_)
  · replace h := mm_ip hc h
    refine mm_Runs.seq (l := [(93, .aload_n 0, 1), (94, .getfield 9, 3), (97, .iload 4, 2)]) (S2 := (99, [some (.ref 7), z1, z2, some (.int v3), some (.int v4), z5], [.int v4, .ref 8], M)) (by decide +kernel) (hO := mm_own_66) rfl ?_
    obtain ⟨hb, h⟩ := mm_gd h
    refine mm_R_iald rfl rfl hb ?_
    refine mm_Runs.seq (l := [(100, .iload_n 3, 1), (101, .isub, 1), (102, .istore 5, 2), (104, .aload_n 0, 1), (105, .getfield 18, 3), (108, .iload 4, 2), (110, .iload 5, 2)]) (S2 := (112, [some (.ref 7), z1, z2, some (.int v3), some (.int v4), some (.int ((M.1 8 v4.toNatClampNeg) - v3))], [.int ((M.1 8 v4.toNatClampNeg) - v3), .int v4, .ref 10], M)) (by decide +kernel) (hO := mm_own_66) rfl ?_
    refine mm_R_zge (t := 125) rfl rfl rfl (fun hc => ?_) (fun hc => ?_)
    · replace h := mm_ip hc h
      refine mm_Runs.seq (l := [(115, .iload 5, 2), (117, .aload_n 0, 1), (118, .getfield 33, 3), (121, .iadd, 1), (122, .goto 5, 3)]) (S2 := (127, [some (.ref 7), z1, z2, some (.int v3), some (.int v4), some (.int ((M.1 8 v4.toNatClampNeg) - v3))], [.int (((M.1 8 v4.toNatClampNeg) - v3) + (M.1 7 5)), .int v4, .ref 10], M)) (by decide +kernel) (hO := mm_own_66) rfl ?_
      exact (ms_66_j127 ha hd h hA : mp_66_127 L xs p n (d + 1) v3 v4 v4 (((M.1 8 v4.toNatClampNeg) - v3) + (M.1 7 5)) M o) z1 z2 (some (.int ((M.1 8 v4.toNatClampNeg) - v3)))
    · replace h := mm_iq hc h
      refine mm_Runs.seq (l := [(125, .iload 5, 2)]) (S2 := (127, [some (.ref 7), z1, z2, some (.int v3), some (.int v4), some (.int ((M.1 8 v4.toNatClampNeg) - v3))], [.int ((M.1 8 v4.toNatClampNeg) - v3), .int v4, .ref 10], M)) (by decide +kernel) (hO := mm_own_66) rfl ?_
      exact (ms_66_j127 ha hd h hA : mp_66_127 L xs p n (d + 1) v3 v4 v4 ((M.1 8 v4.toNatClampNeg) - v3) M o) z1 z2 (some (.int ((M.1 8 v4.toNatClampNeg) - v3)))
  · replace h := mm_iq hc h
    cases h
    exact (show mp_66_134 L xs p n (d + 1) v3 M o from hA) z1 z2 (some (.int v4)) z5
theorem ms_66_L84 {L : Nat} {xs : Nat → Int32} {p : Nat} {n : Nat} {d : Nat} (ha : mm_aat 0 p = some n) (hd : 3 ≤ d) {v3 : Int32} {v4 : Int32} {β : Type} {K : β → mm_M → mm_E → Prop} {F : (Unit) → mm_M → mm_O β} {M : mm_M} {q : (β ⊕ Nat) × mm_M} {o : mm_E} (h : mm_B (mf_66_L84 p n v3 v4 M) F = some q) (hA : mm_A K q o) (hx : ∀ (r : (Unit)) (M2 : mm_M), F r M2 = some q → (fun r M o => mp_66_134 L xs p n (d) v3 M o) r M2 o) : mp_66_84 L xs p n d v3 v4 M o := by
  unfold mf_66_L84 at h
  exact mm_R_loop (step := (fun s M => mf_66_b84 p n v3 s M)) (s := v4) (M := M) (P := (fun s M o => mp_66_84 L xs p n (d) v3 s M o)) (X := (fun r M o => mp_66_134 L xs p n (d) v3 M o)) h hA (fun s M q hq hA => ms_66_b84 ha (v3 := v3) (v4 := s) (M := M) (q := q) hd hq hA) hx
set_option maxRecDepth 8000 in
set_option maxHeartbeats 4000000 in
theorem ms_66_j134 {L : Nat} {xs : Nat → Int32} {p : Nat} {n : Nat} {d : Nat} (ha : mm_aat 0 p = some n) (hd : 3 ≤ d) {v3 : Int32} {M : mm_M} {q : (((Int32) ⊕ (Unit)) ⊕ Nat) × mm_M} {o : mm_E} (h : mf_66_j134 p n v3 M = some q) (hA : mm_A (mm_K2 (fun s M o => mp_66_62 L xs p n (d) s M o) (fun r M o => mp_66_154 L xs p n (d) M o)) q o) : mp_66_134 L xs p n d v3 M o := by
  unfold mf_66_j134 at h
  obtain ⟨d, rfl⟩ := mm_d1 (n := 2) hd
  intro z1 z2 z4 z5
  show mm_Runs L xs (d + 1) 66 (134, [some (.ref 7), z1, z2, some (.int v3), z4, z5], [], M) o
  refine mm_Runs.seq (l := [(134, .aload_n 0, 1), (135, .aload_n 0, 1), (136, .getfield 44, 3)]) (S2 := (139, [some (.ref 7), z1, z2, some (.int v3), z4, z5], [.int (M.1 7 6), .ref 7], M)) (by decide +kernel) (hO := mm_own_66) rfl ?_
  refine mm_R_call (v := mm_wv) h hA (k2 := 67) (as := [.ref 7, .int (M.1 7 6)]) (r := []) rfl (fun _ => rfl) (fun q hq o ho => ms_67 (by omega) hq ho) (fun _ M1 h => ?_)
  show mm_Runs L xs (d + 1) 66 (142, [some (.ref 7), z1, z2, some (.int v3), z4, z5], [], M1) o
  refine mm_Runs.seq (l := [(142, .aload_n 0, 1), (143, .iload_n 3, 1)]) (S2 := (144, [some (.ref 7), z1, z2, some (.int v3), z4, z5], [.int v3, .ref 7], M1)) (by decide +kernel) (hO := mm_own_66) rfl ?_
  refine mm_R_call (v := mm_wv) h hA (k2 := 68) (as := [.ref 7, .int v3]) (r := []) rfl (fun _ => rfl) (fun q hq o ho => ms_68 (by omega) hq ho) (fun _ M2 h => ?_)
  show mm_Runs L xs (d + 1) 66 (147, [some (.ref 7), z1, z2, some (.int v3), z4, z5], [], M2) o
  refine mm_Runs.seq (l := [(147, .iload_n 3, 1), (148, .iconst 2, 1), (149, .imul, 1), (150, .istore_n 3, 1), (151, .goto (-89), 3)]) (S2 := (62, [some (.ref 7), z1, (mm_no2 z2), some (.int (v3 * (2 : Int32))), z4, z5], [], M2)) (by decide +kernel) (hO := mm_own_66) rfl ?_
  cases h
  exact (show mp_66_62 L xs p n (d + 1) (v3 * (2 : Int32)) M2 o from hA) z1 ((mm_no2 z2)) z4 z5
set_option maxRecDepth 8000 in
set_option maxHeartbeats 4000000 in
theorem ms_66_b62 {L : Nat} {xs : Nat → Int32} {p : Nat} {n : Nat} {d : Nat} (ha : mm_aat 0 p = some n) (hd : 3 ≤ d) {v3 : Int32} {M : mm_M} {q : (((Int32) ⊕ (Unit)) ⊕ Nat) × mm_M} {o : mm_E} (h : mf_66_b62 p n v3 M = some q) (hA : mm_A (mm_K2 (fun s M o => mp_66_62 L xs p n (d) s M o) (fun r M o => mp_66_154 L xs p n (d) M o)) q o) : mp_66_62 L xs p n d v3 M o := by
  unfold mf_66_b62 at h
  obtain ⟨d, rfl⟩ := mm_d1 (n := 2) hd
  intro z1 z2 z4 z5
  show mm_Runs L xs (d + 1) 66 (62, [some (.ref 7), z1, z2, some (.int v3), z4, z5], [], M) o
  refine mm_Runs.seq (l := [(62, .iload_n 3, 1), (63, .aload_n 0, 1), (64, .getfield 33, 3)]) (S2 := (67, [some (.ref 7), z1, z2, some (.int v3), z4, z5], [.int (M.1 7 5), .int v3], M)) (by decide +kernel) (hO := mm_own_66) rfl ?_
  refine mm_R_ige (t := 154) rfl rfl rfl (fun hc => ?_) (fun hc => ?_)
  · replace h := mm_ip hc h
    refine mm_Runs.seq (l := [(70, .aload_n 0, 1), (71, .getfield 44, 3), (74, .aload_n 0, 1), (75, .getfield 33, 3)]) (S2 := (78, [some (.ref 7), z1, z2, some (.int v3), z4, z5], [.int (M.1 7 5), .int (M.1 7 6)], M)) (by decide +kernel) (hO := mm_own_66) rfl ?_
    refine mm_R_ige (t := 154) rfl rfl rfl (fun hc => ?_) (fun hc => ?_)
    · replace h := mm_ip hc h
      refine mm_Runs.seq (l := [(81, .iconst 0, 1), (82, .istore 4, 2)]) (S2 := (84, [some (.ref 7), z1, z2, some (.int v3), some (.int (0 : Int32)), z5], [], M)) (by decide +kernel) (hO := mm_own_66) rfl ?_
      have hp : mp_66_84 L xs p n (d + 1) v3 (0 : Int32) M o := by
        refine ms_66_L84 ha hd h hA (fun r2 M1 h => ?_)
        intro y3 y4 y5 y6
        show mm_Runs L xs (d + 1) 66 (134, [some (.ref 7), y3, y4, some (.int v3), y5, y6], [], M1) o
        exact (ms_66_j134 ha hd h hA : mp_66_134 L xs p n (d + 1) v3 M1 o) y3 y4 y5 y6
      exact hp z1 z2 z5
    · replace h := mm_iq hc h
      cases h
      exact (show mp_66_154 L xs p n (d + 1) M o from hA) z1 z2 (some (.int v3)) z4 z5
  · replace h := mm_iq hc h
    cases h
    exact (show mp_66_154 L xs p n (d + 1) M o from hA) z1 z2 (some (.int v3)) z4 z5
theorem ms_66_L62 {L : Nat} {xs : Nat → Int32} {p : Nat} {n : Nat} {d : Nat} (ha : mm_aat 0 p = some n) (hd : 3 ≤ d) {v3 : Int32} {β : Type} {K : β → mm_M → mm_E → Prop} {F : (Unit) → mm_M → mm_O β} {M : mm_M} {q : (β ⊕ Nat) × mm_M} {o : mm_E} (h : mm_B (mf_66_L62 p n v3 M) F = some q) (hA : mm_A K q o) (hx : ∀ (r : (Unit)) (M2 : mm_M), F r M2 = some q → (fun r M o => mp_66_154 L xs p n (d) M o) r M2 o) : mp_66_62 L xs p n d v3 M o := by
  unfold mf_66_L62 at h
  exact mm_R_loop (step := (fun s M => mf_66_b62 p n s M)) (s := v3) (M := M) (P := (fun s M o => mp_66_62 L xs p n (d) s M o)) (X := (fun r M o => mp_66_154 L xs p n (d) M o)) h hA (fun s M q hq hA => ms_66_b62 ha (v3 := s) (M := M) (q := q) hd hq hA) hx
def mp_66_156 (L : Nat) (xs : Nat → Int32) (p : Nat) (n : Nat) (d : Nat) (v3 : Int32) (M : mm_M) (o : mm_E) : Prop := ∀ z1 z2 z4 z5 : Option Value, mm_Runs L xs d 66 (156, [some (.ref 7), z1, z2, some (.int v3), z4, z5], [], M) o
def mp_66_177 (L : Nat) (xs : Nat → Int32) (p : Nat) (n : Nat) (d : Nat) (M : mm_M) (o : mm_E) : Prop := ∀ z1 z2 z3 z4 z5 : Option Value, mm_Runs L xs d 66 (177, [some (.ref 7), z1, z2, z3, z4, z5], [], M) o
set_option maxRecDepth 8000 in
set_option maxHeartbeats 4000000 in
theorem ms_66_b156 {L : Nat} {xs : Nat → Int32} {p : Nat} {n : Nat} {d : Nat} (ha : mm_aat 0 p = some n) (hd : 3 ≤ d) {v3 : Int32} {M : mm_M} {q : (((Int32) ⊕ (Unit)) ⊕ Nat) × mm_M} {o : mm_E} (h : mf_66_b156 p n v3 M = some q) (hA : mm_A (mm_K2 (fun s M o => mp_66_156 L xs p n (d) s M o) (fun r M o => mp_66_177 L xs p n (d) M o)) q o) : mp_66_156 L xs p n d v3 M o := by
  unfold mf_66_b156 at h
  obtain ⟨d, rfl⟩ := mm_d1 (n := 2) hd
  intro z1 z2 z4 z5
  show mm_Runs L xs (d + 1) 66 (156, [some (.ref 7), z1, z2, some (.int v3), z4, z5], [], M) o
  refine mm_Runs.seq (l := [(156, .iload_n 3, 1), (157, .aload_n 0, 1), (158, .getfield 33, 3)]) (S2 := (161, [some (.ref 7), z1, z2, some (.int v3), z4, z5], [.int (M.1 7 5), .int v3], M)) (by decide +kernel) (hO := mm_own_66) rfl ?_
  refine mm_R_ige (t := 177) rfl rfl rfl (fun hc => ?_) (fun hc => ?_)
  · replace h := mm_ip hc h
    refine mm_Runs.seq (l := [(164, .aload_n 0, 1), (165, .getfield 18, 3), (168, .iload_n 3, 1), (169, .iload_n 3, 1)]) (S2 := (170, [some (.ref 7), z1, z2, some (.int v3), z4, z5], [.int v3, .int v3, .ref 10], M)) (by decide +kernel) (hO := mm_own_66) rfl ?_
    obtain ⟨hb, h⟩ := mm_gd h
    refine mm_R_iast rfl rfl hb ?_
    refine mm_Runs.seq (l := [(171, .iinc 3 1, 3), (174, .goto (-18), 3)]) (S2 := (156, [some (.ref 7), z1, (mm_no2 z2), some (.int (v3 + (1 : Int32))), z4, z5], [], (mm_pi M 10 v3.toNatClampNeg v3))) (by decide +kernel) (hO := mm_own_66) rfl ?_
    cases h
    exact (show mp_66_156 L xs p n (d + 1) (v3 + (1 : Int32)) (mm_pi M 10 v3.toNatClampNeg v3) o from hA) z1 ((mm_no2 z2)) z4 z5
  · replace h := mm_iq hc h
    cases h
    exact (show mp_66_177 L xs p n (d + 1) M o from hA) z1 z2 (some (.int v3)) z4 z5
theorem ms_66_L156 {L : Nat} {xs : Nat → Int32} {p : Nat} {n : Nat} {d : Nat} (ha : mm_aat 0 p = some n) (hd : 3 ≤ d) {v3 : Int32} {β : Type} {K : β → mm_M → mm_E → Prop} {F : (Unit) → mm_M → mm_O β} {M : mm_M} {q : (β ⊕ Nat) × mm_M} {o : mm_E} (h : mm_B (mf_66_L156 p n v3 M) F = some q) (hA : mm_A K q o) (hx : ∀ (r : (Unit)) (M2 : mm_M), F r M2 = some q → (fun r M o => mp_66_177 L xs p n (d) M o) r M2 o) : mp_66_156 L xs p n d v3 M o := by
  unfold mf_66_L156 at h
  exact mm_R_loop (step := (fun s M => mf_66_b156 p n s M)) (s := v3) (M := M) (P := (fun s M o => mp_66_156 L xs p n (d) s M o)) (X := (fun r M o => mp_66_177 L xs p n (d) M o)) h hA (fun s M q hq hA => ms_66_b156 ha (v3 := s) (M := M) (q := q) hd hq hA) hx
set_option maxRecDepth 8000 in
set_option maxHeartbeats 4000000 in
theorem ms_66_j177 {L : Nat} {xs : Nat → Int32} {p : Nat} {n : Nat} {d : Nat} (ha : mm_aat 0 p = some n) (hd : 3 ≤ d) {M : mm_M} {q : (Unit ⊕ Nat) × mm_M} {o : mm_E} (h : mf_66_j177 p n M = some q) (hA : mm_A (mm_Kr mm_wv) q o) : mp_66_177 L xs p n d M o := by
  unfold mf_66_j177 at h
  obtain ⟨d, rfl⟩ := mm_d1 (n := 2) hd
  intro z1 z2 z3 z4 z5
  show mm_Runs L xs (d + 1) 66 (177, [some (.ref 7), z1, z2, z3, z4, z5], [], M) o
  refine mm_Runs.seq (l := [(177, .aload_n 0, 1), (178, .aload_n 0, 1), (179, .getfield 44, 3)]) (S2 := (182, [some (.ref 7), z1, z2, z3, z4, z5], [.int (M.1 7 6), .ref 7], M)) (by decide +kernel) (hO := mm_own_66) rfl ?_
  refine mm_R_call (v := mm_wv) h hA (k2 := 67) (as := [.ref 7, .int (M.1 7 6)]) (r := []) rfl (fun _ => rfl) (fun q hq o ho => ms_67 (by omega) hq ho) (fun _ M1 h => ?_)
  show mm_Runs L xs (d + 1) 66 (185, [some (.ref 7), z1, z2, z3, z4, z5], [], M1) o
  cases h
  exact mm_R_retv rfl rfl hA
set_option maxRecDepth 8000 in
set_option maxHeartbeats 4000000 in
theorem ms_66_j48 {L : Nat} {xs : Nat → Int32} {p : Nat} {n : Nat} {d : Nat} (ha : mm_aat 0 p = some n) (hd : 3 ≤ d) {M : mm_M} {q : (Unit ⊕ Nat) × mm_M} {o : mm_E} (h : mf_66_j48 p n M = some q) (hA : mm_A (mm_Kr mm_wv) q o) : mp_66_48 L xs p n d M o := by
  unfold mf_66_j48 at h
  obtain ⟨d, rfl⟩ := mm_d1 (n := 2) hd
  intro z1 z2 z3 z4 z5
  show mm_Runs L xs (d + 1) 66 (48, [some (.ref 7), z1, z2, z3, z4, z5], [], M) o
  refine mm_Runs.seq (l := [(48, .aload_n 0, 1), (49, .sipush 256, 3)]) (S2 := (52, [some (.ref 7), z1, z2, z3, z4, z5], [.int (256 : Int32), .ref 7], M)) (by decide +kernel) (hO := mm_own_66) rfl ?_
  refine mm_R_call (v := mm_wv) h hA (k2 := 67) (as := [.ref 7, .int (256 : Int32)]) (r := []) rfl (fun _ => rfl) (fun q hq o ho => ms_67 (by omega) hq ho) (fun _ M1 h => ?_)
  show mm_Runs L xs (d + 1) 66 (55, [some (.ref 7), z1, z2, z3, z4, z5], [], M1) o
  refine mm_Runs.seq (l := [(55, .aload_n 0, 1), (56, .iconst 0, 1)]) (S2 := (57, [some (.ref 7), z1, z2, z3, z4, z5], [.int (0 : Int32), .ref 7], M1)) (by decide +kernel) (hO := mm_own_66) rfl ?_
  refine mm_R_call (v := mm_wv) h hA (k2 := 68) (as := [.ref 7, .int (0 : Int32)]) (r := []) rfl (fun _ => rfl) (fun q hq o ho => ms_68 (by omega) hq ho) (fun _ M2 h => ?_)
  show mm_Runs L xs (d + 1) 66 (60, [some (.ref 7), z1, z2, z3, z4, z5], [], M2) o
  refine mm_Runs.seq (l := [(60, .iconst 1, 1), (61, .istore_n 3, 1)]) (S2 := (62, [some (.ref 7), z1, (mm_no2 z2), some (.int (1 : Int32)), z4, z5], [], M2)) (by decide +kernel) (hO := mm_own_66) rfl ?_
  have hp : mp_66_62 L xs p n (d + 1) (1 : Int32) M2 o := by
    refine ms_66_L62 ha hd h hA (fun r4 M3 h => ?_)
    intro y5 y6 y7 y8 y9
    show mm_Runs L xs (d + 1) 66 (154, [some (.ref 7), y5, y6, y7, y8, y9], [], M3) o
    refine mm_Runs.seq (l := [(154, .iconst 0, 1), (155, .istore_n 3, 1)]) (S2 := (156, [some (.ref 7), y5, (mm_no2 y6), some (.int (0 : Int32)), y8, y9], [], M3)) (by decide +kernel) (hO := mm_own_66) rfl ?_
    have hp : mp_66_156 L xs p n (d + 1) (0 : Int32) M3 o := by
      refine ms_66_L156 ha hd h hA (fun r11 M10 h => ?_)
      intro y12 y13 y14 y15 y16
      show mm_Runs L xs (d + 1) 66 (177, [some (.ref 7), y12, y13, y14, y15, y16], [], M10) o
      exact (ms_66_j177 ha hd h hA : mp_66_177 L xs p n (d + 1) M10 o) y12 y13 y14 y15 y16
    exact hp y5 ((mm_no2 y6)) y8 y9
  exact hp z1 ((mm_no2 z2)) z4 z5
set_option maxRecDepth 8000 in
set_option maxHeartbeats 4000000 in
theorem ms_66 {L : Nat} {xs : Nat → Int32} {p : Nat} {n : Nat} {d : Nat} (ha : mm_aat 0 p = some n) (hd : 3 ≤ d) {v2 : Int32} {M : mm_M} {q : (Unit ⊕ Nat) × mm_M} {o : mm_E} (h : mf_66 p n v2 M = some q) (hA : mm_A (mm_Kr mm_wv) q o) : mm_Runs L xs d 66 (0, mm_ent (mm_ml 66) [.ref 7, .ref p, .int v2], [], M) o := by
  unfold mf_66 at h
  obtain ⟨d, rfl⟩ := mm_d1 (n := 2) hd
  show mm_Runs L xs (d + 1) 66 (0, [some (.ref 7), some (.ref p), some (.int v2), none, none, none], [], M) o
  refine mm_Runs.seq (l := [(0, .aload_n 0, 1), (1, .iload_n 2, 1), (2, .aload_n 1, 1)]) (S2 := (3, [some (.ref 7), some (.ref p), some (.int v2), none, none, none], [.ref p, .int v2, .ref 7], M)) (by decide +kernel) (hO := mm_own_66) rfl ?_
  refine mm_R_alen rfl ha ?_
  refine mm_Runs.seq (l := [(4, .sipush 12500, 3)]) (S2 := (7, [some (.ref 7), some (.ref p), some (.int v2), none, none, none], [.int (12500 : Int32), .int (Int32.ofNat n), .int v2, .ref 7], M)) (by decide +kernel) (hO := mm_own_66) rfl ?_
  refine mm_R_intr (st2 := [.int (mm_min (Int32.ofNat n) (12500 : Int32)), .int v2, .ref 7]) (M2 := M) rfl rfl (by omega) ?_
  refine mm_R_intr (st2 := [.int (mm_min v2 (mm_min (Int32.ofNat n) (12500 : Int32))), .ref 7]) (M2 := M) rfl rfl (by omega) ?_
  refine mm_Runs.seq (l := [(13, .putfield 33, 3), (16, .iconst 0, 1), (17, .istore_n 3, 1)]) (S2 := (18, [some (.ref 7), some (.ref p), some (.int v2), some (.int (0 : Int32)), none, none], [], (mm_pi M 7 5 (mm_min v2 (mm_min (Int32.ofNat n) (12500 : Int32)))))) (by decide +kernel) (hO := mm_own_66) rfl ?_
  have hp : mp_66_18 L xs p n (d + 1) (0 : Int32) (mm_pi M 7 5 (mm_min v2 (mm_min (Int32.ofNat n) (12500 : Int32)))) o := by
    refine ms_66_L18 ha hd h hA (fun r2 M1 h => ?_)
    intro y3 y4 y5 y6 y7
    show mm_Runs L xs (d + 1) 66 (48, [some (.ref 7), y3, y4, y5, y6, y7], [], M1) o
    exact (ms_66_j48 ha hd h hA : mp_66_48 L xs p n (d + 1) M1 o) y3 y4 y5 y6 y7
  exact hp (some (.int v2)) none none
-- 151: PlainPacks$Sorted.listOccurring()V (depth 1)
theorem mm_own_151 : mm_own 151 = 10 := rfl
def mp_151_10 (L : Nat) (xs : Nat → Int32) (d : Nat) (v1 : Int32) (M : mm_M) (o : mm_E) : Prop := mm_Runs L xs d 151 (10, [some (.ref 42), some (.int v1)], [], M) o
def mp_151_39 (L : Nat) (xs : Nat → Int32) (d : Nat) (M : mm_M) (o : mm_E) : Prop := ∀ z1 : Option Value, mm_Runs L xs d 151 (39, [some (.ref 42), z1], [], M) o
set_option maxRecDepth 8000 in
set_option maxHeartbeats 4000000 in
theorem ms_151_b10 {L : Nat} {xs : Nat → Int32} {d : Nat} (hd : 1 ≤ d) {v1 : Int32} {M : mm_M} {q : (((Int32) ⊕ (Unit)) ⊕ Nat) × mm_M} {o : mm_E} (h : mf_151_b10 v1 M = some q) (hA : mm_A (mm_K2 (fun s M o => mp_151_10 L xs (d) s M o) (fun r M o => mp_151_39 L xs (d) M o)) q o) : mp_151_10 L xs d v1 M o := by
  unfold mf_151_b10 at h
  obtain ⟨d, rfl⟩ := mm_d1 (n := 0) hd
  show mm_Runs L xs (d + 1) 151 (10, [some (.ref 42), some (.int v1)], [], M) o
  refine mm_Runs.seq (l := [(10, .iload_n 1, 1), (11, .aload_n 0, 1), (12, .getfield 124, 3)]) (S2 := (15, [some (.ref 42), some (.int v1)], [.int (M.1 42 12), .int v1], M)) (by decide +kernel) (hO := mm_own_151) rfl ?_
  refine mm_R_ige (t := 39) rfl rfl rfl (fun hc => ?_) (fun hc => ?_)
  · replace h := mm_ip hc h
    refine mm_Runs.seq (l := [(18, .aload_n 0, 1), (19, .getfield 33, 3), (22, .aload_n 0, 1), (23, .getfield 27, 3), (26, .iload_n 1, 1)]) (S2 := (27, [some (.ref 42), some (.int v1)], [.int v1, .ref 47, .ref 49], M)) (by decide +kernel) (hO := mm_own_151) rfl ?_
    obtain ⟨hb, h⟩ := mm_gd h
    refine mm_R_iald rfl rfl hb ?_
    refine mm_Runs.seq (l := [(28, .dup2, 1)]) (S2 := (29, [some (.ref 42), some (.int v1)], [.int (M.1 47 v1.toNatClampNeg), .ref 49, .int (M.1 47 v1.toNatClampNeg), .ref 49], M)) (by decide +kernel) (hO := mm_own_151) rfl ?_
    obtain ⟨hb, h⟩ := mm_gd h
    refine mm_R_iald rfl rfl hb ?_
    refine mm_Runs.seq (l := [(30, .iconst 1, 1), (31, .iadd, 1)]) (S2 := (32, [some (.ref 42), some (.int v1)], [.int ((M.1 49 (M.1 47 v1.toNatClampNeg).toNatClampNeg) + (1 : Int32)), .int (M.1 47 v1.toNatClampNeg), .ref 49], M)) (by decide +kernel) (hO := mm_own_151) rfl ?_
    obtain ⟨hb, h⟩ := mm_gd h
    refine mm_R_iast rfl rfl hb ?_
    refine mm_Runs.seq (l := [(33, .iinc 1 1, 3), (36, .goto (-26), 3)]) (S2 := (10, [some (.ref 42), some (.int (v1 + (1 : Int32)))], [], (mm_pi M 49 (M.1 47 v1.toNatClampNeg).toNatClampNeg ((M.1 49 (M.1 47 v1.toNatClampNeg).toNatClampNeg) + (1 : Int32))))) (by decide +kernel) (hO := mm_own_151) rfl ?_
    cases h
    exact (show mp_151_10 L xs (d + 1) (v1 + (1 : Int32)) (mm_pi M 49 (M.1 47 v1.toNatClampNeg).toNatClampNeg ((M.1 49 (M.1 47 v1.toNatClampNeg).toNatClampNeg) + (1 : Int32))) o from hA)
  · replace h := mm_iq hc h
    cases h
    exact (show mp_151_39 L xs (d + 1) M o from hA) (some (.int v1))
theorem ms_151_L10 {L : Nat} {xs : Nat → Int32} {d : Nat} (hd : 1 ≤ d) {v1 : Int32} {β : Type} {K : β → mm_M → mm_E → Prop} {F : (Unit) → mm_M → mm_O β} {M : mm_M} {q : (β ⊕ Nat) × mm_M} {o : mm_E} (h : mm_B (mf_151_L10 v1 M) F = some q) (hA : mm_A K q o) (hx : ∀ (r : (Unit)) (M2 : mm_M), F r M2 = some q → (fun r M o => mp_151_39 L xs (d) M o) r M2 o) : mp_151_10 L xs d v1 M o := by
  unfold mf_151_L10 at h
  exact mm_R_loop (step := (fun s M => mf_151_b10 s M)) (s := v1) (M := M) (P := (fun s M o => mp_151_10 L xs (d) s M o)) (X := (fun r M o => mp_151_39 L xs (d) M o)) h hA (fun s M q hq hA => ms_151_b10 (v1 := s) (M := M) (q := q) hd hq hA) hx
def mp_151_46 (L : Nat) (xs : Nat → Int32) (d : Nat) (v1 : Int32) (M : mm_M) (o : mm_E) : Prop := mm_Runs L xs d 151 (46, [some (.ref 42), some (.int v1)], [], M) o
def mp_151_88 (L : Nat) (xs : Nat → Int32) (d : Nat) (M : mm_M) (o : mm_E) : Prop := ∀ z0 z1 : Option Value, mm_Runs L xs d 151 (88, [z0, z1], [], M) o
set_option maxRecDepth 8000 in
set_option maxHeartbeats 4000000 in
theorem ms_151_b46 {L : Nat} {xs : Nat → Int32} {d : Nat} (hd : 1 ≤ d) {v1 : Int32} {M : mm_M} {q : (((Int32) ⊕ (Unit)) ⊕ Nat) × mm_M} {o : mm_E} (h : mf_151_b46 v1 M = some q) (hA : mm_A (mm_K2 (fun s M o => mp_151_46 L xs (d) s M o) (fun r M o => mp_151_88 L xs (d) M o)) q o) : mp_151_46 L xs d v1 M o := by
  unfold mf_151_b46 at h
  obtain ⟨d, rfl⟩ := mm_d1 (n := 0) hd
  show mm_Runs L xs (d + 1) 151 (46, [some (.ref 42), some (.int v1)], [], M) o
  refine mm_Runs.seq (l := [(46, .iload_n 1, 1), (47, .sipush 256, 3)]) (S2 := (50, [some (.ref 42), some (.int v1)], [.int (256 : Int32), .int v1], M)) (by decide +kernel) (hO := mm_own_151) rfl ?_
  refine mm_R_ige (t := 88) rfl rfl rfl (fun hc => ?_) (fun hc => ?_)
  · replace h := mm_ip hc h
    refine mm_Runs.seq (l := [(53, .aload_n 0, 1), (54, .getfield 33, 3), (57, .iload_n 1, 1)]) (S2 := (58, [some (.ref 42), some (.int v1)], [.int v1, .ref 49], M)) (by decide +kernel) (hO := mm_own_151) rfl ?_
    obtain ⟨hb, h⟩ := mm_gd h
    refine mm_R_iald rfl rfl hb ?_
    refine mm_R_zle (t := 82) rfl rfl rfl (fun hc => ?_) (fun hc => ?_)
    · replace h := mm_ip hc h
      refine mm_Runs.seq (l := [(62, .aload_n 0, 1), (63, .getfield 24, 3), (66, .aload_n 0, 1), (67, .getfield 125, 3), (70, .iload_n 1, 1)]) (S2 := (71, [some (.ref 42), some (.int v1)], [.int v1, .int (M.1 42 9), .ref 46], M)) (by decide +kernel) (hO := mm_own_151) rfl ?_
      obtain ⟨hb, h⟩ := mm_gd h
      refine mm_R_iast rfl rfl hb ?_
      refine mm_Runs.seq (l := [(72, .aload_n 0, 1), (73, .dup, 1), (74, .getfield 125, 3), (77, .iconst 1, 1), (78, .iadd, 1), (79, .putfield 125, 3), (82, .iinc 1 1, 3), (85, .goto (-39), 3)]) (S2 := (46, [some (.ref 42), some (.int (v1 + (1 : Int32)))], [], (mm_pi (mm_pi M 46 (M.1 42 9).toNatClampNeg v1) 42 9 ((M.1 42 9) + (1 : Int32))))) (by decide +kernel) (hO := mm_own_151) rfl ?_
      cases h
      exact (show mp_151_46 L xs (d + 1) (v1 + (1 : Int32)) (mm_pi (mm_pi M 46 (M.1 42 9).toNatClampNeg v1) 42 9 ((M.1 42 9) + (1 : Int32))) o from hA)
    · replace h := mm_iq hc h
      refine mm_Runs.seq (l := [(82, .iinc 1 1, 3), (85, .goto (-39), 3)]) (S2 := (46, [some (.ref 42), some (.int (v1 + (1 : Int32)))], [], M)) (by decide +kernel) (hO := mm_own_151) rfl ?_
      cases h
      exact (show mp_151_46 L xs (d + 1) (v1 + (1 : Int32)) M o from hA)
  · replace h := mm_iq hc h
    cases h
    exact (show mp_151_88 L xs (d + 1) M o from hA) (some (.ref 42)) (some (.int v1))
theorem ms_151_L46 {L : Nat} {xs : Nat → Int32} {d : Nat} (hd : 1 ≤ d) {v1 : Int32} {β : Type} {K : β → mm_M → mm_E → Prop} {F : (Unit) → mm_M → mm_O β} {M : mm_M} {q : (β ⊕ Nat) × mm_M} {o : mm_E} (h : mm_B (mf_151_L46 v1 M) F = some q) (hA : mm_A K q o) (hx : ∀ (r : (Unit)) (M2 : mm_M), F r M2 = some q → (fun r M o => mp_151_88 L xs (d) M o) r M2 o) : mp_151_46 L xs d v1 M o := by
  unfold mf_151_L46 at h
  exact mm_R_loop (step := (fun s M => mf_151_b46 s M)) (s := v1) (M := M) (P := (fun s M o => mp_151_46 L xs (d) s M o)) (X := (fun r M o => mp_151_88 L xs (d) M o)) h hA (fun s M q hq hA => ms_151_b46 (v1 := s) (M := M) (q := q) hd hq hA) hx
set_option maxRecDepth 8000 in
set_option maxHeartbeats 4000000 in
theorem ms_151 {L : Nat} {xs : Nat → Int32} {d : Nat} (hd : 1 ≤ d) {M : mm_M} {q : (Unit ⊕ Nat) × mm_M} {o : mm_E} (h : mf_151 M = some q) (hA : mm_A (mm_Kr mm_wv) q o) : mm_Runs L xs d 151 (0, mm_ent (mm_ml 151) [.ref 42], [], M) o := by
  unfold mf_151 at h
  obtain ⟨d, rfl⟩ := mm_d1 (n := 0) hd
  show mm_Runs L xs (d + 1) 151 (0, [some (.ref 42), none], [], M) o
  refine mm_Runs.seq (l := [(0, .aload_n 0, 1), (1, .getfield 33, 3), (4, .iconst 0, 1)]) (S2 := (5, [some (.ref 42), none], [.int (0 : Int32), .ref 49], M)) (by decide +kernel) (hO := mm_own_151) rfl ?_
  refine mm_R_call (v := mm_wv) h hA (k2 := 290) (as := [.ref 49, .int (0 : Int32)]) (r := []) rfl (fun _ => rfl) (fun q hq o ho => ms_290 rfl (by omega) hq ho) (fun _ M1 h => ?_)
  show mm_Runs L xs (d + 1) 151 (8, [some (.ref 42), none], [], M1) o
  refine mm_Runs.seq (l := [(8, .iconst 0, 1), (9, .istore_n 1, 1)]) (S2 := (10, [some (.ref 42), some (.int (0 : Int32))], [], M1)) (by decide +kernel) (hO := mm_own_151) rfl ?_
  have hp : mp_151_10 L xs (d + 1) (0 : Int32) M1 o := by
    refine ms_151_L10 hd h hA (fun r3 M2 h => ?_)
    intro y4
    show mm_Runs L xs (d + 1) 151 (39, [some (.ref 42), y4], [], M2) o
    refine mm_Runs.seq (l := [(39, .aload_n 0, 1), (40, .iconst 0, 1), (41, .putfield 125, 3), (44, .iconst 0, 1), (45, .istore_n 1, 1)]) (S2 := (46, [some (.ref 42), some (.int (0 : Int32))], [], (mm_pi M2 42 9 (0 : Int32)))) (by decide +kernel) (hO := mm_own_151) rfl ?_
    have hp : mp_151_46 L xs (d + 1) (0 : Int32) (mm_pi M2 42 9 (0 : Int32)) o := by
      refine ms_151_L46 hd h hA (fun r6 M5 h => ?_)
      intro y7 y8
      show mm_Runs L xs (d + 1) 151 (88, [y7, y8], [], M5) o
      cases h
      exact mm_R_retv rfl rfl hA
    exact hp
  exact hp
-- 153: PlainPacks$Sorted.addLetter(I)V (depth 0)
theorem mm_own_153 : mm_own 153 = 10 := rfl
set_option maxRecDepth 8000 in
set_option maxHeartbeats 4000000 in
theorem ms_153 {L : Nat} {xs : Nat → Int32} {d : Nat} (hd : 0 ≤ d) {v1 : Int32} {M : mm_M} {q : (Unit ⊕ Nat) × mm_M} {o : mm_E} (h : mf_153 v1 M = some q) (hA : mm_A (mm_Kr mm_wv) q o) : mm_Runs L xs d 153 (0, mm_ent (mm_ml 153) [.ref 42, .int v1], [], M) o := by
  unfold mf_153 at h
  show mm_Runs L xs (d) 153 (0, [some (.ref 42), some (.int v1)], [], M) o
  refine mm_Runs.seq (l := [(0, .aload_n 0, 1), (1, .getfield 196, 3), (4, .aload_n 0, 1), (5, .getfield 30, 3), (8, .arraylength, 1)]) (S2 := (9, [some (.ref 42), some (.int v1)], [.int (16384 : Int32), .int (M.1 42 15)], M)) (by decide +kernel) (hO := mm_own_153) rfl ?_
  refine mm_R_ige (t := 32) rfl rfl rfl (fun hc => ?_) (fun hc => ?_)
  · replace h := mm_ip hc h
    refine mm_Runs.seq (l := [(12, .aload_n 0, 1), (13, .getfield 30, 3), (16, .aload_n 0, 1), (17, .getfield 196, 3), (20, .iload_n 1, 1)]) (S2 := (21, [some (.ref 42), some (.int v1)], [.int v1, .int (M.1 42 15), .ref 48], M)) (by decide +kernel) (hO := mm_own_153) rfl ?_
    obtain ⟨hb, h⟩ := mm_gd h
    refine mm_R_iast rfl rfl hb ?_
    refine mm_Runs.seq (l := [(22, .aload_n 0, 1), (23, .dup, 1), (24, .getfield 196, 3), (27, .iconst 1, 1), (28, .iadd, 1), (29, .putfield 196, 3)]) (S2 := (32, [some (.ref 42), some (.int v1)], [], (mm_pi (mm_pi M 48 (M.1 42 15).toNatClampNeg v1) 42 15 ((M.1 42 15) + (1 : Int32))))) (by decide +kernel) (hO := mm_own_153) rfl ?_
    cases h
    exact mm_R_retv rfl rfl hA
  · replace h := mm_iq hc h
    cases h
    exact mm_R_retv rfl rfl hA
-- 154: PlainPacks$Sorted.closeRun()V (depth 1)
theorem mm_own_154 : mm_own 154 = 10 := rfl
def mp_154_0 (L : Nat) (xs : Nat → Int32) (d : Nat) (M : mm_M) (o : mm_E) : Prop := ∀ z1 : Option Value, mm_Runs L xs d 154 (0, [some (.ref 42), z1], [], M) o
def mp_154_45 (L : Nat) (xs : Nat → Int32) (d : Nat) (M : mm_M) (o : mm_E) : Prop := ∀ z0 z1 : Option Value, mm_Runs L xs d 154 (45, [z0, z1], [], M) o
def mp_154_22 (L : Nat) (xs : Nat → Int32) (d : Nat) (s0 : Int32) (M : mm_M) (o : mm_E) : Prop := ∀ z1 : Option Value, mm_Runs L xs d 154 (22, [some (.ref 42), z1], [.int s0], M) o
set_option maxRecDepth 8000 in
set_option maxHeartbeats 4000000 in
theorem ms_154_j22 {L : Nat} {xs : Nat → Int32} {d : Nat} (hd : 1 ≤ d) {s0 : Int32} {M : mm_M} {q : (((Unit) ⊕ (Unit)) ⊕ Nat) × mm_M} {o : mm_E} (h : mf_154_j22 s0 M = some q) (hA : mm_A (mm_K2 (fun s M o => mp_154_0 L xs (d) M o) (fun r M o => mp_154_45 L xs (d) M o)) q o) : mp_154_22 L xs d s0 M o := by
  unfold mf_154_j22 at h
  obtain ⟨d, rfl⟩ := mm_d1 (n := 0) hd
  intro z1
  show mm_Runs L xs (d + 1) 154 (22, [some (.ref 42), z1], [.int s0], M) o
  refine mm_Runs.seq (l := [(22, .istore_n 1, 1), (23, .aload_n 0, 1), (24, .iload_n 1, 1), (25, .iconst 1, 1), (26, .isub, 1)]) (S2 := (27, [some (.ref 42), some (.int s0)], [.int (s0 - (1 : Int32)), .ref 42], M)) (by decide +kernel) (hO := mm_own_154) rfl ?_
  refine mm_R_call (v := mm_wv) h hA (k2 := 153) (as := [.ref 42, .int (s0 - (1 : Int32))]) (r := []) rfl (fun _ => rfl) (fun q hq o ho => ms_153 (by omega) hq ho) (fun _ M1 h => ?_)
  show mm_Runs L xs (d + 1) 154 (30, [some (.ref 42), some (.int s0)], [], M1) o
  refine mm_Runs.seq (l := [(30, .aload_n 0, 1), (31, .aload_n 0, 1), (32, .getfield 199, 3), (35, .iload_n 1, 1), (36, .isub, 1), (37, .iconst 2, 1), (38, .idiv, 1), (39, .putfield 199, 3), (42, .goto (-42), 3)]) (S2 := (0, [some (.ref 42), some (.int s0)], [], (mm_pi M1 42 16 (((M1.1 42 16) - s0) / (2 : Int32))))) (by decide +kernel) (hO := mm_own_154) rfl ?_
  cases h
  exact (show mp_154_0 L xs (d + 1) (mm_pi M1 42 16 (((M1.1 42 16) - s0) / (2 : Int32))) o from hA) (some (.int s0))
set_option maxRecDepth 8000 in
set_option maxHeartbeats 4000000 in
theorem ms_154_b0 {L : Nat} {xs : Nat → Int32} {d : Nat} (hd : 1 ≤ d) {M : mm_M} {q : (((Unit) ⊕ (Unit)) ⊕ Nat) × mm_M} {o : mm_E} (h : mf_154_b0 M = some q) (hA : mm_A (mm_K2 (fun s M o => mp_154_0 L xs (d) M o) (fun r M o => mp_154_45 L xs (d) M o)) q o) : mp_154_0 L xs d M o := by
  unfold mf_154_b0 at h
  obtain ⟨d, rfl⟩ := mm_d1 (n := 0) hd
  intro z1
  show mm_Runs L xs (d + 1) 154 (0, [some (.ref 42), z1], [], M) o
  refine mm_Runs.seq (l := [(0, .aload_n 0, 1), (1, .getfield 199, 3)]) (S2 := (4, [some (.ref 42), z1], [.int (M.1 42 16)], M)) (by decide +kernel) (hO := mm_own_154) rfl ?_
  refine mm_R_zle (t := 45) rfl rfl rfl (fun hc => ?_) (fun hc => ?_)
  · replace h := mm_ip hc h
    refine mm_Runs.seq (l := [(7, .aload_n 0, 1), (8, .getfield 199, 3), (11, .iconst 2, 1), (12, .irem, 1), (13, .iconst 1, 1)]) (S2 := (14, [some (.ref 42), z1], [.int (1 : Int32), .int (mm_rem (M.1 42 16) (2 : Int32))], M)) (by decide +kernel) (hO := mm_own_154) rfl ?_
    refine mm_R_ine (t := 21) rfl rfl rfl (fun hc => ?_) (fun hc => ?_)
    · replace h := mm_ip hc h
      refine mm_Runs.seq (l := [(17, .iconst 1, 1), (18, .goto 4, 3)]) (S2 := (22, [some (.ref 42), z1], [.int (1 : Int32)], M)) (by decide +kernel) (hO := mm_own_154) rfl ?_
      exact (ms_154_j22 hd h hA : mp_154_22 L xs (d + 1) (1 : Int32) M o) z1
    · replace h := mm_iq hc h
      refine mm_Runs.seq (l := [(21, .iconst 2, 1)]) (S2 := (22, [some (.ref 42), z1], [.int (2 : Int32)], M)) (by decide +kernel) (hO := mm_own_154) rfl ?_
      exact (ms_154_j22 hd h hA : mp_154_22 L xs (d + 1) (2 : Int32) M o) z1
  · replace h := mm_iq hc h
    cases h
    exact (show mp_154_45 L xs (d + 1) M o from hA) (some (.ref 42)) z1
theorem ms_154_L0 {L : Nat} {xs : Nat → Int32} {d : Nat} (hd : 1 ≤ d) {β : Type} {K : β → mm_M → mm_E → Prop} {F : (Unit) → mm_M → mm_O β} {M : mm_M} {q : (β ⊕ Nat) × mm_M} {o : mm_E} (h : mm_B (mf_154_L0 () M) F = some q) (hA : mm_A K q o) (hx : ∀ (r : (Unit)) (M2 : mm_M), F r M2 = some q → (fun r M o => mp_154_45 L xs (d) M o) r M2 o) : mp_154_0 L xs d M o := by
  unfold mf_154_L0 at h
  exact mm_R_loop (step := (fun s M => mf_154_b0 M)) (s := ()) (M := M) (P := (fun s M o => mp_154_0 L xs (d) M o)) (X := (fun r M o => mp_154_45 L xs (d) M o)) h hA (fun s M q hq hA => ms_154_b0 (M := M) (q := q) hd hq hA) hx
set_option maxRecDepth 8000 in
set_option maxHeartbeats 4000000 in
theorem ms_154 {L : Nat} {xs : Nat → Int32} {d : Nat} (hd : 1 ≤ d) {M : mm_M} {q : (Unit ⊕ Nat) × mm_M} {o : mm_E} (h : mf_154 M = some q) (hA : mm_A (mm_Kr mm_wv) q o) : mm_Runs L xs d 154 (0, mm_ent (mm_ml 154) [.ref 42], [], M) o := by
  unfold mf_154 at h
  obtain ⟨d, rfl⟩ := mm_d1 (n := 0) hd
  show mm_Runs L xs (d + 1) 154 (0, [some (.ref 42), none], [], M) o
  have hp : mp_154_0 L xs (d + 1) M o := by
    refine ms_154_L0 hd h hA (fun r2 M1 h => ?_)
    intro y3 y4
    show mm_Runs L xs (d + 1) 154 (45, [y3, y4], [], M1) o
    cases h
    exact mm_R_retv rfl rfl hA
  exact hp none
-- 152: PlainPacks$Sorted.placeInRow(I)I (depth 0)
theorem mm_own_152 : mm_own 152 = 10 := rfl
def mp_152_2 (L : Nat) (xs : Nat → Int32) (d : Nat) (v1 : Int32) (v2 : Int32) (M : mm_M) (o : mm_E) : Prop := mm_Runs L xs d 152 (2, [some (.ref 42), some (.int v1), some (.int v2)], [], M) o
def mp_152_28 (L : Nat) (xs : Nat → Int32) (d : Nat) (v2 : Int32) (M : mm_M) (o : mm_E) : Prop := ∀ z0 z1 : Option Value, mm_Runs L xs d 152 (28, [z0, z1, some (.int v2)], [], M) o
set_option maxRecDepth 8000 in
set_option maxHeartbeats 4000000 in
theorem ms_152_b2 {L : Nat} {xs : Nat → Int32} {d : Nat} (hd : 0 ≤ d) {v1 : Int32} {v2 : Int32} {M : mm_M} {q : (((Int32) ⊕ (Int32)) ⊕ Nat) × mm_M} {o : mm_E} (h : mf_152_b2 v1 v2 M = some q) (hA : mm_A (mm_K2 (fun s M o => mp_152_2 L xs (d) v1 s M o) (fun r M o => mp_152_28 L xs (d) r M o)) q o) : mp_152_2 L xs d v1 v2 M o := by
  unfold mf_152_b2 at h
  show mm_Runs L xs (d) 152 (2, [some (.ref 42), some (.int v1), some (.int v2)], [], M) o
  refine mm_Runs.seq (l := [(2, .iload_n 2, 1), (3, .aload_n 0, 1), (4, .getfield 125, 3), (7, .iconst 1, 1), (8, .isub, 1)]) (S2 := (9, [some (.ref 42), some (.int v1), some (.int v2)], [.int ((M.1 42 9) - (1 : Int32)), .int v2], M)) (by decide +kernel) (hO := mm_own_152) rfl ?_
  refine mm_R_ige (t := 28) rfl rfl rfl (fun hc => ?_) (fun hc => ?_)
  · replace h := mm_ip hc h
    refine mm_Runs.seq (l := [(12, .aload_n 0, 1), (13, .getfield 24, 3), (16, .iload_n 2, 1)]) (S2 := (17, [some (.ref 42), some (.int v1), some (.int v2)], [.int v2, .ref 46], M)) (by decide +kernel) (hO := mm_own_152) rfl ?_
    obtain ⟨hb, h⟩ := mm_gd h
    refine mm_R_iald rfl rfl hb ?_
    refine mm_Runs.seq (l := [(18, .iload_n 1, 1)]) (S2 := (19, [some (.ref 42), some (.int v1), some (.int v2)], [.int v1, .int (M.1 46 v2.toNatClampNeg)], M)) (by decide +kernel) (hO := mm_own_152) rfl ?_
    refine mm_R_ieq (t := 28) rfl rfl rfl (fun hc => ?_) (fun hc => ?_)
    · replace h := mm_ip hc h
      cases h
      exact (show mp_152_28 L xs (d) v2 M o from hA) (some (.ref 42)) (some (.int v1))
    · replace h := mm_iq hc h
      refine mm_Runs.seq (l := [(22, .iinc 2 1, 3), (25, .goto (-23), 3)]) (S2 := (2, [some (.ref 42), some (.int v1), some (.int (v2 + (1 : Int32)))], [], M)) (by decide +kernel) (hO := mm_own_152) rfl ?_
      cases h
      exact (show mp_152_2 L xs (d) v1 (v2 + (1 : Int32)) M o from hA)
  · replace h := mm_iq hc h
    cases h
    exact (show mp_152_28 L xs (d) v2 M o from hA) (some (.ref 42)) (some (.int v1))
theorem ms_152_L2 {L : Nat} {xs : Nat → Int32} {d : Nat} (hd : 0 ≤ d) {v1 : Int32} {v2 : Int32} {β : Type} {K : β → mm_M → mm_E → Prop} {F : (Int32) → mm_M → mm_O β} {M : mm_M} {q : (β ⊕ Nat) × mm_M} {o : mm_E} (h : mm_B (mf_152_L2 v1 v2 M) F = some q) (hA : mm_A K q o) (hx : ∀ (r : (Int32)) (M2 : mm_M), F r M2 = some q → (fun r M o => mp_152_28 L xs (d) r M o) r M2 o) : mp_152_2 L xs d v1 v2 M o := by
  unfold mf_152_L2 at h
  exact mm_R_loop (step := (fun s M => mf_152_b2 v1 s M)) (s := v2) (M := M) (P := (fun s M o => mp_152_2 L xs (d) v1 s M o)) (X := (fun r M o => mp_152_28 L xs (d) r M o)) h hA (fun s M q hq hA => ms_152_b2 (v1 := v1) (v2 := s) (M := M) (q := q) hd hq hA) hx
set_option maxRecDepth 8000 in
set_option maxHeartbeats 4000000 in
theorem ms_152 {L : Nat} {xs : Nat → Int32} {d : Nat} (hd : 0 ≤ d) {v1 : Int32} {M : mm_M} {q : (Int32 ⊕ Nat) × mm_M} {o : mm_E} (h : mf_152 v1 M = some q) (hA : mm_A (mm_Kr mm_wi) q o) : mm_Runs L xs d 152 (0, mm_ent (mm_ml 152) [.ref 42, .int v1], [], M) o := by
  unfold mf_152 at h
  show mm_Runs L xs (d) 152 (0, [some (.ref 42), some (.int v1), none], [], M) o
  refine mm_Runs.seq (l := [(0, .iconst 0, 1), (1, .istore_n 2, 1)]) (S2 := (2, [some (.ref 42), some (.int v1), some (.int (0 : Int32))], [], M)) (by decide +kernel) (hO := mm_own_152) rfl ?_
  have hp : mp_152_2 L xs (d) v1 (0 : Int32) M o := by
    refine ms_152_L2 hd h hA (fun r2 M1 h => ?_)
    intro y3 y4
    show mm_Runs L xs (d) 152 (28, [y3, y4, some (.int r2)], [], M1) o
    refine mm_Runs.seq (l := [(28, .iload_n 2, 1)]) (S2 := (29, [y3, y4, some (.int r2)], [.int r2], M1)) (by decide +kernel) (hO := mm_own_152) rfl ?_
    cases h
    exact mm_R_reti rfl rfl hA
  exact hp
-- 150: PlainPacks$Sorted.makeLetters()V (depth 4)
theorem mm_own_150 : mm_own 150 = 10 := rfl
def mp_150_31 (L : Nat) (xs : Nat → Int32) (d : Nat) (v1 : Int32) (M : mm_M) (o : mm_E) : Prop := ∀ z2 z3 z4 : Option Value, mm_Runs L xs d 150 (31, [some (.ref 42), some (.int v1), z2, z3, z4], [], M) o
def mp_150_137 (L : Nat) (xs : Nat → Int32) (d : Nat) (M : mm_M) (o : mm_E) : Prop := ∀ z1 z2 z3 z4 : Option Value, mm_Runs L xs d 150 (137, [some (.ref 42), z1, z2, z3, z4], [], M) o
def mp_150_58 (L : Nat) (xs : Nat → Int32) (d : Nat) (v1 : Int32) (v2 : Int32) (M : mm_M) (o : mm_E) : Prop := ∀ z3 z4 : Option Value, mm_Runs L xs d 150 (58, [some (.ref 42), some (.int v1), some (.int v2), z3, z4], [], M) o
def mp_150_78 (L : Nat) (xs : Nat → Int32) (d : Nat) (v1 : Int32) (s1 : Int32) (M : mm_M) (o : mm_E) : Prop := ∀ z2 z3 z4 : Option Value, mm_Runs L xs d 150 (78, [some (.ref 42), some (.int v1), z2, z3, z4], [.int s1, .ref 47], M) o
set_option maxRecDepth 8000 in
set_option maxHeartbeats 4000000 in
theorem ms_150_j78 {L : Nat} {xs : Nat → Int32} {d : Nat} (hd : 4 ≤ d) {v1 : Int32} {s1 : Int32} {M : mm_M} {q : (((Int32) ⊕ (Unit)) ⊕ Nat) × mm_M} {o : mm_E} (h : mf_150_j78 v1 s1 M = some q) (hA : mm_A (mm_K2 (fun s M o => mp_150_31 L xs (d) s M o) (fun r M o => mp_150_137 L xs (d) M o)) q o) : mp_150_78 L xs d v1 s1 M o := by
  unfold mf_150_j78 at h
  obtain ⟨d, rfl⟩ := mm_d1 (n := 3) hd
  intro z2 z3 z4
  show mm_Runs L xs (d + 1) 150 (78, [some (.ref 42), some (.int v1), z2, z3, z4], [.int s1, .ref 47], M) o
  obtain ⟨hb, h⟩ := mm_gd h
  refine mm_R_iald rfl rfl hb ?_
  refine mm_Runs.seq (l := [(79, .istore_n 3, 1), (80, .iload_n 3, 1), (81, .aload_n 0, 1), (82, .getfield 24, 3), (85, .iconst 0, 1)]) (S2 := (86, [some (.ref 42), some (.int v1), (mm_no2 z2), some (.int (M.1 47 s1.toNatClampNeg)), z4], [.int (0 : Int32), .ref 46, .int (M.1 47 s1.toNatClampNeg)], M)) (by decide +kernel) (hO := mm_own_150) rfl ?_
  obtain ⟨hb, h⟩ := mm_gd h
  refine mm_R_iald rfl rfl hb ?_
  refine mm_R_ine (t := 103) rfl rfl rfl (fun hc => ?_) (fun hc => ?_)
  · replace h := mm_ip hc h
    refine mm_Runs.seq (l := [(90, .aload_n 0, 1), (91, .dup, 1), (92, .getfield 199, 3), (95, .iconst 1, 1), (96, .iadd, 1), (97, .putfield 199, 3), (100, .goto 31, 3), (131, .iinc 1 1, 3), (134, .goto (-103), 3)]) (S2 := (31, [some (.ref 42), some (.int (v1 + (1 : Int32))), (mm_no2 z2), some (.int (M.1 47 s1.toNatClampNeg)), z4], [], (mm_pi M 42 16 ((M.1 42 16) + (1 : Int32))))) (by decide +kernel) (hO := mm_own_150) rfl ?_
    cases h
    exact (show mp_150_31 L xs (d + 1) (v1 + (1 : Int32)) (mm_pi M 42 16 ((M.1 42 16) + (1 : Int32))) o from hA) ((mm_no2 z2)) (some (.int (M.1 47 s1.toNatClampNeg))) z4
  · replace h := mm_iq hc h
    refine mm_Runs.seq (l := [(103, .aload_n 0, 1)]) (S2 := (104, [some (.ref 42), some (.int v1), (mm_no2 z2), some (.int (M.1 47 s1.toNatClampNeg)), z4], [.ref 42], M)) (by decide +kernel) (hO := mm_own_150) rfl ?_
    refine mm_R_call (v := mm_wv) h hA (k2 := 154) (as := [.ref 42]) (r := []) rfl (fun _ => rfl) (fun q hq o ho => ms_154 (by omega) hq ho) (fun _ M1 h => ?_)
    show mm_Runs L xs (d + 1) 150 (107, [some (.ref 42), some (.int v1), (mm_no2 z2), some (.int (M.1 47 s1.toNatClampNeg)), z4], [], M1) o
    refine mm_Runs.seq (l := [(107, .aload_n 0, 1), (108, .iload_n 3, 1)]) (S2 := (109, [some (.ref 42), some (.int v1), (mm_no2 z2), some (.int (M.1 47 s1.toNatClampNeg)), z4], [.int (M.1 47 s1.toNatClampNeg), .ref 42], M1)) (by decide +kernel) (hO := mm_own_150) rfl ?_
    refine mm_R_call (v := mm_wi) h hA (k2 := 152) (as := [.ref 42, .int (M.1 47 s1.toNatClampNeg)]) (r := []) rfl (fun _ => rfl) (fun q hq o ho => ms_152 (by omega) hq ho) (fun r2 M3 h => ?_)
    show mm_Runs L xs (d + 1) 150 (112, [some (.ref 42), some (.int v1), (mm_no2 z2), some (.int (M.1 47 s1.toNatClampNeg)), z4], [.int r2], M3) o
    refine mm_Runs.seq (l := [(112, .istore 4, 2), (114, .aload_n 0, 1), (115, .getfield 24, 3), (118, .iload 4, 2)]) (S2 := (120, [some (.ref 42), some (.int v1), (mm_no2 z2), some (.int (M.1 47 s1.toNatClampNeg)), some (.int r2)], [.int r2, .ref 46], M3)) (by decide +kernel) (hO := mm_own_150) rfl ?_
    refine mm_R_call (v := mm_wv) h hA (k2 := 141) (as := [.ref 46, .int r2]) (r := []) rfl (fun _ => rfl) (fun q hq o ho => ms_141 rfl (by omega) hq ho) (fun _ M4 h => ?_)
    show mm_Runs L xs (d + 1) 150 (123, [some (.ref 42), some (.int v1), (mm_no2 z2), some (.int (M.1 47 s1.toNatClampNeg)), some (.int r2)], [], M4) o
    refine mm_Runs.seq (l := [(123, .aload_n 0, 1), (124, .iload 4, 2), (126, .iconst 1, 1), (127, .iadd, 1)]) (S2 := (128, [some (.ref 42), some (.int v1), (mm_no2 z2), some (.int (M.1 47 s1.toNatClampNeg)), some (.int r2)], [.int (r2 + (1 : Int32)), .ref 42], M4)) (by decide +kernel) (hO := mm_own_150) rfl ?_
    refine mm_R_call (v := mm_wv) h hA (k2 := 153) (as := [.ref 42, .int (r2 + (1 : Int32))]) (r := []) rfl (fun _ => rfl) (fun q hq o ho => ms_153 (by omega) hq ho) (fun _ M5 h => ?_)
    show mm_Runs L xs (d + 1) 150 (131, [some (.ref 42), some (.int v1), (mm_no2 z2), some (.int (M.1 47 s1.toNatClampNeg)), some (.int r2)], [], M5) o
    refine mm_Runs.seq (l := [(131, .iinc 1 1, 3), (134, .goto (-103), 3)]) (S2 := (31, [some (.ref 42), some (.int (v1 + (1 : Int32))), (mm_no2 z2), some (.int (M.1 47 s1.toNatClampNeg)), some (.int r2)], [], M5)) (by decide +kernel) (hO := mm_own_150) rfl ?_
    cases h
    exact (show mp_150_31 L xs (d + 1) (v1 + (1 : Int32)) M5 o from hA) ((mm_no2 z2)) (some (.int (M.1 47 s1.toNatClampNeg))) (some (.int r2))
set_option maxRecDepth 8000 in
set_option maxHeartbeats 4000000 in
theorem ms_150_j58 {L : Nat} {xs : Nat → Int32} {d : Nat} (hd : 4 ≤ d) {v1 : Int32} {v2 : Int32} {M : mm_M} {q : (((Int32) ⊕ (Unit)) ⊕ Nat) × mm_M} {o : mm_E} (h : mf_150_j58 v1 v2 M = some q) (hA : mm_A (mm_K2 (fun s M o => mp_150_31 L xs (d) s M o) (fun r M o => mp_150_137 L xs (d) M o)) q o) : mp_150_58 L xs d v1 v2 M o := by
  unfold mf_150_j58 at h
  obtain ⟨d, rfl⟩ := mm_d1 (n := 3) hd
  intro z3 z4
  show mm_Runs L xs (d + 1) 150 (58, [some (.ref 42), some (.int v1), some (.int v2), z3, z4], [], M) o
  refine mm_Runs.seq (l := [(58, .aload_n 0, 1), (59, .getfield 27, 3), (62, .iload_n 2, 1)]) (S2 := (63, [some (.ref 42), some (.int v1), some (.int v2), z3, z4], [.int v2, .ref 47], M)) (by decide +kernel) (hO := mm_own_150) rfl ?_
  refine mm_R_zle (t := 72) rfl rfl rfl (fun hc => ?_) (fun hc => ?_)
  · replace h := mm_ip hc h
    refine mm_Runs.seq (l := [(66, .iload_n 2, 1), (67, .iconst 1, 1), (68, .isub, 1), (69, .goto 9, 3)]) (S2 := (78, [some (.ref 42), some (.int v1), some (.int v2), z3, z4], [.int (v2 - (1 : Int32)), .ref 47], M)) (by decide +kernel) (hO := mm_own_150) rfl ?_
    exact (ms_150_j78 hd h hA : mp_150_78 L xs (d + 1) v1 (v2 - (1 : Int32)) M o) (some (.int v2)) z3 z4
  · replace h := mm_iq hc h
    refine mm_Runs.seq (l := [(72, .aload_n 0, 1), (73, .getfield 124, 3), (76, .iconst 1, 1), (77, .isub, 1)]) (S2 := (78, [some (.ref 42), some (.int v1), some (.int v2), z3, z4], [.int ((M.1 42 12) - (1 : Int32)), .ref 47], M)) (by decide +kernel) (hO := mm_own_150) rfl ?_
    exact (ms_150_j78 hd h hA : mp_150_78 L xs (d + 1) v1 ((M.1 42 12) - (1 : Int32)) M o) (some (.int v2)) z3 z4
set_option maxRecDepth 8000 in
set_option maxHeartbeats 4000000 in
theorem ms_150_b31 {L : Nat} {xs : Nat → Int32} {d : Nat} (hd : 4 ≤ d) {v1 : Int32} {M : mm_M} {q : (((Int32) ⊕ (Unit)) ⊕ Nat) × mm_M} {o : mm_E} (h : mf_150_b31 v1 M = some q) (hA : mm_A (mm_K2 (fun s M o => mp_150_31 L xs (d) s M o) (fun r M o => mp_150_137 L xs (d) M o)) q o) : mp_150_31 L xs d v1 M o := by
  unfold mf_150_b31 at h
  obtain ⟨d, rfl⟩ := mm_d1 (n := 3) hd
  intro z2 z3 z4
  show mm_Runs L xs (d + 1) 150 (31, [some (.ref 42), some (.int v1), z2, z3, z4], [], M) o
  refine mm_Runs.seq (l := [(31, .iload_n 1, 1), (32, .aload_n 0, 1), (33, .getfield 124, 3)]) (S2 := (36, [some (.ref 42), some (.int v1), z2, z3, z4], [.int (M.1 42 12), .int v1], M)) (by decide +kernel) (hO := mm_own_150) rfl ?_
  refine mm_R_ige (t := 137) rfl rfl rfl (fun hc => ?_) (fun hc => ?_)
  · replace h := mm_ip hc h
    refine mm_Runs.seq (l := [(39, .aload_n 0, 1), (40, .getfield 48, 3), (43, .getfield 202, 3), (46, .iload_n 1, 1)]) (S2 := (47, [some (.ref 42), some (.int v1), z2, z3, z4], [.int v1, .ref 8], M)) (by decide +kernel) (hO := mm_own_150) rfl ?_
    obtain ⟨hb, h⟩ := mm_gd h
    refine mm_R_iald rfl rfl hb ?_
    refine mm_Runs.seq (l := [(48, .istore_n 2, 1), (49, .iload_n 2, 1)]) (S2 := (50, [some (.ref 42), some (.int v1), some (.int (M.1 8 v1.toNatClampNeg)), z3, z4], [.int (M.1 8 v1.toNatClampNeg)], M)) (by decide +kernel) (hO := mm_own_150) rfl ?_
    refine mm_R_zne (t := 58) rfl rfl rfl (fun hc => ?_) (fun hc => ?_)
    · replace h := mm_ip hc h
      refine mm_Runs.seq (l := [(53, .aload_n 0, 1), (54, .iload_n 1, 1), (55, .putfield 108, 3)]) (S2 := (58, [some (.ref 42), some (.int v1), some (.int (M.1 8 v1.toNatClampNeg)), z3, z4], [], (mm_pi M 42 10 v1))) (by decide +kernel) (hO := mm_own_150) rfl ?_
      exact (ms_150_j58 hd h hA : mp_150_58 L xs (d + 1) v1 (M.1 8 v1.toNatClampNeg) (mm_pi M 42 10 v1) o) z3 z4
    · replace h := mm_iq hc h
      exact (ms_150_j58 hd h hA : mp_150_58 L xs (d + 1) v1 (M.1 8 v1.toNatClampNeg) M o) z3 z4
  · replace h := mm_iq hc h
    cases h
    exact (show mp_150_137 L xs (d + 1) M o from hA) (some (.int v1)) z2 z3 z4
theorem ms_150_L31 {L : Nat} {xs : Nat → Int32} {d : Nat} (hd : 4 ≤ d) {v1 : Int32} {β : Type} {K : β → mm_M → mm_E → Prop} {F : (Unit) → mm_M → mm_O β} {M : mm_M} {q : (β ⊕ Nat) × mm_M} {o : mm_E} (h : mm_B (mf_150_L31 v1 M) F = some q) (hA : mm_A K q o) (hx : ∀ (r : (Unit)) (M2 : mm_M), F r M2 = some q → (fun r M o => mp_150_137 L xs (d) M o) r M2 o) : mp_150_31 L xs d v1 M o := by
  unfold mf_150_L31 at h
  exact mm_R_loop (step := (fun s M => mf_150_b31 s M)) (s := v1) (M := M) (P := (fun s M o => mp_150_31 L xs (d) s M o)) (X := (fun r M o => mp_150_137 L xs (d) M o)) h hA (fun s M q hq hA => ms_150_b31 (v1 := s) (M := M) (q := q) hd hq hA) hx
set_option maxRecDepth 8000 in
set_option maxHeartbeats 4000000 in
theorem ms_150_j137 {L : Nat} {xs : Nat → Int32} {d : Nat} (hd : 4 ≤ d) {M : mm_M} {q : (Unit ⊕ Nat) × mm_M} {o : mm_E} (h : mf_150_j137 M = some q) (hA : mm_A (mm_Kr mm_wv) q o) : mp_150_137 L xs d M o := by
  unfold mf_150_j137 at h
  obtain ⟨d, rfl⟩ := mm_d1 (n := 3) hd
  intro z1 z2 z3 z4
  show mm_Runs L xs (d + 1) 150 (137, [some (.ref 42), z1, z2, z3, z4], [], M) o
  refine mm_Runs.seq (l := [(137, .aload_n 0, 1)]) (S2 := (138, [some (.ref 42), z1, z2, z3, z4], [.ref 42], M)) (by decide +kernel) (hO := mm_own_150) rfl ?_
  refine mm_R_call (v := mm_wv) h hA (k2 := 154) (as := [.ref 42]) (r := []) rfl (fun _ => rfl) (fun q hq o ho => ms_154 (by omega) hq ho) (fun _ M1 h => ?_)
  show mm_Runs L xs (d + 1) 150 (141, [some (.ref 42), z1, z2, z3, z4], [], M1) o
  refine mm_Runs.seq (l := [(141, .aload_n 0, 1), (142, .aload_n 0, 1), (143, .getfield 125, 3), (146, .iconst 1, 1), (147, .iadd, 1)]) (S2 := (148, [some (.ref 42), z1, z2, z3, z4], [.int ((M1.1 42 9) + (1 : Int32)), .ref 42], M1)) (by decide +kernel) (hO := mm_own_150) rfl ?_
  refine mm_R_call (v := mm_wv) h hA (k2 := 153) (as := [.ref 42, .int ((M1.1 42 9) + (1 : Int32))]) (r := []) rfl (fun _ => rfl) (fun q hq o ho => ms_153 (by omega) hq ho) (fun _ M2 h => ?_)
  show mm_Runs L xs (d + 1) 150 (151, [some (.ref 42), z1, z2, z3, z4], [], M2) o
  cases h
  exact mm_R_retv rfl rfl hA
set_option maxRecDepth 8000 in
set_option maxHeartbeats 4000000 in
theorem ms_150 {L : Nat} {xs : Nat → Int32} {d : Nat} (hd : 4 ≤ d) {M : mm_M} {q : (Unit ⊕ Nat) × mm_M} {o : mm_E} (h : mf_150 M = some q) (hA : mm_A (mm_Kr mm_wv) q o) : mm_Runs L xs d 150 (0, mm_ent (mm_ml 150) [.ref 42], [], M) o := by
  unfold mf_150 at h
  obtain ⟨d, rfl⟩ := mm_d1 (n := 3) hd
  show mm_Runs L xs (d + 1) 150 (0, [some (.ref 42), none, none, none, none], [], M) o
  refine mm_Runs.seq (l := [(0, .aload_n 0, 1), (1, .getfield 48, 3), (4, .aload_n 0, 1), (5, .getfield 27, 3), (8, .aload_n 0, 1), (9, .getfield 124, 3)]) (S2 := (12, [some (.ref 42), none, none, none, none], [.int (M.1 42 12), .ref 47, .ref 7], M)) (by decide +kernel) (hO := mm_own_150) rfl ?_
  refine mm_R_call (v := mm_wv) h hA (k2 := 66) (as := [.ref 7, .ref 47, .int (M.1 42 12)]) (r := []) rfl (fun _ => rfl) (fun q hq o ho => ms_66 rfl (by omega) hq ho) (fun _ M1 h => ?_)
  show mm_Runs L xs (d + 1) 150 (15, [some (.ref 42), none, none, none, none], [], M1) o
  refine mm_Runs.seq (l := [(15, .aload_n 0, 1)]) (S2 := (16, [some (.ref 42), none, none, none, none], [.ref 42], M1)) (by decide +kernel) (hO := mm_own_150) rfl ?_
  refine mm_R_call (v := mm_wv) h hA (k2 := 151) (as := [.ref 42]) (r := []) rfl (fun _ => rfl) (fun q hq o ho => ms_151 (by omega) hq ho) (fun _ M2 h => ?_)
  show mm_Runs L xs (d + 1) 150 (19, [some (.ref 42), none, none, none, none], [], M2) o
  refine mm_Runs.seq (l := [(19, .aload_n 0, 1), (20, .iconst 0, 1), (21, .putfield 196, 3), (24, .aload_n 0, 1), (25, .iconst 0, 1), (26, .putfield 199, 3), (29, .iconst 0, 1), (30, .istore_n 1, 1)]) (S2 := (31, [some (.ref 42), some (.int (0 : Int32)), none, none, none], [], (mm_pi (mm_pi M2 42 15 (0 : Int32)) 42 16 (0 : Int32)))) (by decide +kernel) (hO := mm_own_150) rfl ?_
  have hp : mp_150_31 L xs (d + 1) (0 : Int32) (mm_pi (mm_pi M2 42 15 (0 : Int32)) 42 16 (0 : Int32)) o := by
    refine ms_150_L31 hd h hA (fun r4 M3 h => ?_)
    intro y5 y6 y7 y8
    show mm_Runs L xs (d + 1) 150 (137, [some (.ref 42), y5, y6, y7, y8], [], M3) o
    exact (ms_150_j137 hd h hA : mp_150_137 L xs (d + 1) M3 o) y5 y6 y7 y8
  exact hp none none none
