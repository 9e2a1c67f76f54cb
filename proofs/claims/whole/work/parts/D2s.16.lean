/-! MEANINGS ARE SOUND 16 -/
-- 203: PlainPacksModel.blocksTo(I)V (depth 6)
theorem mm_own_203 : mm_own 203 = 12 := rfl
def mp_203_12 (L : Nat) (xs : Nat → Int32) (d : Nat) (v1 : Int32) (v2 : Int32) (M : mm_M) (o : mm_E) : Prop := ∀ z3 : Option Value, mm_Runs L xs d 203 (12, [some (.ref 84), some (.int v1), some (.int v2), z3], [], M) o
def mp_203_69 (L : Nat) (xs : Nat → Int32) (d : Nat) (M : mm_M) (o : mm_E) : Prop := ∀ z0 z1 z2 z3 : Option Value, mm_Runs L xs d 203 (69, [z0, z1, z2, z3], [], M) o
def mp_203_115 (L : Nat) (xs : Nat → Int32) (d : Nat) (M : mm_M) (o : mm_E) : Prop := ∀ z1 z2 z3 : Option Value, mm_Runs L xs d 203 (115, [some (.ref 84), z1, z2, z3], [], M) o
def mp_203_38 (L : Nat) (xs : Nat → Int32) (d : Nat) (v1 : Int32) (s0 : Int32) (M : mm_M) (o : mm_E) : Prop := ∀ z2 z3 : Option Value, mm_Runs L xs d 203 (38, [some (.ref 84), some (.int v1), z2, z3], [.int s0], M) o
def mp_203_62 (L : Nat) (xs : Nat → Int32) (d : Nat) (v1 : Int32) (v2 : Int32) (v3 : Int32) (M : mm_M) (o : mm_E) : Prop := mm_Runs L xs d 203 (62, [some (.ref 84), some (.int v1), some (.int v2), some (.int v3)], [], M) o
def mp_203_107 (L : Nat) (xs : Nat → Int32) (d : Nat) (v1 : Int32) (v2 : Int32) (M : mm_M) (o : mm_E) : Prop := ∀ z3 : Option Value, mm_Runs L xs d 203 (107, [some (.ref 84), some (.int v1), some (.int v2), z3], [], M) o
set_option maxRecDepth 8000 in
set_option maxHeartbeats 4000000 in
theorem ms_203_j107 {L : Nat} {xs : Nat → Int32} {d : Nat} (hd : 6 ≤ d) {v1 : Int32} {v2 : Int32} {M : mm_M} {q : (((Int32) ⊕ ((Unit) ⊕ (Unit))) ⊕ Nat) × mm_M} {o : mm_E} (h : mf_203_j107 v1 v2 M = some q) (hA : mm_A (mm_K2 (fun s M o => mp_203_12 L xs (d) v1 s M o) (fun r M o => mm_sm (fun r => mp_203_69 L xs (d) M o) (fun r => mp_203_115 L xs (d) M o) r)) q o) : mp_203_107 L xs d v1 v2 M o := by
  unfold mf_203_j107 at h
  obtain ⟨d, rfl⟩ := mm_d1 (n := 5) hd
  intro z3
  show mm_Runs L xs (d + 1) 203 (107, [some (.ref 84), some (.int v1), some (.int v2), z3], [], M) o
  refine mm_Runs.seq (l := [(107, .aload_n 0, 1), (108, .iload_n 1, 1)]) (S2 := (109, [some (.ref 84), some (.int v1), some (.int v2), z3], [.int v1, .ref 84], M)) (by decide +kernel) (hO := mm_own_203) rfl ?_
  refine mm_R_call (v := mm_wv) h hA (k2 := 208) (as := [.ref 84, .int v1]) (r := []) rfl (fun _ => rfl) (fun q hq o ho => ms_208 (by omega) hq ho) (fun _ M1 h => ?_)
  show mm_Runs L xs (d + 1) 203 (112, [some (.ref 84), some (.int v1), some (.int v2), z3], [], M1) o
  refine mm_Runs.seq (l := [(112, .goto (-100), 3)]) (S2 := (12, [some (.ref 84), some (.int v1), some (.int v2), z3], [], M1)) (by decide +kernel) (hO := mm_own_203) rfl ?_
  cases h
  exact (show mp_203_12 L xs (d + 1) v1 v2 M1 o from hA) z3
set_option maxRecDepth 8000 in
set_option maxHeartbeats 4000000 in
theorem ms_203_j62 {L : Nat} {xs : Nat → Int32} {d : Nat} (hd : 6 ≤ d) {v1 : Int32} {v2 : Int32} {v3 : Int32} {M : mm_M} {q : (((Int32) ⊕ ((Unit) ⊕ (Unit))) ⊕ Nat) × mm_M} {o : mm_E} (h : mf_203_j62 v1 v2 v3 M = some q) (hA : mm_A (mm_K2 (fun s M o => mp_203_12 L xs (d) v1 s M o) (fun r M o => mm_sm (fun r => mp_203_69 L xs (d) M o) (fun r => mp_203_115 L xs (d) M o) r)) q o) : mp_203_62 L xs d v1 v2 v3 M o := by
  unfold mf_203_j62 at h
  obtain ⟨d, rfl⟩ := mm_d1 (n := 5) hd
  show mm_Runs L xs (d + 1) 203 (62, [some (.ref 84), some (.int v1), some (.int v2), some (.int v3)], [], M) o
  refine mm_Runs.seq (l := [(62, .aload_n 0, 1), (63, .getfield 154, 3)]) (S2 := (66, [some (.ref 84), some (.int v1), some (.int v2), some (.int v3)], [.int (M.1 84 7)], M)) (by decide +kernel) (hO := mm_own_203) rfl ?_
  refine mm_R_zeq (t := 70) rfl rfl rfl (fun hc => ?_) (fun hc => ?_)
  · replace h := mm_ip hc h
    refine mm_Runs.seq (l := [(70, .aload_n 0, 1), (71, .dup, 1), (72, .getfield 116, 3), (75, .iconst 1, 1), (76, .iadd, 1), (77, .putfield 116, 3), (80, .iload_n 3, 1)]) (S2 := (81, [some (.ref 84), some (.int v1), some (.int v2), some (.int v3)], [.int v3], (mm_pi M 84 12 ((M.1 84 12) + (1 : Int32))))) (by decide +kernel) (hO := mm_own_203) rfl ?_
    refine mm_R_zne (t := 91) rfl rfl rfl (fun hc => ?_) (fun hc => ?_)
    · replace h := mm_ip hc h
      refine mm_Runs.seq (l := [(84, .aload_n 0, 1)]) (S2 := (85, [some (.ref 84), some (.int v1), some (.int v2), some (.int v3)], [.ref 84], (mm_pi M 84 12 ((M.1 84 12) + (1 : Int32))))) (by decide +kernel) (hO := mm_own_203) rfl ?_
      refine mm_R_call (v := mm_wv) h hA (k2 := 204) (as := [.ref 84]) (r := []) rfl (fun _ => rfl) (fun q hq o ho => ms_204 (by omega) hq ho) (fun _ M1 h => ?_)
      show mm_Runs L xs (d + 1) 203 (88, [some (.ref 84), some (.int v1), some (.int v2), some (.int v3)], [], M1) o
      refine mm_Runs.seq (l := [(88, .goto 24, 3), (112, .goto (-100), 3)]) (S2 := (12, [some (.ref 84), some (.int v1), some (.int v2), some (.int v3)], [], M1)) (by decide +kernel) (hO := mm_own_203) rfl ?_
      cases h
      exact (show mp_203_12 L xs (d + 1) v1 v2 M1 o from hA) (some (.int v3))
    · replace h := mm_iq hc h
      refine mm_Runs.seq (l := [(91, .iload_n 3, 1), (92, .iconst 1, 1)]) (S2 := (93, [some (.ref 84), some (.int v1), some (.int v2), some (.int v3)], [.int (1 : Int32), .int v3], (mm_pi M 84 12 ((M.1 84 12) + (1 : Int32))))) (by decide +kernel) (hO := mm_own_203) rfl ?_
      refine mm_R_ine (t := 103) rfl rfl rfl (fun hc => ?_) (fun hc => ?_)
      · replace h := mm_ip hc h
        refine mm_Runs.seq (l := [(96, .aload_n 0, 1)]) (S2 := (97, [some (.ref 84), some (.int v1), some (.int v2), some (.int v3)], [.ref 84], (mm_pi M 84 12 ((M.1 84 12) + (1 : Int32))))) (by decide +kernel) (hO := mm_own_203) rfl ?_
        refine mm_R_call (v := mm_wv) h hA (k2 := 205) (as := [.ref 84]) (r := []) rfl (fun _ => rfl) (fun q hq o ho => ms_205 (by omega) hq ho) (fun _ M2 h => ?_)
        show mm_Runs L xs (d + 1) 203 (100, [some (.ref 84), some (.int v1), some (.int v2), some (.int v3)], [], M2) o
        refine mm_Runs.seq (l := [(100, .goto 7, 3)]) (S2 := (107, [some (.ref 84), some (.int v1), some (.int v2), some (.int v3)], [], M2)) (by decide +kernel) (hO := mm_own_203) rfl ?_
        exact (ms_203_j107 hd h hA : mp_203_107 L xs (d + 1) v1 v2 M2 o) (some (.int v3))
      · replace h := mm_iq hc h
        refine mm_Runs.seq (l := [(103, .aload_n 0, 1)]) (S2 := (104, [some (.ref 84), some (.int v1), some (.int v2), some (.int v3)], [.ref 84], (mm_pi M 84 12 ((M.1 84 12) + (1 : Int32))))) (by decide +kernel) (hO := mm_own_203) rfl ?_
        refine mm_R_call (v := mm_wv) h hA (k2 := 206) (as := [.ref 84]) (r := []) rfl (fun _ => rfl) (fun q hq o ho => ms_206 (by omega) hq ho) (fun _ M3 h => ?_)
        show mm_Runs L xs (d + 1) 203 (107, [some (.ref 84), some (.int v1), some (.int v2), some (.int v3)], [], M3) o
        exact (ms_203_j107 hd h hA : mp_203_107 L xs (d + 1) v1 v2 M3 o) (some (.int v3))
  · replace h := mm_iq hc h
    cases h
    exact (show mp_203_69 L xs (d + 1) M o from hA) (some (.ref 84)) (some (.int v1)) (some (.int v2)) (some (.int v3))
set_option maxRecDepth 8000 in
set_option maxHeartbeats 4000000 in
theorem ms_203_j38 {L : Nat} {xs : Nat → Int32} {d : Nat} (hd : 6 ≤ d) {v1 : Int32} {s0 : Int32} {M : mm_M} {q : (((Int32) ⊕ ((Unit) ⊕ (Unit))) ⊕ Nat) × mm_M} {o : mm_E} (h : mf_203_j38 v1 s0 M = some q) (hA : mm_A (mm_K2 (fun s M o => mp_203_12 L xs (d) v1 s M o) (fun r M o => mm_sm (fun r => mp_203_69 L xs (d) M o) (fun r => mp_203_115 L xs (d) M o) r)) q o) : mp_203_38 L xs d v1 s0 M o := by
  unfold mf_203_j38 at h
  obtain ⟨d, rfl⟩ := mm_d1 (n := 5) hd
  intro z2 z3
  show mm_Runs L xs (d + 1) 203 (38, [some (.ref 84), some (.int v1), z2, z3], [.int s0], M) o
  refine mm_Runs.seq (l := [(38, .istore_n 2, 1), (39, .aload_n 0, 1), (40, .iconst 2, 1)]) (S2 := (41, [some (.ref 84), some (.int v1), some (.int s0), z3], [.int (2 : Int32), .ref 84], M)) (by decide +kernel) (hO := mm_own_203) rfl ?_
  refine mm_R_call (v := mm_wl) h hA (k2 := 198) (as := [.ref 84, .int (2 : Int32)]) (r := []) rfl (fun _ => rfl) (fun q hq o ho => ms_198 (by omega) hq ho) (fun r1 M2 h => ?_)
  show mm_Runs L xs (d + 1) 203 (44, [some (.ref 84), some (.int v1), some (.int s0), z3], [.long r1], M2) o
  refine mm_Runs.seq (l := [(44, .l2i, 1), (45, .istore_n 3, 1), (46, .aload_n 0, 1), (47, .getfield 154, 3)]) (S2 := (50, [some (.ref 84), some (.int v1), some (.int s0), some (.int r1.toInt32)], [.int (M2.1 84 7)], M2)) (by decide +kernel) (hO := mm_own_203) rfl ?_
  refine mm_R_zne (t := 62) rfl rfl rfl (fun hc => ?_) (fun hc => ?_)
  · replace h := mm_ip hc h
    refine mm_Runs.seq (l := [(53, .iload_n 3, 1), (54, .iconst 3, 1)]) (S2 := (55, [some (.ref 84), some (.int v1), some (.int s0), some (.int r1.toInt32)], [.int (3 : Int32), .int r1.toInt32], M2)) (by decide +kernel) (hO := mm_own_203) rfl ?_
    refine mm_R_ine (t := 62) rfl rfl rfl (fun hc => ?_) (fun hc => ?_)
    · replace h := mm_ip hc h
      refine mm_Runs.seq (l := [(58, .aload_n 0, 1)]) (S2 := (59, [some (.ref 84), some (.int v1), some (.int s0), some (.int r1.toInt32)], [.ref 84], M2)) (by decide +kernel) (hO := mm_own_203) rfl ?_
      refine mm_R_call (v := mm_wv) h hA (k2 := 190) (as := [.ref 84]) (r := []) rfl (fun _ => rfl) (fun q hq o ho => ms_190 (by omega) hq ho) (fun _ M3 h => ?_)
      show mm_Runs L xs (d + 1) 203 (62, [some (.ref 84), some (.int v1), some (.int s0), some (.int r1.toInt32)], [], M3) o
      exact (ms_203_j62 hd h hA : mp_203_62 L xs (d + 1) v1 s0 r1.toInt32 M3 o)
    · replace h := mm_iq hc h
      exact (ms_203_j62 hd h hA : mp_203_62 L xs (d + 1) v1 s0 r1.toInt32 M2 o)
  · replace h := mm_iq hc h
    exact (ms_203_j62 hd h hA : mp_203_62 L xs (d + 1) v1 s0 r1.toInt32 M2 o)
set_option maxRecDepth 8000 in
set_option maxHeartbeats 4000000 in
theorem ms_203_b12 {L : Nat} {xs : Nat → Int32} {d : Nat} (hd : 6 ≤ d) {v1 : Int32} {v2 : Int32} {M : mm_M} {q : (((Int32) ⊕ ((Unit) ⊕ (Unit))) ⊕ Nat) × mm_M} {o : mm_E} (h : mf_203_b12 v1 v2 M = some q) (hA : mm_A (mm_K2 (fun s M o => mp_203_12 L xs (d) v1 s M o) (fun r M o => mm_sm (fun r => mp_203_69 L xs (d) M o) (fun r => mp_203_115 L xs (d) M o) r)) q o) : mp_203_12 L xs d v1 v2 M o := by
  unfold mf_203_b12 at h
  obtain ⟨d, rfl⟩ := mm_d1 (n := 5) hd
  intro z3
  show mm_Runs L xs (d + 1) 203 (12, [some (.ref 84), some (.int v1), some (.int v2), z3], [], M) o
  refine mm_Runs.seq (l := [(12, .aload_n 0, 1), (13, .getfield 154, 3)]) (S2 := (16, [some (.ref 84), some (.int v1), some (.int v2), z3], [.int (M.1 84 7)], M)) (by decide +kernel) (hO := mm_own_203) rfl ?_
  refine mm_R_zne (t := 115) rfl rfl rfl (fun hc => ?_) (fun hc => ?_)
  · replace h := mm_ip hc h
    refine mm_Runs.seq (l := [(19, .iload_n 2, 1)]) (S2 := (20, [some (.ref 84), some (.int v1), some (.int v2), z3], [.int v2], M)) (by decide +kernel) (hO := mm_own_203) rfl ?_
    refine mm_R_zne (t := 115) rfl rfl rfl (fun hc => ?_) (fun hc => ?_)
    · replace h := mm_ip hc h
      refine mm_Runs.seq (l := [(23, .aload_n 0, 1), (24, .iconst 1, 1)]) (S2 := (25, [some (.ref 84), some (.int v1), some (.int v2), z3], [.int (1 : Int32), .ref 84], M)) (by decide +kernel) (hO := mm_own_203) rfl ?_
      refine mm_R_call (v := mm_wl) h hA (k2 := 198) (as := [.ref 84, .int (1 : Int32)]) (r := []) rfl (fun _ => rfl) (fun q hq o ho => ms_198 (by omega) hq ho) (fun r1 M2 h => ?_)
      show mm_Runs L xs (d + 1) 203 (28, [some (.ref 84), some (.int v1), some (.int v2), z3], [.long r1], M2) o
      refine mm_Runs.seq (l := [(28, .lconst 1, 1)]) (S2 := (29, [some (.ref 84), some (.int v1), some (.int v2), z3], [.long (1 : Int64), .long r1], M2)) (by decide +kernel) (hO := mm_own_203) rfl ?_
      refine mm_R_lne (t := 37) rfl rfl rfl rfl (fun hc => ?_) (fun hc => ?_)
      · replace h := mm_ip hc h
        refine mm_Runs.seq (l := [(33, .iconst 1, 1), (34, .goto 4, 3)]) (S2 := (38, [some (.ref 84), some (.int v1), some (.int v2), z3], [.int (1 : Int32)], M2)) (by decide +kernel) (hO := mm_own_203) rfl ?_
        exact (ms_203_j38 hd h hA : mp_203_38 L xs (d + 1) v1 (1 : Int32) M2 o) (some (.int v2)) z3
      · replace h := mm_iq hc h
        refine mm_Runs.seq (l := [(37, .iconst 0, 1)]) (S2 := (38, [some (.ref 84), some (.int v1), some (.int v2), z3], [.int (0 : Int32)], M2)) (by decide +kernel) (hO := mm_own_203) rfl ?_
        exact (ms_203_j38 hd h hA : mp_203_38 L xs (d + 1) v1 (0 : Int32) M2 o) (some (.int v2)) z3
    · replace h := mm_iq hc h
      cases h
      exact (show mp_203_115 L xs (d + 1) M o from hA) (some (.int v1)) (some (.int v2)) z3
  · replace h := mm_iq hc h
    cases h
    exact (show mp_203_115 L xs (d + 1) M o from hA) (some (.int v1)) (some (.int v2)) z3
theorem ms_203_L12 {L : Nat} {xs : Nat → Int32} {d : Nat} (hd : 6 ≤ d) {v1 : Int32} {v2 : Int32} {β : Type} {K : β → mm_M → mm_E → Prop} {F : ((Unit) ⊕ (Unit)) → mm_M → mm_O β} {M : mm_M} {q : (β ⊕ Nat) × mm_M} {o : mm_E} (h : mm_B (mf_203_L12 v1 v2 M) F = some q) (hA : mm_A K q o) (hx : ∀ (r : ((Unit) ⊕ (Unit))) (M2 : mm_M), F r M2 = some q → (fun r M o => mm_sm (fun r => mp_203_69 L xs (d) M o) (fun r => mp_203_115 L xs (d) M o) r) r M2 o) : mp_203_12 L xs d v1 v2 M o := by
  unfold mf_203_L12 at h
  exact mm_R_loop (step := (fun s M => mf_203_b12 v1 s M)) (s := v2) (M := M) (P := (fun s M o => mp_203_12 L xs (d) v1 s M o)) (X := (fun r M o => mm_sm (fun r => mp_203_69 L xs (d) M o) (fun r => mp_203_115 L xs (d) M o) r)) h hA (fun s M q hq hA => ms_203_b12 (v1 := v1) (v2 := s) (M := M) (q := q) hd hq hA) hx
set_option maxRecDepth 8000 in
set_option maxHeartbeats 4000000 in
theorem ms_203 {L : Nat} {xs : Nat → Int32} {d : Nat} (hd : 6 ≤ d) {v1 : Int32} {M : mm_M} {q : (Unit ⊕ Nat) × mm_M} {o : mm_E} (h : mf_203 v1 M = some q) (hA : mm_A (mm_Kr mm_wv) q o) : mm_Runs L xs d 203 (0, mm_ent (mm_ml 203) [.ref 84, .int v1], [], M) o := by
  unfold mf_203 at h
  obtain ⟨d, rfl⟩ := mm_d1 (n := 5) hd
  show mm_Runs L xs (d + 1) 203 (0, [some (.ref 84), some (.int v1), none, none], [], M) o
  refine mm_Runs.seq (l := [(0, .aload_n 0, 1), (1, .iconst 0, 1), (2, .putfield 178, 3), (5, .aload_n 0, 1), (6, .iconst 0, 1), (7, .putfield 172, 3), (10, .iconst 0, 1), (11, .istore_n 2, 1)]) (S2 := (12, [some (.ref 84), some (.int v1), some (.int (0 : Int32)), none], [], (mm_pi (mm_pi M 84 13 (0 : Int32)) 84 15 (0 : Int32)))) (by decide +kernel) (hO := mm_own_203) rfl ?_
  have hp : mp_203_12 L xs (d + 1) v1 (0 : Int32) (mm_pi (mm_pi M 84 13 (0 : Int32)) 84 15 (0 : Int32)) o := by
    refine ms_203_L12 hd h hA (fun r2 M1 h => ?_)
    rcases r2 with r2 | r2
    · dsimp only [mm_sm] at h
      intro y3 y4 y5 y6
      show mm_Runs L xs (d + 1) 203 (69, [y3, y4, y5, y6], [], M1) o
      cases h
      exact mm_R_retv rfl rfl hA
    · dsimp only [mm_sm] at h
      intro y7 y8 y9
      show mm_Runs L xs (d + 1) 203 (115, [some (.ref 84), y7, y8, y9], [], M1) o
      refine mm_Runs.seq (l := [(115, .aload_n 0, 1), (116, .iconst 0, 1), (117, .putfield 172, 3)]) (S2 := (120, [some (.ref 84), y7, y8, y9], [], (mm_pi M1 84 15 (0 : Int32)))) (by decide +kernel) (hO := mm_own_203) rfl ?_
      cases h
      exact mm_R_retv rfl rfl hA
  exact hp none
-- 184: PlainPacksModel.adler([III)I (depth 0)
theorem mm_own_184 : mm_own 184 = 12 := rfl
def mp_184_8 (L : Nat) (xs : Nat → Int32) (p : Nat) (n : Nat) (d : Nat) (v2 : Int32) (v3 : Int32) (v4 : Int32) (v5 : Int32) (M : mm_M) (o : mm_E) : Prop := ∀ z1 : Option Value, mm_Runs L xs d 184 (8, [some (.ref p), z1, some (.int v2), some (.int v3), some (.int v4), some (.int v5)], [], M) o
def mp_184_39 (L : Nat) (xs : Nat → Int32) (p : Nat) (n : Nat) (d : Nat) (v3 : Int32) (v4 : Int32) (M : mm_M) (o : mm_E) : Prop := ∀ z0 z1 z2 z5 : Option Value, mm_Runs L xs d 184 (39, [z0, z1, z2, some (.int v3), some (.int v4), z5], [], M) o
set_option maxRecDepth 8000 in
set_option maxHeartbeats 4000000 in
theorem ms_184_b8 {L : Nat} {xs : Nat → Int32} {p : Nat} {n : Nat} {d : Nat} (ha : mm_aat 0 p = some n) (hd : 0 ≤ d) {v2 : Int32} {v3 : Int32} {v4 : Int32} {v5 : Int32} {M : mm_M} {q : (((Int32 × Int32 × Int32) ⊕ (Int32 × Int32)) ⊕ Nat) × mm_M} {o : mm_E} (h : mf_184_b8 p n v2 v3 v4 v5 M = some q) (hA : mm_A (mm_K2 (fun s M o => mp_184_8 L xs p n (d) v2 s.1 s.2.1 s.2.2 M o) (fun r M o => mp_184_39 L xs p n (d) r.1 r.2 M o)) q o) : mp_184_8 L xs p n d v2 v3 v4 v5 M o := by
  unfold mf_184_b8 at h
  intro z1
  show mm_Runs L xs (d) 184 (8, [some (.ref p), z1, some (.int v2), some (.int v3), some (.int v4), some (.int v5)], [], M) o
  refine mm_Runs.seq (l := [(8, .iload 5, 2), (10, .iload_n 2, 1)]) (S2 := (11, [some (.ref p), z1, some (.int v2), some (.int v3), some (.int v4), some (.int v5)], [.int v2, .int v5], M)) (by decide +kernel) (hO := mm_own_184) rfl ?_
  refine mm_R_ige (t := 39) rfl rfl rfl (fun hc => ?_) (fun hc => ?_)
  · replace h := mm_ip hc h
    refine mm_Runs.seq (l := [(14, .iload_n 3, 1), (15, .aload_n 0, 1), (16, .iload 5, 2)]) (S2 := (18, [some (.ref p), z1, some (.int v2), some (.int v3), some (.int v4), some (.int v5)], [.int v5, .ref p, .int v3], M)) (by decide +kernel) (hO := mm_own_184) rfl ?_
    obtain ⟨hb, h⟩ := mm_gd h
    refine mm_R_iald rfl ha hb ?_
    refine mm_Runs.seq (l := [(19, .iadd, 1), (20, .ldc 121, 2), (22, .irem, 1), (23, .istore_n 3, 1), (24, .iload 4, 2), (26, .iload_n 3, 1), (27, .iadd, 1), (28, .ldc 121, 2), (30, .irem, 1), (31, .istore 4, 2), (33, .iinc 5 1, 3), (36, .goto (-28), 3)]) (S2 := (8, [some (.ref p), z1, some (.int v2), some (.int (mm_rem (v3 + (M.1 p v5.toNatClampNeg)) (65521 : Int32))), some (.int (mm_rem (v4 + (mm_rem (v3 + (M.1 p v5.toNatClampNeg)) (65521 : Int32))) (65521 : Int32))), some (.int (v5 + (1 : Int32)))], [], M)) (by decide +kernel) (hO := mm_own_184) rfl ?_
    cases h
    exact (show mp_184_8 L xs p n (d) v2 (mm_rem (v3 + (M.1 p v5.toNatClampNeg)) (65521 : Int32)) (mm_rem (v4 + (mm_rem (v3 + (M.1 p v5.toNatClampNeg)) (65521 : Int32))) (65521 : Int32)) (v5 + (1 : Int32)) M o from hA) z1
  · replace h := mm_iq hc h
    cases h
    exact (show mp_184_39 L xs p n (d) v3 v4 M o from hA) (some (.ref p)) z1 (some (.int v2)) (some (.int v5))
theorem ms_184_L8 {L : Nat} {xs : Nat → Int32} {p : Nat} {n : Nat} {d : Nat} (ha : mm_aat 0 p = some n) (hd : 0 ≤ d) {v2 : Int32} {v3 : Int32} {v4 : Int32} {v5 : Int32} {β : Type} {K : β → mm_M → mm_E → Prop} {F : (Int32 × Int32) → mm_M → mm_O β} {M : mm_M} {q : (β ⊕ Nat) × mm_M} {o : mm_E} (h : mm_B (mf_184_L8 p n v2 (v3, v4, v5) M) F = some q) (hA : mm_A K q o) (hx : ∀ (r : (Int32 × Int32)) (M2 : mm_M), F r M2 = some q → (fun r M o => mp_184_39 L xs p n (d) r.1 r.2 M o) r M2 o) : mp_184_8 L xs p n d v2 v3 v4 v5 M o := by
  unfold mf_184_L8 at h
  exact mm_R_loop (step := (fun s M => mf_184_b8 p n v2 s.1 s.2.1 s.2.2 M)) (s := (v3, v4, v5)) (M := M) (P := (fun s M o => mp_184_8 L xs p n (d) v2 s.1 s.2.1 s.2.2 M o)) (X := (fun r M o => mp_184_39 L xs p n (d) r.1 r.2 M o)) h hA (fun s M q hq hA => ms_184_b8 ha (v2 := v2) (v3 := s.1) (v4 := s.2.1) (v5 := s.2.2) (M := M) (q := q) hd hq hA) hx
set_option maxRecDepth 8000 in
set_option maxHeartbeats 4000000 in
theorem ms_184 {L : Nat} {xs : Nat → Int32} {p : Nat} {n : Nat} {d : Nat} (ha : mm_aat 0 p = some n) (hd : 0 ≤ d) {v1 : Int32} {v2 : Int32} {M : mm_M} {q : (Int32 ⊕ Nat) × mm_M} {o : mm_E} (h : mf_184 p n v1 v2 M = some q) (hA : mm_A (mm_Kr mm_wi) q o) : mm_Runs L xs d 184 (0, mm_ent (mm_ml 184) [.ref p, .int v1, .int v2], [], M) o := by
  unfold mf_184 at h
  show mm_Runs L xs (d) 184 (0, [some (.ref p), some (.int v1), some (.int v2), none, none, none], [], M) o
  refine mm_Runs.seq (l := [(0, .iconst 1, 1), (1, .istore_n 3, 1), (2, .iconst 0, 1), (3, .istore 4, 2), (5, .iload_n 1, 1), (6, .istore 5, 2)]) (S2 := (8, [some (.ref p), some (.int v1), some (.int v2), some (.int (1 : Int32)), some (.int (0 : Int32)), some (.int v1)], [], M)) (by decide +kernel) (hO := mm_own_184) rfl ?_
  have hp : mp_184_8 L xs p n (d) v2 (1 : Int32) (0 : Int32) v1 M o := by
    refine ms_184_L8 ha hd h hA (fun r2 M1 h => ?_)
    intro y3 y4 y5 y6
    show mm_Runs L xs (d) 184 (39, [y3, y4, y5, some (.int r2.1), some (.int r2.2), y6], [], M1) o
    refine mm_Runs.seq (l := [(39, .iload 4, 2), (41, .ldc 122, 2), (43, .imul, 1), (44, .iload_n 3, 1), (45, .iadd, 1)]) (S2 := (46, [y3, y4, y5, some (.int r2.1), some (.int r2.2), y6], [.int ((r2.2 * (65536 : Int32)) + r2.1)], M1)) (by decide +kernel) (hO := mm_own_184) rfl ?_
    cases h
    exact mm_R_reti rfl rfl hA
  exact hp (some (.int v1))
-- 210: PlainPacksModel.wrapped()V (depth 7)
theorem mm_own_210 : mm_own 210 = 12 := rfl
def mp_210_55 (L : Nat) (xs : Nat → Int32) (d : Nat) (v1 : Int32) (M : mm_M) (o : mm_E) : Prop := ∀ z2 z3 z4 : Option Value, mm_Runs L xs d 210 (55, [some (.ref 84), some (.int v1), z2, z3, z4], [], M) o
def mp_210_59 (L : Nat) (xs : Nat → Int32) (d : Nat) (v1 : Int32) (M : mm_M) (o : mm_E) : Prop := ∀ z2 z3 z4 : Option Value, mm_Runs L xs d 210 (59, [some (.ref 84), some (.int v1), z2, z3, z4], [], M) o
def mp_210_77 (L : Nat) (xs : Nat → Int32) (d : Nat) (v3 : Int32) (v4 : Int32) (M : mm_M) (o : mm_E) : Prop := ∀ z1 z2 : Option Value, mm_Runs L xs d 210 (77, [some (.ref 84), z1, z2, some (.int v3), some (.int v4)], [], M) o
def mp_210_99 (L : Nat) (xs : Nat → Int32) (d : Nat) (v3 : Int32) (M : mm_M) (o : mm_E) : Prop := ∀ z1 z2 z4 : Option Value, mm_Runs L xs d 210 (99, [some (.ref 84), z1, z2, some (.int v3), z4], [], M) o
set_option maxRecDepth 8000 in
set_option maxHeartbeats 4000000 in
theorem ms_210_b77 {L : Nat} {xs : Nat → Int32} {d : Nat} (hd : 7 ≤ d) {v3 : Int32} {v4 : Int32} {M : mm_M} {q : (((Int32 × Int32) ⊕ (Int32)) ⊕ Nat) × mm_M} {o : mm_E} (h : mf_210_b77 v3 v4 M = some q) (hA : mm_A (mm_K2 (fun s M o => mp_210_77 L xs (d) s.1 s.2 M o) (fun r M o => mp_210_99 L xs (d) r M o)) q o) : mp_210_77 L xs d v3 v4 M o := by
  unfold mf_210_b77 at h
  obtain ⟨d, rfl⟩ := mm_d1 (n := 6) hd
  intro z1 z2
  show mm_Runs L xs (d + 1) 210 (77, [some (.ref 84), z1, z2, some (.int v3), some (.int v4)], [], M) o
  refine mm_Runs.seq (l := [(77, .iload 4, 2), (79, .iconst 4, 1)]) (S2 := (80, [some (.ref 84), z1, z2, some (.int v3), some (.int v4)], [.int (4 : Int32), .int v4], M)) (by decide +kernel) (hO := mm_own_210) rfl ?_
  refine mm_R_ige (t := 99) rfl rfl rfl (fun hc => ?_) (fun hc => ?_)
  · replace h := mm_ip hc h
    refine mm_Runs.seq (l := [(83, .iload_n 3, 1), (84, .bipush 8, 2), (86, .ishl, 1), (87, .aload_n 0, 1)]) (S2 := (88, [some (.ref 84), z1, z2, some (.int v3), some (.int v4)], [.ref 84, .int (mm_shl v3 (8 : Int32))], M)) (by decide +kernel) (hO := mm_own_210) rfl ?_
    refine mm_R_call (v := mm_wi) h hA (k2 := 191) (as := [.ref 84]) (r := [.int (mm_shl v3 (8 : Int32))]) rfl (fun _ => rfl) (fun q hq o ho => ms_191 (by omega) hq ho) (fun r1 M2 h => ?_)
    show mm_Runs L xs (d + 1) 210 (91, [some (.ref 84), z1, z2, some (.int v3), some (.int v4)], [.int r1, .int (mm_shl v3 (8 : Int32))], M2) o
    refine mm_Runs.seq (l := [(91, .ior, 1), (92, .istore_n 3, 1), (93, .iinc 4 1, 3), (96, .goto (-19), 3)]) (S2 := (77, [some (.ref 84), z1, (mm_no2 z2), some (.int ((mm_shl v3 (8 : Int32)) ||| r1)), some (.int (v4 + (1 : Int32)))], [], M2)) (by decide +kernel) (hO := mm_own_210) rfl ?_
    cases h
    exact (show mp_210_77 L xs (d + 1) ((mm_shl v3 (8 : Int32)) ||| r1) (v4 + (1 : Int32)) M2 o from hA) z1 ((mm_no2 z2))
  · replace h := mm_iq hc h
    cases h
    exact (show mp_210_99 L xs (d + 1) v3 M o from hA) z1 z2 (some (.int v4))
theorem ms_210_L77 {L : Nat} {xs : Nat → Int32} {d : Nat} (hd : 7 ≤ d) {v3 : Int32} {v4 : Int32} {β : Type} {K : β → mm_M → mm_E → Prop} {F : (Int32) → mm_M → mm_O β} {M : mm_M} {q : (β ⊕ Nat) × mm_M} {o : mm_E} (h : mm_B (mf_210_L77 (v3, v4) M) F = some q) (hA : mm_A K q o) (hx : ∀ (r : (Int32)) (M2 : mm_M), F r M2 = some q → (fun r M o => mp_210_99 L xs (d) r M o) r M2 o) : mp_210_77 L xs d v3 v4 M o := by
  unfold mf_210_L77 at h
  exact mm_R_loop (step := (fun s M => mf_210_b77 s.1 s.2 M)) (s := (v3, v4)) (M := M) (P := (fun s M o => mp_210_77 L xs (d) s.1 s.2 M o)) (X := (fun r M o => mp_210_99 L xs (d) r M o)) h hA (fun s M q hq hA => ms_210_b77 (v3 := s.1) (v4 := s.2) (M := M) (q := q) hd hq hA) hx
set_option maxRecDepth 8000 in
set_option maxHeartbeats 4000000 in
theorem ms_210_j99 {L : Nat} {xs : Nat → Int32} {d : Nat} (hd : 7 ≤ d) {v3 : Int32} {M : mm_M} {q : (Unit ⊕ Nat) × mm_M} {o : mm_E} (h : mf_210_j99 v3 M = some q) (hA : mm_A (mm_Kr mm_wv) q o) : mp_210_99 L xs d v3 M o := by
  unfold mf_210_j99 at h
  obtain ⟨d, rfl⟩ := mm_d1 (n := 6) hd
  intro z1 z2 z4
  show mm_Runs L xs (d + 1) 210 (99, [some (.ref 84), z1, z2, some (.int v3), z4], [], M) o
  refine mm_Runs.seq (l := [(99, .aload_n 0, 1), (100, .getfield 154, 3)]) (S2 := (103, [some (.ref 84), z1, z2, some (.int v3), z4], [.int (M.1 84 7)], M)) (by decide +kernel) (hO := mm_own_210) rfl ?_
  refine mm_R_zne (t := 126) rfl rfl rfl (fun hc => ?_) (fun hc => ?_)
  · replace h := mm_ip hc h
    refine mm_Runs.seq (l := [(106, .iload_n 3, 1), (107, .aload_n 0, 1), (108, .getfield 13, 3), (111, .iconst 0, 1), (112, .aload_n 0, 1), (113, .getfield 98, 3)]) (S2 := (116, [some (.ref 84), z1, z2, some (.int v3), z4], [.int (M.1 84 4), .int (0 : Int32), .ref 86, .int v3], M)) (by decide +kernel) (hO := mm_own_210) rfl ?_
    refine mm_R_call (v := mm_wi) h hA (k2 := 184) (as := [.ref 86, .int (0 : Int32), .int (M.1 84 4)]) (r := [.int v3]) rfl (fun _ => rfl) (fun q hq o ho => ms_184 rfl (by omega) hq ho) (fun r1 M2 h => ?_)
    show mm_Runs L xs (d + 1) 210 (119, [some (.ref 84), z1, z2, some (.int v3), z4], [.int r1, .int v3], M2) o
    refine mm_R_ieq (t := 126) rfl rfl rfl (fun hc => ?_) (fun hc => ?_)
    · replace h := mm_ip hc h
      cases h
      exact mm_R_retv rfl rfl hA
    · replace h := mm_iq hc h
      refine mm_Runs.seq (l := [(122, .aload_n 0, 1)]) (S2 := (123, [some (.ref 84), z1, z2, some (.int v3), z4], [.ref 84], M2)) (by decide +kernel) (hO := mm_own_210) rfl ?_
      refine mm_R_call (v := mm_wv) h hA (k2 := 190) (as := [.ref 84]) (r := []) rfl (fun _ => rfl) (fun q hq o ho => ms_190 (by omega) hq ho) (fun _ M3 h => ?_)
      show mm_Runs L xs (d + 1) 210 (126, [some (.ref 84), z1, z2, some (.int v3), z4], [], M3) o
      cases h
      exact mm_R_retv rfl rfl hA
  · replace h := mm_iq hc h
    cases h
    exact mm_R_retv rfl rfl hA
set_option maxRecDepth 8000 in
set_option maxHeartbeats 4000000 in
theorem ms_210_j59 {L : Nat} {xs : Nat → Int32} {d : Nat} (hd : 7 ≤ d) {v1 : Int32} {M : mm_M} {q : (Unit ⊕ Nat) × mm_M} {o : mm_E} (h : mf_210_j59 v1 M = some q) (hA : mm_A (mm_Kr mm_wv) q o) : mp_210_59 L xs d v1 M o := by
  unfold mf_210_j59 at h
  obtain ⟨d, rfl⟩ := mm_d1 (n := 6) hd
  intro z2 z3 z4
  show mm_Runs L xs (d + 1) 210 (59, [some (.ref 84), some (.int v1), z2, z3, z4], [], M) o
  refine mm_Runs.seq (l := [(59, .aload_n 0, 1), (60, .iconst 1, 1), (61, .bipush 8, 2), (63, .iload_n 1, 1), (64, .bipush 16, 2), (66, .idiv, 1), (67, .iadd, 1), (68, .ishl, 1)]) (S2 := (69, [some (.ref 84), some (.int v1), z2, z3, z4], [.int (mm_shl (1 : Int32) ((8 : Int32) + (v1 / (16 : Int32)))), .ref 84], M)) (by decide +kernel) (hO := mm_own_210) rfl ?_
  refine mm_R_call (v := mm_wv) h hA (k2 := 203) (as := [.ref 84, .int (mm_shl (1 : Int32) ((8 : Int32) + (v1 / (16 : Int32))))]) (r := []) rfl (fun _ => rfl) (fun q hq o ho => ms_203 (by omega) hq ho) (fun _ M1 h => ?_)
  show mm_Runs L xs (d + 1) 210 (72, [some (.ref 84), some (.int v1), z2, z3, z4], [], M1) o
  refine mm_Runs.seq (l := [(72, .iconst 0, 1), (73, .istore_n 3, 1), (74, .iconst 0, 1), (75, .istore 4, 2)]) (S2 := (77, [some (.ref 84), some (.int v1), (mm_no2 z2), some (.int (0 : Int32)), some (.int (0 : Int32))], [], M1)) (by decide +kernel) (hO := mm_own_210) rfl ?_
  have hp : mp_210_77 L xs (d + 1) (0 : Int32) (0 : Int32) M1 o := by
    refine ms_210_L77 hd h hA (fun r3 M2 h => ?_)
    intro y4 y5 y6
    show mm_Runs L xs (d + 1) 210 (99, [some (.ref 84), y4, y5, some (.int r3), y6], [], M2) o
    exact (ms_210_j99 hd h hA : mp_210_99 L xs (d + 1) r3 M2 o) y4 y5 y6
  exact hp (some (.int v1)) ((mm_no2 z2))
set_option maxRecDepth 8000 in
set_option maxHeartbeats 4000000 in
theorem ms_210_j55 {L : Nat} {xs : Nat → Int32} {d : Nat} (hd : 7 ≤ d) {v1 : Int32} {M : mm_M} {q : (Unit ⊕ Nat) × mm_M} {o : mm_E} (h : mf_210_j55 v1 M = some q) (hA : mm_A (mm_Kr mm_wv) q o) : mp_210_55 L xs d v1 M o := by
  unfold mf_210_j55 at h
  obtain ⟨d, rfl⟩ := mm_d1 (n := 6) hd
  intro z2 z3 z4
  show mm_Runs L xs (d + 1) 210 (55, [some (.ref 84), some (.int v1), z2, z3, z4], [], M) o
  refine mm_Runs.seq (l := [(55, .aload_n 0, 1)]) (S2 := (56, [some (.ref 84), some (.int v1), z2, z3, z4], [.ref 84], M)) (by decide +kernel) (hO := mm_own_210) rfl ?_
  refine mm_R_call (v := mm_wv) h hA (k2 := 190) (as := [.ref 84]) (r := []) rfl (fun _ => rfl) (fun q hq o ho => ms_190 (by omega) hq ho) (fun _ M1 h => ?_)
  show mm_Runs L xs (d + 1) 210 (59, [some (.ref 84), some (.int v1), z2, z3, z4], [], M1) o
  exact (ms_210_j59 hd h hA : mp_210_59 L xs (d + 1) v1 M1 o) z2 z3 z4
set_option maxRecDepth 8000 in
set_option maxHeartbeats 4000000 in
theorem ms_210 {L : Nat} {xs : Nat → Int32} {d : Nat} (hd : 7 ≤ d) {M : mm_M} {q : (Unit ⊕ Nat) × mm_M} {o : mm_E} (h : mf_210 M = some q) (hA : mm_A (mm_Kr mm_wv) q o) : mm_Runs L xs d 210 (0, mm_ent (mm_ml 210) [.ref 84], [], M) o := by
  unfold mf_210 at h
  obtain ⟨d, rfl⟩ := mm_d1 (n := 6) hd
  show mm_Runs L xs (d + 1) 210 (0, [some (.ref 84), none, none, none, none], [], M) o
  refine mm_Runs.seq (l := [(0, .aload_n 0, 1)]) (S2 := (1, [some (.ref 84), none, none, none, none], [.ref 84], M)) (by decide +kernel) (hO := mm_own_210) rfl ?_
  refine mm_R_call (v := mm_wi) h hA (k2 := 191) (as := [.ref 84]) (r := []) rfl (fun _ => rfl) (fun q hq o ho => ms_191 (by omega) hq ho) (fun r1 M2 h => ?_)
  show mm_Runs L xs (d + 1) 210 (4, [some (.ref 84), none, none, none, none], [.int r1], M2) o
  refine mm_Runs.seq (l := [(4, .istore_n 1, 1), (5, .aload_n 0, 1)]) (S2 := (6, [some (.ref 84), some (.int r1), none, none, none], [.ref 84], M2)) (by decide +kernel) (hO := mm_own_210) rfl ?_
  refine mm_R_call (v := mm_wi) h hA (k2 := 191) (as := [.ref 84]) (r := []) rfl (fun _ => rfl) (fun q hq o ho => ms_191 (by omega) hq ho) (fun r3 M4 h => ?_)
  show mm_Runs L xs (d + 1) 210 (9, [some (.ref 84), some (.int r1), none, none, none], [.int r3], M4) o
  refine mm_Runs.seq (l := [(9, .istore_n 2, 1), (10, .aload_n 0, 1), (11, .getfield 154, 3)]) (S2 := (14, [some (.ref 84), some (.int r1), some (.int r3), none, none], [.int (M4.1 84 7)], M4)) (by decide +kernel) (hO := mm_own_210) rfl ?_
  refine mm_R_zne (t := 59) rfl rfl rfl (fun hc => ?_) (fun hc => ?_)
  · replace h := mm_ip hc h
    refine mm_Runs.seq (l := [(17, .iload_n 1, 1), (18, .bipush 16, 2), (20, .irem, 1), (21, .bipush 8, 2)]) (S2 := (23, [some (.ref 84), some (.int r1), some (.int r3), none, none], [.int (8 : Int32), .int (mm_rem r1 (16 : Int32))], M4)) (by decide +kernel) (hO := mm_own_210) rfl ?_
    refine mm_R_ine (t := 55) rfl rfl rfl (fun hc => ?_) (fun hc => ?_)
    · replace h := mm_ip hc h
      refine mm_Runs.seq (l := [(26, .iload_n 1, 1), (27, .bipush 16, 2), (29, .idiv, 1), (30, .bipush 7, 2)]) (S2 := (32, [some (.ref 84), some (.int r1), some (.int r3), none, none], [.int (7 : Int32), .int (r1 / (16 : Int32))], M4)) (by decide +kernel) (hO := mm_own_210) rfl ?_
      refine mm_R_igt (t := 55) rfl rfl rfl (fun hc => ?_) (fun hc => ?_)
      · replace h := mm_ip hc h
        exact (ms_210_j55 hd h hA : mp_210_55 L xs (d + 1) r1 M4 o) (some (.int r3)) none none
      · replace h := mm_iq hc h
        refine mm_Runs.seq (l := [(35, .sipush 256, 3), (38, .iload_n 1, 1), (39, .imul, 1), (40, .iload_n 2, 1), (41, .iadd, 1), (42, .bipush 31, 2), (44, .irem, 1)]) (S2 := (45, [some (.ref 84), some (.int r1), some (.int r3), none, none], [.int (mm_rem (((256 : Int32) * r1) + r3) (31 : Int32))], M4)) (by decide +kernel) (hO := mm_own_210) rfl ?_
        refine mm_R_zne (t := 55) rfl rfl rfl (fun hc => ?_) (fun hc => ?_)
        · replace h := mm_ip hc h
          refine mm_Runs.seq (l := [(48, .iload_n 2, 1), (49, .bipush 32, 2), (51, .iand, 1)]) (S2 := (52, [some (.ref 84), some (.int r1), some (.int r3), none, none], [.int (r3 &&& (32 : Int32))], M4)) (by decide +kernel) (hO := mm_own_210) rfl ?_
          refine mm_R_zeq (t := 59) rfl rfl rfl (fun hc => ?_) (fun hc => ?_)
          · replace h := mm_ip hc h
            exact (ms_210_j59 hd h hA : mp_210_59 L xs (d + 1) r1 M4 o) (some (.int r3)) none none
          · replace h := mm_iq hc h
            exact (ms_210_j55 hd h hA : mp_210_55 L xs (d + 1) r1 M4 o) (some (.int r3)) none none
        · replace h := mm_iq hc h
          exact (ms_210_j55 hd h hA : mp_210_55 L xs (d + 1) r1 M4 o) (some (.int r3)) none none
    · replace h := mm_iq hc h
      exact (ms_210_j55 hd h hA : mp_210_55 L xs (d + 1) r1 M4 o) (some (.int r3)) none none
  · replace h := mm_iq hc h
    exact (ms_210_j59 hd h hA : mp_210_59 L xs (d + 1) r1 M4 o) (some (.int r3)) none none
-- 192: PlainPacksModel.want(I)V (depth 2)
theorem mm_own_192 : mm_own 192 = 12 := rfl
set_option maxRecDepth 8000 in
set_option maxHeartbeats 4000000 in
theorem ms_192 {L : Nat} {xs : Nat → Int32} {d : Nat} (hd : 2 ≤ d) {v1 : Int32} {M : mm_M} {q : (Unit ⊕ Nat) × mm_M} {o : mm_E} (h : mf_192 v1 M = some q) (hA : mm_A (mm_Kr mm_wv) q o) : mm_Runs L xs d 192 (0, mm_ent (mm_ml 192) [.ref 84, .int v1], [], M) o := by
  unfold mf_192 at h
  obtain ⟨d, rfl⟩ := mm_d1 (n := 1) hd
  show mm_Runs L xs (d + 1) 192 (0, [some (.ref 84), some (.int v1), none], [], M) o
  refine mm_Runs.seq (l := [(0, .aload_n 0, 1)]) (S2 := (1, [some (.ref 84), some (.int v1), none], [.ref 84], M)) (by decide +kernel) (hO := mm_own_192) rfl ?_
  refine mm_R_call (v := mm_wi) h hA (k2 := 191) (as := [.ref 84]) (r := []) rfl (fun _ => rfl) (fun q hq o ho => ms_191 (by omega) hq ho) (fun r1 M2 h => ?_)
  show mm_Runs L xs (d + 1) 192 (4, [some (.ref 84), some (.int v1), none], [.int r1], M2) o
  refine mm_Runs.seq (l := [(4, .istore_n 2, 1), (5, .aload_n 0, 1), (6, .getfield 154, 3)]) (S2 := (9, [some (.ref 84), some (.int v1), some (.int r1)], [.int (M2.1 84 7)], M2)) (by decide +kernel) (hO := mm_own_192) rfl ?_
  refine mm_R_zne (t := 21) rfl rfl rfl (fun hc => ?_) (fun hc => ?_)
  · replace h := mm_ip hc h
    refine mm_Runs.seq (l := [(12, .iload_n 2, 1), (13, .iload_n 1, 1)]) (S2 := (14, [some (.ref 84), some (.int v1), some (.int r1)], [.int v1, .int r1], M2)) (by decide +kernel) (hO := mm_own_192) rfl ?_
    refine mm_R_ieq (t := 21) rfl rfl rfl (fun hc => ?_) (fun hc => ?_)
    · replace h := mm_ip hc h
      cases h
      exact mm_R_retv rfl rfl hA
    · replace h := mm_iq hc h
      refine mm_Runs.seq (l := [(17, .aload_n 0, 1)]) (S2 := (18, [some (.ref 84), some (.int v1), some (.int r1)], [.ref 84], M2)) (by decide +kernel) (hO := mm_own_192) rfl ?_
      refine mm_R_call (v := mm_wv) h hA (k2 := 190) (as := [.ref 84]) (r := []) rfl (fun _ => rfl) (fun q hq o ho => ms_190 (by omega) hq ho) (fun _ M3 h => ?_)
      show mm_Runs L xs (d + 1) 192 (21, [some (.ref 84), some (.int v1), some (.int r1)], [], M3) o
      cases h
      exact mm_R_retv rfl rfl hA
  · replace h := mm_iq hc h
    cases h
    exact mm_R_retv rfl rfl hA
-- 211: PlainPacksModel.toZero()V (depth 2)
theorem mm_own_211 : mm_own 211 = 12 := rfl
def mp_211_2 (L : Nat) (xs : Nat → Int32) (d : Nat) (v1 : Int32) (M : mm_M) (o : mm_E) : Prop := mm_Runs L xs d 211 (2, [some (.ref 84), some (.int v1)], [], M) o
def mp_211_21 (L : Nat) (xs : Nat → Int32) (d : Nat) (M : mm_M) (o : mm_E) : Prop := ∀ z0 z1 : Option Value, mm_Runs L xs d 211 (21, [z0, z1], [], M) o
set_option maxRecDepth 8000 in
set_option maxHeartbeats 4000000 in
theorem ms_211_b2 {L : Nat} {xs : Nat → Int32} {d : Nat} (hd : 2 ≤ d) {v1 : Int32} {M : mm_M} {q : (((Int32) ⊕ (Unit)) ⊕ Nat) × mm_M} {o : mm_E} (h : mf_211_b2 v1 M = some q) (hA : mm_A (mm_K2 (fun s M o => mp_211_2 L xs (d) s M o) (fun r M o => mp_211_21 L xs (d) M o)) q o) : mp_211_2 L xs d v1 M o := by
  unfold mf_211_b2 at h
  obtain ⟨d, rfl⟩ := mm_d1 (n := 1) hd
  show mm_Runs L xs (d + 1) 211 (2, [some (.ref 84), some (.int v1)], [], M) o
  refine mm_Runs.seq (l := [(2, .iload_n 1, 1)]) (S2 := (3, [some (.ref 84), some (.int v1)], [.int v1], M)) (by decide +kernel) (hO := mm_own_211) rfl ?_
  refine mm_R_zeq (t := 21) rfl rfl rfl (fun hc => ?_) (fun hc => ?_)
  · replace h := mm_ip hc h
    cases h
    exact (show mp_211_21 L xs (d + 1) M o from hA) (some (.ref 84)) (some (.int v1))
  · replace h := mm_iq hc h
    refine mm_Runs.seq (l := [(6, .aload_n 0, 1), (7, .getfield 154, 3)]) (S2 := (10, [some (.ref 84), some (.int v1)], [.int (M.1 84 7)], M)) (by decide +kernel) (hO := mm_own_211) rfl ?_
    refine mm_R_zne (t := 21) rfl rfl rfl (fun hc => ?_) (fun hc => ?_)
    · replace h := mm_ip hc h
      refine mm_Runs.seq (l := [(13, .aload_n 0, 1)]) (S2 := (14, [some (.ref 84), some (.int v1)], [.ref 84], M)) (by decide +kernel) (hO := mm_own_211) rfl ?_
      refine mm_R_call (v := mm_wi) h hA (k2 := 191) (as := [.ref 84]) (r := []) rfl (fun _ => rfl) (fun q hq o ho => ms_191 (by omega) hq ho) (fun r1 M2 h => ?_)
      show mm_Runs L xs (d + 1) 211 (17, [some (.ref 84), some (.int v1)], [.int r1], M2) o
      refine mm_Runs.seq (l := [(17, .istore_n 1, 1), (18, .goto (-16), 3)]) (S2 := (2, [some (.ref 84), some (.int r1)], [], M2)) (by decide +kernel) (hO := mm_own_211) rfl ?_
      cases h
      exact (show mp_211_2 L xs (d + 1) r1 M2 o from hA)
    · replace h := mm_iq hc h
      cases h
      exact (show mp_211_21 L xs (d + 1) M o from hA) (some (.ref 84)) (some (.int v1))
theorem ms_211_L2 {L : Nat} {xs : Nat → Int32} {d : Nat} (hd : 2 ≤ d) {v1 : Int32} {β : Type} {K : β → mm_M → mm_E → Prop} {F : (Unit) → mm_M → mm_O β} {M : mm_M} {q : (β ⊕ Nat) × mm_M} {o : mm_E} (h : mm_B (mf_211_L2 v1 M) F = some q) (hA : mm_A K q o) (hx : ∀ (r : (Unit)) (M2 : mm_M), F r M2 = some q → (fun r M o => mp_211_21 L xs (d) M o) r M2 o) : mp_211_2 L xs d v1 M o := by
  unfold mf_211_L2 at h
  exact mm_R_loop (step := (fun s M => mf_211_b2 s M)) (s := v1) (M := M) (P := (fun s M o => mp_211_2 L xs (d) s M o)) (X := (fun r M o => mp_211_21 L xs (d) M o)) h hA (fun s M q hq hA => ms_211_b2 (v1 := s) (M := M) (q := q) hd hq hA) hx
set_option maxRecDepth 8000 in
set_option maxHeartbeats 4000000 in
theorem ms_211 {L : Nat} {xs : Nat → Int32} {d : Nat} (hd : 2 ≤ d) {M : mm_M} {q : (Unit ⊕ Nat) × mm_M} {o : mm_E} (h : mf_211 M = some q) (hA : mm_A (mm_Kr mm_wv) q o) : mm_Runs L xs d 211 (0, mm_ent (mm_ml 211) [.ref 84], [], M) o := by
  unfold mf_211 at h
  obtain ⟨d, rfl⟩ := mm_d1 (n := 1) hd
  show mm_Runs L xs (d + 1) 211 (0, [some (.ref 84), none], [], M) o
  refine mm_Runs.seq (l := [(0, .iconst 1, 1), (1, .istore_n 1, 1)]) (S2 := (2, [some (.ref 84), some (.int (1 : Int32))], [], M)) (by decide +kernel) (hO := mm_own_211) rfl ?_
  have hp : mp_211_2 L xs (d + 1) (1 : Int32) M o := by
    refine ms_211_L2 hd h hA (fun r2 M1 h => ?_)
    intro y3 y4
    show mm_Runs L xs (d + 1) 211 (21, [y3, y4], [], M1) o
    cases h
    exact mm_R_retv rfl rfl hA
  exact hp
-- 182: PlainPacksModel.crc([III)I (depth 0)
theorem mm_own_182 : mm_own 182 = 12 := rfl
def mp_182_5 (L : Nat) (xs : Nat → Int32) (p : Nat) (n : Nat) (d : Nat) (v2 : Int32) (v3 : Int32) (v4 : Int32) (M : mm_M) (o : mm_E) : Prop := ∀ z1 z5 : Option Value, mm_Runs L xs d 182 (5, [some (.ref p), z1, some (.int v2), some (.int v3), some (.int v4), z5], [], M) o
def mp_182_60 (L : Nat) (xs : Nat → Int32) (p : Nat) (n : Nat) (d : Nat) (v3 : Int32) (M : mm_M) (o : mm_E) : Prop := ∀ z0 z1 z2 z4 z5 : Option Value, mm_Runs L xs d 182 (60, [z0, z1, z2, some (.int v3), z4, z5], [], M) o
def mp_182_21 (L : Nat) (xs : Nat → Int32) (p : Nat) (n : Nat) (d : Nat) (v2 : Int32) (v3 : Int32) (v4 : Int32) (v5 : Int32) (M : mm_M) (o : mm_E) : Prop := ∀ z1 : Option Value, mm_Runs L xs d 182 (21, [some (.ref p), z1, some (.int v2), some (.int v3), some (.int v4), some (.int v5)], [], M) o
def mp_182_54 (L : Nat) (xs : Nat → Int32) (p : Nat) (n : Nat) (d : Nat) (v2 : Int32) (v3 : Int32) (v4 : Int32) (M : mm_M) (o : mm_E) : Prop := ∀ z1 z5 : Option Value, mm_Runs L xs d 182 (54, [some (.ref p), z1, some (.int v2), some (.int v3), some (.int v4), z5], [], M) o
set_option maxRecDepth 8000 in
set_option maxHeartbeats 4000000 in
theorem ms_182_b21 {L : Nat} {xs : Nat → Int32} {p : Nat} {n : Nat} {d : Nat} (ha : mm_aat 0 p = some n) (hd : 0 ≤ d) {v2 : Int32} {v3 : Int32} {v4 : Int32} {v5 : Int32} {M : mm_M} {q : (((Int32 × Int32) ⊕ (Int32)) ⊕ Nat) × mm_M} {o : mm_E} (h : mf_182_b21 p n v2 v3 v4 v5 M = some q) (hA : mm_A (mm_K2 (fun s M o => mp_182_21 L xs p n (d) v2 s.1 v4 s.2 M o) (fun r M o => mp_182_54 L xs p n (d) v2 r v4 M o)) q o) : mp_182_21 L xs p n d v2 v3 v4 v5 M o := by
  unfold mf_182_b21 at h
  intro z1
  show mm_Runs L xs (d) 182 (21, [some (.ref p), z1, some (.int v2), some (.int v3), some (.int v4), some (.int v5)], [], M) o
  refine mm_Runs.seq (l := [(21, .iload 5, 2), (23, .bipush 8, 2)]) (S2 := (25, [some (.ref p), z1, some (.int v2), some (.int v3), some (.int v4), some (.int v5)], [.int (8 : Int32), .int v5], M)) (by decide +kernel) (hO := mm_own_182) rfl ?_
  refine mm_R_ige (t := 54) rfl rfl rfl (fun hc => ?_) (fun hc => ?_)
  · replace h := mm_ip hc h
    refine mm_Runs.seq (l := [(28, .iload_n 3, 1), (29, .iconst 1, 1), (30, .iand, 1), (31, .iconst 1, 1)]) (S2 := (32, [some (.ref p), z1, some (.int v2), some (.int v3), some (.int v4), some (.int v5)], [.int (1 : Int32), .int (v3 &&& (1 : Int32))], M)) (by decide +kernel) (hO := mm_own_182) rfl ?_
    refine mm_R_ine (t := 44) rfl rfl rfl (fun hc => ?_) (fun hc => ?_)
    · replace h := mm_ip hc h
      refine mm_Runs.seq (l := [(35, .iload_n 3, 1), (36, .iconst 1, 1), (37, .iushr, 1), (38, .ldc 119, 2), (40, .ixor, 1), (41, .goto 6, 3), (47, .istore_n 3, 1), (48, .iinc 5 1, 3), (51, .goto (-30), 3)]) (S2 := (21, [some (.ref p), z1, some (.int v2), some (.int ((mm_ush v3 (1 : Int32)) ^^^ (-306674912 : Int32))), some (.int v4), some (.int (v5 + (1 : Int32)))], [], M)) (by decide +kernel) (hO := mm_own_182) rfl ?_
      cases h
      exact (show mp_182_21 L xs p n (d) v2 ((mm_ush v3 (1 : Int32)) ^^^ (-306674912 : Int32)) v4 (v5 + (1 : Int32)) M o from hA) z1
    · replace h := mm_iq hc h
      refine mm_Runs.seq (l := [(44, .iload_n 3, 1), (45, .iconst 1, 1), (46, .iushr, 1), (47, .istore_n 3, 1), (48, .iinc 5 1, 3), (51, .goto (-30), 3)]) (S2 := (21, [some (.ref p), z1, some (.int v2), some (.int (mm_ush v3 (1 : Int32))), some (.int v4), some (.int (v5 + (1 : Int32)))], [], M)) (by decide +kernel) (hO := mm_own_182) rfl ?_
      cases h
      exact (show mp_182_21 L xs p n (d) v2 (mm_ush v3 (1 : Int32)) v4 (v5 + (1 : Int32)) M o from hA) z1
  · replace h := mm_iq hc h
    cases h
    exact (show mp_182_54 L xs p n (d) v2 v3 v4 M o from hA) z1 (some (.int v5))
theorem ms_182_L21 {L : Nat} {xs : Nat → Int32} {p : Nat} {n : Nat} {d : Nat} (ha : mm_aat 0 p = some n) (hd : 0 ≤ d) {v2 : Int32} {v3 : Int32} {v4 : Int32} {v5 : Int32} {β : Type} {K : β → mm_M → mm_E → Prop} {F : (Int32) → mm_M → mm_O β} {M : mm_M} {q : (β ⊕ Nat) × mm_M} {o : mm_E} (h : mm_B (mf_182_L21 p n v2 v4 (v3, v5) M) F = some q) (hA : mm_A K q o) (hx : ∀ (r : (Int32)) (M2 : mm_M), F r M2 = some q → (fun r M o => mp_182_54 L xs p n (d) v2 r v4 M o) r M2 o) : mp_182_21 L xs p n d v2 v3 v4 v5 M o := by
  unfold mf_182_L21 at h
  exact mm_R_loop (step := (fun s M => mf_182_b21 p n v2 s.1 v4 s.2 M)) (s := (v3, v5)) (M := M) (P := (fun s M o => mp_182_21 L xs p n (d) v2 s.1 v4 s.2 M o)) (X := (fun r M o => mp_182_54 L xs p n (d) v2 r v4 M o)) h hA (fun s M q hq hA => ms_182_b21 ha (v2 := v2) (v3 := s.1) (v4 := v4) (v5 := s.2) (M := M) (q := q) hd hq hA) hx
set_option maxRecDepth 8000 in
set_option maxHeartbeats 4000000 in
theorem ms_182_b5 {L : Nat} {xs : Nat → Int32} {p : Nat} {n : Nat} {d : Nat} (ha : mm_aat 0 p = some n) (hd : 0 ≤ d) {v2 : Int32} {v3 : Int32} {v4 : Int32} {M : mm_M} {q : (((Int32 × Int32) ⊕ (Int32)) ⊕ Nat) × mm_M} {o : mm_E} (h : mf_182_b5 p n v2 v3 v4 M = some q) (hA : mm_A (mm_K2 (fun s M o => mp_182_5 L xs p n (d) v2 s.1 s.2 M o) (fun r M o => mp_182_60 L xs p n (d) r M o)) q o) : mp_182_5 L xs p n d v2 v3 v4 M o := by
  unfold mf_182_b5 at h
  intro z1 z5
  show mm_Runs L xs (d) 182 (5, [some (.ref p), z1, some (.int v2), some (.int v3), some (.int v4), z5], [], M) o
  refine mm_Runs.seq (l := [(5, .iload 4, 2), (7, .iload_n 2, 1)]) (S2 := (8, [some (.ref p), z1, some (.int v2), some (.int v3), some (.int v4), z5], [.int v2, .int v4], M)) (by decide +kernel) (hO := mm_own_182) rfl ?_
  refine mm_R_ige (t := 60) rfl rfl rfl (fun hc => ?_) (fun hc => ?_)
  · replace h := mm_ip hc h
    refine mm_Runs.seq (l := [(11, .iload_n 3, 1), (12, .aload_n 0, 1), (13, .iload 4, 2)]) (S2 := (15, [some (.ref p), z1, some (.int v2), some (.int v3), some (.int v4), z5], [.int v4, .ref p, .int v3], M)) (by decide +kernel) (hO := mm_own_182) rfl ?_
    obtain ⟨hb, h⟩ := mm_gd h
    refine mm_R_iald rfl ha hb ?_
    refine mm_Runs.seq (l := [(16, .ixor, 1), (17, .istore_n 3, 1), (18, .iconst 0, 1), (19, .istore 5, 2)]) (S2 := (21, [some (.ref p), z1, some (.int v2), some (.int (v3 ^^^ (M.1 p v4.toNatClampNeg))), some (.int v4), some (.int (0 : Int32))], [], M)) (by decide +kernel) (hO := mm_own_182) rfl ?_
    have hp : mp_182_21 L xs p n (d) v2 (v3 ^^^ (M.1 p v4.toNatClampNeg)) v4 (0 : Int32) M o := by
      refine ms_182_L21 ha hd h hA (fun r2 M1 h => ?_)
      intro y3 y4
      show mm_Runs L xs (d) 182 (54, [some (.ref p), y3, some (.int v2), some (.int r2), some (.int v4), y4], [], M1) o
      refine mm_Runs.seq (l := [(54, .iinc 4 1, 3), (57, .goto (-52), 3)]) (S2 := (5, [some (.ref p), y3, some (.int v2), some (.int r2), some (.int (v4 + (1 : Int32))), y4], [], M1)) (by decide +kernel) (hO := mm_own_182) rfl ?_
      cases h
      exact (show mp_182_5 L xs p n (d) v2 r2 (v4 + (1 : Int32)) M1 o from hA) y3 y4
    exact hp z1
  · replace h := mm_iq hc h
    cases h
    exact (show mp_182_60 L xs p n (d) v3 M o from hA) (some (.ref p)) z1 (some (.int v2)) (some (.int v4)) z5
theorem ms_182_L5 {L : Nat} {xs : Nat → Int32} {p : Nat} {n : Nat} {d : Nat} (ha : mm_aat 0 p = some n) (hd : 0 ≤ d) {v2 : Int32} {v3 : Int32} {v4 : Int32} {β : Type} {K : β → mm_M → mm_E → Prop} {F : (Int32) → mm_M → mm_O β} {M : mm_M} {q : (β ⊕ Nat) × mm_M} {o : mm_E} (h : mm_B (mf_182_L5 p n v2 (v3, v4) M) F = some q) (hA : mm_A K q o) (hx : ∀ (r : (Int32)) (M2 : mm_M), F r M2 = some q → (fun r M o => mp_182_60 L xs p n (d) r M o) r M2 o) : mp_182_5 L xs p n d v2 v3 v4 M o := by
  unfold mf_182_L5 at h
  exact mm_R_loop (step := (fun s M => mf_182_b5 p n v2 s.1 s.2 M)) (s := (v3, v4)) (M := M) (P := (fun s M o => mp_182_5 L xs p n (d) v2 s.1 s.2 M o)) (X := (fun r M o => mp_182_60 L xs p n (d) r M o)) h hA (fun s M q hq hA => ms_182_b5 ha (v2 := v2) (v3 := s.1) (v4 := s.2) (M := M) (q := q) hd hq hA) hx
set_option maxRecDepth 8000 in
set_option maxHeartbeats 4000000 in
theorem ms_182 {L : Nat} {xs : Nat → Int32} {p : Nat} {n : Nat} {d : Nat} (ha : mm_aat 0 p = some n) (hd : 0 ≤ d) {v1 : Int32} {v2 : Int32} {M : mm_M} {q : (Int32 ⊕ Nat) × mm_M} {o : mm_E} (h : mf_182 p n v1 v2 M = some q) (hA : mm_A (mm_Kr mm_wi) q o) : mm_Runs L xs d 182 (0, mm_ent (mm_ml 182) [.ref p, .int v1, .int v2], [], M) o := by
  unfold mf_182 at h
  show mm_Runs L xs (d) 182 (0, [some (.ref p), some (.int v1), some (.int v2), none, none, none], [], M) o
  refine mm_Runs.seq (l := [(0, .iconst (-1), 1), (1, .istore_n 3, 1), (2, .iload_n 1, 1), (3, .istore 4, 2)]) (S2 := (5, [some (.ref p), some (.int v1), some (.int v2), some (.int (-1 : Int32)), some (.int v1), none], [], M)) (by decide +kernel) (hO := mm_own_182) rfl ?_
  have hp : mp_182_5 L xs p n (d) v2 (-1 : Int32) v1 M o := by
    refine ms_182_L5 ha hd h hA (fun r2 M1 h => ?_)
    intro y3 y4 y5 y6 y7
    show mm_Runs L xs (d) 182 (60, [y3, y4, y5, some (.int r2), y6, y7], [], M1) o
    refine mm_Runs.seq (l := [(60, .iload_n 3, 1), (61, .iconst (-1), 1), (62, .ixor, 1)]) (S2 := (63, [y3, y4, y5, some (.int r2), y6, y7], [.int (r2 ^^^ (-1 : Int32))], M1)) (by decide +kernel) (hO := mm_own_182) rfl ?_
    cases h
    exact mm_R_reti rfl rfl hA
  exact hp (some (.int v1)) none
-- 213: PlainPacksModel.sumIs(I)V (depth 3)
theorem mm_own_213 : mm_own 213 = 12 := rfl
set_option maxRecDepth 8000 in
set_option maxHeartbeats 4000000 in
theorem ms_213 {L : Nat} {xs : Nat → Int32} {d : Nat} (hd : 3 ≤ d) {v1 : Int32} {M : mm_M} {q : (Unit ⊕ Nat) × mm_M} {o : mm_E} (h : mf_213 v1 M = some q) (hA : mm_A (mm_Kr mm_wv) q o) : mm_Runs L xs d 213 (0, mm_ent (mm_ml 213) [.ref 84, .int v1], [], M) o := by
  unfold mf_213 at h
  obtain ⟨d, rfl⟩ := mm_d1 (n := 2) hd
  show mm_Runs L xs (d + 1) 213 (0, [some (.ref 84), some (.int v1), none], [], M) o
  refine mm_Runs.seq (l := [(0, .aload_n 0, 1), (1, .iconst 4, 1)]) (S2 := (2, [some (.ref 84), some (.int v1), none], [.int (4 : Int32), .ref 84], M)) (by decide +kernel) (hO := mm_own_213) rfl ?_
  refine mm_R_call (v := mm_wl) h hA (k2 := 193) (as := [.ref 84, .int (4 : Int32)]) (r := []) rfl (fun _ => rfl) (fun q hq o ho => ms_193 (by omega) hq ho) (fun r1 M2 h => ?_)
  show mm_Runs L xs (d + 1) 213 (5, [some (.ref 84), some (.int v1), none], [.long r1], M2) o
  refine mm_Runs.seq (l := [(5, .l2i, 1), (6, .istore_n 2, 1), (7, .aload_n 0, 1), (8, .getfield 154, 3)]) (S2 := (11, [some (.ref 84), some (.int v1), some (.int r1.toInt32)], [.int (M2.1 84 7)], M2)) (by decide +kernel) (hO := mm_own_213) rfl ?_
  refine mm_R_zne (t := 23) rfl rfl rfl (fun hc => ?_) (fun hc => ?_)
  · replace h := mm_ip hc h
    refine mm_Runs.seq (l := [(14, .iload_n 2, 1), (15, .iload_n 1, 1)]) (S2 := (16, [some (.ref 84), some (.int v1), some (.int r1.toInt32)], [.int v1, .int r1.toInt32], M2)) (by decide +kernel) (hO := mm_own_213) rfl ?_
    refine mm_R_ieq (t := 23) rfl rfl rfl (fun hc => ?_) (fun hc => ?_)
    · replace h := mm_ip hc h
      cases h
      exact mm_R_retv rfl rfl hA
    · replace h := mm_iq hc h
      refine mm_Runs.seq (l := [(19, .aload_n 0, 1)]) (S2 := (20, [some (.ref 84), some (.int v1), some (.int r1.toInt32)], [.ref 84], M2)) (by decide +kernel) (hO := mm_own_213) rfl ?_
      refine mm_R_call (v := mm_wv) h hA (k2 := 190) (as := [.ref 84]) (r := []) rfl (fun _ => rfl) (fun q hq o ho => ms_190 (by omega) hq ho) (fun _ M3 h => ?_)
      show mm_Runs L xs (d + 1) 213 (23, [some (.ref 84), some (.int v1), some (.int r1.toInt32)], [], M3) o
      cases h
      exact mm_R_retv rfl rfl hA
  · replace h := mm_iq hc h
    cases h
    exact mm_R_retv rfl rfl hA
-- 212: PlainPacksModel.file()V (depth 7)
theorem mm_own_212 : mm_own 212 = 12 := rfl
def mp_212_43 (L : Nat) (xs : Nat → Int32) (d : Nat) (v1 : Int32) (v2 : Int32) (M : mm_M) (o : mm_E) : Prop := ∀ z3 : Option Value, mm_Runs L xs d 212 (43, [some (.ref 84), some (.int v1), some (.int v2), z3], [], M) o
def mp_212_60 (L : Nat) (xs : Nat → Int32) (d : Nat) (v1 : Int32) (M : mm_M) (o : mm_E) : Prop := ∀ z2 z3 : Option Value, mm_Runs L xs d 212 (60, [some (.ref 84), some (.int v1), z2, z3], [], M) o
set_option maxRecDepth 8000 in
set_option maxHeartbeats 4000000 in
theorem ms_212_b43 {L : Nat} {xs : Nat → Int32} {d : Nat} (hd : 7 ≤ d) {v1 : Int32} {v2 : Int32} {M : mm_M} {q : (((Int32) ⊕ (Unit)) ⊕ Nat) × mm_M} {o : mm_E} (h : mf_212_b43 v1 v2 M = some q) (hA : mm_A (mm_K2 (fun s M o => mp_212_43 L xs (d) v1 s M o) (fun r M o => mp_212_60 L xs (d) v1 M o)) q o) : mp_212_43 L xs d v1 v2 M o := by
  unfold mf_212_b43 at h
  obtain ⟨d, rfl⟩ := mm_d1 (n := 6) hd
  intro z3
  show mm_Runs L xs (d + 1) 212 (43, [some (.ref 84), some (.int v1), some (.int v2), z3], [], M) o
  refine mm_Runs.seq (l := [(43, .iload_n 2, 1), (44, .bipush 6, 2)]) (S2 := (46, [some (.ref 84), some (.int v1), some (.int v2), z3], [.int (6 : Int32), .int v2], M)) (by decide +kernel) (hO := mm_own_212) rfl ?_
  refine mm_R_ige (t := 60) rfl rfl rfl (fun hc => ?_) (fun hc => ?_)
  · replace h := mm_ip hc h
    refine mm_Runs.seq (l := [(49, .aload_n 0, 1)]) (S2 := (50, [some (.ref 84), some (.int v1), some (.int v2), z3], [.ref 84], M)) (by decide +kernel) (hO := mm_own_212) rfl ?_
    refine mm_R_call (v := mm_wi) h hA (k2 := 191) (as := [.ref 84]) (r := []) rfl (fun _ => rfl) (fun q hq o ho => ms_191 (by omega) hq ho) (fun r1 M2 h => ?_)
    show mm_Runs L xs (d + 1) 212 (53, [some (.ref 84), some (.int v1), some (.int v2), z3], [.int r1], M2) o
    refine mm_Runs.seq (l := [(53, .pop, 1), (54, .iinc 2 1, 3), (57, .goto (-14), 3)]) (S2 := (43, [some (.ref 84), some (.int v1), some (.int (v2 + (1 : Int32))), z3], [], M2)) (by decide +kernel) (hO := mm_own_212) rfl ?_
    cases h
    exact (show mp_212_43 L xs (d + 1) v1 (v2 + (1 : Int32)) M2 o from hA) z3
  · replace h := mm_iq hc h
    cases h
    exact (show mp_212_60 L xs (d + 1) v1 M o from hA) (some (.int v2)) z3
theorem ms_212_L43 {L : Nat} {xs : Nat → Int32} {d : Nat} (hd : 7 ≤ d) {v1 : Int32} {v2 : Int32} {β : Type} {K : β → mm_M → mm_E → Prop} {F : (Unit) → mm_M → mm_O β} {M : mm_M} {q : (β ⊕ Nat) × mm_M} {o : mm_E} (h : mm_B (mf_212_L43 v1 v2 M) F = some q) (hA : mm_A K q o) (hx : ∀ (r : (Unit)) (M2 : mm_M), F r M2 = some q → (fun r M o => mp_212_60 L xs (d) v1 M o) r M2 o) : mp_212_43 L xs d v1 v2 M o := by
  unfold mf_212_L43 at h
  exact mm_R_loop (step := (fun s M => mf_212_b43 v1 s M)) (s := v2) (M := M) (P := (fun s M o => mp_212_43 L xs (d) v1 s M o)) (X := (fun r M o => mp_212_60 L xs (d) v1 M o)) h hA (fun s M q hq hA => ms_212_b43 (v1 := v1) (v2 := s) (M := M) (q := q) hd hq hA) hx
def mp_212_98 (L : Nat) (xs : Nat → Int32) (d : Nat) (v1 : Int32) (M : mm_M) (o : mm_E) : Prop := ∀ z2 z3 : Option Value, mm_Runs L xs d 212 (98, [some (.ref 84), some (.int v1), z2, z3], [], M) o
def mp_212_109 (L : Nat) (xs : Nat → Int32) (d : Nat) (v1 : Int32) (M : mm_M) (o : mm_E) : Prop := ∀ z2 z3 : Option Value, mm_Runs L xs d 212 (109, [some (.ref 84), some (.int v1), z2, z3], [], M) o
def mp_212_120 (L : Nat) (xs : Nat → Int32) (d : Nat) (v1 : Int32) (M : mm_M) (o : mm_E) : Prop := ∀ z2 z3 : Option Value, mm_Runs L xs d 212 (120, [some (.ref 84), some (.int v1), z2, z3], [], M) o
def mp_212_165 (L : Nat) (xs : Nat → Int32) (d : Nat) (M : mm_M) (o : mm_E) : Prop := ∀ z1 z2 z3 : Option Value, mm_Runs L xs d 212 (165, [some (.ref 84), z1, z2, z3], [], M) o
set_option maxRecDepth 8000 in
set_option maxHeartbeats 4000000 in
theorem ms_212_j165 {L : Nat} {xs : Nat → Int32} {d : Nat} (hd : 7 ≤ d) {M : mm_M} {q : (Unit ⊕ Nat) × mm_M} {o : mm_E} (h : mf_212_j165 M = some q) (hA : mm_A (mm_Kr mm_wv) q o) : mp_212_165 L xs d M o := by
  unfold mf_212_j165 at h
  obtain ⟨d, rfl⟩ := mm_d1 (n := 6) hd
  intro z1 z2 z3
  show mm_Runs L xs (d + 1) 212 (165, [some (.ref 84), z1, z2, z3], [], M) o
  refine mm_Runs.seq (l := [(165, .aload_n 0, 1), (166, .ldc 122, 2)]) (S2 := (168, [some (.ref 84), z1, z2, z3], [.int (65536 : Int32), .ref 84], M)) (by decide +kernel) (hO := mm_own_212) rfl ?_
  refine mm_R_call (v := mm_wv) h hA (k2 := 203) (as := [.ref 84, .int (65536 : Int32)]) (r := []) rfl (fun _ => rfl) (fun q hq o ho => ms_203 (by omega) hq ho) (fun _ M1 h => ?_)
  show mm_Runs L xs (d + 1) 212 (171, [some (.ref 84), z1, z2, z3], [], M1) o
  refine mm_Runs.seq (l := [(171, .aload_n 0, 1), (172, .aload_n 0, 1), (173, .getfield 13, 3), (176, .iconst 0, 1), (177, .aload_n 0, 1), (178, .getfield 98, 3)]) (S2 := (181, [some (.ref 84), z1, z2, z3], [.int (M1.1 84 4), .int (0 : Int32), .ref 86, .ref 84], M1)) (by decide +kernel) (hO := mm_own_212) rfl ?_
  refine mm_R_call (v := mm_wi) h hA (k2 := 182) (as := [.ref 86, .int (0 : Int32), .int (M1.1 84 4)]) (r := [.ref 84]) rfl (fun _ => rfl) (fun q hq o ho => ms_182 rfl (by omega) hq ho) (fun r2 M3 h => ?_)
  show mm_Runs L xs (d + 1) 212 (184, [some (.ref 84), z1, z2, z3], [.int r2, .ref 84], M3) o
  refine mm_R_call (v := mm_wv) h hA (k2 := 213) (as := [.ref 84, .int r2]) (r := []) rfl (fun _ => rfl) (fun q hq o ho => ms_213 (by omega) hq ho) (fun _ M4 h => ?_)
  show mm_Runs L xs (d + 1) 212 (187, [some (.ref 84), z1, z2, z3], [], M4) o
  refine mm_Runs.seq (l := [(187, .aload_n 0, 1), (188, .aload_n 0, 1), (189, .getfield 98, 3)]) (S2 := (192, [some (.ref 84), z1, z2, z3], [.int (M4.1 84 4), .ref 84], M4)) (by decide +kernel) (hO := mm_own_212) rfl ?_
  refine mm_R_call (v := mm_wv) h hA (k2 := 213) (as := [.ref 84, .int (M4.1 84 4)]) (r := []) rfl (fun _ => rfl) (fun q hq o ho => ms_213 (by omega) hq ho) (fun _ M5 h => ?_)
  show mm_Runs L xs (d + 1) 212 (195, [some (.ref 84), z1, z2, z3], [], M5) o
  cases h
  exact mm_R_retv rfl rfl hA
set_option maxRecDepth 8000 in
set_option maxHeartbeats 4000000 in
theorem ms_212_j120 {L : Nat} {xs : Nat → Int32} {d : Nat} (hd : 7 ≤ d) {v1 : Int32} {M : mm_M} {q : (Unit ⊕ Nat) × mm_M} {o : mm_E} (h : mf_212_j120 v1 M = some q) (hA : mm_A (mm_Kr mm_wv) q o) : mp_212_120 L xs d v1 M o := by
  unfold mf_212_j120 at h
  obtain ⟨d, rfl⟩ := mm_d1 (n := 6) hd
  intro z2 z3
  show mm_Runs L xs (d + 1) 212 (120, [some (.ref 84), some (.int v1), z2, z3], [], M) o
  refine mm_Runs.seq (l := [(120, .iload_n 1, 1), (121, .iconst 2, 1), (122, .iand, 1)]) (S2 := (123, [some (.ref 84), some (.int v1), z2, z3], [.int (v1 &&& (2 : Int32))], M)) (by decide +kernel) (hO := mm_own_212) rfl ?_
  refine mm_R_zeq (t := 165) rfl rfl rfl (fun hc => ?_) (fun hc => ?_)
  · replace h := mm_ip hc h
    exact (ms_212_j165 hd h hA : mp_212_165 L xs (d + 1) M o) (some (.int v1)) z2 z3
  · replace h := mm_iq hc h
    refine mm_Runs.seq (l := [(126, .aload_n 0, 1), (127, .getfield 7, 3), (130, .iconst 0, 1), (131, .aload_n 0, 1), (132, .getfield 101, 3)]) (S2 := (135, [some (.ref 84), some (.int v1), z2, z3], [.int (M.1 84 5), .int (0 : Int32), .ref 85], M)) (by decide +kernel) (hO := mm_own_212) rfl ?_
    refine mm_R_call (v := mm_wi) h hA (k2 := 182) (as := [.ref 85, .int (0 : Int32), .int (M.1 84 5)]) (r := []) rfl (fun _ => rfl) (fun q hq o ho => ms_182 rfl (by omega) hq ho) (fun r1 M2 h => ?_)
    show mm_Runs L xs (d + 1) 212 (138, [some (.ref 84), some (.int v1), z2, z3], [.int r1], M2) o
    refine mm_Runs.seq (l := [(138, .ldc 210, 2), (140, .iand, 1), (141, .istore_n 2, 1), (142, .aload_n 0, 1), (143, .iconst 2, 1)]) (S2 := (144, [some (.ref 84), some (.int v1), some (.int (r1 &&& (65535 : Int32))), z3], [.int (2 : Int32), .ref 84], M2)) (by decide +kernel) (hO := mm_own_212) rfl ?_
    refine mm_R_call (v := mm_wl) h hA (k2 := 193) (as := [.ref 84, .int (2 : Int32)]) (r := []) rfl (fun _ => rfl) (fun q hq o ho => ms_193 (by omega) hq ho) (fun r3 M4 h => ?_)
    show mm_Runs L xs (d + 1) 212 (147, [some (.ref 84), some (.int v1), some (.int (r1 &&& (65535 : Int32))), z3], [.long r3], M4) o
    refine mm_Runs.seq (l := [(147, .l2i, 1), (148, .istore_n 3, 1), (149, .aload_n 0, 1), (150, .getfield 154, 3)]) (S2 := (153, [some (.ref 84), some (.int v1), some (.int (r1 &&& (65535 : Int32))), some (.int r3.toInt32)], [.int (M4.1 84 7)], M4)) (by decide +kernel) (hO := mm_own_212) rfl ?_
    refine mm_R_zne (t := 165) rfl rfl rfl (fun hc => ?_) (fun hc => ?_)
    · replace h := mm_ip hc h
      refine mm_Runs.seq (l := [(156, .iload_n 3, 1), (157, .iload_n 2, 1)]) (S2 := (158, [some (.ref 84), some (.int v1), some (.int (r1 &&& (65535 : Int32))), some (.int r3.toInt32)], [.int (r1 &&& (65535 : Int32)), .int r3.toInt32], M4)) (by decide +kernel) (hO := mm_own_212) rfl ?_
      refine mm_R_ieq (t := 165) rfl rfl rfl (fun hc => ?_) (fun hc => ?_)
      · replace h := mm_ip hc h
        exact (ms_212_j165 hd h hA : mp_212_165 L xs (d + 1) M4 o) (some (.int v1)) (some (.int (r1 &&& (65535 : Int32)))) (some (.int r3.toInt32))
      · replace h := mm_iq hc h
        refine mm_Runs.seq (l := [(161, .aload_n 0, 1)]) (S2 := (162, [some (.ref 84), some (.int v1), some (.int (r1 &&& (65535 : Int32))), some (.int r3.toInt32)], [.ref 84], M4)) (by decide +kernel) (hO := mm_own_212) rfl ?_
        refine mm_R_call (v := mm_wv) h hA (k2 := 190) (as := [.ref 84]) (r := []) rfl (fun _ => rfl) (fun q hq o ho => ms_190 (by omega) hq ho) (fun _ M5 h => ?_)
        show mm_Runs L xs (d + 1) 212 (165, [some (.ref 84), some (.int v1), some (.int (r1 &&& (65535 : Int32))), some (.int r3.toInt32)], [], M5) o
        exact (ms_212_j165 hd h hA : mp_212_165 L xs (d + 1) M5 o) (some (.int v1)) (some (.int (r1 &&& (65535 : Int32)))) (some (.int r3.toInt32))
    · replace h := mm_iq hc h
      exact (ms_212_j165 hd h hA : mp_212_165 L xs (d + 1) M4 o) (some (.int v1)) (some (.int (r1 &&& (65535 : Int32)))) (some (.int r3.toInt32))
set_option maxRecDepth 8000 in
set_option maxHeartbeats 4000000 in
theorem ms_212_j109 {L : Nat} {xs : Nat → Int32} {d : Nat} (hd : 7 ≤ d) {v1 : Int32} {M : mm_M} {q : (Unit ⊕ Nat) × mm_M} {o : mm_E} (h : mf_212_j109 v1 M = some q) (hA : mm_A (mm_Kr mm_wv) q o) : mp_212_109 L xs d v1 M o := by
  unfold mf_212_j109 at h
  obtain ⟨d, rfl⟩ := mm_d1 (n := 6) hd
  intro z2 z3
  show mm_Runs L xs (d + 1) 212 (109, [some (.ref 84), some (.int v1), z2, z3], [], M) o
  refine mm_Runs.seq (l := [(109, .iload_n 1, 1), (110, .bipush 16, 2), (112, .iand, 1)]) (S2 := (113, [some (.ref 84), some (.int v1), z2, z3], [.int (v1 &&& (16 : Int32))], M)) (by decide +kernel) (hO := mm_own_212) rfl ?_
  refine mm_R_zeq (t := 120) rfl rfl rfl (fun hc => ?_) (fun hc => ?_)
  · replace h := mm_ip hc h
    exact (ms_212_j120 hd h hA : mp_212_120 L xs (d + 1) v1 M o) z2 z3
  · replace h := mm_iq hc h
    refine mm_Runs.seq (l := [(116, .aload_n 0, 1)]) (S2 := (117, [some (.ref 84), some (.int v1), z2, z3], [.ref 84], M)) (by decide +kernel) (hO := mm_own_212) rfl ?_
    refine mm_R_call (v := mm_wv) h hA (k2 := 211) (as := [.ref 84]) (r := []) rfl (fun _ => rfl) (fun q hq o ho => ms_211 (by omega) hq ho) (fun _ M1 h => ?_)
    show mm_Runs L xs (d + 1) 212 (120, [some (.ref 84), some (.int v1), z2, z3], [], M1) o
    exact (ms_212_j120 hd h hA : mp_212_120 L xs (d + 1) v1 M1 o) z2 z3
set_option maxRecDepth 8000 in
set_option maxHeartbeats 4000000 in
theorem ms_212_j98 {L : Nat} {xs : Nat → Int32} {d : Nat} (hd : 7 ≤ d) {v1 : Int32} {M : mm_M} {q : (Unit ⊕ Nat) × mm_M} {o : mm_E} (h : mf_212_j98 v1 M = some q) (hA : mm_A (mm_Kr mm_wv) q o) : mp_212_98 L xs d v1 M o := by
  unfold mf_212_j98 at h
  obtain ⟨d, rfl⟩ := mm_d1 (n := 6) hd
  intro z2 z3
  show mm_Runs L xs (d + 1) 212 (98, [some (.ref 84), some (.int v1), z2, z3], [], M) o
  refine mm_Runs.seq (l := [(98, .iload_n 1, 1), (99, .bipush 8, 2), (101, .iand, 1)]) (S2 := (102, [some (.ref 84), some (.int v1), z2, z3], [.int (v1 &&& (8 : Int32))], M)) (by decide +kernel) (hO := mm_own_212) rfl ?_
  refine mm_R_zeq (t := 109) rfl rfl rfl (fun hc => ?_) (fun hc => ?_)
  · replace h := mm_ip hc h
    exact (ms_212_j109 hd h hA : mp_212_109 L xs (d + 1) v1 M o) z2 z3
  · replace h := mm_iq hc h
    refine mm_Runs.seq (l := [(105, .aload_n 0, 1)]) (S2 := (106, [some (.ref 84), some (.int v1), z2, z3], [.ref 84], M)) (by decide +kernel) (hO := mm_own_212) rfl ?_
    refine mm_R_call (v := mm_wv) h hA (k2 := 211) (as := [.ref 84]) (r := []) rfl (fun _ => rfl) (fun q hq o ho => ms_211 (by omega) hq ho) (fun _ M1 h => ?_)
    show mm_Runs L xs (d + 1) 212 (109, [some (.ref 84), some (.int v1), z2, z3], [], M1) o
    exact (ms_212_j109 hd h hA : mp_212_109 L xs (d + 1) v1 M1 o) z2 z3
def mp_212_75 (L : Nat) (xs : Nat → Int32) (d : Nat) (v1 : Int32) (v2 : Int32) (v3 : Int32) (M : mm_M) (o : mm_E) : Prop := mm_Runs L xs d 212 (75, [some (.ref 84), some (.int v1), some (.int v2), some (.int v3)], [], M) o
set_option maxRecDepth 8000 in
set_option maxHeartbeats 4000000 in
theorem ms_212_b75 {L : Nat} {xs : Nat → Int32} {d : Nat} (hd : 7 ≤ d) {v1 : Int32} {v2 : Int32} {v3 : Int32} {M : mm_M} {q : (((Int32) ⊕ (Unit)) ⊕ Nat) × mm_M} {o : mm_E} (h : mf_212_b75 v1 v2 v3 M = some q) (hA : mm_A (mm_K2 (fun s M o => mp_212_75 L xs (d) v1 v2 s M o) (fun r M o => mp_212_98 L xs (d) v1 M o)) q o) : mp_212_75 L xs d v1 v2 v3 M o := by
  unfold mf_212_b75 at h
  obtain ⟨d, rfl⟩ := mm_d1 (n := 6) hd
  show mm_Runs L xs (d + 1) 212 (75, [some (.ref 84), some (.int v1), some (.int v2), some (.int v3)], [], M) o
  refine mm_Runs.seq (l := [(75, .iload_n 3, 1), (76, .iload_n 2, 1)]) (S2 := (77, [some (.ref 84), some (.int v1), some (.int v2), some (.int v3)], [.int v2, .int v3], M)) (by decide +kernel) (hO := mm_own_212) rfl ?_
  refine mm_R_ige (t := 98) rfl rfl rfl (fun hc => ?_) (fun hc => ?_)
  · replace h := mm_ip hc h
    refine mm_Runs.seq (l := [(80, .aload_n 0, 1), (81, .getfield 154, 3)]) (S2 := (84, [some (.ref 84), some (.int v1), some (.int v2), some (.int v3)], [.int (M.1 84 7)], M)) (by decide +kernel) (hO := mm_own_212) rfl ?_
    refine mm_R_zne (t := 98) rfl rfl rfl (fun hc => ?_) (fun hc => ?_)
    · replace h := mm_ip hc h
      refine mm_Runs.seq (l := [(87, .aload_n 0, 1)]) (S2 := (88, [some (.ref 84), some (.int v1), some (.int v2), some (.int v3)], [.ref 84], M)) (by decide +kernel) (hO := mm_own_212) rfl ?_
      refine mm_R_call (v := mm_wi) h hA (k2 := 191) (as := [.ref 84]) (r := []) rfl (fun _ => rfl) (fun q hq o ho => ms_191 (by omega) hq ho) (fun r1 M2 h => ?_)
      show mm_Runs L xs (d + 1) 212 (91, [some (.ref 84), some (.int v1), some (.int v2), some (.int v3)], [.int r1], M2) o
      refine mm_Runs.seq (l := [(91, .pop, 1), (92, .iinc 3 1, 3), (95, .goto (-20), 3)]) (S2 := (75, [some (.ref 84), some (.int v1), some (.int v2), some (.int (v3 + (1 : Int32)))], [], M2)) (by decide +kernel) (hO := mm_own_212) rfl ?_
      cases h
      exact (show mp_212_75 L xs (d + 1) v1 v2 (v3 + (1 : Int32)) M2 o from hA)
    · replace h := mm_iq hc h
      cases h
      exact (show mp_212_98 L xs (d + 1) v1 M o from hA) (some (.int v2)) (some (.int v3))
  · replace h := mm_iq hc h
    cases h
    exact (show mp_212_98 L xs (d + 1) v1 M o from hA) (some (.int v2)) (some (.int v3))
theorem ms_212_L75 {L : Nat} {xs : Nat → Int32} {d : Nat} (hd : 7 ≤ d) {v1 : Int32} {v2 : Int32} {v3 : Int32} {β : Type} {K : β → mm_M → mm_E → Prop} {F : (Unit) → mm_M → mm_O β} {M : mm_M} {q : (β ⊕ Nat) × mm_M} {o : mm_E} (h : mm_B (mf_212_L75 v1 v2 v3 M) F = some q) (hA : mm_A K q o) (hx : ∀ (r : (Unit)) (M2 : mm_M), F r M2 = some q → (fun r M o => mp_212_98 L xs (d) v1 M o) r M2 o) : mp_212_75 L xs d v1 v2 v3 M o := by
  unfold mf_212_L75 at h
  exact mm_R_loop (step := (fun s M => mf_212_b75 v1 v2 s M)) (s := v3) (M := M) (P := (fun s M o => mp_212_75 L xs (d) v1 v2 s M o)) (X := (fun r M o => mp_212_98 L xs (d) v1 M o)) h hA (fun s M q hq hA => ms_212_b75 (v1 := v1) (v2 := v2) (v3 := s) (M := M) (q := q) hd hq hA) hx
set_option maxRecDepth 8000 in
set_option maxHeartbeats 4000000 in
theorem ms_212_j60 {L : Nat} {xs : Nat → Int32} {d : Nat} (hd : 7 ≤ d) {v1 : Int32} {M : mm_M} {q : (Unit ⊕ Nat) × mm_M} {o : mm_E} (h : mf_212_j60 v1 M = some q) (hA : mm_A (mm_Kr mm_wv) q o) : mp_212_60 L xs d v1 M o := by
  unfold mf_212_j60 at h
  obtain ⟨d, rfl⟩ := mm_d1 (n := 6) hd
  intro z2 z3
  show mm_Runs L xs (d + 1) 212 (60, [some (.ref 84), some (.int v1), z2, z3], [], M) o
  refine mm_Runs.seq (l := [(60, .iload_n 1, 1), (61, .iconst 4, 1), (62, .iand, 1)]) (S2 := (63, [some (.ref 84), some (.int v1), z2, z3], [.int (v1 &&& (4 : Int32))], M)) (by decide +kernel) (hO := mm_own_212) rfl ?_
  refine mm_R_zeq (t := 98) rfl rfl rfl (fun hc => ?_) (fun hc => ?_)
  · replace h := mm_ip hc h
    exact (ms_212_j98 hd h hA : mp_212_98 L xs (d + 1) v1 M o) z2 z3
  · replace h := mm_iq hc h
    refine mm_Runs.seq (l := [(66, .aload_n 0, 1), (67, .iconst 2, 1)]) (S2 := (68, [some (.ref 84), some (.int v1), z2, z3], [.int (2 : Int32), .ref 84], M)) (by decide +kernel) (hO := mm_own_212) rfl ?_
    refine mm_R_call (v := mm_wl) h hA (k2 := 193) (as := [.ref 84, .int (2 : Int32)]) (r := []) rfl (fun _ => rfl) (fun q hq o ho => ms_193 (by omega) hq ho) (fun r1 M2 h => ?_)
    show mm_Runs L xs (d + 1) 212 (71, [some (.ref 84), some (.int v1), z2, z3], [.long r1], M2) o
    refine mm_Runs.seq (l := [(71, .l2i, 1), (72, .istore_n 2, 1), (73, .iconst 0, 1), (74, .istore_n 3, 1)]) (S2 := (75, [some (.ref 84), some (.int v1), some (.int r1.toInt32), some (.int (0 : Int32))], [], M2)) (by decide +kernel) (hO := mm_own_212) rfl ?_
    have hp : mp_212_75 L xs (d + 1) v1 r1.toInt32 (0 : Int32) M2 o := by
      refine ms_212_L75 hd h hA (fun r4 M3 h => ?_)
      intro y5 y6
      show mm_Runs L xs (d + 1) 212 (98, [some (.ref 84), some (.int v1), y5, y6], [], M3) o
      exact (ms_212_j98 hd h hA : mp_212_98 L xs (d + 1) v1 M3 o) y5 y6
    exact hp
set_option maxRecDepth 8000 in
set_option maxHeartbeats 4000000 in
theorem ms_212 {L : Nat} {xs : Nat → Int32} {d : Nat} (hd : 7 ≤ d) {M : mm_M} {q : (Unit ⊕ Nat) × mm_M} {o : mm_E} (h : mf_212 M = some q) (hA : mm_A (mm_Kr mm_wv) q o) : mm_Runs L xs d 212 (0, mm_ent (mm_ml 212) [.ref 84], [], M) o := by
  unfold mf_212 at h
  obtain ⟨d, rfl⟩ := mm_d1 (n := 6) hd
  show mm_Runs L xs (d + 1) 212 (0, [some (.ref 84), none, none, none], [], M) o
  refine mm_Runs.seq (l := [(0, .aload_n 0, 1), (1, .bipush 31, 2)]) (S2 := (3, [some (.ref 84), none, none, none], [.int (31 : Int32), .ref 84], M)) (by decide +kernel) (hO := mm_own_212) rfl ?_
  refine mm_R_call (v := mm_wv) h hA (k2 := 192) (as := [.ref 84, .int (31 : Int32)]) (r := []) rfl (fun _ => rfl) (fun q hq o ho => ms_192 (by omega) hq ho) (fun _ M1 h => ?_)
  show mm_Runs L xs (d + 1) 212 (6, [some (.ref 84), none, none, none], [], M1) o
  refine mm_Runs.seq (l := [(6, .aload_n 0, 1), (7, .sipush 139, 3)]) (S2 := (10, [some (.ref 84), none, none, none], [.int (139 : Int32), .ref 84], M1)) (by decide +kernel) (hO := mm_own_212) rfl ?_
  refine mm_R_call (v := mm_wv) h hA (k2 := 192) (as := [.ref 84, .int (139 : Int32)]) (r := []) rfl (fun _ => rfl) (fun q hq o ho => ms_192 (by omega) hq ho) (fun _ M2 h => ?_)
  show mm_Runs L xs (d + 1) 212 (13, [some (.ref 84), none, none, none], [], M2) o
  refine mm_Runs.seq (l := [(13, .aload_n 0, 1), (14, .bipush 8, 2)]) (S2 := (16, [some (.ref 84), none, none, none], [.int (8 : Int32), .ref 84], M2)) (by decide +kernel) (hO := mm_own_212) rfl ?_
  refine mm_R_call (v := mm_wv) h hA (k2 := 192) (as := [.ref 84, .int (8 : Int32)]) (r := []) rfl (fun _ => rfl) (fun q hq o ho => ms_192 (by omega) hq ho) (fun _ M3 h => ?_)
  show mm_Runs L xs (d + 1) 212 (19, [some (.ref 84), none, none, none], [], M3) o
  refine mm_Runs.seq (l := [(19, .aload_n 0, 1)]) (S2 := (20, [some (.ref 84), none, none, none], [.ref 84], M3)) (by decide +kernel) (hO := mm_own_212) rfl ?_
  refine mm_R_call (v := mm_wi) h hA (k2 := 191) (as := [.ref 84]) (r := []) rfl (fun _ => rfl) (fun q hq o ho => ms_191 (by omega) hq ho) (fun r4 M5 h => ?_)
  show mm_Runs L xs (d + 1) 212 (23, [some (.ref 84), none, none, none], [.int r4], M5) o
  refine mm_Runs.seq (l := [(23, .istore_n 1, 1), (24, .aload_n 0, 1), (25, .getfield 154, 3)]) (S2 := (28, [some (.ref 84), some (.int r4), none, none], [.int (M5.1 84 7)], M5)) (by decide +kernel) (hO := mm_own_212) rfl ?_
  refine mm_R_zne (t := 41) rfl rfl rfl (fun hc => ?_) (fun hc => ?_)
  · replace h := mm_ip hc h
    refine mm_Runs.seq (l := [(31, .iload_n 1, 1), (32, .bipush 31, 2)]) (S2 := (34, [some (.ref 84), some (.int r4), none, none], [.int (31 : Int32), .int r4], M5)) (by decide +kernel) (hO := mm_own_212) rfl ?_
    refine mm_R_ile (t := 41) rfl rfl rfl (fun hc => ?_) (fun hc => ?_)
    · replace h := mm_ip hc h
      refine mm_Runs.seq (l := [(37, .aload_n 0, 1)]) (S2 := (38, [some (.ref 84), some (.int r4), none, none], [.ref 84], M5)) (by decide +kernel) (hO := mm_own_212) rfl ?_
      refine mm_R_call (v := mm_wv) h hA (k2 := 190) (as := [.ref 84]) (r := []) rfl (fun _ => rfl) (fun q hq o ho => ms_190 (by omega) hq ho) (fun _ M6 h => ?_)
      show mm_Runs L xs (d + 1) 212 (41, [some (.ref 84), some (.int r4), none, none], [], M6) o
      refine mm_Runs.seq (l := [(41, .iconst 0, 1), (42, .istore_n 2, 1)]) (S2 := (43, [some (.ref 84), some (.int r4), some (.int (0 : Int32)), none], [], M6)) (by decide +kernel) (hO := mm_own_212) rfl ?_
      have hp : mp_212_43 L xs (d + 1) r4 (0 : Int32) M6 o := by
        refine ms_212_L43 hd h hA (fun r8 M7 h => ?_)
        intro y9 y10
        show mm_Runs L xs (d + 1) 212 (60, [some (.ref 84), some (.int r4), y9, y10], [], M7) o
        exact (ms_212_j60 hd h hA : mp_212_60 L xs (d + 1) r4 M7 o) y9 y10
      exact hp none
    · replace h := mm_iq hc h
      refine mm_Runs.seq (l := [(41, .iconst 0, 1), (42, .istore_n 2, 1)]) (S2 := (43, [some (.ref 84), some (.int r4), some (.int (0 : Int32)), none], [], M5)) (by decide +kernel) (hO := mm_own_212) rfl ?_
      have hp : mp_212_43 L xs (d + 1) r4 (0 : Int32) M5 o := by
        refine ms_212_L43 hd h hA (fun r12 M11 h => ?_)
        intro y13 y14
        show mm_Runs L xs (d + 1) 212 (60, [some (.ref 84), some (.int r4), y13, y14], [], M11) o
        exact (ms_212_j60 hd h hA : mp_212_60 L xs (d + 1) r4 M11 o) y13 y14
      exact hp none
  · replace h := mm_iq hc h
    refine mm_Runs.seq (l := [(41, .iconst 0, 1), (42, .istore_n 2, 1)]) (S2 := (43, [some (.ref 84), some (.int r4), some (.int (0 : Int32)), none], [], M5)) (by decide +kernel) (hO := mm_own_212) rfl ?_
    have hp : mp_212_43 L xs (d + 1) r4 (0 : Int32) M5 o := by
      refine ms_212_L43 hd h hA (fun r16 M15 h => ?_)
      intro y17 y18
      show mm_Runs L xs (d + 1) 212 (60, [some (.ref 84), some (.int r4), y17, y18], [], M15) o
      exact (ms_212_j60 hd h hA : mp_212_60 L xs (d + 1) r4 M15 o) y17 y18
    exact hp none
