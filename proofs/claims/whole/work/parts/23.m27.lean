/-! MEANINGS 27 -/
-- 181: PlainPacksModel.told(I)I (depth 1)
theorem mm_own_181 : mm_own 181 = 12 := rfl
def mp_181_14 (L : Nat) (xs : Nat → Int32) (d : Nat) (v1 : Int32) (M : mm_M) (o : mm_E) : Prop := mm_Runs L xs d 181 (14, [some (.ref 84), some (.int v1)], [.ref 84], M) o
def mp_181_15 (L : Nat) (xs : Nat → Int32) (d : Nat) (v1 : Int32) (s1 : Int32) (M : mm_M) (o : mm_E) : Prop := mm_Runs L xs d 181 (15, [some (.ref 84), some (.int v1)], [.int s1, .ref 84], M) o
noncomputable def mf_181_j15 (v1 : Int32) (s1 : Int32) (M : mm_M) : mm_O Int32 := mm_B (mf_174 s1 M) (fun r1 M2 => if r1 = 0 then (some (.inl (0 : Int32), M2)) else (if v1 = (0 : Int32) then (some (.inl (M2.1 84 5), M2)) else if v1 = (1 : Int32) then (some (.inl (M2.1 84 8), M2)) else if v1 = (2 : Int32) then (some (.inl (M2.1 84 9), M2)) else if v1 = (3 : Int32) then (some (.inl (M2.1 84 10), M2)) else if v1 = (4 : Int32) then (some (.inl (M2.1 84 11), M2)) else (some (.inl (M2.1 84 12), M2))))
set_option maxRecDepth 8000 in
set_option maxHeartbeats 4000000 in
theorem ms_181_j15 {L : Nat} {xs : Nat → Int32} {d : Nat} (hd : 1 ≤ d) {v1 : Int32} {s1 : Int32} {M : mm_M} {q : (Int32 ⊕ Nat) × mm_M} {o : mm_E} (h : mf_181_j15 v1 s1 M = some q) (hA : mm_A (mm_Kr mm_wi) q o) : mp_181_15 L xs d v1 s1 M o := by
  unfold mf_181_j15 at h
  obtain ⟨d, rfl⟩ := mm_d1 (n := 0) hd
  show mm_Runs L xs (d + 1) 181 (15, [some (.ref 84), some (.int v1)], [.int s1, .ref 84], M) o
  refine mm_R_call (v := mm_wi) h hA (k2 := 174) (as := [.ref 84, .int s1]) (r := []) rfl (fun _ => rfl) (fun q hq o ho => ms_174 (by omega) hq ho) (fun r1 M2 h => ?_)
  show mm_Runs L xs (d + 1) 181 (18, [some (.ref 84), some (.int v1)], [.int r1], M2) o
  refine mm_R_zne (t := 23) rfl rfl rfl (fun hc => ?_) (fun hc => ?_)
  · replace h := mm_ip hc h
    refine mm_Runs.seq (l := [(21, .iconst 0, 1)]) (S2 := (22, [some (.ref 84), some (.int v1)], [.int (0 : Int32)], M2)) (by decide +kernel) (hO := mm_own_181) rfl ?_
    cases h
    exact mm_R_reti rfl rfl hA
  · replace h := mm_iq hc h
    refine mm_Runs.seq (l := [(23, .iload_n 1, 1)]) (S2 := (24, [some (.ref 84), some (.int v1)], [.int v1], M2)) (by decide +kernel) (hO := mm_own_181) rfl ?_
    by_cases hc0 : v1 = (0 : Int32)
    · replace h := mm_ip hc0 h
      refine mm_R_sw (t := 60) rfl rfl rfl (by rw [hc0]; rfl) ?_
      refine mm_Runs.seq (l := [(60, .aload_n 0, 1), (61, .getfield 101, 3)]) (S2 := (64, [some (.ref 84), some (.int v1)], [.int (M2.1 84 5)], M2)) (by decide +kernel) (hO := mm_own_181) rfl ?_
      cases h
      exact mm_R_reti rfl rfl hA
    replace h := mm_iq hc0 h
    by_cases hc1 : v1 = (1 : Int32)
    · replace h := mm_ip hc1 h
      refine mm_R_sw (t := 65) rfl rfl rfl (by rw [hc1]; rfl) ?_
      refine mm_Runs.seq (l := [(65, .aload_n 0, 1), (66, .getfield 104, 3)]) (S2 := (69, [some (.ref 84), some (.int v1)], [.int (M2.1 84 8)], M2)) (by decide +kernel) (hO := mm_own_181) rfl ?_
      cases h
      exact mm_R_reti rfl rfl hA
    replace h := mm_iq hc1 h
    by_cases hc2 : v1 = (2 : Int32)
    · replace h := mm_ip hc2 h
      refine mm_R_sw (t := 70) rfl rfl rfl (by rw [hc2]; rfl) ?_
      refine mm_Runs.seq (l := [(70, .aload_n 0, 1), (71, .getfield 107, 3)]) (S2 := (74, [some (.ref 84), some (.int v1)], [.int (M2.1 84 9)], M2)) (by decide +kernel) (hO := mm_own_181) rfl ?_
      cases h
      exact mm_R_reti rfl rfl hA
    replace h := mm_iq hc2 h
    by_cases hc3 : v1 = (3 : Int32)
    · replace h := mm_ip hc3 h
      refine mm_R_sw (t := 75) rfl rfl rfl (by rw [hc3]; rfl) ?_
      refine mm_Runs.seq (l := [(75, .aload_n 0, 1), (76, .getfield 110, 3)]) (S2 := (79, [some (.ref 84), some (.int v1)], [.int (M2.1 84 10)], M2)) (by decide +kernel) (hO := mm_own_181) rfl ?_
      cases h
      exact mm_R_reti rfl rfl hA
    replace h := mm_iq hc3 h
    by_cases hc4 : v1 = (4 : Int32)
    · replace h := mm_ip hc4 h
      refine mm_R_sw (t := 80) rfl rfl rfl (by rw [hc4]; rfl) ?_
      refine mm_Runs.seq (l := [(80, .aload_n 0, 1), (81, .getfield 113, 3)]) (S2 := (84, [some (.ref 84), some (.int v1)], [.int (M2.1 84 11)], M2)) (by decide +kernel) (hO := mm_own_181) rfl ?_
      cases h
      exact mm_R_reti rfl rfl hA
    replace h := mm_iq hc4 h
    have e0 := mm_i32 (n := 0) hc0 (by decide) (by decide)
    have e1 := mm_i32 (n := 1) hc1 (by decide) (by decide)
    have e2 := mm_i32 (n := 2) hc2 (by decide) (by decide)
    have e3 := mm_i32 (n := 3) hc3 (by decide) (by decide)
    have e4 := mm_i32 (n := 4) hc4 (by decide) (by decide)
    refine mm_R_sw (t := 85) rfl rfl rfl (mm_tsd (by omega) rfl rfl) ?_
    refine mm_Runs.seq (l := [(85, .aload_n 0, 1), (86, .getfield 116, 3)]) (S2 := (89, [some (.ref 84), some (.int v1)], [.int (M2.1 84 12)], M2)) (by decide +kernel) (hO := mm_own_181) rfl ?_
    cases h
    exact mm_R_reti rfl rfl hA
noncomputable def mf_181_j14 (v1 : Int32) (M : mm_M) : mm_O Int32 := mf_181_j15 v1 (0 : Int32) M
set_option maxRecDepth 8000 in
set_option maxHeartbeats 4000000 in
theorem ms_181_j14 {L : Nat} {xs : Nat → Int32} {d : Nat} (hd : 1 ≤ d) {v1 : Int32} {M : mm_M} {q : (Int32 ⊕ Nat) × mm_M} {o : mm_E} (h : mf_181_j14 v1 M = some q) (hA : mm_A (mm_Kr mm_wi) q o) : mp_181_14 L xs d v1 M o := by
  unfold mf_181_j14 at h
  obtain ⟨d, rfl⟩ := mm_d1 (n := 0) hd
  show mm_Runs L xs (d + 1) 181 (14, [some (.ref 84), some (.int v1)], [.ref 84], M) o
  refine mm_Runs.seq (l := [(14, .iconst 0, 1)]) (S2 := (15, [some (.ref 84), some (.int v1)], [.int (0 : Int32), .ref 84], M)) (by decide +kernel) (hO := mm_own_181) rfl ?_
  exact (ms_181_j15 hd h hA : mp_181_15 L xs (d + 1) v1 (0 : Int32) M o)
noncomputable def mf_181 (v1 : Int32) (M : mm_M) : mm_O Int32 := if v1 < 0 then (mf_181_j14 v1 M) else (if (5 : Int32) < v1 then (mf_181_j14 v1 M) else (mf_181_j15 v1 (1 : Int32) M))
set_option maxRecDepth 8000 in
set_option maxHeartbeats 4000000 in
theorem ms_181 {L : Nat} {xs : Nat → Int32} {d : Nat} (hd : 1 ≤ d) {v1 : Int32} {M : mm_M} {q : (Int32 ⊕ Nat) × mm_M} {o : mm_E} (h : mf_181 v1 M = some q) (hA : mm_A (mm_Kr mm_wi) q o) : mm_Runs L xs d 181 (0, mm_ent (mm_ml 181) [.ref 84, .int v1], [], M) o := by
  unfold mf_181 at h
  obtain ⟨d, rfl⟩ := mm_d1 (n := 0) hd
  show mm_Runs L xs (d + 1) 181 (0, [some (.ref 84), some (.int v1)], [], M) o
  refine mm_Runs.seq (l := [(0, .aload_n 0, 1), (1, .iload_n 1, 1)]) (S2 := (2, [some (.ref 84), some (.int v1)], [.int v1, .ref 84], M)) (by decide +kernel) (hO := mm_own_181) rfl ?_
  refine mm_R_zlt (t := 14) rfl rfl rfl (fun hc => ?_) (fun hc => ?_)
  · replace h := mm_ip hc h
    exact (ms_181_j14 hd h hA : mp_181_14 L xs (d + 1) v1 M o)
  · replace h := mm_iq hc h
    refine mm_Runs.seq (l := [(5, .iload_n 1, 1), (6, .iconst 5, 1)]) (S2 := (7, [some (.ref 84), some (.int v1)], [.int (5 : Int32), .int v1, .ref 84], M)) (by decide +kernel) (hO := mm_own_181) rfl ?_
    refine mm_R_igt (t := 14) rfl rfl rfl (fun hc => ?_) (fun hc => ?_)
    · replace h := mm_ip hc h
      exact (ms_181_j14 hd h hA : mp_181_14 L xs (d + 1) v1 M o)
    · replace h := mm_iq hc h
      refine mm_Runs.seq (l := [(10, .iconst 1, 1), (11, .goto 4, 3)]) (S2 := (15, [some (.ref 84), some (.int v1)], [.int (1 : Int32), .ref 84], M)) (by decide +kernel) (hO := mm_own_181) rfl ?_
      exact (ms_181_j15 hd h hA : mp_181_15 L xs (d + 1) v1 (1 : Int32) M o)
-- 19: PlainPacks.out(I)I (depth 7)
theorem mm_own_19 : mm_own 19 = 0 := rfl
noncomputable def mf_19 (v1 : Int32) (M : mm_M) : mm_O Int32 := if v1 < 0 then (some (.inr 2, mm_th M)) else (if v1 < (M.1 3 1) then (if mm_in v1 16384 then some (.inl (M.1 4 v1.toNatClampNeg), M) else none) else (some (.inr 2, mm_th M)))
set_option maxRecDepth 8000 in
set_option maxHeartbeats 4000000 in
theorem ms_19 {L : Nat} {xs : Nat → Int32} {d : Nat} (hd : 7 ≤ d) {v1 : Int32} {M : mm_M} {q : (Int32 ⊕ Nat) × mm_M} {o : mm_E} (h : mf_19 v1 M = some q) (hA : mm_A (mm_Kr mm_wi) q o) : mm_Runs L xs d 19 (0, mm_ent (mm_ml 19) [.ref 0, .int v1], [], M) o := by
  unfold mf_19 at h
  show mm_Runs L xs (d) 19 (0, [some (.ref 0), some (.int v1)], [], M) o
  refine mm_Runs.seq (l := [(0, .iload_n 1, 1)]) (S2 := (1, [some (.ref 0), some (.int v1)], [.int v1], M)) (by decide +kernel) (hO := mm_own_19) rfl ?_
  refine mm_R_zlt (t := 15) rfl rfl rfl (fun hc => ?_) (fun hc => ?_)
  · replace h := mm_ip hc h
    cases h
    exact mm_R_thr rfl rfl rfl (by omega) hA
  · replace h := mm_iq hc h
    refine mm_Runs.seq (l := [(4, .iload_n 1, 1), (5, .aload_n 0, 1), (6, .getfield 19, 3), (9, .getfield 118, 3)]) (S2 := (12, [some (.ref 0), some (.int v1)], [.int (M.1 3 1), .int v1], M)) (by decide +kernel) (hO := mm_own_19) rfl ?_
    refine mm_R_ilt (t := 25) rfl rfl rfl (fun hc => ?_) (fun hc => ?_)
    · replace h := mm_ip hc h
      refine mm_Runs.seq (l := [(25, .aload_n 0, 1), (26, .getfield 19, 3), (29, .getfield 121, 3), (32, .iload_n 1, 1)]) (S2 := (33, [some (.ref 0), some (.int v1)], [.int v1, .ref 4], M)) (by decide +kernel) (hO := mm_own_19) rfl ?_
      obtain ⟨hb, h⟩ := mm_gd h
      refine mm_R_iald rfl rfl hb ?_
      cases h
      exact mm_R_reti rfl rfl hA
    · replace h := mm_iq hc h
      cases h
      exact mm_R_thr rfl rfl rfl (by omega) hA
-- 6: PlainPacksLaw.out(LPlainPacks;I[J)I (depth 8)
theorem mm_own_6 : mm_own 6 = 13 := rfl
noncomputable def mf_6 (v1 : Int32) (M : mm_M) : mm_O Int32 := mm_Bc (mf_19 v1 M) (fun r1 M2 => if mm_in (0 : Int32) 1 then some (.inl (0 : Int32), (mm_pl M2 110 (0 : Int32).toNatClampNeg r1.toInt64)) else none) 2 (fun M3 => some (.inl (1 : Int32), M3))
set_option maxRecDepth 8000 in
set_option maxHeartbeats 4000000 in
theorem ms_6 {L : Nat} {xs : Nat → Int32} {d : Nat} (hd : 8 ≤ d) {v1 : Int32} {M : mm_M} {q : (Int32 ⊕ Nat) × mm_M} {o : mm_E} (h : mf_6 v1 M = some q) (hA : mm_A (mm_Kr mm_wi) q o) : mm_Runs L xs d 6 (0, mm_ent (mm_ml 6) [.ref 0, .int v1, .ref 110], [], M) o := by
  unfold mf_6 at h
  obtain ⟨d, rfl⟩ := mm_d1 (n := 7) hd
  show mm_Runs L xs (d + 1) 6 (0, [some (.ref 0), some (.int v1), some (.ref 110), none], [], M) o
  refine mm_Runs.seq (l := [(0, .aload_n 2, 1), (1, .iconst 0, 1), (2, .aload_n 0, 1), (3, .iload_n 1, 1)]) (S2 := (4, [some (.ref 0), some (.int v1), some (.ref 110), none], [.int v1, .ref 0, .int (0 : Int32), .ref 110], M)) (by decide +kernel) (hO := mm_own_6) rfl ?_
  refine mm_R_callc (v := mm_wi) (X := 2) (hh := 13) (i := 3) h hA (k2 := 19) (as := [.ref 0, .int v1]) (r := [.int (0 : Int32), .ref 110]) rfl rfl rfl (fun q hq o ho => ms_19 (by omega) hq ho) (fun r1 M2 h => ?_) (fun M3 h => ?_)
  · show mm_Runs L xs (d + 1) 6 (7, [some (.ref 0), some (.int v1), some (.ref 110), none], [.int r1, .int (0 : Int32), .ref 110], M2) o
    refine mm_Runs.seq (l := [(7, .i2l, 1)]) (S2 := (8, [some (.ref 0), some (.int v1), some (.ref 110), none], [.long r1.toInt64, .int (0 : Int32), .ref 110], M2)) (by decide +kernel) (hO := mm_own_6) rfl ?_
    obtain ⟨hb, h⟩ := mm_gd h
    refine mm_R_last rfl rfl hb ?_
    refine mm_Runs.seq (l := [(9, .goto 6, 3), (15, .iconst 0, 1)]) (S2 := (16, [some (.ref 0), some (.int v1), some (.ref 110), none], [.int (0 : Int32)], (mm_pl M2 110 (0 : Int32).toNatClampNeg r1.toInt64))) (by decide +kernel) (hO := mm_own_6) rfl ?_
    cases h
    exact mm_R_reti rfl rfl hA
  · show mm_Runs L xs (d + 1) 6 (13, [some (.ref 0), some (.int v1), some (.ref 110), none], [], M3) o
    refine mm_Runs.seq (l := [(13, .iconst 1, 1)]) (S2 := (14, [some (.ref 0), some (.int v1), some (.ref 110), none], [.int (1 : Int32)], M3)) (by decide +kernel) (hO := mm_own_6) rfl ?_
    cases h
    exact mm_R_reti rfl rfl hA
-- 180: PlainPacksModel.out(I)I (depth 1)
theorem mm_own_180 : mm_own 180 = 12 := rfl
def mp_180_17 (L : Nat) (xs : Nat → Int32) (d : Nat) (v1 : Int32) (M : mm_M) (o : mm_E) : Prop := mm_Runs L xs d 180 (17, [some (.ref 84), some (.int v1)], [.ref 84], M) o
def mp_180_18 (L : Nat) (xs : Nat → Int32) (d : Nat) (v1 : Int32) (s1 : Int32) (M : mm_M) (o : mm_E) : Prop := mm_Runs L xs d 180 (18, [some (.ref 84), some (.int v1)], [.int s1, .ref 84], M) o
noncomputable def mf_180_j18 (v1 : Int32) (s1 : Int32) (M : mm_M) : mm_O Int32 := mm_B (mf_174 s1 M) (fun r1 M2 => if r1 = 0 then (some (.inl (0 : Int32), M2)) else (if mm_in v1 16384 then some (.inl (M2.1 86 v1.toNatClampNeg), M2) else none))
set_option maxRecDepth 8000 in
set_option maxHeartbeats 4000000 in
theorem ms_180_j18 {L : Nat} {xs : Nat → Int32} {d : Nat} (hd : 1 ≤ d) {v1 : Int32} {s1 : Int32} {M : mm_M} {q : (Int32 ⊕ Nat) × mm_M} {o : mm_E} (h : mf_180_j18 v1 s1 M = some q) (hA : mm_A (mm_Kr mm_wi) q o) : mp_180_18 L xs d v1 s1 M o := by
  unfold mf_180_j18 at h
  obtain ⟨d, rfl⟩ := mm_d1 (n := 0) hd
  show mm_Runs L xs (d + 1) 180 (18, [some (.ref 84), some (.int v1)], [.int s1, .ref 84], M) o
  refine mm_R_call (v := mm_wi) h hA (k2 := 174) (as := [.ref 84, .int s1]) (r := []) rfl (fun _ => rfl) (fun q hq o ho => ms_174 (by omega) hq ho) (fun r1 M2 h => ?_)
  show mm_Runs L xs (d + 1) 180 (21, [some (.ref 84), some (.int v1)], [.int r1], M2) o
  refine mm_R_zeq (t := 33) rfl rfl rfl (fun hc => ?_) (fun hc => ?_)
  · replace h := mm_ip hc h
    refine mm_Runs.seq (l := [(33, .iconst 0, 1)]) (S2 := (34, [some (.ref 84), some (.int v1)], [.int (0 : Int32)], M2)) (by decide +kernel) (hO := mm_own_180) rfl ?_
    cases h
    exact mm_R_reti rfl rfl hA
  · replace h := mm_iq hc h
    refine mm_Runs.seq (l := [(24, .aload_n 0, 1), (25, .getfield 13, 3), (28, .iload_n 1, 1)]) (S2 := (29, [some (.ref 84), some (.int v1)], [.int v1, .ref 86], M2)) (by decide +kernel) (hO := mm_own_180) rfl ?_
    obtain ⟨hb, h⟩ := mm_gd h
    refine mm_R_iald rfl rfl hb ?_
    refine mm_Runs.seq (l := [(30, .goto 4, 3)]) (S2 := (34, [some (.ref 84), some (.int v1)], [.int (M2.1 86 v1.toNatClampNeg)], M2)) (by decide +kernel) (hO := mm_own_180) rfl ?_
    cases h
    exact mm_R_reti rfl rfl hA
noncomputable def mf_180_j17 (v1 : Int32) (M : mm_M) : mm_O Int32 := mf_180_j18 v1 (0 : Int32) M
set_option maxRecDepth 8000 in
set_option maxHeartbeats 4000000 in
theorem ms_180_j17 {L : Nat} {xs : Nat → Int32} {d : Nat} (hd : 1 ≤ d) {v1 : Int32} {M : mm_M} {q : (Int32 ⊕ Nat) × mm_M} {o : mm_E} (h : mf_180_j17 v1 M = some q) (hA : mm_A (mm_Kr mm_wi) q o) : mp_180_17 L xs d v1 M o := by
  unfold mf_180_j17 at h
  obtain ⟨d, rfl⟩ := mm_d1 (n := 0) hd
  show mm_Runs L xs (d + 1) 180 (17, [some (.ref 84), some (.int v1)], [.ref 84], M) o
  refine mm_Runs.seq (l := [(17, .iconst 0, 1)]) (S2 := (18, [some (.ref 84), some (.int v1)], [.int (0 : Int32), .ref 84], M)) (by decide +kernel) (hO := mm_own_180) rfl ?_
  exact (ms_180_j18 hd h hA : mp_180_18 L xs (d + 1) v1 (0 : Int32) M o)
noncomputable def mf_180 (v1 : Int32) (M : mm_M) : mm_O Int32 := if v1 < 0 then (mf_180_j17 v1 M) else (if v1 < (M.1 84 4) then (mf_180_j18 v1 (1 : Int32) M) else (mf_180_j17 v1 M))
set_option maxRecDepth 8000 in
set_option maxHeartbeats 4000000 in
theorem ms_180 {L : Nat} {xs : Nat → Int32} {d : Nat} (hd : 1 ≤ d) {v1 : Int32} {M : mm_M} {q : (Int32 ⊕ Nat) × mm_M} {o : mm_E} (h : mf_180 v1 M = some q) (hA : mm_A (mm_Kr mm_wi) q o) : mm_Runs L xs d 180 (0, mm_ent (mm_ml 180) [.ref 84, .int v1], [], M) o := by
  unfold mf_180 at h
  obtain ⟨d, rfl⟩ := mm_d1 (n := 0) hd
  show mm_Runs L xs (d + 1) 180 (0, [some (.ref 84), some (.int v1)], [], M) o
  refine mm_Runs.seq (l := [(0, .aload_n 0, 1), (1, .iload_n 1, 1)]) (S2 := (2, [some (.ref 84), some (.int v1)], [.int v1, .ref 84], M)) (by decide +kernel) (hO := mm_own_180) rfl ?_
  refine mm_R_zlt (t := 17) rfl rfl rfl (fun hc => ?_) (fun hc => ?_)
  · replace h := mm_ip hc h
    exact (ms_180_j17 hd h hA : mp_180_17 L xs (d + 1) v1 M o)
  · replace h := mm_iq hc h
    refine mm_Runs.seq (l := [(5, .iload_n 1, 1), (6, .aload_n 0, 1), (7, .getfield 98, 3)]) (S2 := (10, [some (.ref 84), some (.int v1)], [.int (M.1 84 4), .int v1, .ref 84], M)) (by decide +kernel) (hO := mm_own_180) rfl ?_
    refine mm_R_ige (t := 17) rfl rfl rfl (fun hc => ?_) (fun hc => ?_)
    · replace h := mm_ip hc h
      refine mm_Runs.seq (l := [(13, .iconst 1, 1), (14, .goto 4, 3)]) (S2 := (18, [some (.ref 84), some (.int v1)], [.int (1 : Int32), .ref 84], M)) (by decide +kernel) (hO := mm_own_180) rfl ?_
      exact (ms_180_j18 hd h hA : mp_180_18 L xs (d + 1) v1 (1 : Int32) M o)
    · replace h := mm_iq hc h
      exact (ms_180_j17 hd h hA : mp_180_17 L xs (d + 1) v1 M o)
-- 56: PlainPacks$Writer.back(I)V (depth 0)
theorem mm_own_56 : mm_own 56 = 3 := rfl
noncomputable def mf_56 (v1 : Int32) (M : mm_M) : mm_O Unit := some (.inl (), (mm_pi (mm_pi (mm_pi M 5 1 v1) 5 4 (0 : Int32)) 5 5 (0 : Int32)))
set_option maxRecDepth 8000 in
set_option maxHeartbeats 4000000 in
theorem ms_56 {L : Nat} {xs : Nat → Int32} {d : Nat} (hd : 0 ≤ d) {v1 : Int32} {M : mm_M} {q : (Unit ⊕ Nat) × mm_M} {o : mm_E} (h : mf_56 v1 M = some q) (hA : mm_A (mm_Kr mm_wv) q o) : mm_Runs L xs d 56 (0, mm_ent (mm_ml 56) [.ref 5, .int v1], [], M) o := by
  unfold mf_56 at h
  show mm_Runs L xs (d) 56 (0, [some (.ref 5), some (.int v1)], [], M) o
  refine mm_Runs.seq (l := [(0, .aload_n 0, 1), (1, .iload_n 1, 1), (2, .putfield 26, 3), (5, .aload_n 0, 1), (6, .iconst 0, 1), (7, .putfield 30, 3), (10, .aload_n 0, 1), (11, .iconst 0, 1), (12, .putfield 33, 3)]) (S2 := (15, [some (.ref 5), some (.int v1)], [], (mm_pi (mm_pi (mm_pi M 5 1 v1) 5 4 (0 : Int32)) 5 5 (0 : Int32)))) (by decide +kernel) (hO := mm_own_56) rfl ?_
  cases h
  exact mm_R_retv rfl rfl hA
-- 55: PlainPacks$Writer.start()V (depth 1)
theorem mm_own_55 : mm_own 55 = 3 := rfl
noncomputable def mf_55 (M : mm_M) : mm_O Unit := mm_B (mf_56 (0 : Int32) (mm_pi (mm_pi M 5 2 (0 : Int32)) 5 3 (0 : Int32))) (fun _ M1 => some (.inl (), M1))
set_option maxRecDepth 8000 in
set_option maxHeartbeats 4000000 in
theorem ms_55 {L : Nat} {xs : Nat → Int32} {d : Nat} (hd : 1 ≤ d) {M : mm_M} {q : (Unit ⊕ Nat) × mm_M} {o : mm_E} (h : mf_55 M = some q) (hA : mm_A (mm_Kr mm_wv) q o) : mm_Runs L xs d 55 (0, mm_ent (mm_ml 55) [.ref 5], [], M) o := by
  unfold mf_55 at h
  obtain ⟨d, rfl⟩ := mm_d1 (n := 0) hd
  show mm_Runs L xs (d + 1) 55 (0, [some (.ref 5)], [], M) o
  refine mm_Runs.seq (l := [(0, .aload_n 0, 1), (1, .iconst 0, 1), (2, .putfield 15, 3), (5, .aload_n 0, 1), (6, .iconst 0, 1), (7, .putfield 19, 3), (10, .aload_n 0, 1), (11, .iconst 0, 1)]) (S2 := (12, [some (.ref 5)], [.int (0 : Int32), .ref 5], (mm_pi (mm_pi M 5 2 (0 : Int32)) 5 3 (0 : Int32)))) (by decide +kernel) (hO := mm_own_55) rfl ?_
  refine mm_R_call (v := mm_wv) h hA (k2 := 56) (as := [.ref 5, .int (0 : Int32)]) (r := []) rfl (fun _ => rfl) (fun q hq o ho => ms_56 (by omega) hq ho) (fun _ M1 h => ?_)
  show mm_Runs L xs (d + 1) 55 (15, [some (.ref 5)], [], M1) o
  cases h
  exact mm_R_retv rfl rfl hA
-- 128: PlainPacks$Pieces.runAt(II)I (depth 0)
theorem mm_own_128 : mm_own 128 = 9 := rfl
def mp_128_2 (L : Nat) (xs : Nat → Int32) (d : Nat) (v1 : Int32) (v2 : Int32) (v3 : Int32) (M : mm_M) (o : mm_E) : Prop := mm_Runs L xs d 128 (2, [some (.ref 41), some (.int v1), some (.int v2), some (.int v3)], [], M) o
def mp_128_49 (L : Nat) (xs : Nat → Int32) (d : Nat) (v3 : Int32) (M : mm_M) (o : mm_E) : Prop := ∀ z0 z1 z2 : Option Value, mm_Runs L xs d 128 (49, [z0, z1, z2, some (.int v3)], [], M) o
noncomputable def mf_128_b2 (v1 : Int32) (v2 : Int32) (v3 : Int32) (M : mm_M) : mm_O ((Int32) ⊕ (Int32)) := if v3 < v2 then (if (v1 + v3) < (M.1 1 1) then (if mm_in (v1 + v3) 10000 then if mm_in v1 10000 then if (M.1 2 (v1 + v3).toNatClampNeg) = (M.1 2 v1.toNatClampNeg) then (some (.inl (.inl (v3 + (1 : Int32))), M)) else (some (.inl (.inr v3), M)) else none else none) else (some (.inl (.inr v3), M))) else (some (.inl (.inr v3), M))
noncomputable def mf_128_L2 (v1 : Int32) (v2 : Int32) (s : Int32) (M : mm_M) : mm_O (Int32) := mm_L (fun s M => mf_128_b2 v1 v2 s M) s M
set_option maxRecDepth 8000 in
set_option maxHeartbeats 4000000 in
theorem ms_128_b2 {L : Nat} {xs : Nat → Int32} {d : Nat} (hd : 0 ≤ d) {v1 : Int32} {v2 : Int32} {v3 : Int32} {M : mm_M} {q : (((Int32) ⊕ (Int32)) ⊕ Nat) × mm_M} {o : mm_E} (h : mf_128_b2 v1 v2 v3 M = some q) (hA : mm_A (mm_K2 (fun s M o => mp_128_2 L xs (d) v1 v2 s M o) (fun r M o => mp_128_49 L xs (d) r M o)) q o) : mp_128_2 L xs d v1 v2 v3 M o := by
  unfold mf_128_b2 at h
  show mm_Runs L xs (d) 128 (2, [some (.ref 41), some (.int v1), some (.int v2), some (.int v3)], [], M) o
  refine mm_Runs.seq (l := [(2, .iload_n 3, 1), (3, .iload_n 2, 1)]) (S2 := (4, [some (.ref 41), some (.int v1), some (.int v2), some (.int v3)], [.int v2, .int v3], M)) (by decide +kernel) (hO := mm_own_128) rfl ?_
  refine mm_R_ige (t := 49) rfl rfl rfl (fun hc => ?_) (fun hc => ?_)
  · replace h := mm_ip hc h
    refine mm_Runs.seq (l := [(7, .iload_n 1, 1), (8, .iload_n 3, 1), (9, .iadd, 1), (10, .aload_n 0, 1), (11, .getfield 9, 3), (14, .getfield 120, 3)]) (S2 := (17, [some (.ref 41), some (.int v1), some (.int v2), some (.int v3)], [.int (M.1 1 1), .int (v1 + v3)], M)) (by decide +kernel) (hO := mm_own_128) rfl ?_
    refine mm_R_ige (t := 49) rfl rfl rfl (fun hc => ?_) (fun hc => ?_)
    · replace h := mm_ip hc h
      refine mm_Runs.seq (l := [(20, .aload_n 0, 1), (21, .getfield 9, 3), (24, .getfield 95, 3), (27, .iload_n 1, 1), (28, .iload_n 3, 1), (29, .iadd, 1)]) (S2 := (30, [some (.ref 41), some (.int v1), some (.int v2), some (.int v3)], [.int (v1 + v3), .ref 2], M)) (by decide +kernel) (hO := mm_own_128) rfl ?_
      obtain ⟨hb, h⟩ := mm_gd h
      refine mm_R_iald rfl rfl hb ?_
      refine mm_Runs.seq (l := [(31, .aload_n 0, 1), (32, .getfield 9, 3), (35, .getfield 95, 3), (38, .iload_n 1, 1)]) (S2 := (39, [some (.ref 41), some (.int v1), some (.int v2), some (.int v3)], [.int v1, .ref 2, .int (M.1 2 (v1 + v3).toNatClampNeg)], M)) (by decide +kernel) (hO := mm_own_128) rfl ?_
      obtain ⟨hb, h⟩ := mm_gd h
      refine mm_R_iald rfl rfl hb ?_
      refine mm_R_ine (t := 49) rfl rfl rfl (fun hc => ?_) (fun hc => ?_)
      · replace h := mm_ip hc h
        refine mm_Runs.seq (l := [(43, .iinc 3 1, 3), (46, .goto (-44), 3)]) (S2 := (2, [some (.ref 41), some (.int v1), some (.int v2), some (.int (v3 + (1 : Int32)))], [], M)) (by decide +kernel) (hO := mm_own_128) rfl ?_
        cases h
        exact (show mp_128_2 L xs (d) v1 v2 (v3 + (1 : Int32)) M o from hA)
      · replace h := mm_iq hc h
        cases h
        exact (show mp_128_49 L xs (d) v3 M o from hA) (some (.ref 41)) (some (.int v1)) (some (.int v2))
    · replace h := mm_iq hc h
      cases h
      exact (show mp_128_49 L xs (d) v3 M o from hA) (some (.ref 41)) (some (.int v1)) (some (.int v2))
  · replace h := mm_iq hc h
    cases h
    exact (show mp_128_49 L xs (d) v3 M o from hA) (some (.ref 41)) (some (.int v1)) (some (.int v2))
theorem ms_128_L2 {L : Nat} {xs : Nat → Int32} {d : Nat} (hd : 0 ≤ d) {v1 : Int32} {v2 : Int32} {v3 : Int32} {β : Type} {K : β → mm_M → mm_E → Prop} {F : (Int32) → mm_M → mm_O β} {M : mm_M} {q : (β ⊕ Nat) × mm_M} {o : mm_E} (h : mm_B (mf_128_L2 v1 v2 v3 M) F = some q) (hA : mm_A K q o) (hx : ∀ (r : (Int32)) (M2 : mm_M), F r M2 = some q → (fun r M o => mp_128_49 L xs (d) r M o) r M2 o) : mp_128_2 L xs d v1 v2 v3 M o := mm_R_loop (s := v3) (M := M) (P := (fun s M o => mp_128_2 L xs (d) v1 v2 s M o)) (X := (fun r M o => mp_128_49 L xs (d) r M o)) h hA (fun s M q hq hA => ms_128_b2 hd hq hA) hx
noncomputable def mf_128 (v1 : Int32) (v2 : Int32) (M : mm_M) : mm_O Int32 := mm_B (mf_128_L2 v1 v2 (1 : Int32) M) (fun r2 M1 => some (.inl r2, M1))
set_option maxRecDepth 8000 in
set_option maxHeartbeats 4000000 in
theorem ms_128 {L : Nat} {xs : Nat → Int32} {d : Nat} (hd : 0 ≤ d) {v1 : Int32} {v2 : Int32} {M : mm_M} {q : (Int32 ⊕ Nat) × mm_M} {o : mm_E} (h : mf_128 v1 v2 M = some q) (hA : mm_A (mm_Kr mm_wi) q o) : mm_Runs L xs d 128 (0, mm_ent (mm_ml 128) [.ref 41, .int v1, .int v2], [], M) o := by
  unfold mf_128 at h
  show mm_Runs L xs (d) 128 (0, [some (.ref 41), some (.int v1), some (.int v2), none], [], M) o
  refine mm_Runs.seq (l := [(0, .iconst 1, 1), (1, .istore_n 3, 1)]) (S2 := (2, [some (.ref 41), some (.int v1), some (.int v2), some (.int (1 : Int32))], [], M)) (by decide +kernel) (hO := mm_own_128) rfl ?_
  have hp : mp_128_2 L xs (d) v1 v2 (1 : Int32) M o := by
    refine ms_128_L2 hd h hA (fun r2 M1 h => ?_)
    intro y3 y4 y5
    show mm_Runs L xs (d) 128 (49, [y3, y4, y5, some (.int r2)], [], M1) o
    refine mm_Runs.seq (l := [(49, .iload_n 3, 1)]) (S2 := (50, [y3, y4, y5, some (.int r2)], [.int r2], M1)) (by decide +kernel) (hO := mm_own_128) rfl ?_
    cases h
    exact mm_R_reti rfl rfl hA
  exact hp
-- 57: PlainPacks$Writer.put(I)V (depth 0)
theorem mm_own_57 : mm_own 57 = 3 := rfl
noncomputable def mf_57 (v1 : Int32) (M : mm_M) : mm_O Unit := if (M.1 5 1) < (16384 : Int32) then (if mm_in (M.1 5 1) 16384 then some (.inl (), (mm_pi (mm_pi M 6 (M.1 5 1).toNatClampNeg (v1 &&& (255 : Int32))) 5 1 ((M.1 5 1) + (1 : Int32)))) else none) else (some (.inl (), (mm_pi M 5 2 (1 : Int32))))
set_option maxRecDepth 8000 in
set_option maxHeartbeats 4000000 in
theorem ms_57 {L : Nat} {xs : Nat → Int32} {d : Nat} (hd : 0 ≤ d) {v1 : Int32} {M : mm_M} {q : (Unit ⊕ Nat) × mm_M} {o : mm_E} (h : mf_57 v1 M = some q) (hA : mm_A (mm_Kr mm_wv) q o) : mm_Runs L xs d 57 (0, mm_ent (mm_ml 57) [.ref 5, .int v1], [], M) o := by
  unfold mf_57 at h
  show mm_Runs L xs (d) 57 (0, [some (.ref 5), some (.int v1)], [], M) o
  refine mm_Runs.seq (l := [(0, .aload_n 0, 1), (1, .getfield 26, 3), (4, .sipush 16384, 3)]) (S2 := (7, [some (.ref 5), some (.int v1)], [.int (16384 : Int32), .int (M.1 5 1)], M)) (by decide +kernel) (hO := mm_own_57) rfl ?_
  refine mm_R_ilt (t := 16) rfl rfl rfl (fun hc => ?_) (fun hc => ?_)
  · replace h := mm_ip hc h
    refine mm_Runs.seq (l := [(16, .aload_n 0, 1), (17, .getfield 9, 3), (20, .aload_n 0, 1), (21, .getfield 26, 3), (24, .iload_n 1, 1), (25, .sipush 255, 3), (28, .iand, 1)]) (S2 := (29, [some (.ref 5), some (.int v1)], [.int (v1 &&& (255 : Int32)), .int (M.1 5 1), .ref 6], M)) (by decide +kernel) (hO := mm_own_57) rfl ?_
    obtain ⟨hb, h⟩ := mm_gd h
    refine mm_R_iast rfl rfl hb ?_
    refine mm_Runs.seq (l := [(30, .aload_n 0, 1), (31, .dup, 1), (32, .getfield 26, 3), (35, .iconst 1, 1), (36, .iadd, 1), (37, .putfield 26, 3)]) (S2 := (40, [some (.ref 5), some (.int v1)], [], (mm_pi (mm_pi M 6 (M.1 5 1).toNatClampNeg (v1 &&& (255 : Int32))) 5 1 ((M.1 5 1) + (1 : Int32))))) (by decide +kernel) (hO := mm_own_57) rfl ?_
    cases h
    exact mm_R_retv rfl rfl hA
  · replace h := mm_iq hc h
    refine mm_Runs.seq (l := [(10, .aload_n 0, 1), (11, .iconst 1, 1), (12, .putfield 15, 3)]) (S2 := (15, [some (.ref 5), some (.int v1)], [], (mm_pi M 5 2 (1 : Int32)))) (by decide +kernel) (hO := mm_own_57) rfl ?_
    cases h
    exact mm_R_retv rfl rfl hA
-- 58: PlainPacks$Writer.putAll([III)V (depth 1)
theorem mm_own_58 : mm_own 58 = 3 := rfl
def mp_58_3 (L : Nat) (xs : Nat → Int32) (d : Nat) (v3 : Int32) (v4 : Int32) (M : mm_M) (o : mm_E) : Prop := ∀ z2 : Option Value, mm_Runs L xs d 58 (3, [some (.ref 5), some (.ref 2), z2, some (.int v3), some (.int v4)], [], M) o
def mp_58_23 (L : Nat) (xs : Nat → Int32) (d : Nat) (M : mm_M) (o : mm_E) : Prop := ∀ z0 z1 z2 z3 z4 : Option Value, mm_Runs L xs d 58 (23, [z0, z1, z2, z3, z4], [], M) o
noncomputable def mf_58_b3 (v3 : Int32) (v4 : Int32) (M : mm_M) : mm_O ((Int32) ⊕ (Unit)) := if v4 < v3 then (if mm_in v4 10000 then mm_B (mf_57 (M.1 2 v4.toNatClampNeg) M) (fun _ M1 => some (.inl (.inl (v4 + (1 : Int32))), M1)) else none) else (some (.inl (.inr ()), M))
noncomputable def mf_58_L3 (v3 : Int32) (s : Int32) (M : mm_M) : mm_O (Unit) := mm_L (fun s M => mf_58_b3 v3 s M) s M
set_option maxRecDepth 8000 in
set_option maxHeartbeats 4000000 in
theorem ms_58_b3 {L : Nat} {xs : Nat → Int32} {d : Nat} (hd : 1 ≤ d) {v3 : Int32} {v4 : Int32} {M : mm_M} {q : (((Int32) ⊕ (Unit)) ⊕ Nat) × mm_M} {o : mm_E} (h : mf_58_b3 v3 v4 M = some q) (hA : mm_A (mm_K2 (fun s M o => mp_58_3 L xs (d) v3 s M o) (fun r M o => mp_58_23 L xs (d) M o)) q o) : mp_58_3 L xs d v3 v4 M o := by
  unfold mf_58_b3 at h
  obtain ⟨d, rfl⟩ := mm_d1 (n := 0) hd
  intro z2
  show mm_Runs L xs (d + 1) 58 (3, [some (.ref 5), some (.ref 2), z2, some (.int v3), some (.int v4)], [], M) o
  refine mm_Runs.seq (l := [(3, .iload 4, 2), (5, .iload_n 3, 1)]) (S2 := (6, [some (.ref 5), some (.ref 2), z2, some (.int v3), some (.int v4)], [.int v3, .int v4], M)) (by decide +kernel) (hO := mm_own_58) rfl ?_
  refine mm_R_ige (t := 23) rfl rfl rfl (fun hc => ?_) (fun hc => ?_)
  · replace h := mm_ip hc h
    refine mm_Runs.seq (l := [(9, .aload_n 0, 1), (10, .aload_n 1, 1), (11, .iload 4, 2)]) (S2 := (13, [some (.ref 5), some (.ref 2), z2, some (.int v3), some (.int v4)], [.int v4, .ref 2, .ref 5], M)) (by decide +kernel) (hO := mm_own_58) rfl ?_
    obtain ⟨hb, h⟩ := mm_gd h
    refine mm_R_iald rfl rfl hb ?_
    refine mm_R_call (v := mm_wv) h hA (k2 := 57) (as := [.ref 5, .int (M.1 2 v4.toNatClampNeg)]) (r := []) rfl (fun _ => rfl) (fun q hq o ho => ms_57 (by omega) hq ho) (fun _ M1 h => ?_)
    show mm_Runs L xs (d + 1) 58 (17, [some (.ref 5), some (.ref 2), z2, some (.int v3), some (.int v4)], [], M1) o
    refine mm_Runs.seq (l := [(17, .iinc 4 1, 3), (20, .goto (-17), 3)]) (S2 := (3, [some (.ref 5), some (.ref 2), z2, some (.int v3), some (.int (v4 + (1 : Int32)))], [], M1)) (by decide +kernel) (hO := mm_own_58) rfl ?_
    cases h
    exact (show mp_58_3 L xs (d + 1) v3 (v4 + (1 : Int32)) M1 o from hA) z2
  · replace h := mm_iq hc h
    cases h
    exact (show mp_58_23 L xs (d + 1) M o from hA) (some (.ref 5)) (some (.ref 2)) z2 (some (.int v3)) (some (.int v4))
theorem ms_58_L3 {L : Nat} {xs : Nat → Int32} {d : Nat} (hd : 1 ≤ d) {v3 : Int32} {v4 : Int32} {β : Type} {K : β → mm_M → mm_E → Prop} {F : (Unit) → mm_M → mm_O β} {M : mm_M} {q : (β ⊕ Nat) × mm_M} {o : mm_E} (h : mm_B (mf_58_L3 v3 v4 M) F = some q) (hA : mm_A K q o) (hx : ∀ (r : (Unit)) (M2 : mm_M), F r M2 = some q → (fun r M o => mp_58_23 L xs (d) M o) r M2 o) : mp_58_3 L xs d v3 v4 M o := mm_R_loop (s := v4) (M := M) (P := (fun s M o => mp_58_3 L xs (d) v3 s M o)) (X := (fun r M o => mp_58_23 L xs (d) M o)) h hA (fun s M q hq hA => ms_58_b3 hd hq hA) hx
noncomputable def mf_58 (v2 : Int32) (v3 : Int32) (M : mm_M) : mm_O Unit := mm_B (mf_58_L3 v3 v2 M) (fun r2 M1 => some (.inl (), M1))
set_option maxRecDepth 8000 in
set_option maxHeartbeats 4000000 in
theorem ms_58 {L : Nat} {xs : Nat → Int32} {d : Nat} (hd : 1 ≤ d) {v2 : Int32} {v3 : Int32} {M : mm_M} {q : (Unit ⊕ Nat) × mm_M} {o : mm_E} (h : mf_58 v2 v3 M = some q) (hA : mm_A (mm_Kr mm_wv) q o) : mm_Runs L xs d 58 (0, mm_ent (mm_ml 58) [.ref 5, .ref 2, .int v2, .int v3], [], M) o := by
  unfold mf_58 at h
  obtain ⟨d, rfl⟩ := mm_d1 (n := 0) hd
  show mm_Runs L xs (d + 1) 58 (0, [some (.ref 5), some (.ref 2), some (.int v2), some (.int v3), none], [], M) o
  refine mm_Runs.seq (l := [(0, .iload_n 2, 1), (1, .istore 4, 2)]) (S2 := (3, [some (.ref 5), some (.ref 2), some (.int v2), some (.int v3), some (.int v2)], [], M)) (by decide +kernel) (hO := mm_own_58) rfl ?_
  have hp : mp_58_3 L xs (d + 1) v3 v2 M o := by
    refine ms_58_L3 hd h hA (fun r2 M1 h => ?_)
    intro y3 y4 y5 y6 y7
    show mm_Runs L xs (d + 1) 58 (23, [y3, y4, y5, y6, y7], [], M1) o
    cases h
    exact mm_R_retv rfl rfl hA
  exact hp (some (.int v2))
-- 127: PlainPacks$Pieces.writeRuns()V (depth 2)
theorem mm_own_127 : mm_own 127 = 9 := rfl
def mp_127_2 (L : Nat) (xs : Nat → Int32) (d : Nat) (v1 : Int32) (M : mm_M) (o : mm_E) : Prop := ∀ z2 z3 : Option Value, mm_Runs L xs d 127 (2, [some (.ref 41), some (.int v1), z2, z3], [], M) o
def mp_127_135 (L : Nat) (xs : Nat → Int32) (d : Nat) (M : mm_M) (o : mm_E) : Prop := ∀ z0 z1 z2 z3 : Option Value, mm_Runs L xs d 127 (135, [z0, z1, z2, z3], [], M) o
def mp_127_66 (L : Nat) (xs : Nat → Int32) (d : Nat) (v1 : Int32) (v3 : Int32) (M : mm_M) (o : mm_E) : Prop := ∀ z2 : Option Value, mm_Runs L xs d 127 (66, [some (.ref 41), some (.int v1), z2, some (.int v3)], [], M) o
def mp_127_102 (L : Nat) (xs : Nat → Int32) (d : Nat) (v1 : Int32) (v3 : Int32) (M : mm_M) (o : mm_E) : Prop := ∀ z2 : Option Value, mm_Runs L xs d 127 (102, [some (.ref 41), some (.int v1), z2, some (.int v3)], [], M) o
noncomputable def mf_127_b66 (v1 : Int32) (v3 : Int32) (M : mm_M) : mm_O ((Int32) ⊕ (Int32)) := if v3 < (M.1 1 1) then (if (v3 - v1) < (128 : Int32) then (mm_B (mf_128 v3 (3 : Int32) M) (fun r1 M2 => if r1 < (3 : Int32) then (some (.inl (.inl (v3 + (1 : Int32))), M2)) else (some (.inl (.inr v3), M2)))) else (some (.inl (.inr v3), M))) else (some (.inl (.inr v3), M))
noncomputable def mf_127_L66 (v1 : Int32) (s : Int32) (M : mm_M) : mm_O (Int32) := mm_L (fun s M => mf_127_b66 v1 s M) s M
set_option maxRecDepth 8000 in
set_option maxHeartbeats 4000000 in
theorem ms_127_b66 {L : Nat} {xs : Nat → Int32} {d : Nat} (hd : 2 ≤ d) {v1 : Int32} {v3 : Int32} {M : mm_M} {q : (((Int32) ⊕ (Int32)) ⊕ Nat) × mm_M} {o : mm_E} (h : mf_127_b66 v1 v3 M = some q) (hA : mm_A (mm_K2 (fun s M o => mp_127_66 L xs (d) v1 s M o) (fun r M o => mp_127_102 L xs (d) v1 r M o)) q o) : mp_127_66 L xs d v1 v3 M o := by
  unfold mf_127_b66 at h
  obtain ⟨d, rfl⟩ := mm_d1 (n := 1) hd
  intro z2
  show mm_Runs L xs (d + 1) 127 (66, [some (.ref 41), some (.int v1), z2, some (.int v3)], [], M) o
  refine mm_Runs.seq (l := [(66, .iload_n 3, 1), (67, .aload_n 0, 1), (68, .getfield 9, 3), (71, .getfield 120, 3)]) (S2 := (74, [some (.ref 41), some (.int v1), z2, some (.int v3)], [.int (M.1 1 1), .int v3], M)) (by decide +kernel) (hO := mm_own_127) rfl ?_
  refine mm_R_ige (t := 102) rfl rfl rfl (fun hc => ?_) (fun hc => ?_)
  · replace h := mm_ip hc h
    refine mm_Runs.seq (l := [(77, .iload_n 3, 1), (78, .iload_n 1, 1), (79, .isub, 1), (80, .sipush 128, 3)]) (S2 := (83, [some (.ref 41), some (.int v1), z2, some (.int v3)], [.int (128 : Int32), .int (v3 - v1)], M)) (by decide +kernel) (hO := mm_own_127) rfl ?_
    refine mm_R_ige (t := 102) rfl rfl rfl (fun hc => ?_) (fun hc => ?_)
    · replace h := mm_ip hc h
      refine mm_Runs.seq (l := [(86, .aload_n 0, 1), (87, .iload_n 3, 1), (88, .iconst 3, 1)]) (S2 := (89, [some (.ref 41), some (.int v1), z2, some (.int v3)], [.int (3 : Int32), .int v3, .ref 41], M)) (by decide +kernel) (hO := mm_own_127) rfl ?_
      refine mm_R_call (v := mm_wi) h hA (k2 := 128) (as := [.ref 41, .int v3, .int (3 : Int32)]) (r := []) rfl (fun _ => rfl) (fun q hq o ho => ms_128 (by omega) hq ho) (fun r1 M2 h => ?_)
      show mm_Runs L xs (d + 1) 127 (92, [some (.ref 41), some (.int v1), z2, some (.int v3)], [.int r1], M2) o
      refine mm_Runs.seq (l := [(92, .iconst 3, 1)]) (S2 := (93, [some (.ref 41), some (.int v1), z2, some (.int v3)], [.int (3 : Int32), .int r1], M2)) (by decide +kernel) (hO := mm_own_127) rfl ?_
      refine mm_R_ige (t := 102) rfl rfl rfl (fun hc => ?_) (fun hc => ?_)
      · replace h := mm_ip hc h
        refine mm_Runs.seq (l := [(96, .iinc 3 1, 3), (99, .goto (-33), 3)]) (S2 := (66, [some (.ref 41), some (.int v1), (mm_no2 z2), some (.int (v3 + (1 : Int32)))], [], M2)) (by decide +kernel) (hO := mm_own_127) rfl ?_
        cases h
        exact (show mp_127_66 L xs (d + 1) v1 (v3 + (1 : Int32)) M2 o from hA) ((mm_no2 z2))
      · replace h := mm_iq hc h
        cases h
        exact (show mp_127_102 L xs (d + 1) v1 v3 M2 o from hA) z2
    · replace h := mm_iq hc h
      cases h
      exact (show mp_127_102 L xs (d + 1) v1 v3 M o from hA) z2
  · replace h := mm_iq hc h
    cases h
    exact (show mp_127_102 L xs (d + 1) v1 v3 M o from hA) z2
theorem ms_127_L66 {L : Nat} {xs : Nat → Int32} {d : Nat} (hd : 2 ≤ d) {v1 : Int32} {v3 : Int32} {β : Type} {K : β → mm_M → mm_E → Prop} {F : (Int32) → mm_M → mm_O β} {M : mm_M} {q : (β ⊕ Nat) × mm_M} {o : mm_E} (h : mm_B (mf_127_L66 v1 v3 M) F = some q) (hA : mm_A K q o) (hx : ∀ (r : (Int32)) (M2 : mm_M), F r M2 = some q → (fun r M o => mp_127_102 L xs (d) v1 r M o) r M2 o) : mp_127_66 L xs d v1 v3 M o := mm_R_loop (s := v3) (M := M) (P := (fun s M o => mp_127_66 L xs (d) v1 s M o)) (X := (fun r M o => mp_127_102 L xs (d) v1 r M o)) h hA (fun s M q hq hA => ms_127_b66 hd hq hA) hx
noncomputable def mf_127_j102 (v1 : Int32) (v3 : Int32) (M : mm_M) : mm_O ((Int32) ⊕ (Unit)) := mm_B (mf_57 ((v3 - v1) - (1 : Int32)) M) (fun _ M1 => mm_B (mf_58 v1 v3 M1) (fun _ M2 => some (.inl (.inl v3), M2)))
set_option maxRecDepth 8000 in
set_option maxHeartbeats 4000000 in
theorem ms_127_j102 {L : Nat} {xs : Nat → Int32} {d : Nat} (hd : 2 ≤ d) {v1 : Int32} {v3 : Int32} {M : mm_M} {q : (((Int32) ⊕ (Unit)) ⊕ Nat) × mm_M} {o : mm_E} (h : mf_127_j102 v1 v3 M = some q) (hA : mm_A (mm_K2 (fun s M o => mp_127_2 L xs (d) s M o) (fun r M o => mp_127_135 L xs (d) M o)) q o) : mp_127_102 L xs d v1 v3 M o := by
  unfold mf_127_j102 at h
  obtain ⟨d, rfl⟩ := mm_d1 (n := 1) hd
  intro z2
  show mm_Runs L xs (d + 1) 127 (102, [some (.ref 41), some (.int v1), z2, some (.int v3)], [], M) o
  refine mm_Runs.seq (l := [(102, .aload_n 0, 1), (103, .getfield 19, 3), (106, .iload_n 3, 1), (107, .iload_n 1, 1), (108, .isub, 1), (109, .iconst 1, 1), (110, .isub, 1)]) (S2 := (111, [some (.ref 41), some (.int v1), z2, some (.int v3)], [.int ((v3 - v1) - (1 : Int32)), .ref 5], M)) (by decide +kernel) (hO := mm_own_127) rfl ?_
  refine mm_R_call (v := mm_wv) h hA (k2 := 57) (as := [.ref 5, .int ((v3 - v1) - (1 : Int32))]) (r := []) rfl (fun _ => rfl) (fun q hq o ho => ms_57 (by omega) hq ho) (fun _ M1 h => ?_)
  show mm_Runs L xs (d + 1) 127 (114, [some (.ref 41), some (.int v1), z2, some (.int v3)], [], M1) o
  refine mm_Runs.seq (l := [(114, .aload_n 0, 1), (115, .getfield 19, 3), (118, .aload_n 0, 1), (119, .getfield 9, 3), (122, .getfield 95, 3), (125, .iload_n 1, 1), (126, .iload_n 3, 1)]) (S2 := (127, [some (.ref 41), some (.int v1), z2, some (.int v3)], [.int v3, .int v1, .ref 2, .ref 5], M1)) (by decide +kernel) (hO := mm_own_127) rfl ?_
  refine mm_R_call (v := mm_wv) h hA (k2 := 58) (as := [.ref 5, .ref 2, .int v1, .int v3]) (r := []) rfl (fun _ => rfl) (fun q hq o ho => ms_58 (by omega) hq ho) (fun _ M2 h => ?_)
  show mm_Runs L xs (d + 1) 127 (130, [some (.ref 41), some (.int v1), z2, some (.int v3)], [], M2) o
  refine mm_Runs.seq (l := [(130, .iload_n 3, 1), (131, .istore_n 1, 1), (132, .goto (-130), 3)]) (S2 := (2, [some (.ref 41), some (.int v3), z2, some (.int v3)], [], M2)) (by decide +kernel) (hO := mm_own_127) rfl ?_
  cases h
  exact (show mp_127_2 L xs (d + 1) v3 M2 o from hA) z2 (some (.int v3))
noncomputable def mf_127_b2 (v1 : Int32) (M : mm_M) : mm_O ((Int32) ⊕ (Unit)) := if v1 < (M.1 1 1) then (mm_B (mf_128 v1 (128 : Int32) M) (fun r1 M2 => if r1 < (3 : Int32) then (mm_B (mf_127_L66 v1 (v1 + (1 : Int32)) M2) (fun r4 M3 => mf_127_j102 v1 r4 M3)) else (mm_B (mf_57 ((257 : Int32) - r1) M2) (fun _ M6 => if mm_in v1 10000 then mm_B (mf_57 (M6.1 2 v1.toNatClampNeg) M6) (fun _ M7 => some (.inl (.inl (v1 + r1)), M7)) else none)))) else (some (.inl (.inr ()), M))
noncomputable def mf_127_L2 (s : Int32) (M : mm_M) : mm_O (Unit) := mm_L (fun s M => mf_127_b2 s M) s M
set_option maxRecDepth 8000 in
set_option maxHeartbeats 4000000 in
theorem ms_127_b2 {L : Nat} {xs : Nat → Int32} {d : Nat} (hd : 2 ≤ d) {v1 : Int32} {M : mm_M} {q : (((Int32) ⊕ (Unit)) ⊕ Nat) × mm_M} {o : mm_E} (h : mf_127_b2 v1 M = some q) (hA : mm_A (mm_K2 (fun s M o => mp_127_2 L xs (d) s M o) (fun r M o => mp_127_135 L xs (d) M o)) q o) : mp_127_2 L xs d v1 M o := by
  unfold mf_127_b2 at h
  obtain ⟨d, rfl⟩ := mm_d1 (n := 1) hd
  intro z2 z3
  show mm_Runs L xs (d + 1) 127 (2, [some (.ref 41), some (.int v1), z2, z3], [], M) o
  refine mm_Runs.seq (l := [(2, .iload_n 1, 1), (3, .aload_n 0, 1), (4, .getfield 9, 3), (7, .getfield 120, 3)]) (S2 := (10, [some (.ref 41), some (.int v1), z2, z3], [.int (M.1 1 1), .int v1], M)) (by decide +kernel) (hO := mm_own_127) rfl ?_
  refine mm_R_ige (t := 135) rfl rfl rfl (fun hc => ?_) (fun hc => ?_)
  · replace h := mm_ip hc h
    refine mm_Runs.seq (l := [(13, .aload_n 0, 1), (14, .iload_n 1, 1), (15, .sipush 128, 3)]) (S2 := (18, [some (.ref 41), some (.int v1), z2, z3], [.int (128 : Int32), .int v1, .ref 41], M)) (by decide +kernel) (hO := mm_own_127) rfl ?_
    refine mm_R_call (v := mm_wi) h hA (k2 := 128) (as := [.ref 41, .int v1, .int (128 : Int32)]) (r := []) rfl (fun _ => rfl) (fun q hq o ho => ms_128 (by omega) hq ho) (fun r1 M2 h => ?_)
    show mm_Runs L xs (d + 1) 127 (21, [some (.ref 41), some (.int v1), z2, z3], [.int r1], M2) o
    refine mm_Runs.seq (l := [(21, .istore_n 2, 1), (22, .iload_n 2, 1), (23, .iconst 3, 1)]) (S2 := (24, [some (.ref 41), some (.int v1), some (.int r1), z3], [.int (3 : Int32), .int r1], M2)) (by decide +kernel) (hO := mm_own_127) rfl ?_
    refine mm_R_ilt (t := 62) rfl rfl rfl (fun hc => ?_) (fun hc => ?_)
    · replace h := mm_ip hc h
      refine mm_Runs.seq (l := [(62, .iload_n 1, 1), (63, .iconst 1, 1), (64, .iadd, 1), (65, .istore_n 3, 1)]) (S2 := (66, [some (.ref 41), some (.int v1), some (.int r1), some (.int (v1 + (1 : Int32)))], [], M2)) (by decide +kernel) (hO := mm_own_127) rfl ?_
      have hp : mp_127_66 L xs (d + 1) v1 (v1 + (1 : Int32)) M2 o := by
        refine ms_127_L66 hd h hA (fun r4 M3 h => ?_)
        intro y5
        show mm_Runs L xs (d + 1) 127 (102, [some (.ref 41), some (.int v1), y5, some (.int r4)], [], M3) o
        exact (ms_127_j102 hd h hA : mp_127_102 L xs (d + 1) v1 r4 M3 o) y5
      exact hp (some (.int r1))
    · replace h := mm_iq hc h
      refine mm_Runs.seq (l := [(27, .aload_n 0, 1), (28, .getfield 19, 3), (31, .sipush 257, 3), (34, .iload_n 2, 1), (35, .isub, 1)]) (S2 := (36, [some (.ref 41), some (.int v1), some (.int r1), z3], [.int ((257 : Int32) - r1), .ref 5], M2)) (by decide +kernel) (hO := mm_own_127) rfl ?_
      refine mm_R_call (v := mm_wv) h hA (k2 := 57) (as := [.ref 5, .int ((257 : Int32) - r1)]) (r := []) rfl (fun _ => rfl) (fun q hq o ho => ms_57 (by omega) hq ho) (fun _ M6 h => ?_)
      show mm_Runs L xs (d + 1) 127 (39, [some (.ref 41), some (.int v1), some (.int r1), z3], [], M6) o
      refine mm_Runs.seq (l := [(39, .aload_n 0, 1), (40, .getfield 19, 3), (43, .aload_n 0, 1), (44, .getfield 9, 3), (47, .getfield 95, 3), (50, .iload_n 1, 1)]) (S2 := (51, [some (.ref 41), some (.int v1), some (.int r1), z3], [.int v1, .ref 2, .ref 5], M6)) (by decide +kernel) (hO := mm_own_127) rfl ?_
      obtain ⟨hb, h⟩ := mm_gd h
      refine mm_R_iald rfl rfl hb ?_
      refine mm_R_call (v := mm_wv) h hA (k2 := 57) (as := [.ref 5, .int (M6.1 2 v1.toNatClampNeg)]) (r := []) rfl (fun _ => rfl) (fun q hq o ho => ms_57 (by omega) hq ho) (fun _ M7 h => ?_)
      show mm_Runs L xs (d + 1) 127 (55, [some (.ref 41), some (.int v1), some (.int r1), z3], [], M7) o
      refine mm_Runs.seq (l := [(55, .iload_n 1, 1), (56, .iload_n 2, 1), (57, .iadd, 1), (58, .istore_n 1, 1), (59, .goto 73, 3), (132, .goto (-130), 3)]) (S2 := (2, [some (.ref 41), some (.int (v1 + r1)), some (.int r1), z3], [], M7)) (by decide +kernel) (hO := mm_own_127) rfl ?_
      cases h
      exact (show mp_127_2 L xs (d + 1) (v1 + r1) M7 o from hA) (some (.int r1)) z3
  · replace h := mm_iq hc h
    cases h
    exact (show mp_127_135 L xs (d + 1) M o from hA) (some (.ref 41)) (some (.int v1)) z2 z3
theorem ms_127_L2 {L : Nat} {xs : Nat → Int32} {d : Nat} (hd : 2 ≤ d) {v1 : Int32} {β : Type} {K : β → mm_M → mm_E → Prop} {F : (Unit) → mm_M → mm_O β} {M : mm_M} {q : (β ⊕ Nat) × mm_M} {o : mm_E} (h : mm_B (mf_127_L2 v1 M) F = some q) (hA : mm_A K q o) (hx : ∀ (r : (Unit)) (M2 : mm_M), F r M2 = some q → (fun r M o => mp_127_135 L xs (d) M o) r M2 o) : mp_127_2 L xs d v1 M o := mm_R_loop (s := v1) (M := M) (P := (fun s M o => mp_127_2 L xs (d) s M o)) (X := (fun r M o => mp_127_135 L xs (d) M o)) h hA (fun s M q hq hA => ms_127_b2 hd hq hA) hx
noncomputable def mf_127 (M : mm_M) : mm_O Unit := mm_B (mf_127_L2 (0 : Int32) M) (fun r2 M1 => some (.inl (), M1))
set_option maxRecDepth 8000 in
set_option maxHeartbeats 4000000 in
theorem ms_127 {L : Nat} {xs : Nat → Int32} {d : Nat} (hd : 2 ≤ d) {M : mm_M} {q : (Unit ⊕ Nat) × mm_M} {o : mm_E} (h : mf_127 M = some q) (hA : mm_A (mm_Kr mm_wv) q o) : mm_Runs L xs d 127 (0, mm_ent (mm_ml 127) [.ref 41], [], M) o := by
  unfold mf_127 at h
  obtain ⟨d, rfl⟩ := mm_d1 (n := 1) hd
  show mm_Runs L xs (d + 1) 127 (0, [some (.ref 41), none, none, none], [], M) o
  refine mm_Runs.seq (l := [(0, .iconst 0, 1), (1, .istore_n 1, 1)]) (S2 := (2, [some (.ref 41), some (.int (0 : Int32)), none, none], [], M)) (by decide +kernel) (hO := mm_own_127) rfl ?_
  have hp : mp_127_2 L xs (d + 1) (0 : Int32) M o := by
    refine ms_127_L2 hd h hA (fun r2 M1 h => ?_)
    intro y3 y4 y5 y6
    show mm_Runs L xs (d + 1) 127 (135, [y3, y4, y5, y6], [], M1) o
    cases h
    exact mm_R_retv rfl rfl hA
  exact hp none none
-- 61: PlainPacks$Writer.bit(I)V (depth 1)
theorem mm_own_61 : mm_own 61 = 3 := rfl
def mp_61_30 (L : Nat) (xs : Nat → Int32) (d : Nat) (s1 : Int32) (s2 : Int32) (M : mm_M) (o : mm_E) : Prop := ∀ z1 : Option Value, mm_Runs L xs d 61 (30, [some (.ref 5), z1], [.int s2, .int s1, .ref 5], M) o
noncomputable def mf_61_j30 (s1 : Int32) (s2 : Int32) (M : mm_M) : mm_O Unit := if ((M.1 5 5) + (1 : Int32)) = (8 : Int32) then (mm_B (mf_57 (s1 ||| s2) (mm_pi (mm_pi M 5 4 (s1 ||| s2)) 5 5 ((M.1 5 5) + (1 : Int32)))) (fun _ M1 => some (.inl (), (mm_pi (mm_pi M1 5 4 (0 : Int32)) 5 5 (0 : Int32))))) else (some (.inl (), (mm_pi (mm_pi M 5 4 (s1 ||| s2)) 5 5 ((M.1 5 5) + (1 : Int32)))))
set_option maxRecDepth 8000 in
set_option maxHeartbeats 4000000 in
theorem ms_61_j30 {L : Nat} {xs : Nat → Int32} {d : Nat} (hd : 1 ≤ d) {s1 : Int32} {s2 : Int32} {M : mm_M} {q : (Unit ⊕ Nat) × mm_M} {o : mm_E} (h : mf_61_j30 s1 s2 M = some q) (hA : mm_A (mm_Kr mm_wv) q o) : mp_61_30 L xs d s1 s2 M o := by
  unfold mf_61_j30 at h
  obtain ⟨d, rfl⟩ := mm_d1 (n := 0) hd
  intro z1
  show mm_Runs L xs (d + 1) 61 (30, [some (.ref 5), z1], [.int s2, .int s1, .ref 5], M) o
  refine mm_Runs.seq (l := [(30, .ior, 1), (31, .putfield 30, 3), (34, .aload_n 0, 1), (35, .dup, 1), (36, .getfield 33, 3), (39, .iconst 1, 1), (40, .iadd, 1), (41, .putfield 33, 3), (44, .aload_n 0, 1), (45, .getfield 33, 3), (48, .bipush 8, 2)]) (S2 := (50, [some (.ref 5), z1], [.int (8 : Int32), .int ((M.1 5 5) + (1 : Int32))], (mm_pi (mm_pi M 5 4 (s1 ||| s2)) 5 5 ((M.1 5 5) + (1 : Int32))))) (by decide +kernel) (hO := mm_own_61) rfl ?_
  refine mm_R_ine (t := 71) rfl rfl rfl (fun hc => ?_) (fun hc => ?_)
  · replace h := mm_ip hc h
    refine mm_Runs.seq (l := [(53, .aload_n 0, 1), (54, .aload_n 0, 1), (55, .getfield 30, 3)]) (S2 := (58, [some (.ref 5), z1], [.int (s1 ||| s2), .ref 5], (mm_pi (mm_pi M 5 4 (s1 ||| s2)) 5 5 ((M.1 5 5) + (1 : Int32))))) (by decide +kernel) (hO := mm_own_61) rfl ?_
    refine mm_R_call (v := mm_wv) h hA (k2 := 57) (as := [.ref 5, .int (s1 ||| s2)]) (r := []) rfl (fun _ => rfl) (fun q hq o ho => ms_57 (by omega) hq ho) (fun _ M1 h => ?_)
    show mm_Runs L xs (d + 1) 61 (61, [some (.ref 5), z1], [], M1) o
    refine mm_Runs.seq (l := [(61, .aload_n 0, 1), (62, .iconst 0, 1), (63, .putfield 30, 3), (66, .aload_n 0, 1), (67, .iconst 0, 1), (68, .putfield 33, 3)]) (S2 := (71, [some (.ref 5), z1], [], (mm_pi (mm_pi M1 5 4 (0 : Int32)) 5 5 (0 : Int32)))) (by decide +kernel) (hO := mm_own_61) rfl ?_
    cases h
    exact mm_R_retv rfl rfl hA
  · replace h := mm_iq hc h
    cases h
    exact mm_R_retv rfl rfl hA
noncomputable def mf_61 (v1 : Int32) (M : mm_M) : mm_O Unit := if (M.1 5 3) = 0 then (mf_61_j30 (M.1 5 4) (mm_shl v1 (M.1 5 5)) M) else (mf_61_j30 (M.1 5 4) (mm_shl v1 ((7 : Int32) - (M.1 5 5))) M)
set_option maxRecDepth 8000 in
set_option maxHeartbeats 4000000 in
theorem ms_61 {L : Nat} {xs : Nat → Int32} {d : Nat} (hd : 1 ≤ d) {v1 : Int32} {M : mm_M} {q : (Unit ⊕ Nat) × mm_M} {o : mm_E} (h : mf_61 v1 M = some q) (hA : mm_A (mm_Kr mm_wv) q o) : mm_Runs L xs d 61 (0, mm_ent (mm_ml 61) [.ref 5, .int v1], [], M) o := by
  unfold mf_61 at h
  obtain ⟨d, rfl⟩ := mm_d1 (n := 0) hd
  show mm_Runs L xs (d + 1) 61 (0, [some (.ref 5), some (.int v1)], [], M) o
  refine mm_Runs.seq (l := [(0, .aload_n 0, 1), (1, .dup, 1), (2, .getfield 30, 3), (5, .aload_n 0, 1), (6, .getfield 19, 3)]) (S2 := (9, [some (.ref 5), some (.int v1)], [.int (M.1 5 3), .int (M.1 5 4), .ref 5], M)) (by decide +kernel) (hO := mm_own_61) rfl ?_
  refine mm_R_zeq (t := 24) rfl rfl rfl (fun hc => ?_) (fun hc => ?_)
  · replace h := mm_ip hc h
    refine mm_Runs.seq (l := [(24, .iload_n 1, 1), (25, .aload_n 0, 1), (26, .getfield 33, 3), (29, .ishl, 1)]) (S2 := (30, [some (.ref 5), some (.int v1)], [.int (mm_shl v1 (M.1 5 5)), .int (M.1 5 4), .ref 5], M)) (by decide +kernel) (hO := mm_own_61) rfl ?_
    exact (ms_61_j30 hd h hA : mp_61_30 L xs (d + 1) (M.1 5 4) (mm_shl v1 (M.1 5 5)) M o) (some (.int v1))
  · replace h := mm_iq hc h
    refine mm_Runs.seq (l := [(12, .iload_n 1, 1), (13, .bipush 7, 2), (15, .aload_n 0, 1), (16, .getfield 33, 3), (19, .isub, 1), (20, .ishl, 1), (21, .goto 9, 3)]) (S2 := (30, [some (.ref 5), some (.int v1)], [.int (mm_shl v1 ((7 : Int32) - (M.1 5 5))), .int (M.1 5 4), .ref 5], M)) (by decide +kernel) (hO := mm_own_61) rfl ?_
    exact (ms_61_j30 hd h hA : mp_61_30 L xs (d + 1) (M.1 5 4) (mm_shl v1 ((7 : Int32) - (M.1 5 5))) M o) (some (.int v1))
-- 62: PlainPacks$Writer.bits(JI)V (depth 2)
theorem mm_own_62 : mm_own 62 = 3 := rfl
def mp_62_3 (L : Nat) (xs : Nat → Int32) (d : Nat) (v1 : Int64) (v3 : Int32) (v4 : Int32) (M : mm_M) (o : mm_E) : Prop := ∀ z2 : Option Value, mm_Runs L xs d 62 (3, [some (.ref 5), some (.long v1), z2, some (.int v3), some (.int v4)], [], M) o
def mp_62_42 (L : Nat) (xs : Nat → Int32) (d : Nat) (M : mm_M) (o : mm_E) : Prop := ∀ z0 z1 z2 z3 z4 : Option Value, mm_Runs L xs d 62 (42, [z0, z1, z2, z3, z4], [], M) o
def mp_62_29 (L : Nat) (xs : Nat → Int32) (d : Nat) (v1 : Int64) (v3 : Int32) (v4 : Int32) (s1 : Int64) (s2 : Int32) (M : mm_M) (o : mm_E) : Prop := ∀ z2 : Option Value, mm_Runs L xs d 62 (29, [some (.ref 5), some (.long v1), z2, some (.int v3), some (.int v4)], [.int s2, .long s1, .ref 5], M) o
noncomputable def mf_62_j29 (v1 : Int64) (v3 : Int32) (v4 : Int32) (s1 : Int64) (s2 : Int32) (M : mm_M) : mm_O ((Int32) ⊕ (Unit)) := mm_B (mf_61 ((mm_lush s1 s2) &&& (1 : Int64)).toInt32 M) (fun _ M1 => some (.inl (.inl (v4 + (1 : Int32))), M1))
set_option maxRecDepth 8000 in
set_option maxHeartbeats 4000000 in
theorem ms_62_j29 {L : Nat} {xs : Nat → Int32} {d : Nat} (hd : 2 ≤ d) {v1 : Int64} {v3 : Int32} {v4 : Int32} {s1 : Int64} {s2 : Int32} {M : mm_M} {q : (((Int32) ⊕ (Unit)) ⊕ Nat) × mm_M} {o : mm_E} (h : mf_62_j29 v1 v3 v4 s1 s2 M = some q) (hA : mm_A (mm_K2 (fun s M o => mp_62_3 L xs (d) v1 v3 s M o) (fun r M o => mp_62_42 L xs (d) M o)) q o) : mp_62_29 L xs d v1 v3 v4 s1 s2 M o := by
  unfold mf_62_j29 at h
  obtain ⟨d, rfl⟩ := mm_d1 (n := 1) hd
  intro z2
  show mm_Runs L xs (d + 1) 62 (29, [some (.ref 5), some (.long v1), z2, some (.int v3), some (.int v4)], [.int s2, .long s1, .ref 5], M) o
  refine mm_Runs.seq (l := [(29, .lushr, 1), (30, .lconst 1, 1), (31, .land, 1), (32, .l2i, 1)]) (S2 := (33, [some (.ref 5), some (.long v1), z2, some (.int v3), some (.int v4)], [.int ((mm_lush s1 s2) &&& (1 : Int64)).toInt32, .ref 5], M)) (by decide +kernel) (hO := mm_own_62) rfl ?_
  refine mm_R_call (v := mm_wv) h hA (k2 := 61) (as := [.ref 5, .int ((mm_lush s1 s2) &&& (1 : Int64)).toInt32]) (r := []) rfl (fun _ => rfl) (fun q hq o ho => ms_61 (by omega) hq ho) (fun _ M1 h => ?_)
  show mm_Runs L xs (d + 1) 62 (36, [some (.ref 5), some (.long v1), z2, some (.int v3), some (.int v4)], [], M1) o
  refine mm_Runs.seq (l := [(36, .iinc 4 1, 3), (39, .goto (-36), 3)]) (S2 := (3, [some (.ref 5), some (.long v1), z2, some (.int v3), some (.int (v4 + (1 : Int32)))], [], M1)) (by decide +kernel) (hO := mm_own_62) rfl ?_
  cases h
  exact (show mp_62_3 L xs (d + 1) v1 v3 (v4 + (1 : Int32)) M1 o from hA) z2
noncomputable def mf_62_b3 (v1 : Int64) (v3 : Int32) (v4 : Int32) (M : mm_M) : mm_O ((Int32) ⊕ (Unit)) := if v4 < v3 then (if (M.1 5 3) = 0 then (mf_62_j29 v1 v3 v4 v1 v4 M) else (mf_62_j29 v1 v3 v4 v1 ((v3 - (1 : Int32)) - v4) M)) else (some (.inl (.inr ()), M))
noncomputable def mf_62_L3 (v1 : Int64) (v3 : Int32) (s : Int32) (M : mm_M) : mm_O (Unit) := mm_L (fun s M => mf_62_b3 v1 v3 s M) s M
set_option maxRecDepth 8000 in
set_option maxHeartbeats 4000000 in
theorem ms_62_b3 {L : Nat} {xs : Nat → Int32} {d : Nat} (hd : 2 ≤ d) {v1 : Int64} {v3 : Int32} {v4 : Int32} {M : mm_M} {q : (((Int32) ⊕ (Unit)) ⊕ Nat) × mm_M} {o : mm_E} (h : mf_62_b3 v1 v3 v4 M = some q) (hA : mm_A (mm_K2 (fun s M o => mp_62_3 L xs (d) v1 v3 s M o) (fun r M o => mp_62_42 L xs (d) M o)) q o) : mp_62_3 L xs d v1 v3 v4 M o := by
  unfold mf_62_b3 at h
  obtain ⟨d, rfl⟩ := mm_d1 (n := 1) hd
  intro z2
  show mm_Runs L xs (d + 1) 62 (3, [some (.ref 5), some (.long v1), z2, some (.int v3), some (.int v4)], [], M) o
  refine mm_Runs.seq (l := [(3, .iload 4, 2), (5, .iload_n 3, 1)]) (S2 := (6, [some (.ref 5), some (.long v1), z2, some (.int v3), some (.int v4)], [.int v3, .int v4], M)) (by decide +kernel) (hO := mm_own_62) rfl ?_
  refine mm_R_ige (t := 42) rfl rfl rfl (fun hc => ?_) (fun hc => ?_)
  · replace h := mm_ip hc h
    refine mm_Runs.seq (l := [(9, .aload_n 0, 1), (10, .lload_n 1, 1), (11, .aload_n 0, 1), (12, .getfield 19, 3)]) (S2 := (15, [some (.ref 5), some (.long v1), z2, some (.int v3), some (.int v4)], [.int (M.1 5 3), .long v1, .ref 5], M)) (by decide +kernel) (hO := mm_own_62) rfl ?_
    refine mm_R_zeq (t := 27) rfl rfl rfl (fun hc => ?_) (fun hc => ?_)
    · replace h := mm_ip hc h
      refine mm_Runs.seq (l := [(27, .iload 4, 2)]) (S2 := (29, [some (.ref 5), some (.long v1), z2, some (.int v3), some (.int v4)], [.int v4, .long v1, .ref 5], M)) (by decide +kernel) (hO := mm_own_62) rfl ?_
      exact (ms_62_j29 hd h hA : mp_62_29 L xs (d + 1) v1 v3 v4 v1 v4 M o) z2
    · replace h := mm_iq hc h
      refine mm_Runs.seq (l := [(18, .iload_n 3, 1), (19, .iconst 1, 1), (20, .isub, 1), (21, .iload 4, 2), (23, .isub, 1), (24, .goto 5, 3)]) (S2 := (29, [some (.ref 5), some (.long v1), z2, some (.int v3), some (.int v4)], [.int ((v3 - (1 : Int32)) - v4), .long v1, .ref 5], M)) (by decide +kernel) (hO := mm_own_62) rfl ?_
      exact (ms_62_j29 hd h hA : mp_62_29 L xs (d + 1) v1 v3 v4 v1 ((v3 - (1 : Int32)) - v4) M o) z2
  · replace h := mm_iq hc h
    cases h
    exact (show mp_62_42 L xs (d + 1) M o from hA) (some (.ref 5)) (some (.long v1)) z2 (some (.int v3)) (some (.int v4))
theorem ms_62_L3 {L : Nat} {xs : Nat → Int32} {d : Nat} (hd : 2 ≤ d) {v1 : Int64} {v3 : Int32} {v4 : Int32} {β : Type} {K : β → mm_M → mm_E → Prop} {F : (Unit) → mm_M → mm_O β} {M : mm_M} {q : (β ⊕ Nat) × mm_M} {o : mm_E} (h : mm_B (mf_62_L3 v1 v3 v4 M) F = some q) (hA : mm_A K q o) (hx : ∀ (r : (Unit)) (M2 : mm_M), F r M2 = some q → (fun r M o => mp_62_42 L xs (d) M o) r M2 o) : mp_62_3 L xs d v1 v3 v4 M o := mm_R_loop (s := v4) (M := M) (P := (fun s M o => mp_62_3 L xs (d) v1 v3 s M o)) (X := (fun r M o => mp_62_42 L xs (d) M o)) h hA (fun s M q hq hA => ms_62_b3 hd hq hA) hx
noncomputable def mf_62 (v1 : Int64) (v3 : Int32) (M : mm_M) : mm_O Unit := mm_B (mf_62_L3 v1 v3 (0 : Int32) M) (fun r2 M1 => some (.inl (), M1))
set_option maxRecDepth 8000 in
set_option maxHeartbeats 4000000 in
theorem ms_62 {L : Nat} {xs : Nat → Int32} {d : Nat} (hd : 2 ≤ d) {v1 : Int64} {v3 : Int32} {M : mm_M} {q : (Unit ⊕ Nat) × mm_M} {o : mm_E} (h : mf_62 v1 v3 M = some q) (hA : mm_A (mm_Kr mm_wv) q o) : mm_Runs L xs d 62 (0, mm_ent (mm_ml 62) [.ref 5, .long v1, .int v3], [], M) o := by
  unfold mf_62 at h
  obtain ⟨d, rfl⟩ := mm_d1 (n := 1) hd
  show mm_Runs L xs (d + 1) 62 (0, [some (.ref 5), some (.long v1), none, some (.int v3), none], [], M) o
  refine mm_Runs.seq (l := [(0, .iconst 0, 1), (1, .istore 4, 2)]) (S2 := (3, [some (.ref 5), some (.long v1), none, some (.int v3), some (.int (0 : Int32))], [], M)) (by decide +kernel) (hO := mm_own_62) rfl ?_
  have hp : mp_62_3 L xs (d + 1) v1 v3 (0 : Int32) M o := by
    refine ms_62_L3 hd h hA (fun r2 M1 h => ?_)
    intro y3 y4 y5 y6 y7
    show mm_Runs L xs (d + 1) 62 (42, [y3, y4, y5, y6, y7], [], M1) o
    cases h
    exact mm_R_retv rfl rfl hA
  exact hp none
-- 70: PlainPacks$Finder.start()V (depth 1)
theorem mm_own_70 : mm_own 70 = 5 := rfl
noncomputable def mf_70 (M : mm_M) : mm_O Unit := mm_B (mf_290 14 4096 (-1 : Int32) (mm_pi (mm_pi M 13 6 (M.1 1 1)) 13 7 (0 : Int32))) (fun _ M1 => some (.inl (), M1))
set_option maxRecDepth 8000 in
set_option maxHeartbeats 4000000 in
theorem ms_70 {L : Nat} {xs : Nat → Int32} {d : Nat} (hd : 1 ≤ d) {M : mm_M} {q : (Unit ⊕ Nat) × mm_M} {o : mm_E} (h : mf_70 M = some q) (hA : mm_A (mm_Kr mm_wv) q o) : mm_Runs L xs d 70 (0, mm_ent (mm_ml 70) [.ref 13], [], M) o := by
  unfold mf_70 at h
  obtain ⟨d, rfl⟩ := mm_d1 (n := 0) hd
  show mm_Runs L xs (d + 1) 70 (0, [some (.ref 13)], [], M) o
  refine mm_Runs.seq (l := [(0, .aload_n 0, 1), (1, .aload_n 0, 1), (2, .getfield 18, 3), (5, .getfield 28, 3), (8, .putfield 32, 3), (11, .aload_n 0, 1), (12, .iconst 0, 1), (13, .putfield 33, 3), (16, .aload_n 0, 1), (17, .getfield 11, 3), (20, .iconst (-1), 1)]) (S2 := (21, [some (.ref 13)], [.int (-1 : Int32), .ref 14], (mm_pi (mm_pi M 13 6 (M.1 1 1)) 13 7 (0 : Int32)))) (by decide +kernel) (hO := mm_own_70) rfl ?_
  refine mm_R_call (v := mm_wv) h hA (k2 := 290) (as := [.ref 14, .int (-1 : Int32)]) (r := []) rfl (fun _ => rfl) (fun q hq o ho => ms_290 rfl (by omega) hq ho) (fun _ M1 h => ?_)
  show mm_Runs L xs (d + 1) 70 (24, [some (.ref 13)], [], M1) o
  cases h
  exact mm_R_retv rfl rfl hA
-- 73: PlainPacks$Finder.headOf(I)I (depth 0)
theorem mm_own_73 : mm_own 73 = 5 := rfl
noncomputable def mf_73 (v1 : Int32) (M : mm_M) : mm_O Int32 := if mm_in v1 10000 then if mm_in (v1 + (1 : Int32)) 10000 then if mm_in (v1 + (2 : Int32)) 10000 then some (.inl (((((M.1 2 v1.toNatClampNeg) * (961 : Int32)) + ((M.1 2 (v1 + (1 : Int32)).toNatClampNeg) * (31 : Int32))) + (M.1 2 (v1 + (2 : Int32)).toNatClampNeg)) &&& (4095 : Int32)), M) else none else none else none
set_option maxRecDepth 8000 in
set_option maxHeartbeats 4000000 in
theorem ms_73 {L : Nat} {xs : Nat → Int32} {d : Nat} (hd : 0 ≤ d) {v1 : Int32} {M : mm_M} {q : (Int32 ⊕ Nat) × mm_M} {o : mm_E} (h : mf_73 v1 M = some q) (hA : mm_A (mm_Kr mm_wi) q o) : mm_Runs L xs d 73 (0, mm_ent (mm_ml 73) [.ref 13, .int v1], [], M) o := by
  unfold mf_73 at h
  show mm_Runs L xs (d) 73 (0, [some (.ref 13), some (.int v1)], [], M) o
  refine mm_Runs.seq (l := [(0, .aload_n 0, 1), (1, .getfield 27, 3), (4, .iload_n 1, 1)]) (S2 := (5, [some (.ref 13), some (.int v1)], [.int v1, .ref 2], M)) (by decide +kernel) (hO := mm_own_73) rfl ?_
  obtain ⟨hb, h⟩ := mm_gd h
  refine mm_R_iald rfl rfl hb ?_
  refine mm_Runs.seq (l := [(6, .sipush 961, 3), (9, .imul, 1), (10, .aload_n 0, 1), (11, .getfield 27, 3), (14, .iload_n 1, 1), (15, .iconst 1, 1), (16, .iadd, 1)]) (S2 := (17, [some (.ref 13), some (.int v1)], [.int (v1 + (1 : Int32)), .ref 2, .int ((M.1 2 v1.toNatClampNeg) * (961 : Int32))], M)) (by decide +kernel) (hO := mm_own_73) rfl ?_
  obtain ⟨hb, h⟩ := mm_gd h
  refine mm_R_iald rfl rfl hb ?_
  refine mm_Runs.seq (l := [(18, .bipush 31, 2), (20, .imul, 1), (21, .iadd, 1), (22, .aload_n 0, 1), (23, .getfield 27, 3), (26, .iload_n 1, 1), (27, .iconst 2, 1), (28, .iadd, 1)]) (S2 := (29, [some (.ref 13), some (.int v1)], [.int (v1 + (2 : Int32)), .ref 2, .int (((M.1 2 v1.toNatClampNeg) * (961 : Int32)) + ((M.1 2 (v1 + (1 : Int32)).toNatClampNeg) * (31 : Int32)))], M)) (by decide +kernel) (hO := mm_own_73) rfl ?_
  obtain ⟨hb, h⟩ := mm_gd h
  refine mm_R_iald rfl rfl hb ?_
  refine mm_Runs.seq (l := [(30, .iadd, 1), (31, .sipush 4095, 3), (34, .iand, 1)]) (S2 := (35, [some (.ref 13), some (.int v1)], [.int (((((M.1 2 v1.toNatClampNeg) * (961 : Int32)) + ((M.1 2 (v1 + (1 : Int32)).toNatClampNeg) * (31 : Int32))) + (M.1 2 (v1 + (2 : Int32)).toNatClampNeg)) &&& (4095 : Int32))], M)) (by decide +kernel) (hO := mm_own_73) rfl ?_
  cases h
  exact mm_R_reti rfl rfl hA
-- 72: PlainPacks$Finder.enterTo(I)V (depth 1)
theorem mm_own_72 : mm_own 72 = 5 := rfl
def mp_72_0 (L : Nat) (xs : Nat → Int32) (d : Nat) (v1 : Int32) (M : mm_M) (o : mm_E) : Prop := ∀ z2 : Option Value, mm_Runs L xs d 72 (0, [some (.ref 13), some (.int v1), z2], [], M) o
def mp_72_68 (L : Nat) (xs : Nat → Int32) (d : Nat) (M : mm_M) (o : mm_E) : Prop := ∀ z0 z1 z2 : Option Value, mm_Runs L xs d 72 (68, [z0, z1, z2], [], M) o
noncomputable def mf_72_b0 (v1 : Int32) (M : mm_M) : mm_O ((Unit) ⊕ (Unit)) := if (M.1 13 7) < v1 then (if (M.1 13 6) < ((M.1 13 7) + (3 : Int32)) then (some (.inl (.inr ()), M)) else (mm_B (mf_73 (M.1 13 7) M) (fun r1 M2 => if mm_in r1 4096 then if mm_in (M2.1 13 7) 10000 then if mm_in r1 4096 then some (.inl (.inl ()), (mm_pi (mm_pi (mm_pi M2 15 (M2.1 13 7).toNatClampNeg (M2.1 14 r1.toNatClampNeg)) 14 r1.toNatClampNeg (M2.1 13 7)) 13 7 ((M2.1 13 7) + (1 : Int32)))) else none else none else none))) else (some (.inl (.inr ()), M))
noncomputable def mf_72_L0 (v1 : Int32) (s : Unit) (M : mm_M) : mm_O (Unit) := mm_L (fun s M => mf_72_b0 v1 M) s M
set_option maxRecDepth 8000 in
set_option maxHeartbeats 4000000 in
theorem ms_72_b0 {L : Nat} {xs : Nat → Int32} {d : Nat} (hd : 1 ≤ d) {v1 : Int32} {M : mm_M} {q : (((Unit) ⊕ (Unit)) ⊕ Nat) × mm_M} {o : mm_E} (h : mf_72_b0 v1 M = some q) (hA : mm_A (mm_K2 (fun s M o => mp_72_0 L xs (d) v1 M o) (fun r M o => mp_72_68 L xs (d) M o)) q o) : mp_72_0 L xs d v1 M o := by
  unfold mf_72_b0 at h
  obtain ⟨d, rfl⟩ := mm_d1 (n := 0) hd
  intro z2
  show mm_Runs L xs (d + 1) 72 (0, [some (.ref 13), some (.int v1), z2], [], M) o
  refine mm_Runs.seq (l := [(0, .aload_n 0, 1), (1, .getfield 33, 3), (4, .iload_n 1, 1)]) (S2 := (5, [some (.ref 13), some (.int v1), z2], [.int v1, .int (M.1 13 7)], M)) (by decide +kernel) (hO := mm_own_72) rfl ?_
  refine mm_R_ige (t := 68) rfl rfl rfl (fun hc => ?_) (fun hc => ?_)
  · replace h := mm_ip hc h
    refine mm_Runs.seq (l := [(8, .aload_n 0, 1), (9, .getfield 33, 3), (12, .iconst 3, 1), (13, .iadd, 1), (14, .aload_n 0, 1), (15, .getfield 32, 3)]) (S2 := (18, [some (.ref 13), some (.int v1), z2], [.int (M.1 13 6), .int ((M.1 13 7) + (3 : Int32))], M)) (by decide +kernel) (hO := mm_own_72) rfl ?_
    refine mm_R_igt (t := 68) rfl rfl rfl (fun hc => ?_) (fun hc => ?_)
    · replace h := mm_ip hc h
      cases h
      exact (show mp_72_68 L xs (d + 1) M o from hA) (some (.ref 13)) (some (.int v1)) z2
    · replace h := mm_iq hc h
      refine mm_Runs.seq (l := [(21, .aload_n 0, 1), (22, .aload_n 0, 1), (23, .getfield 33, 3)]) (S2 := (26, [some (.ref 13), some (.int v1), z2], [.int (M.1 13 7), .ref 13], M)) (by decide +kernel) (hO := mm_own_72) rfl ?_
      refine mm_R_call (v := mm_wi) h hA (k2 := 73) (as := [.ref 13, .int (M.1 13 7)]) (r := []) rfl (fun _ => rfl) (fun q hq o ho => ms_73 (by omega) hq ho) (fun r1 M2 h => ?_)
      show mm_Runs L xs (d + 1) 72 (29, [some (.ref 13), some (.int v1), z2], [.int r1], M2) o
      refine mm_Runs.seq (l := [(29, .istore_n 2, 1), (30, .aload_n 0, 1), (31, .getfield 15, 3), (34, .aload_n 0, 1), (35, .getfield 33, 3), (38, .aload_n 0, 1), (39, .getfield 11, 3), (42, .iload_n 2, 1)]) (S2 := (43, [some (.ref 13), some (.int v1), some (.int r1)], [.int r1, .ref 14, .int (M2.1 13 7), .ref 15], M2)) (by decide +kernel) (hO := mm_own_72) rfl ?_
      obtain ⟨hb, h⟩ := mm_gd h
      refine mm_R_iald rfl rfl hb ?_
      obtain ⟨hb, h⟩ := mm_gd h
      refine mm_R_iast rfl rfl hb ?_
      refine mm_Runs.seq (l := [(45, .aload_n 0, 1), (46, .getfield 11, 3), (49, .iload_n 2, 1), (50, .aload_n 0, 1), (51, .getfield 33, 3)]) (S2 := (54, [some (.ref 13), some (.int v1), some (.int r1)], [.int (M2.1 13 7), .int r1, .ref 14], (mm_pi M2 15 (M2.1 13 7).toNatClampNeg (M2.1 14 r1.toNatClampNeg)))) (by decide +kernel) (hO := mm_own_72) rfl ?_
      obtain ⟨hb, h⟩ := mm_gd h
      refine mm_R_iast rfl rfl hb ?_
      refine mm_Runs.seq (l := [(55, .aload_n 0, 1), (56, .dup, 1), (57, .getfield 33, 3), (60, .iconst 1, 1), (61, .iadd, 1), (62, .putfield 33, 3), (65, .goto (-65), 3)]) (S2 := (0, [some (.ref 13), some (.int v1), some (.int r1)], [], (mm_pi (mm_pi (mm_pi M2 15 (M2.1 13 7).toNatClampNeg (M2.1 14 r1.toNatClampNeg)) 14 r1.toNatClampNeg (M2.1 13 7)) 13 7 ((M2.1 13 7) + (1 : Int32))))) (by decide +kernel) (hO := mm_own_72) rfl ?_
      cases h
      exact (show mp_72_0 L xs (d + 1) v1 (mm_pi (mm_pi (mm_pi M2 15 (M2.1 13 7).toNatClampNeg (M2.1 14 r1.toNatClampNeg)) 14 r1.toNatClampNeg (M2.1 13 7)) 13 7 ((M2.1 13 7) + (1 : Int32))) o from hA) (some (.int r1))
  · replace h := mm_iq hc h
    cases h
    exact (show mp_72_68 L xs (d + 1) M o from hA) (some (.ref 13)) (some (.int v1)) z2
theorem ms_72_L0 {L : Nat} {xs : Nat → Int32} {d : Nat} (hd : 1 ≤ d) {v1 : Int32} {β : Type} {K : β → mm_M → mm_E → Prop} {F : (Unit) → mm_M → mm_O β} {M : mm_M} {q : (β ⊕ Nat) × mm_M} {o : mm_E} (h : mm_B (mf_72_L0 v1 () M) F = some q) (hA : mm_A K q o) (hx : ∀ (r : (Unit)) (M2 : mm_M), F r M2 = some q → (fun r M o => mp_72_68 L xs (d) M o) r M2 o) : mp_72_0 L xs d v1 M o := mm_R_loop (s := ()) (M := M) (P := (fun s M o => mp_72_0 L xs (d) v1 M o)) (X := (fun r M o => mp_72_68 L xs (d) M o)) h hA (fun s M q hq hA => ms_72_b0 hd hq hA) hx
noncomputable def mf_72 (v1 : Int32) (M : mm_M) : mm_O Unit := mm_B (mf_72_L0 v1 () M) (fun r2 M1 => some (.inl (), M1))
set_option maxRecDepth 8000 in
set_option maxHeartbeats 4000000 in
theorem ms_72 {L : Nat} {xs : Nat → Int32} {d : Nat} (hd : 1 ≤ d) {v1 : Int32} {M : mm_M} {q : (Unit ⊕ Nat) × mm_M} {o : mm_E} (h : mf_72 v1 M = some q) (hA : mm_A (mm_Kr mm_wv) q o) : mm_Runs L xs d 72 (0, mm_ent (mm_ml 72) [.ref 13, .int v1], [], M) o := by
  unfold mf_72 at h
  obtain ⟨d, rfl⟩ := mm_d1 (n := 0) hd
  show mm_Runs L xs (d + 1) 72 (0, [some (.ref 13), some (.int v1), none], [], M) o
  have hp : mp_72_0 L xs (d + 1) v1 M o := by
    refine ms_72_L0 hd h hA (fun r2 M1 h => ?_)
    intro y3 y4 y5
    show mm_Runs L xs (d + 1) 72 (68, [y3, y4, y5], [], M1) o
    cases h
    exact mm_R_retv rfl rfl hA
  exact hp none
