/-! MEANINGS ARE SOUND 39 -/
-- 24: PlainPacks.turning(I)I (depth 7)
theorem mm_own_24 : mm_own 24 = 0 := rfl
set_option maxRecDepth 8000 in
set_option maxHeartbeats 4000000 in
theorem ms_24 {L : Nat} {xs : Nat → Int32} {d : Nat} (hd : 7 ≤ d) {v1 : Int32} {M : mm_M} {q : (Int32 ⊕ Nat) × mm_M} {o : mm_E} (h : mf_24 v1 M = some q) (hA : mm_A (mm_Kr mm_wi) q o) : mm_Runs L xs d 24 (0, mm_ent (mm_ml 24) [.ref 0, .int v1], [], M) o := by
  unfold mf_24 at h
  obtain ⟨d, rfl⟩ := mm_d1 (n := 6) hd
  show mm_Runs L xs (d + 1) 24 (0, [some (.ref 0), some (.int v1)], [], M) o
  refine mm_Runs.seq (l := [(0, .iload_n 1, 1)]) (S2 := (1, [some (.ref 0), some (.int v1)], [.int v1], M)) (by decide +kernel) (hO := mm_own_24) rfl ?_
  refine mm_R_zlt (t := 15) rfl rfl rfl (fun hc => ?_) (fun hc => ?_)
  · replace h := mm_ip hc h
    cases h
    exact mm_R_thr rfl rfl rfl (by omega) hA
  · replace h := mm_iq hc h
    refine mm_Runs.seq (l := [(4, .iload_n 1, 1), (5, .aload_n 0, 1), (6, .getfield 12, 3), (9, .getfield 90, 3)]) (S2 := (12, [some (.ref 0), some (.int v1)], [.int (M.1 1 1), .int v1], M)) (by decide +kernel) (hO := mm_own_24) rfl ?_
    refine mm_R_ilt (t := 26) rfl rfl rfl (fun hc => ?_) (fun hc => ?_)
    · replace h := mm_ip hc h
      refine mm_Runs.seq (l := [(26, .aload_n 0, 1), (27, .getfield 12, 3), (30, .getfield 90, 3), (33, .sipush 1000, 3)]) (S2 := (36, [some (.ref 0), some (.int v1)], [.int (1000 : Int32), .int (M.1 1 1)], M)) (by decide +kernel) (hO := mm_own_24) rfl ?_
      refine mm_R_ile (t := 41) rfl rfl rfl (fun hc => ?_) (fun hc => ?_)
      · replace h := mm_ip hc h
        refine mm_Runs.seq (l := [(39, .iconst (-1), 1)]) (S2 := (40, [some (.ref 0), some (.int v1)], [.int (-1 : Int32)], M)) (by decide +kernel) (hO := mm_own_24) rfl ?_
        cases h
        exact mm_R_reti rfl rfl hA
      · replace h := mm_iq hc h
        refine mm_Runs.seq (l := [(41, .aload_n 0, 1), (42, .getfield 33, 3), (45, .aload_n 0, 1), (46, .getfield 12, 3), (49, .getfield 115, 3), (52, .aload_n 0, 1), (53, .getfield 12, 3), (56, .getfield 90, 3)]) (S2 := (59, [some (.ref 0), some (.int v1)], [.int (M.1 1 1), .ref 2, .ref 7], M)) (by decide +kernel) (hO := mm_own_24) rfl ?_
        refine mm_R_call (v := mm_wv) h hA (k2 := 66) (as := [.ref 7, .ref 2, .int (M.1 1 1)]) (r := []) rfl (fun _ => rfl) (fun q hq o ho => ms_66 rfl (by omega) hq ho) (fun _ M1 h => ?_)
        show mm_Runs L xs (d + 1) 24 (62, [some (.ref 0), some (.int v1)], [], M1) o
        refine mm_Runs.seq (l := [(62, .aload_n 0, 1), (63, .getfield 33, 3), (66, .getfield 272, 3), (69, .iload_n 1, 1)]) (S2 := (70, [some (.ref 0), some (.int v1)], [.int v1, .ref 8], M1)) (by decide +kernel) (hO := mm_own_24) rfl ?_
        obtain ⟨hb, h⟩ := mm_gd h
        refine mm_R_iald rfl rfl hb ?_
        cases h
        exact mm_R_reti rfl rfl hA
    · replace h := mm_iq hc h
      cases h
      exact mm_R_thr rfl rfl rfl (by omega) hA
-- 10: PlainPacksLaw.turning(LPlainPacks;I[J)I (depth 8)
theorem mm_own_10 : mm_own 10 = 13 := rfl
set_option maxRecDepth 8000 in
set_option maxHeartbeats 4000000 in
theorem ms_10 {L : Nat} {xs : Nat → Int32} {d : Nat} (hd : 8 ≤ d) {v1 : Int32} {M : mm_M} {q : (Int32 ⊕ Nat) × mm_M} {o : mm_E} (h : mf_10 v1 M = some q) (hA : mm_A (mm_Kr mm_wi) q o) : mm_Runs L xs d 10 (0, mm_ent (mm_ml 10) [.ref 0, .int v1, .ref 110], [], M) o := by
  unfold mf_10 at h
  obtain ⟨d, rfl⟩ := mm_d1 (n := 7) hd
  show mm_Runs L xs (d + 1) 10 (0, [some (.ref 0), some (.int v1), some (.ref 110), none], [], M) o
  refine mm_Runs.seq (l := [(0, .aload_n 2, 1), (1, .iconst 0, 1), (2, .aload_n 0, 1), (3, .iload_n 1, 1)]) (S2 := (4, [some (.ref 0), some (.int v1), some (.ref 110), none], [.int v1, .ref 0, .int (0 : Int32), .ref 110], M)) (by decide +kernel) (hO := mm_own_10) rfl ?_
  refine mm_R_callc (v := mm_wi) (X := 2) (hh := 13) (i := 3) h hA (k2 := 24) (as := [.ref 0, .int v1]) (r := [.int (0 : Int32), .ref 110]) rfl rfl rfl (fun q hq o ho => ms_24 (by omega) hq ho) (fun r1 M2 h => ?_) (fun M3 h => ?_)
  · show mm_Runs L xs (d + 1) 10 (7, [some (.ref 0), some (.int v1), some (.ref 110), none], [.int r1, .int (0 : Int32), .ref 110], M2) o
    refine mm_Runs.seq (l := [(7, .i2l, 1)]) (S2 := (8, [some (.ref 0), some (.int v1), some (.ref 110), none], [.long r1.toInt64, .int (0 : Int32), .ref 110], M2)) (by decide +kernel) (hO := mm_own_10) rfl ?_
    obtain ⟨hb, h⟩ := mm_gd h
    refine mm_R_last rfl rfl hb ?_
    refine mm_Runs.seq (l := [(9, .goto 6, 3), (15, .iconst 0, 1)]) (S2 := (16, [some (.ref 0), some (.int v1), some (.ref 110), none], [.int (0 : Int32)], (mm_pl M2 110 (0 : Int32).toNatClampNeg r1.toInt64))) (by decide +kernel) (hO := mm_own_10) rfl ?_
    cases h
    exact mm_R_reti rfl rfl hA
  · show mm_Runs L xs (d + 1) 10 (13, [some (.ref 0), some (.int v1), some (.ref 110), none], [], M3) o
    refine mm_Runs.seq (l := [(13, .iconst 1, 1)]) (S2 := (14, [some (.ref 0), some (.int v1), some (.ref 110), none], [.int (1 : Int32)], M3)) (by decide +kernel) (hO := mm_own_10) rfl ?_
    cases h
    exact mm_R_reti rfl rfl hA
-- 274: PlainPacksModel.turning(I)I (depth 4)
theorem mm_own_274 : mm_own 274 = 12 := rfl
def mp_274_17 (L : Nat) (xs : Nat → Int32) (d : Nat) (v1 : Int32) (M : mm_M) (o : mm_E) : Prop := ∀ z2 : Option Value, mm_Runs L xs d 274 (17, [some (.ref 84), some (.int v1), z2], [.ref 84], M) o
def mp_274_18 (L : Nat) (xs : Nat → Int32) (d : Nat) (v1 : Int32) (s1 : Int32) (M : mm_M) (o : mm_E) : Prop := ∀ z2 : Option Value, mm_Runs L xs d 274 (18, [some (.ref 84), some (.int v1), z2], [.int s1, .ref 84], M) o
def mp_274_40 (L : Nat) (xs : Nat → Int32) (d : Nat) (v1 : Int32) (v2 : Int32) (M : mm_M) (o : mm_E) : Prop := mm_Runs L xs d 274 (40, [some (.ref 84), some (.int v1), some (.int v2)], [], M) o
def mp_274_66 (L : Nat) (xs : Nat → Int32) (d : Nat) (v1 : Int32) (M : mm_M) (o : mm_E) : Prop := ∀ z2 : Option Value, mm_Runs L xs d 274 (66, [some (.ref 84), some (.int v1), z2], [], M) o
set_option maxRecDepth 8000 in
set_option maxHeartbeats 4000000 in
theorem ms_274_b40 {L : Nat} {xs : Nat → Int32} {d : Nat} (hd : 4 ≤ d) {v1 : Int32} {v2 : Int32} {M : mm_M} {q : (((Int32) ⊕ (Unit)) ⊕ Nat) × mm_M} {o : mm_E} (h : mf_274_b40 v1 v2 M = some q) (hA : mm_A (mm_K2 (fun s M o => mp_274_40 L xs (d) v1 s M o) (fun r M o => mp_274_66 L xs (d) v1 M o)) q o) : mp_274_40 L xs d v1 v2 M o := by
  unfold mf_274_b40 at h
  obtain ⟨d, rfl⟩ := mm_d1 (n := 3) hd
  show mm_Runs L xs (d + 1) 274 (40, [some (.ref 84), some (.int v1), some (.int v2)], [], M) o
  refine mm_Runs.seq (l := [(40, .iload_n 2, 1), (41, .aload_n 0, 1), (42, .getfield 91, 3)]) (S2 := (45, [some (.ref 84), some (.int v1), some (.int v2)], [.int (M.1 84 2), .int v2], M)) (by decide +kernel) (hO := mm_own_274) rfl ?_
  refine mm_R_ige (t := 66) rfl rfl rfl (fun hc => ?_) (fun hc => ?_)
  · replace h := mm_ip hc h
    refine mm_Runs.seq (l := [(48, .aload_n 0, 1), (49, .getfield 63, 3), (52, .iload_n 2, 1), (53, .aload_n 0, 1), (54, .getfield 7, 3), (57, .iload_n 2, 1)]) (S2 := (58, [some (.ref 84), some (.int v1), some (.int v2)], [.int v2, .ref 85, .int v2, .ref 102], M)) (by decide +kernel) (hO := mm_own_274) rfl ?_
    obtain ⟨hb, h⟩ := mm_gd h
    refine mm_R_iald rfl rfl hb ?_
    obtain ⟨hb, h⟩ := mm_gd h
    refine mm_R_iast rfl rfl hb ?_
    refine mm_Runs.seq (l := [(60, .iinc 2 1, 3), (63, .goto (-23), 3)]) (S2 := (40, [some (.ref 84), some (.int v1), some (.int (v2 + (1 : Int32)))], [], (mm_pi M 102 v2.toNatClampNeg (M.1 85 v2.toNatClampNeg)))) (by decide +kernel) (hO := mm_own_274) rfl ?_
    cases h
    exact (show mp_274_40 L xs (d + 1) v1 (v2 + (1 : Int32)) (mm_pi M 102 v2.toNatClampNeg (M.1 85 v2.toNatClampNeg)) o from hA)
  · replace h := mm_iq hc h
    cases h
    exact (show mp_274_66 L xs (d + 1) v1 M o from hA) (some (.int v2))
theorem ms_274_L40 {L : Nat} {xs : Nat → Int32} {d : Nat} (hd : 4 ≤ d) {v1 : Int32} {v2 : Int32} {β : Type} {K : β → mm_M → mm_E → Prop} {F : (Unit) → mm_M → mm_O β} {M : mm_M} {q : (β ⊕ Nat) × mm_M} {o : mm_E} (h : mm_B (mf_274_L40 v1 v2 M) F = some q) (hA : mm_A K q o) (hx : ∀ (r : (Unit)) (M2 : mm_M), F r M2 = some q → (fun r M o => mp_274_66 L xs (d) v1 M o) r M2 o) : mp_274_40 L xs d v1 v2 M o := by
  unfold mf_274_L40 at h
  exact mm_R_loop (step := (fun s M => mf_274_b40 v1 s M)) (s := v2) (M := M) (P := (fun s M o => mp_274_40 L xs (d) v1 s M o)) (X := (fun r M o => mp_274_66 L xs (d) v1 M o)) h hA (fun s M q hq hA => ms_274_b40 (v1 := v1) (v2 := s) (M := M) (q := q) hd hq hA) hx
set_option maxRecDepth 8000 in
set_option maxHeartbeats 4000000 in
theorem ms_274_j66 {L : Nat} {xs : Nat → Int32} {d : Nat} (hd : 4 ≤ d) {v1 : Int32} {M : mm_M} {q : (Int32 ⊕ Nat) × mm_M} {o : mm_E} (h : mf_274_j66 v1 M = some q) (hA : mm_A (mm_Kr mm_wi) q o) : mp_274_66 L xs d v1 M o := by
  unfold mf_274_j66 at h
  obtain ⟨d, rfl⟩ := mm_d1 (n := 3) hd
  intro z2
  show mm_Runs L xs (d + 1) 274 (66, [some (.ref 84), some (.int v1), z2], [], M) o
  refine mm_Runs.seq (l := [(66, .aload_n 0, 1), (67, .aload_n 0, 1), (68, .getfield 91, 3)]) (S2 := (71, [some (.ref 84), some (.int v1), z2], [.int (M.1 84 2), .ref 84], M)) (by decide +kernel) (hO := mm_own_274) rfl ?_
  refine mm_R_call (v := mm_wv) h hA (k2 := 273) (as := [.ref 84, .int (M.1 84 2)]) (r := []) rfl (fun _ => rfl) (fun q hq o ho => ms_273 (by omega) hq ho) (fun _ M1 h => ?_)
  show mm_Runs L xs (d + 1) 274 (74, [some (.ref 84), some (.int v1), z2], [], M1) o
  refine mm_Runs.seq (l := [(74, .aload_n 0, 1), (75, .getfield 72, 3), (78, .iload_n 1, 1)]) (S2 := (79, [some (.ref 84), some (.int v1), z2], [.int v1, .ref 105], M1)) (by decide +kernel) (hO := mm_own_274) rfl ?_
  obtain ⟨hb, h⟩ := mm_gd h
  refine mm_R_iald rfl rfl hb ?_
  cases h
  exact mm_R_reti rfl rfl hA
set_option maxRecDepth 8000 in
set_option maxHeartbeats 4000000 in
theorem ms_274_j18 {L : Nat} {xs : Nat → Int32} {d : Nat} (hd : 4 ≤ d) {v1 : Int32} {s1 : Int32} {M : mm_M} {q : (Int32 ⊕ Nat) × mm_M} {o : mm_E} (h : mf_274_j18 v1 s1 M = some q) (hA : mm_A (mm_Kr mm_wi) q o) : mp_274_18 L xs d v1 s1 M o := by
  unfold mf_274_j18 at h
  obtain ⟨d, rfl⟩ := mm_d1 (n := 3) hd
  intro z2
  show mm_Runs L xs (d + 1) 274 (18, [some (.ref 84), some (.int v1), z2], [.int s1, .ref 84], M) o
  refine mm_R_call (v := mm_wi) h hA (k2 := 174) (as := [.ref 84, .int s1]) (r := []) rfl (fun _ => rfl) (fun q hq o ho => ms_174 (by omega) hq ho) (fun r1 M2 h => ?_)
  show mm_Runs L xs (d + 1) 274 (21, [some (.ref 84), some (.int v1), z2], [.int r1], M2) o
  refine mm_R_zne (t := 26) rfl rfl rfl (fun hc => ?_) (fun hc => ?_)
  · replace h := mm_ip hc h
    refine mm_Runs.seq (l := [(24, .iconst 0, 1)]) (S2 := (25, [some (.ref 84), some (.int v1), z2], [.int (0 : Int32)], M2)) (by decide +kernel) (hO := mm_own_274) rfl ?_
    cases h
    exact mm_R_reti rfl rfl hA
  · replace h := mm_iq hc h
    refine mm_Runs.seq (l := [(26, .aload_n 0, 1), (27, .getfield 91, 3), (30, .sipush 1000, 3)]) (S2 := (33, [some (.ref 84), some (.int v1), z2], [.int (1000 : Int32), .int (M2.1 84 2)], M2)) (by decide +kernel) (hO := mm_own_274) rfl ?_
    refine mm_R_ile (t := 38) rfl rfl rfl (fun hc => ?_) (fun hc => ?_)
    · replace h := mm_ip hc h
      refine mm_Runs.seq (l := [(36, .iconst (-1), 1)]) (S2 := (37, [some (.ref 84), some (.int v1), z2], [.int (-1 : Int32)], M2)) (by decide +kernel) (hO := mm_own_274) rfl ?_
      cases h
      exact mm_R_reti rfl rfl hA
    · replace h := mm_iq hc h
      refine mm_Runs.seq (l := [(38, .iconst 0, 1), (39, .istore_n 2, 1)]) (S2 := (40, [some (.ref 84), some (.int v1), some (.int (0 : Int32))], [], M2)) (by decide +kernel) (hO := mm_own_274) rfl ?_
      have hp : mp_274_40 L xs (d + 1) v1 (0 : Int32) M2 o := by
        refine ms_274_L40 hd h hA (fun r4 M3 h => ?_)
        intro y5
        show mm_Runs L xs (d + 1) 274 (66, [some (.ref 84), some (.int v1), y5], [], M3) o
        exact (ms_274_j66 hd h hA : mp_274_66 L xs (d + 1) v1 M3 o) y5
      exact hp
set_option maxRecDepth 8000 in
set_option maxHeartbeats 4000000 in
theorem ms_274_j17 {L : Nat} {xs : Nat → Int32} {d : Nat} (hd : 4 ≤ d) {v1 : Int32} {M : mm_M} {q : (Int32 ⊕ Nat) × mm_M} {o : mm_E} (h : mf_274_j17 v1 M = some q) (hA : mm_A (mm_Kr mm_wi) q o) : mp_274_17 L xs d v1 M o := by
  unfold mf_274_j17 at h
  obtain ⟨d, rfl⟩ := mm_d1 (n := 3) hd
  intro z2
  show mm_Runs L xs (d + 1) 274 (17, [some (.ref 84), some (.int v1), z2], [.ref 84], M) o
  refine mm_Runs.seq (l := [(17, .iconst 0, 1)]) (S2 := (18, [some (.ref 84), some (.int v1), z2], [.int (0 : Int32), .ref 84], M)) (by decide +kernel) (hO := mm_own_274) rfl ?_
  exact (ms_274_j18 hd h hA : mp_274_18 L xs (d + 1) v1 (0 : Int32) M o) z2
set_option maxRecDepth 8000 in
set_option maxHeartbeats 4000000 in
theorem ms_274 {L : Nat} {xs : Nat → Int32} {d : Nat} (hd : 4 ≤ d) {v1 : Int32} {M : mm_M} {q : (Int32 ⊕ Nat) × mm_M} {o : mm_E} (h : mf_274 v1 M = some q) (hA : mm_A (mm_Kr mm_wi) q o) : mm_Runs L xs d 274 (0, mm_ent (mm_ml 274) [.ref 84, .int v1], [], M) o := by
  unfold mf_274 at h
  obtain ⟨d, rfl⟩ := mm_d1 (n := 3) hd
  show mm_Runs L xs (d + 1) 274 (0, [some (.ref 84), some (.int v1), none], [], M) o
  refine mm_Runs.seq (l := [(0, .aload_n 0, 1), (1, .iload_n 1, 1)]) (S2 := (2, [some (.ref 84), some (.int v1), none], [.int v1, .ref 84], M)) (by decide +kernel) (hO := mm_own_274) rfl ?_
  refine mm_R_zlt (t := 17) rfl rfl rfl (fun hc => ?_) (fun hc => ?_)
  · replace h := mm_ip hc h
    exact (ms_274_j17 hd h hA : mp_274_17 L xs (d + 1) v1 M o) none
  · replace h := mm_iq hc h
    refine mm_Runs.seq (l := [(5, .iload_n 1, 1), (6, .aload_n 0, 1), (7, .getfield 91, 3)]) (S2 := (10, [some (.ref 84), some (.int v1), none], [.int (M.1 84 2), .int v1, .ref 84], M)) (by decide +kernel) (hO := mm_own_274) rfl ?_
    refine mm_R_ige (t := 17) rfl rfl rfl (fun hc => ?_) (fun hc => ?_)
    · replace h := mm_ip hc h
      refine mm_Runs.seq (l := [(13, .iconst 1, 1), (14, .goto 4, 3)]) (S2 := (18, [some (.ref 84), some (.int v1), none], [.int (1 : Int32), .ref 84], M)) (by decide +kernel) (hO := mm_own_274) rfl ?_
      exact (ms_274_j18 hd h hA : mp_274_18 L xs (d + 1) v1 (1 : Int32) M o) none
    · replace h := mm_iq hc h
      exact (ms_274_j17 hd h hA : mp_274_17 L xs (d + 1) v1 M o) none
-- 25: PlainPacks.count(I)I (depth 7)
theorem mm_own_25 : mm_own 25 = 0 := rfl
set_option maxRecDepth 8000 in
set_option maxHeartbeats 4000000 in
theorem ms_25 {L : Nat} {xs : Nat → Int32} {d : Nat} (hd : 7 ≤ d) {v1 : Int32} {M : mm_M} {q : (Int32 ⊕ Nat) × mm_M} {o : mm_E} (h : mf_25 v1 M = some q) (hA : mm_A (mm_Kr mm_wi) q o) : mm_Runs L xs d 25 (0, mm_ent (mm_ml 25) [.ref 0, .int v1], [], M) o := by
  unfold mf_25 at h
  show mm_Runs L xs (d) 25 (0, [some (.ref 0), some (.int v1)], [], M) o
  refine mm_Runs.seq (l := [(0, .iload_n 1, 1)]) (S2 := (1, [some (.ref 0), some (.int v1)], [.int v1], M)) (by decide +kernel) (hO := mm_own_25) rfl ?_
  by_cases hc0 : v1 = (0 : Int32)
  · replace h := mm_ip hc0 h
    refine mm_R_sw (t := 28) rfl rfl rfl (by rw [hc0]; rfl) ?_
    refine mm_Runs.seq (l := [(28, .aload_n 0, 1), (29, .getfield 12, 3), (32, .getfield 90, 3)]) (S2 := (35, [some (.ref 0), some (.int v1)], [.int (M.1 1 1)], M)) (by decide +kernel) (hO := mm_own_25) rfl ?_
    cases h
    exact mm_R_reti rfl rfl hA
  replace h := mm_iq hc0 h
  by_cases hc1 : v1 = (1 : Int32)
  · replace h := mm_ip hc1 h
    refine mm_R_sw (t := 36) rfl rfl rfl (by rw [hc1]; rfl) ?_
    refine mm_Runs.seq (l := [(36, .aload_n 0, 1), (37, .getfield 19, 3), (40, .getfield 118, 3)]) (S2 := (43, [some (.ref 0), some (.int v1)], [.int (M.1 3 1)], M)) (by decide +kernel) (hO := mm_own_25) rfl ?_
    cases h
    exact mm_R_reti rfl rfl hA
  replace h := mm_iq hc1 h
  have e0 := mm_i32 (n := 0) hc0 (by decide) (by decide)
  have e1 := mm_i32 (n := 1) hc1 (by decide) (by decide)
  refine mm_R_sw (t := 44) rfl rfl rfl (mm_lsd2 e0 e1 rfl rfl) ?_
  cases h
  exact mm_R_thr rfl rfl rfl (by omega) hA
-- 11: PlainPacksLaw.count(LPlainPacks;I[J)I (depth 8)
theorem mm_own_11 : mm_own 11 = 13 := rfl
set_option maxRecDepth 8000 in
set_option maxHeartbeats 4000000 in
theorem ms_11 {L : Nat} {xs : Nat → Int32} {d : Nat} (hd : 8 ≤ d) {v1 : Int32} {M : mm_M} {q : (Int32 ⊕ Nat) × mm_M} {o : mm_E} (h : mf_11 v1 M = some q) (hA : mm_A (mm_Kr mm_wi) q o) : mm_Runs L xs d 11 (0, mm_ent (mm_ml 11) [.ref 0, .int v1, .ref 110], [], M) o := by
  unfold mf_11 at h
  obtain ⟨d, rfl⟩ := mm_d1 (n := 7) hd
  show mm_Runs L xs (d + 1) 11 (0, [some (.ref 0), some (.int v1), some (.ref 110), none], [], M) o
  refine mm_Runs.seq (l := [(0, .aload_n 2, 1), (1, .iconst 0, 1), (2, .aload_n 0, 1), (3, .iload_n 1, 1)]) (S2 := (4, [some (.ref 0), some (.int v1), some (.ref 110), none], [.int v1, .ref 0, .int (0 : Int32), .ref 110], M)) (by decide +kernel) (hO := mm_own_11) rfl ?_
  refine mm_R_callc (v := mm_wi) (X := 2) (hh := 13) (i := 3) h hA (k2 := 25) (as := [.ref 0, .int v1]) (r := [.int (0 : Int32), .ref 110]) rfl rfl rfl (fun q hq o ho => ms_25 (by omega) hq ho) (fun r1 M2 h => ?_) (fun M3 h => ?_)
  · show mm_Runs L xs (d + 1) 11 (7, [some (.ref 0), some (.int v1), some (.ref 110), none], [.int r1, .int (0 : Int32), .ref 110], M2) o
    refine mm_Runs.seq (l := [(7, .i2l, 1)]) (S2 := (8, [some (.ref 0), some (.int v1), some (.ref 110), none], [.long r1.toInt64, .int (0 : Int32), .ref 110], M2)) (by decide +kernel) (hO := mm_own_11) rfl ?_
    obtain ⟨hb, h⟩ := mm_gd h
    refine mm_R_last rfl rfl hb ?_
    refine mm_Runs.seq (l := [(9, .goto 6, 3), (15, .iconst 0, 1)]) (S2 := (16, [some (.ref 0), some (.int v1), some (.ref 110), none], [.int (0 : Int32)], (mm_pl M2 110 (0 : Int32).toNatClampNeg r1.toInt64))) (by decide +kernel) (hO := mm_own_11) rfl ?_
    cases h
    exact mm_R_reti rfl rfl hA
  · show mm_Runs L xs (d + 1) 11 (13, [some (.ref 0), some (.int v1), some (.ref 110), none], [], M3) o
    refine mm_Runs.seq (l := [(13, .iconst 1, 1)]) (S2 := (14, [some (.ref 0), some (.int v1), some (.ref 110), none], [.int (1 : Int32)], M3)) (by decide +kernel) (hO := mm_own_11) rfl ?_
    cases h
    exact mm_R_reti rfl rfl hA
-- 179: PlainPacksModel.count(I)I (depth 1)
theorem mm_own_179 : mm_own 179 = 12 := rfl
def mp_179_15 (L : Nat) (xs : Nat → Int32) (d : Nat) (v1 : Int32) (s1 : Int32) (M : mm_M) (o : mm_E) : Prop := mm_Runs L xs d 179 (15, [some (.ref 84), some (.int v1)], [.int s1, .ref 84], M) o
set_option maxRecDepth 8000 in
set_option maxHeartbeats 4000000 in
theorem ms_179_j15 {L : Nat} {xs : Nat → Int32} {d : Nat} (hd : 1 ≤ d) {v1 : Int32} {s1 : Int32} {M : mm_M} {q : (Int32 ⊕ Nat) × mm_M} {o : mm_E} (h : mf_179_j15 v1 s1 M = some q) (hA : mm_A (mm_Kr mm_wi) q o) : mp_179_15 L xs d v1 s1 M o := by
  unfold mf_179_j15 at h
  obtain ⟨d, rfl⟩ := mm_d1 (n := 0) hd
  show mm_Runs L xs (d + 1) 179 (15, [some (.ref 84), some (.int v1)], [.int s1, .ref 84], M) o
  refine mm_R_call (v := mm_wi) h hA (k2 := 174) (as := [.ref 84, .int s1]) (r := []) rfl (fun _ => rfl) (fun q hq o ho => ms_174 (by omega) hq ho) (fun r1 M2 h => ?_)
  show mm_Runs L xs (d + 1) 179 (18, [some (.ref 84), some (.int v1)], [.int r1], M2) o
  refine mm_R_zne (t := 23) rfl rfl rfl (fun hc => ?_) (fun hc => ?_)
  · replace h := mm_ip hc h
    refine mm_Runs.seq (l := [(21, .iconst 0, 1)]) (S2 := (22, [some (.ref 84), some (.int v1)], [.int (0 : Int32)], M2)) (by decide +kernel) (hO := mm_own_179) rfl ?_
    cases h
    exact mm_R_reti rfl rfl hA
  · replace h := mm_iq hc h
    refine mm_Runs.seq (l := [(23, .iload_n 1, 1)]) (S2 := (24, [some (.ref 84), some (.int v1)], [.int v1], M2)) (by decide +kernel) (hO := mm_own_179) rfl ?_
    refine mm_R_zne (t := 34) rfl rfl rfl (fun hc => ?_) (fun hc => ?_)
    · replace h := mm_ip hc h
      refine mm_Runs.seq (l := [(27, .aload_n 0, 1), (28, .getfield 91, 3), (31, .goto 7, 3)]) (S2 := (38, [some (.ref 84), some (.int v1)], [.int (M2.1 84 2)], M2)) (by decide +kernel) (hO := mm_own_179) rfl ?_
      cases h
      exact mm_R_reti rfl rfl hA
    · replace h := mm_iq hc h
      refine mm_Runs.seq (l := [(34, .aload_n 0, 1), (35, .getfield 98, 3)]) (S2 := (38, [some (.ref 84), some (.int v1)], [.int (M2.1 84 4)], M2)) (by decide +kernel) (hO := mm_own_179) rfl ?_
      cases h
      exact mm_R_reti rfl rfl hA
set_option maxRecDepth 8000 in
set_option maxHeartbeats 4000000 in
theorem ms_179 {L : Nat} {xs : Nat → Int32} {d : Nat} (hd : 1 ≤ d) {v1 : Int32} {M : mm_M} {q : (Int32 ⊕ Nat) × mm_M} {o : mm_E} (h : mf_179 v1 M = some q) (hA : mm_A (mm_Kr mm_wi) q o) : mm_Runs L xs d 179 (0, mm_ent (mm_ml 179) [.ref 84, .int v1], [], M) o := by
  unfold mf_179 at h
  obtain ⟨d, rfl⟩ := mm_d1 (n := 0) hd
  show mm_Runs L xs (d + 1) 179 (0, [some (.ref 84), some (.int v1)], [], M) o
  refine mm_Runs.seq (l := [(0, .aload_n 0, 1), (1, .iload_n 1, 1)]) (S2 := (2, [some (.ref 84), some (.int v1)], [.int v1, .ref 84], M)) (by decide +kernel) (hO := mm_own_179) rfl ?_
  refine mm_R_zeq (t := 10) rfl rfl rfl (fun hc => ?_) (fun hc => ?_)
  · replace h := mm_ip hc h
    refine mm_Runs.seq (l := [(10, .iconst 1, 1), (11, .goto 4, 3)]) (S2 := (15, [some (.ref 84), some (.int v1)], [.int (1 : Int32), .ref 84], M)) (by decide +kernel) (hO := mm_own_179) rfl ?_
    exact (ms_179_j15 hd h hA : mp_179_15 L xs (d + 1) v1 (1 : Int32) M o)
  · replace h := mm_iq hc h
    refine mm_Runs.seq (l := [(5, .iload_n 1, 1), (6, .iconst 1, 1)]) (S2 := (7, [some (.ref 84), some (.int v1)], [.int (1 : Int32), .int v1, .ref 84], M)) (by decide +kernel) (hO := mm_own_179) rfl ?_
    refine mm_R_ine (t := 14) rfl rfl rfl (fun hc => ?_) (fun hc => ?_)
    · replace h := mm_ip hc h
      refine mm_Runs.seq (l := [(10, .iconst 1, 1), (11, .goto 4, 3)]) (S2 := (15, [some (.ref 84), some (.int v1)], [.int (1 : Int32), .ref 84], M)) (by decide +kernel) (hO := mm_own_179) rfl ?_
      exact (ms_179_j15 hd h hA : mp_179_15 L xs (d + 1) v1 (1 : Int32) M o)
    · replace h := mm_iq hc h
      refine mm_Runs.seq (l := [(14, .iconst 0, 1)]) (S2 := (15, [some (.ref 84), some (.int v1)], [.int (0 : Int32), .ref 84], M)) (by decide +kernel) (hO := mm_own_179) rfl ?_
      exact (ms_179_j15 hd h hA : mp_179_15 L xs (d + 1) v1 (0 : Int32) M o)
-- 12: PlainPacksLaw.law([I)Z (depth 15)
theorem mm_own_12 : mm_own 12 = 13 := rfl
def mp_12_23 (L : Nat) (xs : Nat → Int32) (d : Nat) (v4 : Int32) (M : mm_M) (o : mm_E) : Prop := ∀ z5 z6 : Option Value, mm_Runs L xs d 12 (23, [some (.ref 200), some (.ref 0), some (.ref 84), some (.ref 110), some (.int v4), z5, z6], [], M) o
def mp_12_190 (L : Nat) (xs : Nat → Int32) (d : Nat) (M : mm_M) (o : mm_E) : Prop := ∀ z0 z1 z2 z3 z4 z5 z6 : Option Value, mm_Runs L xs d 12 (190, [z0, z1, z2, z3, z4, z5, z6], [], M) o
def mp_12_207 (L : Nat) (xs : Nat → Int32) (d : Nat) (M : mm_M) (o : mm_E) : Prop := ∀ z0 z1 z2 z3 z4 z5 z6 : Option Value, mm_Runs L xs d 12 (207, [z0, z1, z2, z3, z4, z5, z6], [], M) o
def mp_12_243 (L : Nat) (xs : Nat → Int32) (d : Nat) (M : mm_M) (o : mm_E) : Prop := ∀ z0 z1 z2 z3 z4 z5 z6 : Option Value, mm_Runs L xs d 12 (243, [z0, z1, z2, z3, z4, z5, z6], [], M) o
def mp_12_294 (L : Nat) (xs : Nat → Int32) (d : Nat) (M : mm_M) (o : mm_E) : Prop := ∀ z0 z1 z2 z3 z4 z5 z6 : Option Value, mm_Runs L xs d 12 (294, [z0, z1, z2, z3, z4, z5, z6], [], M) o
def mp_12_311 (L : Nat) (xs : Nat → Int32) (d : Nat) (M : mm_M) (o : mm_E) : Prop := ∀ z0 z1 z2 z3 z4 z5 z6 : Option Value, mm_Runs L xs d 12 (311, [z0, z1, z2, z3, z4, z5, z6], [], M) o
def mp_12_338 (L : Nat) (xs : Nat → Int32) (d : Nat) (M : mm_M) (o : mm_E) : Prop := ∀ z0 z1 z2 z3 z4 z5 z6 : Option Value, mm_Runs L xs d 12 (338, [z0, z1, z2, z3, z4, z5, z6], [], M) o
def mp_12_355 (L : Nat) (xs : Nat → Int32) (d : Nat) (M : mm_M) (o : mm_E) : Prop := ∀ z0 z1 z2 z3 z4 z5 z6 : Option Value, mm_Runs L xs d 12 (355, [z0, z1, z2, z3, z4, z5, z6], [], M) o
def mp_12_394 (L : Nat) (xs : Nat → Int32) (d : Nat) (M : mm_M) (o : mm_E) : Prop := ∀ z0 z1 z2 z3 z4 z5 z6 : Option Value, mm_Runs L xs d 12 (394, [z0, z1, z2, z3, z4, z5, z6], [], M) o
def mp_12_411 (L : Nat) (xs : Nat → Int32) (d : Nat) (M : mm_M) (o : mm_E) : Prop := ∀ z0 z1 z2 z3 z4 z5 z6 : Option Value, mm_Runs L xs d 12 (411, [z0, z1, z2, z3, z4, z5, z6], [], M) o
def mp_12_450 (L : Nat) (xs : Nat → Int32) (d : Nat) (M : mm_M) (o : mm_E) : Prop := ∀ z0 z1 z2 z3 z4 z5 z6 : Option Value, mm_Runs L xs d 12 (450, [z0, z1, z2, z3, z4, z5, z6], [], M) o
def mp_12_467 (L : Nat) (xs : Nat → Int32) (d : Nat) (M : mm_M) (o : mm_E) : Prop := ∀ z0 z1 z2 z3 z4 z5 z6 : Option Value, mm_Runs L xs d 12 (467, [z0, z1, z2, z3, z4, z5, z6], [], M) o
def mp_12_506 (L : Nat) (xs : Nat → Int32) (d : Nat) (M : mm_M) (o : mm_E) : Prop := ∀ z0 z1 z2 z3 z4 z5 z6 : Option Value, mm_Runs L xs d 12 (506, [z0, z1, z2, z3, z4, z5, z6], [], M) o
def mp_12_523 (L : Nat) (xs : Nat → Int32) (d : Nat) (M : mm_M) (o : mm_E) : Prop := ∀ z0 z1 z2 z3 z4 z5 z6 : Option Value, mm_Runs L xs d 12 (523, [z0, z1, z2, z3, z4, z5, z6], [], M) o
def mp_12_562 (L : Nat) (xs : Nat → Int32) (d : Nat) (M : mm_M) (o : mm_E) : Prop := ∀ z0 z1 z2 z3 z4 z5 z6 : Option Value, mm_Runs L xs d 12 (562, [z0, z1, z2, z3, z4, z5, z6], [], M) o
def mp_12_579 (L : Nat) (xs : Nat → Int32) (d : Nat) (M : mm_M) (o : mm_E) : Prop := ∀ z0 z1 z2 z3 z4 z5 z6 : Option Value, mm_Runs L xs d 12 (579, [z0, z1, z2, z3, z4, z5, z6], [], M) o
def mp_12_618 (L : Nat) (xs : Nat → Int32) (d : Nat) (M : mm_M) (o : mm_E) : Prop := ∀ z0 z1 z2 z3 z4 z5 z6 : Option Value, mm_Runs L xs d 12 (618, [z0, z1, z2, z3, z4, z5, z6], [], M) o
def mp_12_635 (L : Nat) (xs : Nat → Int32) (d : Nat) (M : mm_M) (o : mm_E) : Prop := ∀ z0 z1 z2 z3 z4 z5 z6 : Option Value, mm_Runs L xs d 12 (635, [z0, z1, z2, z3, z4, z5, z6], [], M) o
def mp_12_651 (L : Nat) (xs : Nat → Int32) (d : Nat) (M : mm_M) (o : mm_E) : Prop := ∀ z0 z1 z2 z3 z4 z5 z6 : Option Value, mm_Runs L xs d 12 (651, [z0, z1, z2, z3, z4, z5, z6], [], M) o
def mp_12_687 (L : Nat) (xs : Nat → Int32) (d : Nat) (M : mm_M) (o : mm_E) : Prop := ∀ z0 z1 z2 z3 z4 z5 z6 : Option Value, mm_Runs L xs d 12 (687, [z0, z1, z2, z3, z4, z5, z6], [], M) o
def mp_12_704 (L : Nat) (xs : Nat → Int32) (d : Nat) (M : mm_M) (o : mm_E) : Prop := ∀ z0 z1 z2 z3 z4 z5 z6 : Option Value, mm_Runs L xs d 12 (704, [z0, z1, z2, z3, z4, z5, z6], [], M) o
def mp_12_743 (L : Nat) (xs : Nat → Int32) (d : Nat) (M : mm_M) (o : mm_E) : Prop := ∀ z0 z1 z2 z3 z4 z5 z6 : Option Value, mm_Runs L xs d 12 (743, [z0, z1, z2, z3, z4, z5, z6], [], M) o
def mp_12_760 (L : Nat) (xs : Nat → Int32) (d : Nat) (M : mm_M) (o : mm_E) : Prop := ∀ z0 z1 z2 z3 z4 z5 z6 : Option Value, mm_Runs L xs d 12 (760, [z0, z1, z2, z3, z4, z5, z6], [], M) o
def mp_12_799 (L : Nat) (xs : Nat → Int32) (d : Nat) (M : mm_M) (o : mm_E) : Prop := ∀ z0 z1 z2 z3 z4 z5 z6 : Option Value, mm_Runs L xs d 12 (799, [z0, z1, z2, z3, z4, z5, z6], [], M) o
def mp_12_816 (L : Nat) (xs : Nat → Int32) (d : Nat) (M : mm_M) (o : mm_E) : Prop := ∀ z0 z1 z2 z3 z4 z5 z6 : Option Value, mm_Runs L xs d 12 (816, [z0, z1, z2, z3, z4, z5, z6], [], M) o
def mp_12_827 (L : Nat) (xs : Nat → Int32) (d : Nat) (M : mm_M) (o : mm_E) : Prop := ∀ z0 z1 z2 z3 z4 z5 z6 : Option Value, mm_Runs L xs d 12 (827, [z0, z1, z2, z3, z4, z5, z6], [], M) o
set_option maxRecDepth 8000 in
set_option maxHeartbeats 4000000 in
theorem ms_12_b23 {L : Nat} {xs : Nat → Int32} {d : Nat} (hd : 15 ≤ d) {v4 : Int32} {M : mm_M} {q : (((Int32) ⊕ ((Unit) ⊕ ((Unit) ⊕ ((Unit) ⊕ ((Unit) ⊕ ((Unit) ⊕ ((Unit) ⊕ ((Unit) ⊕ ((Unit) ⊕ ((Unit) ⊕ ((Unit) ⊕ ((Unit) ⊕ ((Unit) ⊕ ((Unit) ⊕ ((Unit) ⊕ ((Unit) ⊕ ((Unit) ⊕ ((Unit) ⊕ ((Unit) ⊕ ((Unit) ⊕ ((Unit) ⊕ ((Unit) ⊕ ((Unit) ⊕ ((Unit) ⊕ ((Unit) ⊕ (Unit)))))))))))))))))))))))))) ⊕ Nat) × mm_M} {o : mm_E} (h : mf_12_b23 L xs v4 M = some q) (hA : mm_A (mm_K2 (fun s M o => mp_12_23 L xs (d) s M o) (fun r M o => mm_sm (fun r => mp_12_190 L xs (d) M o) (fun r => mm_sm (fun r => mp_12_207 L xs (d) M o) (fun r => mm_sm (fun r => mp_12_243 L xs (d) M o) (fun r => mm_sm (fun r => mp_12_294 L xs (d) M o) (fun r => mm_sm (fun r => mp_12_311 L xs (d) M o) (fun r => mm_sm (fun r => mp_12_338 L xs (d) M o) (fun r => mm_sm (fun r => mp_12_355 L xs (d) M o) (fun r => mm_sm (fun r => mp_12_394 L xs (d) M o) (fun r => mm_sm (fun r => mp_12_411 L xs (d) M o) (fun r => mm_sm (fun r => mp_12_450 L xs (d) M o) (fun r => mm_sm (fun r => mp_12_467 L xs (d) M o) (fun r => mm_sm (fun r => mp_12_506 L xs (d) M o) (fun r => mm_sm (fun r => mp_12_523 L xs (d) M o) (fun r => mm_sm (fun r => mp_12_562 L xs (d) M o) (fun r => mm_sm (fun r => mp_12_579 L xs (d) M o) (fun r => mm_sm (fun r => mp_12_618 L xs (d) M o) (fun r => mm_sm (fun r => mp_12_635 L xs (d) M o) (fun r => mm_sm (fun r => mp_12_651 L xs (d) M o) (fun r => mm_sm (fun r => mp_12_687 L xs (d) M o) (fun r => mm_sm (fun r => mp_12_704 L xs (d) M o) (fun r => mm_sm (fun r => mp_12_743 L xs (d) M o) (fun r => mm_sm (fun r => mp_12_760 L xs (d) M o) (fun r => mm_sm (fun r => mp_12_799 L xs (d) M o) (fun r => mm_sm (fun r => mp_12_816 L xs (d) M o) (fun r => mp_12_827 L xs (d) M o) r) r) r) r) r) r) r) r) r) r) r) r) r) r) r) r) r) r) r) r) r) r) r) r)) q o) : mp_12_23 L xs d v4 M o := by
  unfold mf_12_b23 at h
  obtain ⟨d, rfl⟩ := mm_d1 (n := 14) hd
  intro z5 z6
  show mm_Runs L xs (d + 1) 12 (23, [some (.ref 200), some (.ref 0), some (.ref 84), some (.ref 110), some (.int v4), z5, z6], [], M) o
  refine mm_Runs.seq (l := [(23, .iload 4, 2), (25, .aload_n 0, 1), (26, .arraylength, 1), (27, .bipush 6, 2), (29, .isub, 1)]) (S2 := (30, [some (.ref 200), some (.ref 0), some (.ref 84), some (.ref 110), some (.int v4), z5, z6], [.int ((Int32.ofNat L) - (6 : Int32)), .int v4], M)) (by decide +kernel) (hO := mm_own_12) rfl ?_
  refine mm_R_igt (t := 827) rfl rfl rfl (fun hc => ?_) (fun hc => ?_)
  · replace h := mm_ip hc h
    cases h
    exact (show mp_12_827 L xs (d + 1) M o from hA) (some (.ref 200)) (some (.ref 0)) (some (.ref 84)) (some (.ref 110)) (some (.int v4)) z5 z6
  · replace h := mm_iq hc h
    refine mm_Runs.seq (l := [(33, .aload_n 0, 1), (34, .iload 4, 2)]) (S2 := (36, [some (.ref 200), some (.ref 0), some (.ref 84), some (.ref 110), some (.int v4), z5, z6], [.int v4, .ref 200], M)) (by decide +kernel) (hO := mm_own_12) rfl ?_
    obtain ⟨hb, h⟩ := mm_gd h
    refine mm_R_ialx rfl hb ?_
    refine mm_Runs.seq (l := [(37, .bipush 15, 2), (39, .iand, 1)]) (S2 := (40, [some (.ref 200), some (.ref 0), some (.ref 84), some (.ref 110), some (.int v4), z5, z6], [.int ((xs v4.toNatClampNeg) &&& (15 : Int32))], M)) (by decide +kernel) (hO := mm_own_12) rfl ?_
    by_cases hc0 : ((xs v4.toNatClampNeg) &&& (15 : Int32)) = (0 : Int32)
    · replace h := mm_ip hc0 h
      refine mm_R_sw (t := 108) rfl rfl rfl (by rw [hc0]; rfl) ?_
      refine mm_Runs.seq (l := [(108, .aload_n 1, 1), (109, .aload_n 0, 1), (110, .iload 4, 2), (112, .iconst 1, 1), (113, .iadd, 1)]) (S2 := (114, [some (.ref 200), some (.ref 0), some (.ref 84), some (.ref 110), some (.int v4), z5, z6], [.int (v4 + (1 : Int32)), .ref 200, .ref 0], M)) (by decide +kernel) (hO := mm_own_12) rfl ?_
      obtain ⟨hb, h⟩ := mm_gd h
      refine mm_R_ialx rfl hb ?_
      refine mm_Runs.seq (l := [(115, .aload_n 0, 1), (116, .iload 4, 2), (118, .iconst 2, 1), (119, .iadd, 1)]) (S2 := (120, [some (.ref 200), some (.ref 0), some (.ref 84), some (.ref 110), some (.int v4), z5, z6], [.int (v4 + (2 : Int32)), .ref 200, .int (xs (v4 + (1 : Int32)).toNatClampNeg), .ref 0], M)) (by decide +kernel) (hO := mm_own_12) rfl ?_
      obtain ⟨hb, h⟩ := mm_gd h
      refine mm_R_ialx rfl hb ?_
      refine mm_Runs.seq (l := [(121, .aload_n 0, 1), (122, .iload 4, 2), (124, .iconst 3, 1), (125, .iadd, 1)]) (S2 := (126, [some (.ref 200), some (.ref 0), some (.ref 84), some (.ref 110), some (.int v4), z5, z6], [.int (v4 + (3 : Int32)), .ref 200, .int (xs (v4 + (2 : Int32)).toNatClampNeg), .int (xs (v4 + (1 : Int32)).toNatClampNeg), .ref 0], M)) (by decide +kernel) (hO := mm_own_12) rfl ?_
      obtain ⟨hb, h⟩ := mm_gd h
      refine mm_R_ialx rfl hb ?_
      refine mm_Runs.seq (l := [(127, .aload_n 0, 1), (128, .iload 4, 2), (130, .iconst 4, 1), (131, .iadd, 1)]) (S2 := (132, [some (.ref 200), some (.ref 0), some (.ref 84), some (.ref 110), some (.int v4), z5, z6], [.int (v4 + (4 : Int32)), .ref 200, .int (xs (v4 + (3 : Int32)).toNatClampNeg), .int (xs (v4 + (2 : Int32)).toNatClampNeg), .int (xs (v4 + (1 : Int32)).toNatClampNeg), .ref 0], M)) (by decide +kernel) (hO := mm_own_12) rfl ?_
      obtain ⟨hb, h⟩ := mm_gd h
      refine mm_R_ialx rfl hb ?_
      refine mm_Runs.seq (l := [(133, .aload_n 0, 1), (134, .iload 4, 2), (136, .iconst 5, 1), (137, .iadd, 1)]) (S2 := (138, [some (.ref 200), some (.ref 0), some (.ref 84), some (.ref 110), some (.int v4), z5, z6], [.int (v4 + (5 : Int32)), .ref 200, .int (xs (v4 + (4 : Int32)).toNatClampNeg), .int (xs (v4 + (3 : Int32)).toNatClampNeg), .int (xs (v4 + (2 : Int32)).toNatClampNeg), .int (xs (v4 + (1 : Int32)).toNatClampNeg), .ref 0], M)) (by decide +kernel) (hO := mm_own_12) rfl ?_
      obtain ⟨hb, h⟩ := mm_gd h
      refine mm_R_ialx rfl hb ?_
      refine mm_Runs.seq (l := [(139, .aload_n 3, 1)]) (S2 := (140, [some (.ref 200), some (.ref 0), some (.ref 84), some (.ref 110), some (.int v4), z5, z6], [.ref 110, .int (xs (v4 + (5 : Int32)).toNatClampNeg), .int (xs (v4 + (4 : Int32)).toNatClampNeg), .int (xs (v4 + (3 : Int32)).toNatClampNeg), .int (xs (v4 + (2 : Int32)).toNatClampNeg), .int (xs (v4 + (1 : Int32)).toNatClampNeg), .ref 0], M)) (by decide +kernel) (hO := mm_own_12) rfl ?_
      refine mm_R_call (v := mm_wi) h hA (k2 := 0) (as := [.ref 0, .int (xs (v4 + (1 : Int32)).toNatClampNeg), .int (xs (v4 + (2 : Int32)).toNatClampNeg), .int (xs (v4 + (3 : Int32)).toNatClampNeg), .int (xs (v4 + (4 : Int32)).toNatClampNeg), .int (xs (v4 + (5 : Int32)).toNatClampNeg), .ref 110]) (r := []) rfl (fun _ => rfl) (fun q hq o ho => ms_0 (by omega) hq ho) (fun r1 M2 h => ?_)
      show mm_Runs L xs (d + 1) 12 (143, [some (.ref 200), some (.ref 0), some (.ref 84), some (.ref 110), some (.int v4), z5, z6], [.int r1], M2) o
      refine mm_Runs.seq (l := [(143, .istore 5, 2), (145, .aload_n 2, 1), (146, .aload_n 0, 1), (147, .iload 4, 2), (149, .iconst 1, 1), (150, .iadd, 1)]) (S2 := (151, [some (.ref 200), some (.ref 0), some (.ref 84), some (.ref 110), some (.int v4), some (.int r1), z6], [.int (v4 + (1 : Int32)), .ref 200, .ref 84], M2)) (by decide +kernel) (hO := mm_own_12) rfl ?_
      obtain ⟨hb, h⟩ := mm_gd h
      refine mm_R_ialx rfl hb ?_
      refine mm_Runs.seq (l := [(152, .aload_n 0, 1), (153, .iload 4, 2), (155, .iconst 2, 1), (156, .iadd, 1)]) (S2 := (157, [some (.ref 200), some (.ref 0), some (.ref 84), some (.ref 110), some (.int v4), some (.int r1), z6], [.int (v4 + (2 : Int32)), .ref 200, .int (xs (v4 + (1 : Int32)).toNatClampNeg), .ref 84], M2)) (by decide +kernel) (hO := mm_own_12) rfl ?_
      obtain ⟨hb, h⟩ := mm_gd h
      refine mm_R_ialx rfl hb ?_
      refine mm_Runs.seq (l := [(158, .aload_n 0, 1), (159, .iload 4, 2), (161, .iconst 3, 1), (162, .iadd, 1)]) (S2 := (163, [some (.ref 200), some (.ref 0), some (.ref 84), some (.ref 110), some (.int v4), some (.int r1), z6], [.int (v4 + (3 : Int32)), .ref 200, .int (xs (v4 + (2 : Int32)).toNatClampNeg), .int (xs (v4 + (1 : Int32)).toNatClampNeg), .ref 84], M2)) (by decide +kernel) (hO := mm_own_12) rfl ?_
      obtain ⟨hb, h⟩ := mm_gd h
      refine mm_R_ialx rfl hb ?_
      refine mm_Runs.seq (l := [(164, .aload_n 0, 1), (165, .iload 4, 2), (167, .iconst 4, 1), (168, .iadd, 1)]) (S2 := (169, [some (.ref 200), some (.ref 0), some (.ref 84), some (.ref 110), some (.int v4), some (.int r1), z6], [.int (v4 + (4 : Int32)), .ref 200, .int (xs (v4 + (3 : Int32)).toNatClampNeg), .int (xs (v4 + (2 : Int32)).toNatClampNeg), .int (xs (v4 + (1 : Int32)).toNatClampNeg), .ref 84], M2)) (by decide +kernel) (hO := mm_own_12) rfl ?_
      obtain ⟨hb, h⟩ := mm_gd h
      refine mm_R_ialx rfl hb ?_
      refine mm_Runs.seq (l := [(170, .aload_n 0, 1), (171, .iload 4, 2), (173, .iconst 5, 1), (174, .iadd, 1)]) (S2 := (175, [some (.ref 200), some (.ref 0), some (.ref 84), some (.ref 110), some (.int v4), some (.int r1), z6], [.int (v4 + (5 : Int32)), .ref 200, .int (xs (v4 + (4 : Int32)).toNatClampNeg), .int (xs (v4 + (3 : Int32)).toNatClampNeg), .int (xs (v4 + (2 : Int32)).toNatClampNeg), .int (xs (v4 + (1 : Int32)).toNatClampNeg), .ref 84], M2)) (by decide +kernel) (hO := mm_own_12) rfl ?_
      obtain ⟨hb, h⟩ := mm_gd h
      refine mm_R_ialx rfl hb ?_
      refine mm_R_call (v := mm_wi) h hA (k2 := 175) (as := [.ref 84, .int (xs (v4 + (1 : Int32)).toNatClampNeg), .int (xs (v4 + (2 : Int32)).toNatClampNeg), .int (xs (v4 + (3 : Int32)).toNatClampNeg), .int (xs (v4 + (4 : Int32)).toNatClampNeg), .int (xs (v4 + (5 : Int32)).toNatClampNeg)]) (r := []) rfl (fun _ => rfl) (fun q hq o ho => ms_175 (by omega) hq ho) (fun r3 M4 h => ?_)
      show mm_Runs L xs (d + 1) 12 (179, [some (.ref 200), some (.ref 0), some (.ref 84), some (.ref 110), some (.int v4), some (.int r1), z6], [.int r3], M4) o
      refine mm_Runs.seq (l := [(179, .istore 6, 2), (181, .aload_n 2, 1)]) (S2 := (182, [some (.ref 200), some (.ref 0), some (.ref 84), some (.ref 110), some (.int v4), some (.int r1), some (.int r3)], [.ref 84], M4)) (by decide +kernel) (hO := mm_own_12) rfl ?_
      refine mm_R_call (v := mm_wi) h hA (k2 := 173) (as := [.ref 84]) (r := []) rfl (fun _ => rfl) (fun q hq o ho => ms_173 (by omega) hq ho) (fun r5 M6 h => ?_)
      show mm_Runs L xs (d + 1) 12 (185, [some (.ref 200), some (.ref 0), some (.ref 84), some (.ref 110), some (.int v4), some (.int r1), some (.int r3)], [.int r5], M6) o
      refine mm_Runs.seq (l := [(185, .iload 5, 2)]) (S2 := (187, [some (.ref 200), some (.ref 0), some (.ref 84), some (.ref 110), some (.int v4), some (.int r1), some (.int r3)], [.int r1, .int r5], M6)) (by decide +kernel) (hO := mm_own_12) rfl ?_
      refine mm_R_ieq (t := 192) rfl rfl rfl (fun hc => ?_) (fun hc => ?_)
      · replace h := mm_ip hc h
        refine mm_Runs.seq (l := [(192, .iload 5, 2)]) (S2 := (194, [some (.ref 200), some (.ref 0), some (.ref 84), some (.ref 110), some (.int v4), some (.int r1), some (.int r3)], [.int r1], M6)) (by decide +kernel) (hO := mm_own_12) rfl ?_
        refine mm_R_zne (t := 209) rfl rfl rfl (fun hc => ?_) (fun hc => ?_)
        · replace h := mm_ip hc h
          refine mm_Runs.seq (l := [(197, .aload_n 3, 1), (198, .iconst 0, 1)]) (S2 := (199, [some (.ref 200), some (.ref 0), some (.ref 84), some (.ref 110), some (.int v4), some (.int r1), some (.int r3)], [.int (0 : Int32), .ref 110], M6)) (by decide +kernel) (hO := mm_own_12) rfl ?_
          obtain ⟨hb, h⟩ := mm_gd h
          refine mm_R_lald rfl rfl hb ?_
          refine mm_Runs.seq (l := [(200, .iload 6, 2), (202, .i2l, 1)]) (S2 := (203, [some (.ref 200), some (.ref 0), some (.ref 84), some (.ref 110), some (.int v4), some (.int r1), some (.int r3)], [.long r3.toInt64, .long (M6.2.1 110 (0 : Int32).toNatClampNeg)], M6)) (by decide +kernel) (hO := mm_own_12) rfl ?_
          refine mm_R_leq (t := 209) rfl rfl rfl rfl (fun hc => ?_) (fun hc => ?_)
          · replace h := mm_ip hc h
            refine mm_Runs.seq (l := [(209, .goto 612, 3), (821, .iinc 4 6, 3), (824, .goto (-801), 3)]) (S2 := (23, [some (.ref 200), some (.ref 0), some (.ref 84), some (.ref 110), some (.int (v4 + (6 : Int32))), some (.int r1), some (.int r3)], [], M6)) (by decide +kernel) (hO := mm_own_12) rfl ?_
            cases h
            exact (show mp_12_23 L xs (d + 1) (v4 + (6 : Int32)) M6 o from hA) (some (.int r1)) (some (.int r3))
          · replace h := mm_iq hc h
            cases h
            exact (show mp_12_207 L xs (d + 1) M6 o from hA) (some (.ref 200)) (some (.ref 0)) (some (.ref 84)) (some (.ref 110)) (some (.int v4)) (some (.int r1)) (some (.int r3))
        · replace h := mm_iq hc h
          refine mm_Runs.seq (l := [(209, .goto 612, 3), (821, .iinc 4 6, 3), (824, .goto (-801), 3)]) (S2 := (23, [some (.ref 200), some (.ref 0), some (.ref 84), some (.ref 110), some (.int (v4 + (6 : Int32))), some (.int r1), some (.int r3)], [], M6)) (by decide +kernel) (hO := mm_own_12) rfl ?_
          cases h
          exact (show mp_12_23 L xs (d + 1) (v4 + (6 : Int32)) M6 o from hA) (some (.int r1)) (some (.int r3))
      · replace h := mm_iq hc h
        cases h
        exact (show mp_12_190 L xs (d + 1) M6 o from hA) (some (.ref 200)) (some (.ref 0)) (some (.ref 84)) (some (.ref 110)) (some (.int v4)) (some (.int r1)) (some (.int r3))
    replace h := mm_iq hc0 h
    by_cases hc1 : ((xs v4.toNatClampNeg) &&& (15 : Int32)) = (1 : Int32)
    · replace h := mm_ip hc1 h
      refine mm_R_sw (t := 212) rfl rfl rfl (by rw [hc1]; rfl) ?_
      refine mm_Runs.seq (l := [(212, .aload_n 1, 1), (213, .aload_n 0, 1), (214, .iload 4, 2), (216, .iconst 1, 1), (217, .iadd, 1)]) (S2 := (218, [some (.ref 200), some (.ref 0), some (.ref 84), some (.ref 110), some (.int v4), z5, z6], [.int (v4 + (1 : Int32)), .ref 200, .ref 0], M)) (by decide +kernel) (hO := mm_own_12) rfl ?_
      obtain ⟨hb, h⟩ := mm_gd h
      refine mm_R_ialx rfl hb ?_
      refine mm_R_call (v := mm_wi) h hA (k2 := 1) (as := [.ref 0, .int (xs (v4 + (1 : Int32)).toNatClampNeg)]) (r := []) rfl (fun _ => rfl) (fun q hq o ho => ms_1 (by omega) hq ho) (fun r7 M8 h => ?_)
      show mm_Runs L xs (d + 1) 12 (222, [some (.ref 200), some (.ref 0), some (.ref 84), some (.ref 110), some (.int v4), z5, z6], [.int r7], M8) o
      refine mm_Runs.seq (l := [(222, .istore 5, 2), (224, .aload_n 2, 1), (225, .aload_n 0, 1), (226, .iload 4, 2), (228, .iconst 1, 1), (229, .iadd, 1)]) (S2 := (230, [some (.ref 200), some (.ref 0), some (.ref 84), some (.ref 110), some (.int v4), some (.int r7), z6], [.int (v4 + (1 : Int32)), .ref 200, .ref 84], M8)) (by decide +kernel) (hO := mm_own_12) rfl ?_
      obtain ⟨hb, h⟩ := mm_gd h
      refine mm_R_ialx rfl hb ?_
      refine mm_R_call (v := mm_wv) h hA (k2 := 176) (as := [.ref 84, .int (xs (v4 + (1 : Int32)).toNatClampNeg)]) (r := []) rfl (fun _ => rfl) (fun q hq o ho => ms_176 (by omega) hq ho) (fun _ M9 h => ?_)
      show mm_Runs L xs (d + 1) 12 (234, [some (.ref 200), some (.ref 0), some (.ref 84), some (.ref 110), some (.int v4), some (.int r7), z6], [], M9) o
      refine mm_Runs.seq (l := [(234, .aload_n 2, 1)]) (S2 := (235, [some (.ref 200), some (.ref 0), some (.ref 84), some (.ref 110), some (.int v4), some (.int r7), z6], [.ref 84], M9)) (by decide +kernel) (hO := mm_own_12) rfl ?_
      refine mm_R_call (v := mm_wi) h hA (k2 := 173) (as := [.ref 84]) (r := []) rfl (fun _ => rfl) (fun q hq o ho => ms_173 (by omega) hq ho) (fun r10 M11 h => ?_)
      show mm_Runs L xs (d + 1) 12 (238, [some (.ref 200), some (.ref 0), some (.ref 84), some (.ref 110), some (.int v4), some (.int r7), z6], [.int r10], M11) o
      refine mm_Runs.seq (l := [(238, .iload 5, 2)]) (S2 := (240, [some (.ref 200), some (.ref 0), some (.ref 84), some (.ref 110), some (.int v4), some (.int r7), z6], [.int r7, .int r10], M11)) (by decide +kernel) (hO := mm_own_12) rfl ?_
      refine mm_R_ieq (t := 245) rfl rfl rfl (fun hc => ?_) (fun hc => ?_)
      · replace h := mm_ip hc h
        refine mm_Runs.seq (l := [(245, .goto 576, 3), (821, .iinc 4 6, 3), (824, .goto (-801), 3)]) (S2 := (23, [some (.ref 200), some (.ref 0), some (.ref 84), some (.ref 110), some (.int (v4 + (6 : Int32))), some (.int r7), z6], [], M11)) (by decide +kernel) (hO := mm_own_12) rfl ?_
        cases h
        exact (show mp_12_23 L xs (d + 1) (v4 + (6 : Int32)) M11 o from hA) (some (.int r7)) z6
      · replace h := mm_iq hc h
        cases h
        exact (show mp_12_243 L xs (d + 1) M11 o from hA) (some (.ref 200)) (some (.ref 0)) (some (.ref 84)) (some (.ref 110)) (some (.int v4)) (some (.int r7)) z6
    replace h := mm_iq hc1 h
    by_cases hc2 : ((xs v4.toNatClampNeg) &&& (15 : Int32)) = (2 : Int32)
    · replace h := mm_ip hc2 h
      refine mm_R_sw (t := 248) rfl rfl rfl (by rw [hc2]; rfl) ?_
      refine mm_Runs.seq (l := [(248, .aload_n 1, 1), (249, .aload_n 0, 1), (250, .iload 4, 2), (252, .iconst 1, 1), (253, .iadd, 1)]) (S2 := (254, [some (.ref 200), some (.ref 0), some (.ref 84), some (.ref 110), some (.int v4), z5, z6], [.int (v4 + (1 : Int32)), .ref 200, .ref 0], M)) (by decide +kernel) (hO := mm_own_12) rfl ?_
      obtain ⟨hb, h⟩ := mm_gd h
      refine mm_R_ialx rfl hb ?_
      refine mm_Runs.seq (l := [(255, .aload_n 0, 1), (256, .iload 4, 2), (258, .iconst 2, 1), (259, .iadd, 1)]) (S2 := (260, [some (.ref 200), some (.ref 0), some (.ref 84), some (.ref 110), some (.int v4), z5, z6], [.int (v4 + (2 : Int32)), .ref 200, .int (xs (v4 + (1 : Int32)).toNatClampNeg), .ref 0], M)) (by decide +kernel) (hO := mm_own_12) rfl ?_
      obtain ⟨hb, h⟩ := mm_gd h
      refine mm_R_ialx rfl hb ?_
      refine mm_Runs.seq (l := [(261, .aload_n 3, 1)]) (S2 := (262, [some (.ref 200), some (.ref 0), some (.ref 84), some (.ref 110), some (.int v4), z5, z6], [.ref 110, .int (xs (v4 + (2 : Int32)).toNatClampNeg), .int (xs (v4 + (1 : Int32)).toNatClampNeg), .ref 0], M)) (by decide +kernel) (hO := mm_own_12) rfl ?_
      refine mm_R_call (v := mm_wi) h hA (k2 := 2) (as := [.ref 0, .int (xs (v4 + (1 : Int32)).toNatClampNeg), .int (xs (v4 + (2 : Int32)).toNatClampNeg), .ref 110]) (r := []) rfl (fun _ => rfl) (fun q hq o ho => ms_2 (by omega) hq ho) (fun r12 M13 h => ?_)
      show mm_Runs L xs (d + 1) 12 (265, [some (.ref 200), some (.ref 0), some (.ref 84), some (.ref 110), some (.int v4), z5, z6], [.int r12], M13) o
      refine mm_Runs.seq (l := [(265, .istore 5, 2), (267, .aload_n 2, 1), (268, .aload_n 0, 1), (269, .iload 4, 2), (271, .iconst 1, 1), (272, .iadd, 1)]) (S2 := (273, [some (.ref 200), some (.ref 0), some (.ref 84), some (.ref 110), some (.int v4), some (.int r12), z6], [.int (v4 + (1 : Int32)), .ref 200, .ref 84], M13)) (by decide +kernel) (hO := mm_own_12) rfl ?_
      obtain ⟨hb, h⟩ := mm_gd h
      refine mm_R_ialx rfl hb ?_
      refine mm_Runs.seq (l := [(274, .aload_n 0, 1), (275, .iload 4, 2), (277, .iconst 2, 1), (278, .iadd, 1)]) (S2 := (279, [some (.ref 200), some (.ref 0), some (.ref 84), some (.ref 110), some (.int v4), some (.int r12), z6], [.int (v4 + (2 : Int32)), .ref 200, .int (xs (v4 + (1 : Int32)).toNatClampNeg), .ref 84], M13)) (by decide +kernel) (hO := mm_own_12) rfl ?_
      obtain ⟨hb, h⟩ := mm_gd h
      refine mm_R_ialx rfl hb ?_
      refine mm_R_call (v := mm_wi) h hA (k2 := 177) (as := [.ref 84, .int (xs (v4 + (1 : Int32)).toNatClampNeg), .int (xs (v4 + (2 : Int32)).toNatClampNeg)]) (r := []) rfl (fun _ => rfl) (fun q hq o ho => ms_177 (by omega) hq ho) (fun r14 M15 h => ?_)
      show mm_Runs L xs (d + 1) 12 (283, [some (.ref 200), some (.ref 0), some (.ref 84), some (.ref 110), some (.int v4), some (.int r12), z6], [.int r14], M15) o
      refine mm_Runs.seq (l := [(283, .istore 6, 2), (285, .aload_n 2, 1)]) (S2 := (286, [some (.ref 200), some (.ref 0), some (.ref 84), some (.ref 110), some (.int v4), some (.int r12), some (.int r14)], [.ref 84], M15)) (by decide +kernel) (hO := mm_own_12) rfl ?_
      refine mm_R_call (v := mm_wi) h hA (k2 := 173) (as := [.ref 84]) (r := []) rfl (fun _ => rfl) (fun q hq o ho => ms_173 (by omega) hq ho) (fun r16 M17 h => ?_)
      show mm_Runs L xs (d + 1) 12 (289, [some (.ref 200), some (.ref 0), some (.ref 84), some (.ref 110), some (.int v4), some (.int r12), some (.int r14)], [.int r16], M17) o
      refine mm_Runs.seq (l := [(289, .iload 5, 2)]) (S2 := (291, [some (.ref 200), some (.ref 0), some (.ref 84), some (.ref 110), some (.int v4), some (.int r12), some (.int r14)], [.int r12, .int r16], M17)) (by decide +kernel) (hO := mm_own_12) rfl ?_
      refine mm_R_ieq (t := 296) rfl rfl rfl (fun hc => ?_) (fun hc => ?_)
      · replace h := mm_ip hc h
        refine mm_Runs.seq (l := [(296, .iload 5, 2)]) (S2 := (298, [some (.ref 200), some (.ref 0), some (.ref 84), some (.ref 110), some (.int v4), some (.int r12), some (.int r14)], [.int r12], M17)) (by decide +kernel) (hO := mm_own_12) rfl ?_
        refine mm_R_zne (t := 313) rfl rfl rfl (fun hc => ?_) (fun hc => ?_)
        · replace h := mm_ip hc h
          refine mm_Runs.seq (l := [(301, .aload_n 3, 1), (302, .iconst 0, 1)]) (S2 := (303, [some (.ref 200), some (.ref 0), some (.ref 84), some (.ref 110), some (.int v4), some (.int r12), some (.int r14)], [.int (0 : Int32), .ref 110], M17)) (by decide +kernel) (hO := mm_own_12) rfl ?_
          obtain ⟨hb, h⟩ := mm_gd h
          refine mm_R_lald rfl rfl hb ?_
          refine mm_Runs.seq (l := [(304, .iload 6, 2), (306, .i2l, 1)]) (S2 := (307, [some (.ref 200), some (.ref 0), some (.ref 84), some (.ref 110), some (.int v4), some (.int r12), some (.int r14)], [.long r14.toInt64, .long (M17.2.1 110 (0 : Int32).toNatClampNeg)], M17)) (by decide +kernel) (hO := mm_own_12) rfl ?_
          refine mm_R_leq (t := 313) rfl rfl rfl rfl (fun hc => ?_) (fun hc => ?_)
          · replace h := mm_ip hc h
            refine mm_Runs.seq (l := [(313, .goto 508, 3), (821, .iinc 4 6, 3), (824, .goto (-801), 3)]) (S2 := (23, [some (.ref 200), some (.ref 0), some (.ref 84), some (.ref 110), some (.int (v4 + (6 : Int32))), some (.int r12), some (.int r14)], [], M17)) (by decide +kernel) (hO := mm_own_12) rfl ?_
            cases h
            exact (show mp_12_23 L xs (d + 1) (v4 + (6 : Int32)) M17 o from hA) (some (.int r12)) (some (.int r14))
          · replace h := mm_iq hc h
            cases h
            exact (show mp_12_311 L xs (d + 1) M17 o from hA) (some (.ref 200)) (some (.ref 0)) (some (.ref 84)) (some (.ref 110)) (some (.int v4)) (some (.int r12)) (some (.int r14))
        · replace h := mm_iq hc h
          refine mm_Runs.seq (l := [(313, .goto 508, 3), (821, .iinc 4 6, 3), (824, .goto (-801), 3)]) (S2 := (23, [some (.ref 200), some (.ref 0), some (.ref 84), some (.ref 110), some (.int (v4 + (6 : Int32))), some (.int r12), some (.int r14)], [], M17)) (by decide +kernel) (hO := mm_own_12) rfl ?_
          cases h
          exact (show mp_12_23 L xs (d + 1) (v4 + (6 : Int32)) M17 o from hA) (some (.int r12)) (some (.int r14))
      · replace h := mm_iq hc h
        cases h
        exact (show mp_12_294 L xs (d + 1) M17 o from hA) (some (.ref 200)) (some (.ref 0)) (some (.ref 84)) (some (.ref 110)) (some (.int v4)) (some (.int r12)) (some (.int r14))
    replace h := mm_iq hc2 h
    by_cases hc3 : ((xs v4.toNatClampNeg) &&& (15 : Int32)) = (3 : Int32)
    · replace h := mm_ip hc3 h
      refine mm_R_sw (t := 316) rfl rfl rfl (by rw [hc3]; rfl) ?_
      refine mm_Runs.seq (l := [(316, .aload_n 1, 1), (317, .aload_n 3, 1)]) (S2 := (318, [some (.ref 200), some (.ref 0), some (.ref 84), some (.ref 110), some (.int v4), z5, z6], [.ref 110, .ref 0], M)) (by decide +kernel) (hO := mm_own_12) rfl ?_
      refine mm_R_call (v := mm_wi) h hA (k2 := 3) (as := [.ref 0, .ref 110]) (r := []) rfl (fun _ => rfl) (fun q hq o ho => ms_3 (by omega) hq ho) (fun r18 M19 h => ?_)
      show mm_Runs L xs (d + 1) 12 (321, [some (.ref 200), some (.ref 0), some (.ref 84), some (.ref 110), some (.int v4), z5, z6], [.int r18], M19) o
      refine mm_Runs.seq (l := [(321, .istore 5, 2), (323, .aload_n 2, 1)]) (S2 := (324, [some (.ref 200), some (.ref 0), some (.ref 84), some (.ref 110), some (.int v4), some (.int r18), z6], [.ref 84], M19)) (by decide +kernel) (hO := mm_own_12) rfl ?_
      refine mm_R_call (v := mm_wi) h hA (k2 := 178) (as := [.ref 84]) (r := []) rfl (fun _ => rfl) (fun q hq o ho => ms_178 (by omega) hq ho) (fun r20 M21 h => ?_)
      show mm_Runs L xs (d + 1) 12 (327, [some (.ref 200), some (.ref 0), some (.ref 84), some (.ref 110), some (.int v4), some (.int r18), z6], [.int r20], M21) o
      refine mm_Runs.seq (l := [(327, .istore 6, 2), (329, .aload_n 2, 1)]) (S2 := (330, [some (.ref 200), some (.ref 0), some (.ref 84), some (.ref 110), some (.int v4), some (.int r18), some (.int r20)], [.ref 84], M21)) (by decide +kernel) (hO := mm_own_12) rfl ?_
      refine mm_R_call (v := mm_wi) h hA (k2 := 173) (as := [.ref 84]) (r := []) rfl (fun _ => rfl) (fun q hq o ho => ms_173 (by omega) hq ho) (fun r22 M23 h => ?_)
      show mm_Runs L xs (d + 1) 12 (333, [some (.ref 200), some (.ref 0), some (.ref 84), some (.ref 110), some (.int v4), some (.int r18), some (.int r20)], [.int r22], M23) o
      refine mm_Runs.seq (l := [(333, .iload 5, 2)]) (S2 := (335, [some (.ref 200), some (.ref 0), some (.ref 84), some (.ref 110), some (.int v4), some (.int r18), some (.int r20)], [.int r18, .int r22], M23)) (by decide +kernel) (hO := mm_own_12) rfl ?_
      refine mm_R_ieq (t := 340) rfl rfl rfl (fun hc => ?_) (fun hc => ?_)
      · replace h := mm_ip hc h
        refine mm_Runs.seq (l := [(340, .iload 5, 2)]) (S2 := (342, [some (.ref 200), some (.ref 0), some (.ref 84), some (.ref 110), some (.int v4), some (.int r18), some (.int r20)], [.int r18], M23)) (by decide +kernel) (hO := mm_own_12) rfl ?_
        refine mm_R_zne (t := 357) rfl rfl rfl (fun hc => ?_) (fun hc => ?_)
        · replace h := mm_ip hc h
          refine mm_Runs.seq (l := [(345, .aload_n 3, 1), (346, .iconst 0, 1)]) (S2 := (347, [some (.ref 200), some (.ref 0), some (.ref 84), some (.ref 110), some (.int v4), some (.int r18), some (.int r20)], [.int (0 : Int32), .ref 110], M23)) (by decide +kernel) (hO := mm_own_12) rfl ?_
          obtain ⟨hb, h⟩ := mm_gd h
          refine mm_R_lald rfl rfl hb ?_
          refine mm_Runs.seq (l := [(348, .iload 6, 2), (350, .i2l, 1)]) (S2 := (351, [some (.ref 200), some (.ref 0), some (.ref 84), some (.ref 110), some (.int v4), some (.int r18), some (.int r20)], [.long r20.toInt64, .long (M23.2.1 110 (0 : Int32).toNatClampNeg)], M23)) (by decide +kernel) (hO := mm_own_12) rfl ?_
          refine mm_R_leq (t := 357) rfl rfl rfl rfl (fun hc => ?_) (fun hc => ?_)
          · replace h := mm_ip hc h
            refine mm_Runs.seq (l := [(357, .goto 464, 3), (821, .iinc 4 6, 3), (824, .goto (-801), 3)]) (S2 := (23, [some (.ref 200), some (.ref 0), some (.ref 84), some (.ref 110), some (.int (v4 + (6 : Int32))), some (.int r18), some (.int r20)], [], M23)) (by decide +kernel) (hO := mm_own_12) rfl ?_
            cases h
            exact (show mp_12_23 L xs (d + 1) (v4 + (6 : Int32)) M23 o from hA) (some (.int r18)) (some (.int r20))
          · replace h := mm_iq hc h
            cases h
            exact (show mp_12_355 L xs (d + 1) M23 o from hA) (some (.ref 200)) (some (.ref 0)) (some (.ref 84)) (some (.ref 110)) (some (.int v4)) (some (.int r18)) (some (.int r20))
        · replace h := mm_iq hc h
          refine mm_Runs.seq (l := [(357, .goto 464, 3), (821, .iinc 4 6, 3), (824, .goto (-801), 3)]) (S2 := (23, [some (.ref 200), some (.ref 0), some (.ref 84), some (.ref 110), some (.int (v4 + (6 : Int32))), some (.int r18), some (.int r20)], [], M23)) (by decide +kernel) (hO := mm_own_12) rfl ?_
          cases h
          exact (show mp_12_23 L xs (d + 1) (v4 + (6 : Int32)) M23 o from hA) (some (.int r18)) (some (.int r20))
      · replace h := mm_iq hc h
        cases h
        exact (show mp_12_338 L xs (d + 1) M23 o from hA) (some (.ref 200)) (some (.ref 0)) (some (.ref 84)) (some (.ref 110)) (some (.int v4)) (some (.int r18)) (some (.int r20))
    replace h := mm_iq hc3 h
    by_cases hc4 : ((xs v4.toNatClampNeg) &&& (15 : Int32)) = (4 : Int32)
    · replace h := mm_ip hc4 h
      refine mm_R_sw (t := 360) rfl rfl rfl (by rw [hc4]; rfl) ?_
      refine mm_Runs.seq (l := [(360, .aload_n 1, 1), (361, .aload_n 0, 1), (362, .iload 4, 2), (364, .iconst 1, 1), (365, .iadd, 1)]) (S2 := (366, [some (.ref 200), some (.ref 0), some (.ref 84), some (.ref 110), some (.int v4), z5, z6], [.int (v4 + (1 : Int32)), .ref 200, .ref 0], M)) (by decide +kernel) (hO := mm_own_12) rfl ?_
      obtain ⟨hb, h⟩ := mm_gd h
      refine mm_R_ialx rfl hb ?_
      refine mm_Runs.seq (l := [(367, .aload_n 3, 1)]) (S2 := (368, [some (.ref 200), some (.ref 0), some (.ref 84), some (.ref 110), some (.int v4), z5, z6], [.ref 110, .int (xs (v4 + (1 : Int32)).toNatClampNeg), .ref 0], M)) (by decide +kernel) (hO := mm_own_12) rfl ?_
      refine mm_R_call (v := mm_wi) h hA (k2 := 4) (as := [.ref 0, .int (xs (v4 + (1 : Int32)).toNatClampNeg), .ref 110]) (r := []) rfl (fun _ => rfl) (fun q hq o ho => ms_4 (by omega) hq ho) (fun r24 M25 h => ?_)
      show mm_Runs L xs (d + 1) 12 (371, [some (.ref 200), some (.ref 0), some (.ref 84), some (.ref 110), some (.int v4), z5, z6], [.int r24], M25) o
      refine mm_Runs.seq (l := [(371, .istore 5, 2), (373, .aload_n 2, 1), (374, .aload_n 0, 1), (375, .iload 4, 2), (377, .iconst 1, 1), (378, .iadd, 1)]) (S2 := (379, [some (.ref 200), some (.ref 0), some (.ref 84), some (.ref 110), some (.int v4), some (.int r24), z6], [.int (v4 + (1 : Int32)), .ref 200, .ref 84], M25)) (by decide +kernel) (hO := mm_own_12) rfl ?_
      obtain ⟨hb, h⟩ := mm_gd h
      refine mm_R_ialx rfl hb ?_
      refine mm_R_call (v := mm_wi) h hA (k2 := 244) (as := [.ref 84, .int (xs (v4 + (1 : Int32)).toNatClampNeg)]) (r := []) rfl (fun _ => rfl) (fun q hq o ho => ms_244 (by omega) hq ho) (fun r26 M27 h => ?_)
      show mm_Runs L xs (d + 1) 12 (383, [some (.ref 200), some (.ref 0), some (.ref 84), some (.ref 110), some (.int v4), some (.int r24), z6], [.int r26], M27) o
      refine mm_Runs.seq (l := [(383, .istore 6, 2), (385, .aload_n 2, 1)]) (S2 := (386, [some (.ref 200), some (.ref 0), some (.ref 84), some (.ref 110), some (.int v4), some (.int r24), some (.int r26)], [.ref 84], M27)) (by decide +kernel) (hO := mm_own_12) rfl ?_
      refine mm_R_call (v := mm_wi) h hA (k2 := 173) (as := [.ref 84]) (r := []) rfl (fun _ => rfl) (fun q hq o ho => ms_173 (by omega) hq ho) (fun r28 M29 h => ?_)
      show mm_Runs L xs (d + 1) 12 (389, [some (.ref 200), some (.ref 0), some (.ref 84), some (.ref 110), some (.int v4), some (.int r24), some (.int r26)], [.int r28], M29) o
      refine mm_Runs.seq (l := [(389, .iload 5, 2)]) (S2 := (391, [some (.ref 200), some (.ref 0), some (.ref 84), some (.ref 110), some (.int v4), some (.int r24), some (.int r26)], [.int r24, .int r28], M29)) (by decide +kernel) (hO := mm_own_12) rfl ?_
      refine mm_R_ieq (t := 396) rfl rfl rfl (fun hc => ?_) (fun hc => ?_)
      · replace h := mm_ip hc h
        refine mm_Runs.seq (l := [(396, .iload 5, 2)]) (S2 := (398, [some (.ref 200), some (.ref 0), some (.ref 84), some (.ref 110), some (.int v4), some (.int r24), some (.int r26)], [.int r24], M29)) (by decide +kernel) (hO := mm_own_12) rfl ?_
        refine mm_R_zne (t := 413) rfl rfl rfl (fun hc => ?_) (fun hc => ?_)
        · replace h := mm_ip hc h
          refine mm_Runs.seq (l := [(401, .aload_n 3, 1), (402, .iconst 0, 1)]) (S2 := (403, [some (.ref 200), some (.ref 0), some (.ref 84), some (.ref 110), some (.int v4), some (.int r24), some (.int r26)], [.int (0 : Int32), .ref 110], M29)) (by decide +kernel) (hO := mm_own_12) rfl ?_
          obtain ⟨hb, h⟩ := mm_gd h
          refine mm_R_lald rfl rfl hb ?_
          refine mm_Runs.seq (l := [(404, .iload 6, 2), (406, .i2l, 1)]) (S2 := (407, [some (.ref 200), some (.ref 0), some (.ref 84), some (.ref 110), some (.int v4), some (.int r24), some (.int r26)], [.long r26.toInt64, .long (M29.2.1 110 (0 : Int32).toNatClampNeg)], M29)) (by decide +kernel) (hO := mm_own_12) rfl ?_
          refine mm_R_leq (t := 413) rfl rfl rfl rfl (fun hc => ?_) (fun hc => ?_)
          · replace h := mm_ip hc h
            refine mm_Runs.seq (l := [(413, .goto 408, 3), (821, .iinc 4 6, 3), (824, .goto (-801), 3)]) (S2 := (23, [some (.ref 200), some (.ref 0), some (.ref 84), some (.ref 110), some (.int (v4 + (6 : Int32))), some (.int r24), some (.int r26)], [], M29)) (by decide +kernel) (hO := mm_own_12) rfl ?_
            cases h
            exact (show mp_12_23 L xs (d + 1) (v4 + (6 : Int32)) M29 o from hA) (some (.int r24)) (some (.int r26))
          · replace h := mm_iq hc h
            cases h
            exact (show mp_12_411 L xs (d + 1) M29 o from hA) (some (.ref 200)) (some (.ref 0)) (some (.ref 84)) (some (.ref 110)) (some (.int v4)) (some (.int r24)) (some (.int r26))
        · replace h := mm_iq hc h
          refine mm_Runs.seq (l := [(413, .goto 408, 3), (821, .iinc 4 6, 3), (824, .goto (-801), 3)]) (S2 := (23, [some (.ref 200), some (.ref 0), some (.ref 84), some (.ref 110), some (.int (v4 + (6 : Int32))), some (.int r24), some (.int r26)], [], M29)) (by decide +kernel) (hO := mm_own_12) rfl ?_
          cases h
          exact (show mp_12_23 L xs (d + 1) (v4 + (6 : Int32)) M29 o from hA) (some (.int r24)) (some (.int r26))
      · replace h := mm_iq hc h
        cases h
        exact (show mp_12_394 L xs (d + 1) M29 o from hA) (some (.ref 200)) (some (.ref 0)) (some (.ref 84)) (some (.ref 110)) (some (.int v4)) (some (.int r24)) (some (.int r26))
    replace h := mm_iq hc4 h
    by_cases hc5 : ((xs v4.toNatClampNeg) &&& (15 : Int32)) = (5 : Int32)
    · replace h := mm_ip hc5 h
      refine mm_R_sw (t := 416) rfl rfl rfl (by rw [hc5]; rfl) ?_
      refine mm_Runs.seq (l := [(416, .aload_n 1, 1), (417, .aload_n 0, 1), (418, .iload 4, 2), (420, .iconst 1, 1), (421, .iadd, 1)]) (S2 := (422, [some (.ref 200), some (.ref 0), some (.ref 84), some (.ref 110), some (.int v4), z5, z6], [.int (v4 + (1 : Int32)), .ref 200, .ref 0], M)) (by decide +kernel) (hO := mm_own_12) rfl ?_
      obtain ⟨hb, h⟩ := mm_gd h
      refine mm_R_ialx rfl hb ?_
      refine mm_Runs.seq (l := [(423, .aload_n 3, 1)]) (S2 := (424, [some (.ref 200), some (.ref 0), some (.ref 84), some (.ref 110), some (.int v4), z5, z6], [.ref 110, .int (xs (v4 + (1 : Int32)).toNatClampNeg), .ref 0], M)) (by decide +kernel) (hO := mm_own_12) rfl ?_
      refine mm_R_call (v := mm_wi) h hA (k2 := 5) (as := [.ref 0, .int (xs (v4 + (1 : Int32)).toNatClampNeg), .ref 110]) (r := []) rfl (fun _ => rfl) (fun q hq o ho => ms_5 (by omega) hq ho) (fun r30 M31 h => ?_)
      show mm_Runs L xs (d + 1) 12 (427, [some (.ref 200), some (.ref 0), some (.ref 84), some (.ref 110), some (.int v4), z5, z6], [.int r30], M31) o
      refine mm_Runs.seq (l := [(427, .istore 5, 2), (429, .aload_n 2, 1), (430, .aload_n 0, 1), (431, .iload 4, 2), (433, .iconst 1, 1), (434, .iadd, 1)]) (S2 := (435, [some (.ref 200), some (.ref 0), some (.ref 84), some (.ref 110), some (.int v4), some (.int r30), z6], [.int (v4 + (1 : Int32)), .ref 200, .ref 84], M31)) (by decide +kernel) (hO := mm_own_12) rfl ?_
      obtain ⟨hb, h⟩ := mm_gd h
      refine mm_R_ialx rfl hb ?_
      refine mm_R_call (v := mm_wi) h hA (k2 := 181) (as := [.ref 84, .int (xs (v4 + (1 : Int32)).toNatClampNeg)]) (r := []) rfl (fun _ => rfl) (fun q hq o ho => ms_181 (by omega) hq ho) (fun r32 M33 h => ?_)
      show mm_Runs L xs (d + 1) 12 (439, [some (.ref 200), some (.ref 0), some (.ref 84), some (.ref 110), some (.int v4), some (.int r30), z6], [.int r32], M33) o
      refine mm_Runs.seq (l := [(439, .istore 6, 2), (441, .aload_n 2, 1)]) (S2 := (442, [some (.ref 200), some (.ref 0), some (.ref 84), some (.ref 110), some (.int v4), some (.int r30), some (.int r32)], [.ref 84], M33)) (by decide +kernel) (hO := mm_own_12) rfl ?_
      refine mm_R_call (v := mm_wi) h hA (k2 := 173) (as := [.ref 84]) (r := []) rfl (fun _ => rfl) (fun q hq o ho => ms_173 (by omega) hq ho) (fun r34 M35 h => ?_)
      show mm_Runs L xs (d + 1) 12 (445, [some (.ref 200), some (.ref 0), some (.ref 84), some (.ref 110), some (.int v4), some (.int r30), some (.int r32)], [.int r34], M35) o
      refine mm_Runs.seq (l := [(445, .iload 5, 2)]) (S2 := (447, [some (.ref 200), some (.ref 0), some (.ref 84), some (.ref 110), some (.int v4), some (.int r30), some (.int r32)], [.int r30, .int r34], M35)) (by decide +kernel) (hO := mm_own_12) rfl ?_
      refine mm_R_ieq (t := 452) rfl rfl rfl (fun hc => ?_) (fun hc => ?_)
      · replace h := mm_ip hc h
        refine mm_Runs.seq (l := [(452, .iload 5, 2)]) (S2 := (454, [some (.ref 200), some (.ref 0), some (.ref 84), some (.ref 110), some (.int v4), some (.int r30), some (.int r32)], [.int r30], M35)) (by decide +kernel) (hO := mm_own_12) rfl ?_
        refine mm_R_zne (t := 469) rfl rfl rfl (fun hc => ?_) (fun hc => ?_)
        · replace h := mm_ip hc h
          refine mm_Runs.seq (l := [(457, .aload_n 3, 1), (458, .iconst 0, 1)]) (S2 := (459, [some (.ref 200), some (.ref 0), some (.ref 84), some (.ref 110), some (.int v4), some (.int r30), some (.int r32)], [.int (0 : Int32), .ref 110], M35)) (by decide +kernel) (hO := mm_own_12) rfl ?_
          obtain ⟨hb, h⟩ := mm_gd h
          refine mm_R_lald rfl rfl hb ?_
          refine mm_Runs.seq (l := [(460, .iload 6, 2), (462, .i2l, 1)]) (S2 := (463, [some (.ref 200), some (.ref 0), some (.ref 84), some (.ref 110), some (.int v4), some (.int r30), some (.int r32)], [.long r32.toInt64, .long (M35.2.1 110 (0 : Int32).toNatClampNeg)], M35)) (by decide +kernel) (hO := mm_own_12) rfl ?_
          refine mm_R_leq (t := 469) rfl rfl rfl rfl (fun hc => ?_) (fun hc => ?_)
          · replace h := mm_ip hc h
            refine mm_Runs.seq (l := [(469, .goto 352, 3), (821, .iinc 4 6, 3), (824, .goto (-801), 3)]) (S2 := (23, [some (.ref 200), some (.ref 0), some (.ref 84), some (.ref 110), some (.int (v4 + (6 : Int32))), some (.int r30), some (.int r32)], [], M35)) (by decide +kernel) (hO := mm_own_12) rfl ?_
            cases h
            exact (show mp_12_23 L xs (d + 1) (v4 + (6 : Int32)) M35 o from hA) (some (.int r30)) (some (.int r32))
          · replace h := mm_iq hc h
            cases h
            exact (show mp_12_467 L xs (d + 1) M35 o from hA) (some (.ref 200)) (some (.ref 0)) (some (.ref 84)) (some (.ref 110)) (some (.int v4)) (some (.int r30)) (some (.int r32))
        · replace h := mm_iq hc h
          refine mm_Runs.seq (l := [(469, .goto 352, 3), (821, .iinc 4 6, 3), (824, .goto (-801), 3)]) (S2 := (23, [some (.ref 200), some (.ref 0), some (.ref 84), some (.ref 110), some (.int (v4 + (6 : Int32))), some (.int r30), some (.int r32)], [], M35)) (by decide +kernel) (hO := mm_own_12) rfl ?_
          cases h
          exact (show mp_12_23 L xs (d + 1) (v4 + (6 : Int32)) M35 o from hA) (some (.int r30)) (some (.int r32))
      · replace h := mm_iq hc h
        cases h
        exact (show mp_12_450 L xs (d + 1) M35 o from hA) (some (.ref 200)) (some (.ref 0)) (some (.ref 84)) (some (.ref 110)) (some (.int v4)) (some (.int r30)) (some (.int r32))
    replace h := mm_iq hc5 h
    by_cases hc6 : ((xs v4.toNatClampNeg) &&& (15 : Int32)) = (6 : Int32)
    · replace h := mm_ip hc6 h
      refine mm_R_sw (t := 472) rfl rfl rfl (by rw [hc6]; rfl) ?_
      refine mm_Runs.seq (l := [(472, .aload_n 1, 1), (473, .aload_n 0, 1), (474, .iload 4, 2), (476, .iconst 1, 1), (477, .iadd, 1)]) (S2 := (478, [some (.ref 200), some (.ref 0), some (.ref 84), some (.ref 110), some (.int v4), z5, z6], [.int (v4 + (1 : Int32)), .ref 200, .ref 0], M)) (by decide +kernel) (hO := mm_own_12) rfl ?_
      obtain ⟨hb, h⟩ := mm_gd h
      refine mm_R_ialx rfl hb ?_
      refine mm_Runs.seq (l := [(479, .aload_n 3, 1)]) (S2 := (480, [some (.ref 200), some (.ref 0), some (.ref 84), some (.ref 110), some (.int v4), z5, z6], [.ref 110, .int (xs (v4 + (1 : Int32)).toNatClampNeg), .ref 0], M)) (by decide +kernel) (hO := mm_own_12) rfl ?_
      refine mm_R_call (v := mm_wi) h hA (k2 := 6) (as := [.ref 0, .int (xs (v4 + (1 : Int32)).toNatClampNeg), .ref 110]) (r := []) rfl (fun _ => rfl) (fun q hq o ho => ms_6 (by omega) hq ho) (fun r36 M37 h => ?_)
      show mm_Runs L xs (d + 1) 12 (483, [some (.ref 200), some (.ref 0), some (.ref 84), some (.ref 110), some (.int v4), z5, z6], [.int r36], M37) o
      refine mm_Runs.seq (l := [(483, .istore 5, 2), (485, .aload_n 2, 1), (486, .aload_n 0, 1), (487, .iload 4, 2), (489, .iconst 1, 1), (490, .iadd, 1)]) (S2 := (491, [some (.ref 200), some (.ref 0), some (.ref 84), some (.ref 110), some (.int v4), some (.int r36), z6], [.int (v4 + (1 : Int32)), .ref 200, .ref 84], M37)) (by decide +kernel) (hO := mm_own_12) rfl ?_
      obtain ⟨hb, h⟩ := mm_gd h
      refine mm_R_ialx rfl hb ?_
      refine mm_R_call (v := mm_wi) h hA (k2 := 180) (as := [.ref 84, .int (xs (v4 + (1 : Int32)).toNatClampNeg)]) (r := []) rfl (fun _ => rfl) (fun q hq o ho => ms_180 (by omega) hq ho) (fun r38 M39 h => ?_)
      show mm_Runs L xs (d + 1) 12 (495, [some (.ref 200), some (.ref 0), some (.ref 84), some (.ref 110), some (.int v4), some (.int r36), z6], [.int r38], M39) o
      refine mm_Runs.seq (l := [(495, .istore 6, 2), (497, .aload_n 2, 1)]) (S2 := (498, [some (.ref 200), some (.ref 0), some (.ref 84), some (.ref 110), some (.int v4), some (.int r36), some (.int r38)], [.ref 84], M39)) (by decide +kernel) (hO := mm_own_12) rfl ?_
      refine mm_R_call (v := mm_wi) h hA (k2 := 173) (as := [.ref 84]) (r := []) rfl (fun _ => rfl) (fun q hq o ho => ms_173 (by omega) hq ho) (fun r40 M41 h => ?_)
      show mm_Runs L xs (d + 1) 12 (501, [some (.ref 200), some (.ref 0), some (.ref 84), some (.ref 110), some (.int v4), some (.int r36), some (.int r38)], [.int r40], M41) o
      refine mm_Runs.seq (l := [(501, .iload 5, 2)]) (S2 := (503, [some (.ref 200), some (.ref 0), some (.ref 84), some (.ref 110), some (.int v4), some (.int r36), some (.int r38)], [.int r36, .int r40], M41)) (by decide +kernel) (hO := mm_own_12) rfl ?_
      refine mm_R_ieq (t := 508) rfl rfl rfl (fun hc => ?_) (fun hc => ?_)
      · replace h := mm_ip hc h
        refine mm_Runs.seq (l := [(508, .iload 5, 2)]) (S2 := (510, [some (.ref 200), some (.ref 0), some (.ref 84), some (.ref 110), some (.int v4), some (.int r36), some (.int r38)], [.int r36], M41)) (by decide +kernel) (hO := mm_own_12) rfl ?_
        refine mm_R_zne (t := 525) rfl rfl rfl (fun hc => ?_) (fun hc => ?_)
        · replace h := mm_ip hc h
          refine mm_Runs.seq (l := [(513, .aload_n 3, 1), (514, .iconst 0, 1)]) (S2 := (515, [some (.ref 200), some (.ref 0), some (.ref 84), some (.ref 110), some (.int v4), some (.int r36), some (.int r38)], [.int (0 : Int32), .ref 110], M41)) (by decide +kernel) (hO := mm_own_12) rfl ?_
          obtain ⟨hb, h⟩ := mm_gd h
          refine mm_R_lald rfl rfl hb ?_
          refine mm_Runs.seq (l := [(516, .iload 6, 2), (518, .i2l, 1)]) (S2 := (519, [some (.ref 200), some (.ref 0), some (.ref 84), some (.ref 110), some (.int v4), some (.int r36), some (.int r38)], [.long r38.toInt64, .long (M41.2.1 110 (0 : Int32).toNatClampNeg)], M41)) (by decide +kernel) (hO := mm_own_12) rfl ?_
          refine mm_R_leq (t := 525) rfl rfl rfl rfl (fun hc => ?_) (fun hc => ?_)
          · replace h := mm_ip hc h
            refine mm_Runs.seq (l := [(525, .goto 296, 3), (821, .iinc 4 6, 3), (824, .goto (-801), 3)]) (S2 := (23, [some (.ref 200), some (.ref 0), some (.ref 84), some (.ref 110), some (.int (v4 + (6 : Int32))), some (.int r36), some (.int r38)], [], M41)) (by decide +kernel) (hO := mm_own_12) rfl ?_
            cases h
            exact (show mp_12_23 L xs (d + 1) (v4 + (6 : Int32)) M41 o from hA) (some (.int r36)) (some (.int r38))
          · replace h := mm_iq hc h
            cases h
            exact (show mp_12_523 L xs (d + 1) M41 o from hA) (some (.ref 200)) (some (.ref 0)) (some (.ref 84)) (some (.ref 110)) (some (.int v4)) (some (.int r36)) (some (.int r38))
        · replace h := mm_iq hc h
          refine mm_Runs.seq (l := [(525, .goto 296, 3), (821, .iinc 4 6, 3), (824, .goto (-801), 3)]) (S2 := (23, [some (.ref 200), some (.ref 0), some (.ref 84), some (.ref 110), some (.int (v4 + (6 : Int32))), some (.int r36), some (.int r38)], [], M41)) (by decide +kernel) (hO := mm_own_12) rfl ?_
          cases h
          exact (show mp_12_23 L xs (d + 1) (v4 + (6 : Int32)) M41 o from hA) (some (.int r36)) (some (.int r38))
      · replace h := mm_iq hc h
        cases h
        exact (show mp_12_506 L xs (d + 1) M41 o from hA) (some (.ref 200)) (some (.ref 0)) (some (.ref 84)) (some (.ref 110)) (some (.int v4)) (some (.int r36)) (some (.int r38))
    replace h := mm_iq hc6 h
    by_cases hc7 : ((xs v4.toNatClampNeg) &&& (15 : Int32)) = (7 : Int32)
    · replace h := mm_ip hc7 h
      refine mm_R_sw (t := 528) rfl rfl rfl (by rw [hc7]; rfl) ?_
      refine mm_Runs.seq (l := [(528, .aload_n 1, 1), (529, .aload_n 0, 1), (530, .iload 4, 2), (532, .iconst 1, 1), (533, .iadd, 1)]) (S2 := (534, [some (.ref 200), some (.ref 0), some (.ref 84), some (.ref 110), some (.int v4), z5, z6], [.int (v4 + (1 : Int32)), .ref 200, .ref 0], M)) (by decide +kernel) (hO := mm_own_12) rfl ?_
      obtain ⟨hb, h⟩ := mm_gd h
      refine mm_R_ialx rfl hb ?_
      refine mm_Runs.seq (l := [(535, .aload_n 3, 1)]) (S2 := (536, [some (.ref 200), some (.ref 0), some (.ref 84), some (.ref 110), some (.int v4), z5, z6], [.ref 110, .int (xs (v4 + (1 : Int32)).toNatClampNeg), .ref 0], M)) (by decide +kernel) (hO := mm_own_12) rfl ?_
      refine mm_R_call (v := mm_wi) h hA (k2 := 7) (as := [.ref 0, .int (xs (v4 + (1 : Int32)).toNatClampNeg), .ref 110]) (r := []) rfl (fun _ => rfl) (fun q hq o ho => ms_7 (by omega) hq ho) (fun r42 M43 h => ?_)
      show mm_Runs L xs (d + 1) 12 (539, [some (.ref 200), some (.ref 0), some (.ref 84), some (.ref 110), some (.int v4), z5, z6], [.int r42], M43) o
      refine mm_Runs.seq (l := [(539, .istore 5, 2), (541, .aload_n 2, 1), (542, .aload_n 0, 1), (543, .iload 4, 2), (545, .iconst 1, 1), (546, .iadd, 1)]) (S2 := (547, [some (.ref 200), some (.ref 0), some (.ref 84), some (.ref 110), some (.int v4), some (.int r42), z6], [.int (v4 + (1 : Int32)), .ref 200, .ref 84], M43)) (by decide +kernel) (hO := mm_own_12) rfl ?_
      obtain ⟨hb, h⟩ := mm_gd h
      refine mm_R_ialx rfl hb ?_
      refine mm_R_call (v := mm_wi) h hA (k2 := 284) (as := [.ref 84, .int (xs (v4 + (1 : Int32)).toNatClampNeg)]) (r := []) rfl (fun _ => rfl) (fun q hq o ho => ms_284 (by omega) hq ho) (fun r44 M45 h => ?_)
      show mm_Runs L xs (d + 1) 12 (551, [some (.ref 200), some (.ref 0), some (.ref 84), some (.ref 110), some (.int v4), some (.int r42), z6], [.int r44], M45) o
      refine mm_Runs.seq (l := [(551, .istore 6, 2), (553, .aload_n 2, 1)]) (S2 := (554, [some (.ref 200), some (.ref 0), some (.ref 84), some (.ref 110), some (.int v4), some (.int r42), some (.int r44)], [.ref 84], M45)) (by decide +kernel) (hO := mm_own_12) rfl ?_
      refine mm_R_call (v := mm_wi) h hA (k2 := 173) (as := [.ref 84]) (r := []) rfl (fun _ => rfl) (fun q hq o ho => ms_173 (by omega) hq ho) (fun r46 M47 h => ?_)
      show mm_Runs L xs (d + 1) 12 (557, [some (.ref 200), some (.ref 0), some (.ref 84), some (.ref 110), some (.int v4), some (.int r42), some (.int r44)], [.int r46], M47) o
      refine mm_Runs.seq (l := [(557, .iload 5, 2)]) (S2 := (559, [some (.ref 200), some (.ref 0), some (.ref 84), some (.ref 110), some (.int v4), some (.int r42), some (.int r44)], [.int r42, .int r46], M47)) (by decide +kernel) (hO := mm_own_12) rfl ?_
      refine mm_R_ieq (t := 564) rfl rfl rfl (fun hc => ?_) (fun hc => ?_)
      · replace h := mm_ip hc h
        refine mm_Runs.seq (l := [(564, .iload 5, 2)]) (S2 := (566, [some (.ref 200), some (.ref 0), some (.ref 84), some (.ref 110), some (.int v4), some (.int r42), some (.int r44)], [.int r42], M47)) (by decide +kernel) (hO := mm_own_12) rfl ?_
        refine mm_R_zne (t := 581) rfl rfl rfl (fun hc => ?_) (fun hc => ?_)
        · replace h := mm_ip hc h
          refine mm_Runs.seq (l := [(569, .aload_n 3, 1), (570, .iconst 0, 1)]) (S2 := (571, [some (.ref 200), some (.ref 0), some (.ref 84), some (.ref 110), some (.int v4), some (.int r42), some (.int r44)], [.int (0 : Int32), .ref 110], M47)) (by decide +kernel) (hO := mm_own_12) rfl ?_
          obtain ⟨hb, h⟩ := mm_gd h
          refine mm_R_lald rfl rfl hb ?_
          refine mm_Runs.seq (l := [(572, .iload 6, 2), (574, .i2l, 1)]) (S2 := (575, [some (.ref 200), some (.ref 0), some (.ref 84), some (.ref 110), some (.int v4), some (.int r42), some (.int r44)], [.long r44.toInt64, .long (M47.2.1 110 (0 : Int32).toNatClampNeg)], M47)) (by decide +kernel) (hO := mm_own_12) rfl ?_
          refine mm_R_leq (t := 581) rfl rfl rfl rfl (fun hc => ?_) (fun hc => ?_)
          · replace h := mm_ip hc h
            refine mm_Runs.seq (l := [(581, .goto 240, 3), (821, .iinc 4 6, 3), (824, .goto (-801), 3)]) (S2 := (23, [some (.ref 200), some (.ref 0), some (.ref 84), some (.ref 110), some (.int (v4 + (6 : Int32))), some (.int r42), some (.int r44)], [], M47)) (by decide +kernel) (hO := mm_own_12) rfl ?_
            cases h
            exact (show mp_12_23 L xs (d + 1) (v4 + (6 : Int32)) M47 o from hA) (some (.int r42)) (some (.int r44))
          · replace h := mm_iq hc h
            cases h
            exact (show mp_12_579 L xs (d + 1) M47 o from hA) (some (.ref 200)) (some (.ref 0)) (some (.ref 84)) (some (.ref 110)) (some (.int v4)) (some (.int r42)) (some (.int r44))
        · replace h := mm_iq hc h
          refine mm_Runs.seq (l := [(581, .goto 240, 3), (821, .iinc 4 6, 3), (824, .goto (-801), 3)]) (S2 := (23, [some (.ref 200), some (.ref 0), some (.ref 84), some (.ref 110), some (.int (v4 + (6 : Int32))), some (.int r42), some (.int r44)], [], M47)) (by decide +kernel) (hO := mm_own_12) rfl ?_
          cases h
          exact (show mp_12_23 L xs (d + 1) (v4 + (6 : Int32)) M47 o from hA) (some (.int r42)) (some (.int r44))
      · replace h := mm_iq hc h
        cases h
        exact (show mp_12_562 L xs (d + 1) M47 o from hA) (some (.ref 200)) (some (.ref 0)) (some (.ref 84)) (some (.ref 110)) (some (.int v4)) (some (.int r42)) (some (.int r44))
    replace h := mm_iq hc7 h
    by_cases hc8 : ((xs v4.toNatClampNeg) &&& (15 : Int32)) = (8 : Int32)
    · replace h := mm_ip hc8 h
      refine mm_R_sw (t := 584) rfl rfl rfl (by rw [hc8]; rfl) ?_
      refine mm_Runs.seq (l := [(584, .aload_n 1, 1), (585, .aload_n 0, 1), (586, .iload 4, 2), (588, .iconst 1, 1), (589, .iadd, 1)]) (S2 := (590, [some (.ref 200), some (.ref 0), some (.ref 84), some (.ref 110), some (.int v4), z5, z6], [.int (v4 + (1 : Int32)), .ref 200, .ref 0], M)) (by decide +kernel) (hO := mm_own_12) rfl ?_
      obtain ⟨hb, h⟩ := mm_gd h
      refine mm_R_ialx rfl hb ?_
      refine mm_Runs.seq (l := [(591, .aload_n 3, 1)]) (S2 := (592, [some (.ref 200), some (.ref 0), some (.ref 84), some (.ref 110), some (.int v4), z5, z6], [.ref 110, .int (xs (v4 + (1 : Int32)).toNatClampNeg), .ref 0], M)) (by decide +kernel) (hO := mm_own_12) rfl ?_
      refine mm_R_call (v := mm_wi) h hA (k2 := 8) (as := [.ref 0, .int (xs (v4 + (1 : Int32)).toNatClampNeg), .ref 110]) (r := []) rfl (fun _ => rfl) (fun q hq o ho => ms_8 (by omega) hq ho) (fun r48 M49 h => ?_)
      show mm_Runs L xs (d + 1) 12 (595, [some (.ref 200), some (.ref 0), some (.ref 84), some (.ref 110), some (.int v4), z5, z6], [.int r48], M49) o
      refine mm_Runs.seq (l := [(595, .istore 5, 2), (597, .aload_n 2, 1), (598, .aload_n 0, 1), (599, .iload 4, 2), (601, .iconst 1, 1), (602, .iadd, 1)]) (S2 := (603, [some (.ref 200), some (.ref 0), some (.ref 84), some (.ref 110), some (.int v4), some (.int r48), z6], [.int (v4 + (1 : Int32)), .ref 200, .ref 84], M49)) (by decide +kernel) (hO := mm_own_12) rfl ?_
      obtain ⟨hb, h⟩ := mm_gd h
      refine mm_R_ialx rfl hb ?_
      refine mm_R_call (v := mm_wi) h hA (k2 := 189) (as := [.ref 84, .int (xs (v4 + (1 : Int32)).toNatClampNeg)]) (r := []) rfl (fun _ => rfl) (fun q hq o ho => ms_189 (by omega) hq ho) (fun r50 M51 h => ?_)
      show mm_Runs L xs (d + 1) 12 (607, [some (.ref 200), some (.ref 0), some (.ref 84), some (.ref 110), some (.int v4), some (.int r48), z6], [.int r50], M51) o
      refine mm_Runs.seq (l := [(607, .istore 6, 2), (609, .aload_n 2, 1)]) (S2 := (610, [some (.ref 200), some (.ref 0), some (.ref 84), some (.ref 110), some (.int v4), some (.int r48), some (.int r50)], [.ref 84], M51)) (by decide +kernel) (hO := mm_own_12) rfl ?_
      refine mm_R_call (v := mm_wi) h hA (k2 := 173) (as := [.ref 84]) (r := []) rfl (fun _ => rfl) (fun q hq o ho => ms_173 (by omega) hq ho) (fun r52 M53 h => ?_)
      show mm_Runs L xs (d + 1) 12 (613, [some (.ref 200), some (.ref 0), some (.ref 84), some (.ref 110), some (.int v4), some (.int r48), some (.int r50)], [.int r52], M53) o
      refine mm_Runs.seq (l := [(613, .iload 5, 2)]) (S2 := (615, [some (.ref 200), some (.ref 0), some (.ref 84), some (.ref 110), some (.int v4), some (.int r48), some (.int r50)], [.int r48, .int r52], M53)) (by decide +kernel) (hO := mm_own_12) rfl ?_
      refine mm_R_ieq (t := 620) rfl rfl rfl (fun hc => ?_) (fun hc => ?_)
      · replace h := mm_ip hc h
        refine mm_Runs.seq (l := [(620, .iload 5, 2)]) (S2 := (622, [some (.ref 200), some (.ref 0), some (.ref 84), some (.ref 110), some (.int v4), some (.int r48), some (.int r50)], [.int r48], M53)) (by decide +kernel) (hO := mm_own_12) rfl ?_
        refine mm_R_zne (t := 637) rfl rfl rfl (fun hc => ?_) (fun hc => ?_)
        · replace h := mm_ip hc h
          refine mm_Runs.seq (l := [(625, .aload_n 3, 1), (626, .iconst 0, 1)]) (S2 := (627, [some (.ref 200), some (.ref 0), some (.ref 84), some (.ref 110), some (.int v4), some (.int r48), some (.int r50)], [.int (0 : Int32), .ref 110], M53)) (by decide +kernel) (hO := mm_own_12) rfl ?_
          obtain ⟨hb, h⟩ := mm_gd h
          refine mm_R_lald rfl rfl hb ?_
          refine mm_Runs.seq (l := [(628, .iload 6, 2), (630, .i2l, 1)]) (S2 := (631, [some (.ref 200), some (.ref 0), some (.ref 84), some (.ref 110), some (.int v4), some (.int r48), some (.int r50)], [.long r50.toInt64, .long (M53.2.1 110 (0 : Int32).toNatClampNeg)], M53)) (by decide +kernel) (hO := mm_own_12) rfl ?_
          refine mm_R_leq (t := 637) rfl rfl rfl rfl (fun hc => ?_) (fun hc => ?_)
          · replace h := mm_ip hc h
            refine mm_Runs.seq (l := [(637, .goto 184, 3), (821, .iinc 4 6, 3), (824, .goto (-801), 3)]) (S2 := (23, [some (.ref 200), some (.ref 0), some (.ref 84), some (.ref 110), some (.int (v4 + (6 : Int32))), some (.int r48), some (.int r50)], [], M53)) (by decide +kernel) (hO := mm_own_12) rfl ?_
            cases h
            exact (show mp_12_23 L xs (d + 1) (v4 + (6 : Int32)) M53 o from hA) (some (.int r48)) (some (.int r50))
          · replace h := mm_iq hc h
            cases h
            exact (show mp_12_635 L xs (d + 1) M53 o from hA) (some (.ref 200)) (some (.ref 0)) (some (.ref 84)) (some (.ref 110)) (some (.int v4)) (some (.int r48)) (some (.int r50))
        · replace h := mm_iq hc h
          refine mm_Runs.seq (l := [(637, .goto 184, 3), (821, .iinc 4 6, 3), (824, .goto (-801), 3)]) (S2 := (23, [some (.ref 200), some (.ref 0), some (.ref 84), some (.ref 110), some (.int (v4 + (6 : Int32))), some (.int r48), some (.int r50)], [], M53)) (by decide +kernel) (hO := mm_own_12) rfl ?_
          cases h
          exact (show mp_12_23 L xs (d + 1) (v4 + (6 : Int32)) M53 o from hA) (some (.int r48)) (some (.int r50))
      · replace h := mm_iq hc h
        cases h
        exact (show mp_12_618 L xs (d + 1) M53 o from hA) (some (.ref 200)) (some (.ref 0)) (some (.ref 84)) (some (.ref 110)) (some (.int v4)) (some (.int r48)) (some (.int r50))
    replace h := mm_iq hc8 h
    by_cases hc9 : ((xs v4.toNatClampNeg) &&& (15 : Int32)) = (9 : Int32)
    · replace h := mm_ip hc9 h
      refine mm_R_sw (t := 640) rfl rfl rfl (by rw [hc9]; rfl) ?_
      refine mm_Runs.seq (l := [(640, .aload_n 1, 1)]) (S2 := (641, [some (.ref 200), some (.ref 0), some (.ref 84), some (.ref 110), some (.int v4), z5, z6], [.ref 0], M)) (by decide +kernel) (hO := mm_own_12) rfl ?_
      refine mm_R_call (v := mm_wi) h hA (k2 := 22) (as := [.ref 0]) (r := []) rfl (fun _ => rfl) (fun q hq o ho => ms_22 (by omega) hq ho) (fun r54 M55 h => ?_)
      show mm_Runs L xs (d + 1) 12 (644, [some (.ref 200), some (.ref 0), some (.ref 84), some (.ref 110), some (.int v4), z5, z6], [.int r54], M55) o
      refine mm_Runs.seq (l := [(644, .aload_n 2, 1)]) (S2 := (645, [some (.ref 200), some (.ref 0), some (.ref 84), some (.ref 110), some (.int v4), z5, z6], [.ref 84, .int r54], M55)) (by decide +kernel) (hO := mm_own_12) rfl ?_
      refine mm_R_call (v := mm_wi) h hA (k2 := 287) (as := [.ref 84]) (r := [.int r54]) rfl (fun _ => rfl) (fun q hq o ho => ms_287 (by omega) hq ho) (fun r56 M57 h => ?_)
      show mm_Runs L xs (d + 1) 12 (648, [some (.ref 200), some (.ref 0), some (.ref 84), some (.ref 110), some (.int v4), z5, z6], [.int r56, .int r54], M57) o
      refine mm_R_ieq (t := 821) rfl rfl rfl (fun hc => ?_) (fun hc => ?_)
      · replace h := mm_ip hc h
        refine mm_Runs.seq (l := [(821, .iinc 4 6, 3), (824, .goto (-801), 3)]) (S2 := (23, [some (.ref 200), some (.ref 0), some (.ref 84), some (.ref 110), some (.int (v4 + (6 : Int32))), z5, z6], [], M57)) (by decide +kernel) (hO := mm_own_12) rfl ?_
        cases h
        exact (show mp_12_23 L xs (d + 1) (v4 + (6 : Int32)) M57 o from hA) z5 z6
      · replace h := mm_iq hc h
        cases h
        exact (show mp_12_651 L xs (d + 1) M57 o from hA) (some (.ref 200)) (some (.ref 0)) (some (.ref 84)) (some (.ref 110)) (some (.int v4)) z5 z6
    replace h := mm_iq hc9 h
    by_cases hc10 : ((xs v4.toNatClampNeg) &&& (15 : Int32)) = (10 : Int32)
    · replace h := mm_ip hc10 h
      refine mm_R_sw (t := 653) rfl rfl rfl (by rw [hc10]; rfl) ?_
      refine mm_Runs.seq (l := [(653, .aload_n 1, 1), (654, .aload_n 0, 1), (655, .iload 4, 2), (657, .iconst 1, 1), (658, .iadd, 1)]) (S2 := (659, [some (.ref 200), some (.ref 0), some (.ref 84), some (.ref 110), some (.int v4), z5, z6], [.int (v4 + (1 : Int32)), .ref 200, .ref 0], M)) (by decide +kernel) (hO := mm_own_12) rfl ?_
      obtain ⟨hb, h⟩ := mm_gd h
      refine mm_R_ialx rfl hb ?_
      refine mm_Runs.seq (l := [(660, .aload_n 3, 1)]) (S2 := (661, [some (.ref 200), some (.ref 0), some (.ref 84), some (.ref 110), some (.int v4), z5, z6], [.ref 110, .int (xs (v4 + (1 : Int32)).toNatClampNeg), .ref 0], M)) (by decide +kernel) (hO := mm_own_12) rfl ?_
      refine mm_R_call (v := mm_wi) h hA (k2 := 9) (as := [.ref 0, .int (xs (v4 + (1 : Int32)).toNatClampNeg), .ref 110]) (r := []) rfl (fun _ => rfl) (fun q hq o ho => ms_9 (by omega) hq ho) (fun r58 M59 h => ?_)
      show mm_Runs L xs (d + 1) 12 (664, [some (.ref 200), some (.ref 0), some (.ref 84), some (.ref 110), some (.int v4), z5, z6], [.int r58], M59) o
      refine mm_Runs.seq (l := [(664, .istore 5, 2), (666, .aload_n 2, 1), (667, .aload_n 0, 1), (668, .iload 4, 2), (670, .iconst 1, 1), (671, .iadd, 1)]) (S2 := (672, [some (.ref 200), some (.ref 0), some (.ref 84), some (.ref 110), some (.int v4), some (.int r58), z6], [.int (v4 + (1 : Int32)), .ref 200, .ref 84], M59)) (by decide +kernel) (hO := mm_own_12) rfl ?_
      obtain ⟨hb, h⟩ := mm_gd h
      refine mm_R_ialx rfl hb ?_
      refine mm_R_call (v := mm_wi) h hA (k2 := 289) (as := [.ref 84, .int (xs (v4 + (1 : Int32)).toNatClampNeg)]) (r := []) rfl (fun _ => rfl) (fun q hq o ho => ms_289 (by omega) hq ho) (fun r60 M61 h => ?_)
      show mm_Runs L xs (d + 1) 12 (676, [some (.ref 200), some (.ref 0), some (.ref 84), some (.ref 110), some (.int v4), some (.int r58), z6], [.int r60], M61) o
      refine mm_Runs.seq (l := [(676, .istore 6, 2), (678, .aload_n 2, 1)]) (S2 := (679, [some (.ref 200), some (.ref 0), some (.ref 84), some (.ref 110), some (.int v4), some (.int r58), some (.int r60)], [.ref 84], M61)) (by decide +kernel) (hO := mm_own_12) rfl ?_
      refine mm_R_call (v := mm_wi) h hA (k2 := 173) (as := [.ref 84]) (r := []) rfl (fun _ => rfl) (fun q hq o ho => ms_173 (by omega) hq ho) (fun r62 M63 h => ?_)
      show mm_Runs L xs (d + 1) 12 (682, [some (.ref 200), some (.ref 0), some (.ref 84), some (.ref 110), some (.int v4), some (.int r58), some (.int r60)], [.int r62], M63) o
      refine mm_Runs.seq (l := [(682, .iload 5, 2)]) (S2 := (684, [some (.ref 200), some (.ref 0), some (.ref 84), some (.ref 110), some (.int v4), some (.int r58), some (.int r60)], [.int r58, .int r62], M63)) (by decide +kernel) (hO := mm_own_12) rfl ?_
      refine mm_R_ieq (t := 689) rfl rfl rfl (fun hc => ?_) (fun hc => ?_)
      · replace h := mm_ip hc h
        refine mm_Runs.seq (l := [(689, .iload 5, 2)]) (S2 := (691, [some (.ref 200), some (.ref 0), some (.ref 84), some (.ref 110), some (.int v4), some (.int r58), some (.int r60)], [.int r58], M63)) (by decide +kernel) (hO := mm_own_12) rfl ?_
        refine mm_R_zne (t := 706) rfl rfl rfl (fun hc => ?_) (fun hc => ?_)
        · replace h := mm_ip hc h
          refine mm_Runs.seq (l := [(694, .aload_n 3, 1), (695, .iconst 0, 1)]) (S2 := (696, [some (.ref 200), some (.ref 0), some (.ref 84), some (.ref 110), some (.int v4), some (.int r58), some (.int r60)], [.int (0 : Int32), .ref 110], M63)) (by decide +kernel) (hO := mm_own_12) rfl ?_
          obtain ⟨hb, h⟩ := mm_gd h
          refine mm_R_lald rfl rfl hb ?_
          refine mm_Runs.seq (l := [(697, .iload 6, 2), (699, .i2l, 1)]) (S2 := (700, [some (.ref 200), some (.ref 0), some (.ref 84), some (.ref 110), some (.int v4), some (.int r58), some (.int r60)], [.long r60.toInt64, .long (M63.2.1 110 (0 : Int32).toNatClampNeg)], M63)) (by decide +kernel) (hO := mm_own_12) rfl ?_
          refine mm_R_leq (t := 706) rfl rfl rfl rfl (fun hc => ?_) (fun hc => ?_)
          · replace h := mm_ip hc h
            refine mm_Runs.seq (l := [(706, .goto 115, 3), (821, .iinc 4 6, 3), (824, .goto (-801), 3)]) (S2 := (23, [some (.ref 200), some (.ref 0), some (.ref 84), some (.ref 110), some (.int (v4 + (6 : Int32))), some (.int r58), some (.int r60)], [], M63)) (by decide +kernel) (hO := mm_own_12) rfl ?_
            cases h
            exact (show mp_12_23 L xs (d + 1) (v4 + (6 : Int32)) M63 o from hA) (some (.int r58)) (some (.int r60))
          · replace h := mm_iq hc h
            cases h
            exact (show mp_12_704 L xs (d + 1) M63 o from hA) (some (.ref 200)) (some (.ref 0)) (some (.ref 84)) (some (.ref 110)) (some (.int v4)) (some (.int r58)) (some (.int r60))
        · replace h := mm_iq hc h
          refine mm_Runs.seq (l := [(706, .goto 115, 3), (821, .iinc 4 6, 3), (824, .goto (-801), 3)]) (S2 := (23, [some (.ref 200), some (.ref 0), some (.ref 84), some (.ref 110), some (.int (v4 + (6 : Int32))), some (.int r58), some (.int r60)], [], M63)) (by decide +kernel) (hO := mm_own_12) rfl ?_
          cases h
          exact (show mp_12_23 L xs (d + 1) (v4 + (6 : Int32)) M63 o from hA) (some (.int r58)) (some (.int r60))
      · replace h := mm_iq hc h
        cases h
        exact (show mp_12_687 L xs (d + 1) M63 o from hA) (some (.ref 200)) (some (.ref 0)) (some (.ref 84)) (some (.ref 110)) (some (.int v4)) (some (.int r58)) (some (.int r60))
    replace h := mm_iq hc10 h
    by_cases hc11 : ((xs v4.toNatClampNeg) &&& (15 : Int32)) = (11 : Int32)
    · replace h := mm_ip hc11 h
      refine mm_R_sw (t := 709) rfl rfl rfl (by rw [hc11]; rfl) ?_
      refine mm_Runs.seq (l := [(709, .aload_n 1, 1), (710, .aload_n 0, 1), (711, .iload 4, 2), (713, .iconst 1, 1), (714, .iadd, 1)]) (S2 := (715, [some (.ref 200), some (.ref 0), some (.ref 84), some (.ref 110), some (.int v4), z5, z6], [.int (v4 + (1 : Int32)), .ref 200, .ref 0], M)) (by decide +kernel) (hO := mm_own_12) rfl ?_
      obtain ⟨hb, h⟩ := mm_gd h
      refine mm_R_ialx rfl hb ?_
      refine mm_Runs.seq (l := [(716, .aload_n 3, 1)]) (S2 := (717, [some (.ref 200), some (.ref 0), some (.ref 84), some (.ref 110), some (.int v4), z5, z6], [.ref 110, .int (xs (v4 + (1 : Int32)).toNatClampNeg), .ref 0], M)) (by decide +kernel) (hO := mm_own_12) rfl ?_
      refine mm_R_call (v := mm_wi) h hA (k2 := 10) (as := [.ref 0, .int (xs (v4 + (1 : Int32)).toNatClampNeg), .ref 110]) (r := []) rfl (fun _ => rfl) (fun q hq o ho => ms_10 (by omega) hq ho) (fun r64 M65 h => ?_)
      show mm_Runs L xs (d + 1) 12 (720, [some (.ref 200), some (.ref 0), some (.ref 84), some (.ref 110), some (.int v4), z5, z6], [.int r64], M65) o
      refine mm_Runs.seq (l := [(720, .istore 5, 2), (722, .aload_n 2, 1), (723, .aload_n 0, 1), (724, .iload 4, 2), (726, .iconst 1, 1), (727, .iadd, 1)]) (S2 := (728, [some (.ref 200), some (.ref 0), some (.ref 84), some (.ref 110), some (.int v4), some (.int r64), z6], [.int (v4 + (1 : Int32)), .ref 200, .ref 84], M65)) (by decide +kernel) (hO := mm_own_12) rfl ?_
      obtain ⟨hb, h⟩ := mm_gd h
      refine mm_R_ialx rfl hb ?_
      refine mm_R_call (v := mm_wi) h hA (k2 := 274) (as := [.ref 84, .int (xs (v4 + (1 : Int32)).toNatClampNeg)]) (r := []) rfl (fun _ => rfl) (fun q hq o ho => ms_274 (by omega) hq ho) (fun r66 M67 h => ?_)
      show mm_Runs L xs (d + 1) 12 (732, [some (.ref 200), some (.ref 0), some (.ref 84), some (.ref 110), some (.int v4), some (.int r64), z6], [.int r66], M67) o
      refine mm_Runs.seq (l := [(732, .istore 6, 2), (734, .aload_n 2, 1)]) (S2 := (735, [some (.ref 200), some (.ref 0), some (.ref 84), some (.ref 110), some (.int v4), some (.int r64), some (.int r66)], [.ref 84], M67)) (by decide +kernel) (hO := mm_own_12) rfl ?_
      refine mm_R_call (v := mm_wi) h hA (k2 := 173) (as := [.ref 84]) (r := []) rfl (fun _ => rfl) (fun q hq o ho => ms_173 (by omega) hq ho) (fun r68 M69 h => ?_)
      show mm_Runs L xs (d + 1) 12 (738, [some (.ref 200), some (.ref 0), some (.ref 84), some (.ref 110), some (.int v4), some (.int r64), some (.int r66)], [.int r68], M69) o
      refine mm_Runs.seq (l := [(738, .iload 5, 2)]) (S2 := (740, [some (.ref 200), some (.ref 0), some (.ref 84), some (.ref 110), some (.int v4), some (.int r64), some (.int r66)], [.int r64, .int r68], M69)) (by decide +kernel) (hO := mm_own_12) rfl ?_
      refine mm_R_ieq (t := 745) rfl rfl rfl (fun hc => ?_) (fun hc => ?_)
      · replace h := mm_ip hc h
        refine mm_Runs.seq (l := [(745, .iload 5, 2)]) (S2 := (747, [some (.ref 200), some (.ref 0), some (.ref 84), some (.ref 110), some (.int v4), some (.int r64), some (.int r66)], [.int r64], M69)) (by decide +kernel) (hO := mm_own_12) rfl ?_
        refine mm_R_zne (t := 762) rfl rfl rfl (fun hc => ?_) (fun hc => ?_)
        · replace h := mm_ip hc h
          refine mm_Runs.seq (l := [(750, .aload_n 3, 1), (751, .iconst 0, 1)]) (S2 := (752, [some (.ref 200), some (.ref 0), some (.ref 84), some (.ref 110), some (.int v4), some (.int r64), some (.int r66)], [.int (0 : Int32), .ref 110], M69)) (by decide +kernel) (hO := mm_own_12) rfl ?_
          obtain ⟨hb, h⟩ := mm_gd h
          refine mm_R_lald rfl rfl hb ?_
          refine mm_Runs.seq (l := [(753, .iload 6, 2), (755, .i2l, 1)]) (S2 := (756, [some (.ref 200), some (.ref 0), some (.ref 84), some (.ref 110), some (.int v4), some (.int r64), some (.int r66)], [.long r66.toInt64, .long (M69.2.1 110 (0 : Int32).toNatClampNeg)], M69)) (by decide +kernel) (hO := mm_own_12) rfl ?_
          refine mm_R_leq (t := 762) rfl rfl rfl rfl (fun hc => ?_) (fun hc => ?_)
          · replace h := mm_ip hc h
            refine mm_Runs.seq (l := [(762, .goto 59, 3), (821, .iinc 4 6, 3), (824, .goto (-801), 3)]) (S2 := (23, [some (.ref 200), some (.ref 0), some (.ref 84), some (.ref 110), some (.int (v4 + (6 : Int32))), some (.int r64), some (.int r66)], [], M69)) (by decide +kernel) (hO := mm_own_12) rfl ?_
            cases h
            exact (show mp_12_23 L xs (d + 1) (v4 + (6 : Int32)) M69 o from hA) (some (.int r64)) (some (.int r66))
          · replace h := mm_iq hc h
            cases h
            exact (show mp_12_760 L xs (d + 1) M69 o from hA) (some (.ref 200)) (some (.ref 0)) (some (.ref 84)) (some (.ref 110)) (some (.int v4)) (some (.int r64)) (some (.int r66))
        · replace h := mm_iq hc h
          refine mm_Runs.seq (l := [(762, .goto 59, 3), (821, .iinc 4 6, 3), (824, .goto (-801), 3)]) (S2 := (23, [some (.ref 200), some (.ref 0), some (.ref 84), some (.ref 110), some (.int (v4 + (6 : Int32))), some (.int r64), some (.int r66)], [], M69)) (by decide +kernel) (hO := mm_own_12) rfl ?_
          cases h
          exact (show mp_12_23 L xs (d + 1) (v4 + (6 : Int32)) M69 o from hA) (some (.int r64)) (some (.int r66))
      · replace h := mm_iq hc h
        cases h
        exact (show mp_12_743 L xs (d + 1) M69 o from hA) (some (.ref 200)) (some (.ref 0)) (some (.ref 84)) (some (.ref 110)) (some (.int v4)) (some (.int r64)) (some (.int r66))
    replace h := mm_iq hc11 h
    by_cases hc12 : ((xs v4.toNatClampNeg) &&& (15 : Int32)) = (12 : Int32)
    · replace h := mm_ip hc12 h
      refine mm_R_sw (t := 765) rfl rfl rfl (by rw [hc12]; rfl) ?_
      refine mm_Runs.seq (l := [(765, .aload_n 1, 1), (766, .aload_n 0, 1), (767, .iload 4, 2), (769, .iconst 1, 1), (770, .iadd, 1)]) (S2 := (771, [some (.ref 200), some (.ref 0), some (.ref 84), some (.ref 110), some (.int v4), z5, z6], [.int (v4 + (1 : Int32)), .ref 200, .ref 0], M)) (by decide +kernel) (hO := mm_own_12) rfl ?_
      obtain ⟨hb, h⟩ := mm_gd h
      refine mm_R_ialx rfl hb ?_
      refine mm_Runs.seq (l := [(772, .aload_n 3, 1)]) (S2 := (773, [some (.ref 200), some (.ref 0), some (.ref 84), some (.ref 110), some (.int v4), z5, z6], [.ref 110, .int (xs (v4 + (1 : Int32)).toNatClampNeg), .ref 0], M)) (by decide +kernel) (hO := mm_own_12) rfl ?_
      refine mm_R_call (v := mm_wi) h hA (k2 := 11) (as := [.ref 0, .int (xs (v4 + (1 : Int32)).toNatClampNeg), .ref 110]) (r := []) rfl (fun _ => rfl) (fun q hq o ho => ms_11 (by omega) hq ho) (fun r70 M71 h => ?_)
      show mm_Runs L xs (d + 1) 12 (776, [some (.ref 200), some (.ref 0), some (.ref 84), some (.ref 110), some (.int v4), z5, z6], [.int r70], M71) o
      refine mm_Runs.seq (l := [(776, .istore 5, 2), (778, .aload_n 2, 1), (779, .aload_n 0, 1), (780, .iload 4, 2), (782, .iconst 1, 1), (783, .iadd, 1)]) (S2 := (784, [some (.ref 200), some (.ref 0), some (.ref 84), some (.ref 110), some (.int v4), some (.int r70), z6], [.int (v4 + (1 : Int32)), .ref 200, .ref 84], M71)) (by decide +kernel) (hO := mm_own_12) rfl ?_
      obtain ⟨hb, h⟩ := mm_gd h
      refine mm_R_ialx rfl hb ?_
      refine mm_R_call (v := mm_wi) h hA (k2 := 179) (as := [.ref 84, .int (xs (v4 + (1 : Int32)).toNatClampNeg)]) (r := []) rfl (fun _ => rfl) (fun q hq o ho => ms_179 (by omega) hq ho) (fun r72 M73 h => ?_)
      show mm_Runs L xs (d + 1) 12 (788, [some (.ref 200), some (.ref 0), some (.ref 84), some (.ref 110), some (.int v4), some (.int r70), z6], [.int r72], M73) o
      refine mm_Runs.seq (l := [(788, .istore 6, 2), (790, .aload_n 2, 1)]) (S2 := (791, [some (.ref 200), some (.ref 0), some (.ref 84), some (.ref 110), some (.int v4), some (.int r70), some (.int r72)], [.ref 84], M73)) (by decide +kernel) (hO := mm_own_12) rfl ?_
      refine mm_R_call (v := mm_wi) h hA (k2 := 173) (as := [.ref 84]) (r := []) rfl (fun _ => rfl) (fun q hq o ho => ms_173 (by omega) hq ho) (fun r74 M75 h => ?_)
      show mm_Runs L xs (d + 1) 12 (794, [some (.ref 200), some (.ref 0), some (.ref 84), some (.ref 110), some (.int v4), some (.int r70), some (.int r72)], [.int r74], M75) o
      refine mm_Runs.seq (l := [(794, .iload 5, 2)]) (S2 := (796, [some (.ref 200), some (.ref 0), some (.ref 84), some (.ref 110), some (.int v4), some (.int r70), some (.int r72)], [.int r70, .int r74], M75)) (by decide +kernel) (hO := mm_own_12) rfl ?_
      refine mm_R_ieq (t := 801) rfl rfl rfl (fun hc => ?_) (fun hc => ?_)
      · replace h := mm_ip hc h
        refine mm_Runs.seq (l := [(801, .iload 5, 2)]) (S2 := (803, [some (.ref 200), some (.ref 0), some (.ref 84), some (.ref 110), some (.int v4), some (.int r70), some (.int r72)], [.int r70], M75)) (by decide +kernel) (hO := mm_own_12) rfl ?_
        refine mm_R_zne (t := 818) rfl rfl rfl (fun hc => ?_) (fun hc => ?_)
        · replace h := mm_ip hc h
          refine mm_Runs.seq (l := [(806, .aload_n 3, 1), (807, .iconst 0, 1)]) (S2 := (808, [some (.ref 200), some (.ref 0), some (.ref 84), some (.ref 110), some (.int v4), some (.int r70), some (.int r72)], [.int (0 : Int32), .ref 110], M75)) (by decide +kernel) (hO := mm_own_12) rfl ?_
          obtain ⟨hb, h⟩ := mm_gd h
          refine mm_R_lald rfl rfl hb ?_
          refine mm_Runs.seq (l := [(809, .iload 6, 2), (811, .i2l, 1)]) (S2 := (812, [some (.ref 200), some (.ref 0), some (.ref 84), some (.ref 110), some (.int v4), some (.int r70), some (.int r72)], [.long r72.toInt64, .long (M75.2.1 110 (0 : Int32).toNatClampNeg)], M75)) (by decide +kernel) (hO := mm_own_12) rfl ?_
          refine mm_R_leq (t := 818) rfl rfl rfl rfl (fun hc => ?_) (fun hc => ?_)
          · replace h := mm_ip hc h
            refine mm_Runs.seq (l := [(818, .goto 3, 3), (821, .iinc 4 6, 3), (824, .goto (-801), 3)]) (S2 := (23, [some (.ref 200), some (.ref 0), some (.ref 84), some (.ref 110), some (.int (v4 + (6 : Int32))), some (.int r70), some (.int r72)], [], M75)) (by decide +kernel) (hO := mm_own_12) rfl ?_
            cases h
            exact (show mp_12_23 L xs (d + 1) (v4 + (6 : Int32)) M75 o from hA) (some (.int r70)) (some (.int r72))
          · replace h := mm_iq hc h
            cases h
            exact (show mp_12_816 L xs (d + 1) M75 o from hA) (some (.ref 200)) (some (.ref 0)) (some (.ref 84)) (some (.ref 110)) (some (.int v4)) (some (.int r70)) (some (.int r72))
        · replace h := mm_iq hc h
          refine mm_Runs.seq (l := [(818, .goto 3, 3), (821, .iinc 4 6, 3), (824, .goto (-801), 3)]) (S2 := (23, [some (.ref 200), some (.ref 0), some (.ref 84), some (.ref 110), some (.int (v4 + (6 : Int32))), some (.int r70), some (.int r72)], [], M75)) (by decide +kernel) (hO := mm_own_12) rfl ?_
          cases h
          exact (show mp_12_23 L xs (d + 1) (v4 + (6 : Int32)) M75 o from hA) (some (.int r70)) (some (.int r72))
      · replace h := mm_iq hc h
        cases h
        exact (show mp_12_799 L xs (d + 1) M75 o from hA) (some (.ref 200)) (some (.ref 0)) (some (.ref 84)) (some (.ref 110)) (some (.int v4)) (some (.int r70)) (some (.int r72))
    replace h := mm_iq hc12 h
    have e0 := mm_i32 (n := 0) hc0 (by decide) (by decide)
    have e1 := mm_i32 (n := 1) hc1 (by decide) (by decide)
    have e2 := mm_i32 (n := 2) hc2 (by decide) (by decide)
    have e3 := mm_i32 (n := 3) hc3 (by decide) (by decide)
    have e4 := mm_i32 (n := 4) hc4 (by decide) (by decide)
    have e5 := mm_i32 (n := 5) hc5 (by decide) (by decide)
    have e6 := mm_i32 (n := 6) hc6 (by decide) (by decide)
    have e7 := mm_i32 (n := 7) hc7 (by decide) (by decide)
    have e8 := mm_i32 (n := 8) hc8 (by decide) (by decide)
    have e9 := mm_i32 (n := 9) hc9 (by decide) (by decide)
    have e10 := mm_i32 (n := 10) hc10 (by decide) (by decide)
    have e11 := mm_i32 (n := 11) hc11 (by decide) (by decide)
    have e12 := mm_i32 (n := 12) hc12 (by decide) (by decide)
    refine mm_R_sw (t := 821) rfl rfl rfl (mm_tsd (by omega) rfl rfl) ?_
    refine mm_Runs.seq (l := [(821, .iinc 4 6, 3), (824, .goto (-801), 3)]) (S2 := (23, [some (.ref 200), some (.ref 0), some (.ref 84), some (.ref 110), some (.int (v4 + (6 : Int32))), z5, z6], [], M)) (by decide +kernel) (hO := mm_own_12) rfl ?_
    cases h
    exact (show mp_12_23 L xs (d + 1) (v4 + (6 : Int32)) M o from hA) z5 z6
theorem ms_12_L23 {L : Nat} {xs : Nat → Int32} {d : Nat} (hd : 15 ≤ d) {v4 : Int32} {β : Type} {K : β → mm_M → mm_E → Prop} {F : ((Unit) ⊕ ((Unit) ⊕ ((Unit) ⊕ ((Unit) ⊕ ((Unit) ⊕ ((Unit) ⊕ ((Unit) ⊕ ((Unit) ⊕ ((Unit) ⊕ ((Unit) ⊕ ((Unit) ⊕ ((Unit) ⊕ ((Unit) ⊕ ((Unit) ⊕ ((Unit) ⊕ ((Unit) ⊕ ((Unit) ⊕ ((Unit) ⊕ ((Unit) ⊕ ((Unit) ⊕ ((Unit) ⊕ ((Unit) ⊕ ((Unit) ⊕ ((Unit) ⊕ (Unit))))))))))))))))))))))))) → mm_M → mm_O β} {M : mm_M} {q : (β ⊕ Nat) × mm_M} {o : mm_E} (h : mm_B (mf_12_L23 L xs v4 M) F = some q) (hA : mm_A K q o) (hx : ∀ (r : ((Unit) ⊕ ((Unit) ⊕ ((Unit) ⊕ ((Unit) ⊕ ((Unit) ⊕ ((Unit) ⊕ ((Unit) ⊕ ((Unit) ⊕ ((Unit) ⊕ ((Unit) ⊕ ((Unit) ⊕ ((Unit) ⊕ ((Unit) ⊕ ((Unit) ⊕ ((Unit) ⊕ ((Unit) ⊕ ((Unit) ⊕ ((Unit) ⊕ ((Unit) ⊕ ((Unit) ⊕ ((Unit) ⊕ ((Unit) ⊕ ((Unit) ⊕ ((Unit) ⊕ (Unit)))))))))))))))))))))))))) (M2 : mm_M), F r M2 = some q → (fun r M o => mm_sm (fun r => mp_12_190 L xs (d) M o) (fun r => mm_sm (fun r => mp_12_207 L xs (d) M o) (fun r => mm_sm (fun r => mp_12_243 L xs (d) M o) (fun r => mm_sm (fun r => mp_12_294 L xs (d) M o) (fun r => mm_sm (fun r => mp_12_311 L xs (d) M o) (fun r => mm_sm (fun r => mp_12_338 L xs (d) M o) (fun r => mm_sm (fun r => mp_12_355 L xs (d) M o) (fun r => mm_sm (fun r => mp_12_394 L xs (d) M o) (fun r => mm_sm (fun r => mp_12_411 L xs (d) M o) (fun r => mm_sm (fun r => mp_12_450 L xs (d) M o) (fun r => mm_sm (fun r => mp_12_467 L xs (d) M o) (fun r => mm_sm (fun r => mp_12_506 L xs (d) M o) (fun r => mm_sm (fun r => mp_12_523 L xs (d) M o) (fun r => mm_sm (fun r => mp_12_562 L xs (d) M o) (fun r => mm_sm (fun r => mp_12_579 L xs (d) M o) (fun r => mm_sm (fun r => mp_12_618 L xs (d) M o) (fun r => mm_sm (fun r => mp_12_635 L xs (d) M o) (fun r => mm_sm (fun r => mp_12_651 L xs (d) M o) (fun r => mm_sm (fun r => mp_12_687 L xs (d) M o) (fun r => mm_sm (fun r => mp_12_704 L xs (d) M o) (fun r => mm_sm (fun r => mp_12_743 L xs (d) M o) (fun r => mm_sm (fun r => mp_12_760 L xs (d) M o) (fun r => mm_sm (fun r => mp_12_799 L xs (d) M o) (fun r => mm_sm (fun r => mp_12_816 L xs (d) M o) (fun r => mp_12_827 L xs (d) M o) r) r) r) r) r) r) r) r) r) r) r) r) r) r) r) r) r) r) r) r) r) r) r) r) r M2 o) : mp_12_23 L xs d v4 M o := by
  unfold mf_12_L23 at h
  exact mm_R_loop (step := (fun s M => mf_12_b23 L xs s M)) (s := v4) (M := M) (P := (fun s M o => mp_12_23 L xs (d) s M o)) (X := (fun r M o => mm_sm (fun r => mp_12_190 L xs (d) M o) (fun r => mm_sm (fun r => mp_12_207 L xs (d) M o) (fun r => mm_sm (fun r => mp_12_243 L xs (d) M o) (fun r => mm_sm (fun r => mp_12_294 L xs (d) M o) (fun r => mm_sm (fun r => mp_12_311 L xs (d) M o) (fun r => mm_sm (fun r => mp_12_338 L xs (d) M o) (fun r => mm_sm (fun r => mp_12_355 L xs (d) M o) (fun r => mm_sm (fun r => mp_12_394 L xs (d) M o) (fun r => mm_sm (fun r => mp_12_411 L xs (d) M o) (fun r => mm_sm (fun r => mp_12_450 L xs (d) M o) (fun r => mm_sm (fun r => mp_12_467 L xs (d) M o) (fun r => mm_sm (fun r => mp_12_506 L xs (d) M o) (fun r => mm_sm (fun r => mp_12_523 L xs (d) M o) (fun r => mm_sm (fun r => mp_12_562 L xs (d) M o) (fun r => mm_sm (fun r => mp_12_579 L xs (d) M o) (fun r => mm_sm (fun r => mp_12_618 L xs (d) M o) (fun r => mm_sm (fun r => mp_12_635 L xs (d) M o) (fun r => mm_sm (fun r => mp_12_651 L xs (d) M o) (fun r => mm_sm (fun r => mp_12_687 L xs (d) M o) (fun r => mm_sm (fun r => mp_12_704 L xs (d) M o) (fun r => mm_sm (fun r => mp_12_743 L xs (d) M o) (fun r => mm_sm (fun r => mp_12_760 L xs (d) M o) (fun r => mm_sm (fun r => mp_12_799 L xs (d) M o) (fun r => mm_sm (fun r => mp_12_816 L xs (d) M o) (fun r => mp_12_827 L xs (d) M o) r) r) r) r) r) r) r) r) r) r) r) r) r) r) r) r) r) r) r) r) r) r) r) r)) h hA (fun s M q hq hA => ms_12_b23 (v4 := s) (M := M) (q := q) hd hq hA) hx
set_option maxRecDepth 8000 in
set_option maxHeartbeats 4000000 in
theorem ms_12 {L : Nat} {xs : Nat → Int32} {d : Nat} (hd : 15 ≤ d) {M : mm_M} {q : (Int32 ⊕ Nat) × mm_M} {o : mm_E} (h : mf_12 L xs M = some q) (hA : mm_A (mm_Kr mm_wi) q o) : mm_Runs L xs d 12 (20, [some (.ref 200), some (.ref 0), some (.ref 84), some (.ref 110), none, none, none], [], M) o := by
  unfold mf_12 at h
  obtain ⟨d, rfl⟩ := mm_d1 (n := 14) hd
  show mm_Runs L xs (d + 1) 12 (20, [some (.ref 200), some (.ref 0), some (.ref 84), some (.ref 110), none, none, none], [], M) o
  refine mm_Runs.seq (l := [(20, .iconst 0, 1), (21, .istore 4, 2)]) (S2 := (23, [some (.ref 200), some (.ref 0), some (.ref 84), some (.ref 110), some (.int (0 : Int32)), none, none], [], M)) (by decide +kernel) (hO := mm_own_12) rfl ?_
  have hp : mp_12_23 L xs (d + 1) (0 : Int32) M o := by
    refine ms_12_L23 hd h hA (fun r2 M1 h => ?_)
    rcases r2 with r2 | r2
    · dsimp only [mm_sm] at h
      intro y3 y4 y5 y6 y7 y8 y9
      show mm_Runs L xs (d + 1) 12 (190, [y3, y4, y5, y6, y7, y8, y9], [], M1) o
      refine mm_Runs.seq (l := [(190, .iconst 0, 1)]) (S2 := (191, [y3, y4, y5, y6, y7, y8, y9], [.int (0 : Int32)], M1)) (by decide +kernel) (hO := mm_own_12) rfl ?_
      cases h
      exact mm_R_retb rfl rfl rfl hA
    · dsimp only [mm_sm] at h
      rcases r2 with r2 | r2
      · dsimp only [mm_sm] at h
        intro y10 y11 y12 y13 y14 y15 y16
        show mm_Runs L xs (d + 1) 12 (207, [y10, y11, y12, y13, y14, y15, y16], [], M1) o
        refine mm_Runs.seq (l := [(207, .iconst 0, 1)]) (S2 := (208, [y10, y11, y12, y13, y14, y15, y16], [.int (0 : Int32)], M1)) (by decide +kernel) (hO := mm_own_12) rfl ?_
        cases h
        exact mm_R_retb rfl rfl rfl hA
      · dsimp only [mm_sm] at h
        rcases r2 with r2 | r2
        · dsimp only [mm_sm] at h
          intro y17 y18 y19 y20 y21 y22 y23
          show mm_Runs L xs (d + 1) 12 (243, [y17, y18, y19, y20, y21, y22, y23], [], M1) o
          refine mm_Runs.seq (l := [(243, .iconst 0, 1)]) (S2 := (244, [y17, y18, y19, y20, y21, y22, y23], [.int (0 : Int32)], M1)) (by decide +kernel) (hO := mm_own_12) rfl ?_
          cases h
          exact mm_R_retb rfl rfl rfl hA
        · dsimp only [mm_sm] at h
          rcases r2 with r2 | r2
          · dsimp only [mm_sm] at h
            intro y24 y25 y26 y27 y28 y29 y30
            show mm_Runs L xs (d + 1) 12 (294, [y24, y25, y26, y27, y28, y29, y30], [], M1) o
            refine mm_Runs.seq (l := [(294, .iconst 0, 1)]) (S2 := (295, [y24, y25, y26, y27, y28, y29, y30], [.int (0 : Int32)], M1)) (by decide +kernel) (hO := mm_own_12) rfl ?_
            cases h
            exact mm_R_retb rfl rfl rfl hA
          · dsimp only [mm_sm] at h
            rcases r2 with r2 | r2
            · dsimp only [mm_sm] at h
              intro y31 y32 y33 y34 y35 y36 y37
              show mm_Runs L xs (d + 1) 12 (311, [y31, y32, y33, y34, y35, y36, y37], [], M1) o
              refine mm_Runs.seq (l := [(311, .iconst 0, 1)]) (S2 := (312, [y31, y32, y33, y34, y35, y36, y37], [.int (0 : Int32)], M1)) (by decide +kernel) (hO := mm_own_12) rfl ?_
              cases h
              exact mm_R_retb rfl rfl rfl hA
            · dsimp only [mm_sm] at h
              rcases r2 with r2 | r2
              · dsimp only [mm_sm] at h
                intro y38 y39 y40 y41 y42 y43 y44
                show mm_Runs L xs (d + 1) 12 (338, [y38, y39, y40, y41, y42, y43, y44], [], M1) o
                refine mm_Runs.seq (l := [(338, .iconst 0, 1)]) (S2 := (339, [y38, y39, y40, y41, y42, y43, y44], [.int (0 : Int32)], M1)) (by decide +kernel) (hO := mm_own_12) rfl ?_
                cases h
                exact mm_R_retb rfl rfl rfl hA
              · dsimp only [mm_sm] at h
                rcases r2 with r2 | r2
                · dsimp only [mm_sm] at h
                  intro y45 y46 y47 y48 y49 y50 y51
                  show mm_Runs L xs (d + 1) 12 (355, [y45, y46, y47, y48, y49, y50, y51], [], M1) o
                  refine mm_Runs.seq (l := [(355, .iconst 0, 1)]) (S2 := (356, [y45, y46, y47, y48, y49, y50, y51], [.int (0 : Int32)], M1)) (by decide +kernel) (hO := mm_own_12) rfl ?_
                  cases h
                  exact mm_R_retb rfl rfl rfl hA
                · dsimp only [mm_sm] at h
                  rcases r2 with r2 | r2
                  · dsimp only [mm_sm] at h
                    intro y52 y53 y54 y55 y56 y57 y58
                    show mm_Runs L xs (d + 1) 12 (394, [y52, y53, y54, y55, y56, y57, y58], [], M1) o
                    refine mm_Runs.seq (l := [(394, .iconst 0, 1)]) (S2 := (395, [y52, y53, y54, y55, y56, y57, y58], [.int (0 : Int32)], M1)) (by decide +kernel) (hO := mm_own_12) rfl ?_
                    cases h
                    exact mm_R_retb rfl rfl rfl hA
                  · dsimp only [mm_sm] at h
                    rcases r2 with r2 | r2
                    · dsimp only [mm_sm] at h
                      intro y59 y60 y61 y62 y63 y64 y65
                      show mm_Runs L xs (d + 1) 12 (411, [y59, y60, y61, y62, y63, y64, y65], [], M1) o
                      refine mm_Runs.seq (l := [(411, .iconst 0, 1)]) (S2 := (412, [y59, y60, y61, y62, y63, y64, y65], [.int (0 : Int32)], M1)) (by decide +kernel) (hO := mm_own_12) rfl ?_
                      cases h
                      exact mm_R_retb rfl rfl rfl hA
                    · dsimp only [mm_sm] at h
                      rcases r2 with r2 | r2
                      · dsimp only [mm_sm] at h
                        intro y66 y67 y68 y69 y70 y71 y72
                        show mm_Runs L xs (d + 1) 12 (450, [y66, y67, y68, y69, y70, y71, y72], [], M1) o
                        refine mm_Runs.seq (l := [(450, .iconst 0, 1)]) (S2 := (451, [y66, y67, y68, y69, y70, y71, y72], [.int (0 : Int32)], M1)) (by decide +kernel) (hO := mm_own_12) rfl ?_
                        cases h
                        exact mm_R_retb rfl rfl rfl hA
                      · dsimp only [mm_sm] at h
                        rcases r2 with r2 | r2
                        · dsimp only [mm_sm] at h
                          intro y73 y74 y75 y76 y77 y78 y79
                          show mm_Runs L xs (d + 1) 12 (467, [y73, y74, y75, y76, y77, y78, y79], [], M1) o
                          refine mm_Runs.seq (l := [(467, .iconst 0, 1)]) (S2 := (468, [y73, y74, y75, y76, y77, y78, y79], [.int (0 : Int32)], M1)) (by decide +kernel) (hO := mm_own_12) rfl ?_
                          cases h
                          exact mm_R_retb rfl rfl rfl hA
                        · dsimp only [mm_sm] at h
                          rcases r2 with r2 | r2
                          · dsimp only [mm_sm] at h
                            intro y80 y81 y82 y83 y84 y85 y86
                            show mm_Runs L xs (d + 1) 12 (506, [y80, y81, y82, y83, y84, y85, y86], [], M1) o
                            refine mm_Runs.seq (l := [(506, .iconst 0, 1)]) (S2 := (507, [y80, y81, y82, y83, y84, y85, y86], [.int (0 : Int32)], M1)) (by decide +kernel) (hO := mm_own_12) rfl ?_
                            cases h
                            exact mm_R_retb rfl rfl rfl hA
                          · dsimp only [mm_sm] at h
                            rcases r2 with r2 | r2
                            · dsimp only [mm_sm] at h
                              intro y87 y88 y89 y90 y91 y92 y93
                              show mm_Runs L xs (d + 1) 12 (523, [y87, y88, y89, y90, y91, y92, y93], [], M1) o
                              refine mm_Runs.seq (l := [(523, .iconst 0, 1)]) (S2 := (524, [y87, y88, y89, y90, y91, y92, y93], [.int (0 : Int32)], M1)) (by decide +kernel) (hO := mm_own_12) rfl ?_
                              cases h
                              exact mm_R_retb rfl rfl rfl hA
                            · dsimp only [mm_sm] at h
                              rcases r2 with r2 | r2
                              · dsimp only [mm_sm] at h
                                intro y94 y95 y96 y97 y98 y99 y100
                                show mm_Runs L xs (d + 1) 12 (562, [y94, y95, y96, y97, y98, y99, y100], [], M1) o
                                refine mm_Runs.seq (l := [(562, .iconst 0, 1)]) (S2 := (563, [y94, y95, y96, y97, y98, y99, y100], [.int (0 : Int32)], M1)) (by decide +kernel) (hO := mm_own_12) rfl ?_
                                cases h
                                exact mm_R_retb rfl rfl rfl hA
                              · dsimp only [mm_sm] at h
                                rcases r2 with r2 | r2
                                · dsimp only [mm_sm] at h
                                  intro y101 y102 y103 y104 y105 y106 y107
                                  show mm_Runs L xs (d + 1) 12 (579, [y101, y102, y103, y104, y105, y106, y107], [], M1) o
                                  refine mm_Runs.seq (l := [(579, .iconst 0, 1)]) (S2 := (580, [y101, y102, y103, y104, y105, y106, y107], [.int (0 : Int32)], M1)) (by decide +kernel) (hO := mm_own_12) rfl ?_
                                  cases h
                                  exact mm_R_retb rfl rfl rfl hA
                                · dsimp only [mm_sm] at h
                                  rcases r2 with r2 | r2
                                  · dsimp only [mm_sm] at h
                                    intro y108 y109 y110 y111 y112 y113 y114
                                    show mm_Runs L xs (d + 1) 12 (618, [y108, y109, y110, y111, y112, y113, y114], [], M1) o
                                    refine mm_Runs.seq (l := [(618, .iconst 0, 1)]) (S2 := (619, [y108, y109, y110, y111, y112, y113, y114], [.int (0 : Int32)], M1)) (by decide +kernel) (hO := mm_own_12) rfl ?_
                                    cases h
                                    exact mm_R_retb rfl rfl rfl hA
                                  · dsimp only [mm_sm] at h
                                    rcases r2 with r2 | r2
                                    · dsimp only [mm_sm] at h
                                      intro y115 y116 y117 y118 y119 y120 y121
                                      show mm_Runs L xs (d + 1) 12 (635, [y115, y116, y117, y118, y119, y120, y121], [], M1) o
                                      refine mm_Runs.seq (l := [(635, .iconst 0, 1)]) (S2 := (636, [y115, y116, y117, y118, y119, y120, y121], [.int (0 : Int32)], M1)) (by decide +kernel) (hO := mm_own_12) rfl ?_
                                      cases h
                                      exact mm_R_retb rfl rfl rfl hA
                                    · dsimp only [mm_sm] at h
                                      rcases r2 with r2 | r2
                                      · dsimp only [mm_sm] at h
                                        intro y122 y123 y124 y125 y126 y127 y128
                                        show mm_Runs L xs (d + 1) 12 (651, [y122, y123, y124, y125, y126, y127, y128], [], M1) o
                                        refine mm_Runs.seq (l := [(651, .iconst 0, 1)]) (S2 := (652, [y122, y123, y124, y125, y126, y127, y128], [.int (0 : Int32)], M1)) (by decide +kernel) (hO := mm_own_12) rfl ?_
                                        cases h
                                        exact mm_R_retb rfl rfl rfl hA
                                      · dsimp only [mm_sm] at h
                                        rcases r2 with r2 | r2
                                        · dsimp only [mm_sm] at h
                                          intro y129 y130 y131 y132 y133 y134 y135
                                          show mm_Runs L xs (d + 1) 12 (687, [y129, y130, y131, y132, y133, y134, y135], [], M1) o
                                          refine mm_Runs.seq (l := [(687, .iconst 0, 1)]) (S2 := (688, [y129, y130, y131, y132, y133, y134, y135], [.int (0 : Int32)], M1)) (by decide +kernel) (hO := mm_own_12) rfl ?_
                                          cases h
                                          exact mm_R_retb rfl rfl rfl hA
                                        · dsimp only [mm_sm] at h
                                          rcases r2 with r2 | r2
                                          · dsimp only [mm_sm] at h
                                            intro y136 y137 y138 y139 y140 y141 y142
                                            show mm_Runs L xs (d + 1) 12 (704, [y136, y137, y138, y139, y140, y141, y142], [], M1) o
                                            refine mm_Runs.seq (l := [(704, .iconst 0, 1)]) (S2 := (705, [y136, y137, y138, y139, y140, y141, y142], [.int (0 : Int32)], M1)) (by decide +kernel) (hO := mm_own_12) rfl ?_
                                            cases h
                                            exact mm_R_retb rfl rfl rfl hA
                                          · dsimp only [mm_sm] at h
                                            rcases r2 with r2 | r2
                                            · dsimp only [mm_sm] at h
                                              intro y143 y144 y145 y146 y147 y148 y149
                                              show mm_Runs L xs (d + 1) 12 (743, [y143, y144, y145, y146, y147, y148, y149], [], M1) o
                                              refine mm_Runs.seq (l := [(743, .iconst 0, 1)]) (S2 := (744, [y143, y144, y145, y146, y147, y148, y149], [.int (0 : Int32)], M1)) (by decide +kernel) (hO := mm_own_12) rfl ?_
                                              cases h
                                              exact mm_R_retb rfl rfl rfl hA
                                            · dsimp only [mm_sm] at h
                                              rcases r2 with r2 | r2
                                              · dsimp only [mm_sm] at h
                                                intro y150 y151 y152 y153 y154 y155 y156
                                                show mm_Runs L xs (d + 1) 12 (760, [y150, y151, y152, y153, y154, y155, y156], [], M1) o
                                                refine mm_Runs.seq (l := [(760, .iconst 0, 1)]) (S2 := (761, [y150, y151, y152, y153, y154, y155, y156], [.int (0 : Int32)], M1)) (by decide +kernel) (hO := mm_own_12) rfl ?_
                                                cases h
                                                exact mm_R_retb rfl rfl rfl hA
                                              · dsimp only [mm_sm] at h
                                                rcases r2 with r2 | r2
                                                · dsimp only [mm_sm] at h
                                                  intro y157 y158 y159 y160 y161 y162 y163
                                                  show mm_Runs L xs (d + 1) 12 (799, [y157, y158, y159, y160, y161, y162, y163], [], M1) o
                                                  refine mm_Runs.seq (l := [(799, .iconst 0, 1)]) (S2 := (800, [y157, y158, y159, y160, y161, y162, y163], [.int (0 : Int32)], M1)) (by decide +kernel) (hO := mm_own_12) rfl ?_
                                                  cases h
                                                  exact mm_R_retb rfl rfl rfl hA
                                                · dsimp only [mm_sm] at h
                                                  rcases r2 with r2 | r2
                                                  · dsimp only [mm_sm] at h
                                                    intro y164 y165 y166 y167 y168 y169 y170
                                                    show mm_Runs L xs (d + 1) 12 (816, [y164, y165, y166, y167, y168, y169, y170], [], M1) o
                                                    refine mm_Runs.seq (l := [(816, .iconst 0, 1)]) (S2 := (817, [y164, y165, y166, y167, y168, y169, y170], [.int (0 : Int32)], M1)) (by decide +kernel) (hO := mm_own_12) rfl ?_
                                                    cases h
                                                    exact mm_R_retb rfl rfl rfl hA
                                                  · dsimp only [mm_sm] at h
                                                    intro y171 y172 y173 y174 y175 y176 y177
                                                    show mm_Runs L xs (d + 1) 12 (827, [y171, y172, y173, y174, y175, y176, y177], [], M1) o
                                                    refine mm_Runs.seq (l := [(827, .iconst 1, 1)]) (S2 := (828, [y171, y172, y173, y174, y175, y176, y177], [.int (1 : Int32)], M1)) (by decide +kernel) (hO := mm_own_12) rfl ?_
                                                    cases h
                                                    exact mm_R_retb rfl rfl rfl hA
  exact hp none none
